/-! the world of fresh objects is the small machine's; both sides stand for one thing at the start -/
def m0 : xM := fun q i => if q.1 = 3 then (if i = 2 then -6 else 0) else 0
/-- the addresses -/
def adF (s0 f0 p0 : Nat) (r0 a0 : Nat → Nat) (s1 f1 p1 : Nat) (r1 a1 : Nat → Nat) (h g : Nat) (st f p : Nat → Nat) (r a : Nat → Nat → Nat) (b br ba bd d1 d2 d3 d4 fd : Nat) (rd ad : Nat → Nat) (l1 l2 t1 t2 qx qm : Nat) (am : Nat → Nat) (ac ab : Nat) (q : xI) : Nat :=
  if q.1 = 0 then (if q.2.1 = 0 then (if q.2.2 < 12 then r0 q.2.2 else if q.2.2 = 12 then l1 else if q.2.2 = 13 then t1 else if q.2.2 = 14 then br else if q.2.2 = 15 then d1 else d3) else if q.2.1 = 1 then r1 q.2.2 else if q.2.1 = 7 then rd q.2.2 else r (q.2.1 - 2) q.2.2)
  else if q.1 = 1 then (if q.2.1 = 0 then (if q.2.2 < 12 then a0 q.2.2 else if q.2.2 = 12 then l2 else if q.2.2 = 13 then t2 else if q.2.2 = 14 then ba else if q.2.2 = 15 then d2 else if q.2.2 = 16 then d4 else am q.2.2) else if q.2.1 = 1 then a1 q.2.2 else if q.2.1 = 7 then ad q.2.2 else a (q.2.1 - 2) q.2.2)
  else if q.1 = 2 then (if q.2.1 = 0 then f0 else if q.2.1 = 1 then f1 else if q.2.1 = 7 then fd else f (q.2.1 - 2))
  else if q.1 = 3 then (if q.2.1 = 0 then p0 else if q.2.1 = 1 then p1 else p (q.2.1 - 2))
  else if q.1 = 4 then (if q.2.1 = 0 then s0 else if q.2.1 = 1 then s1 else st (q.2.1 - 2))
  else if q.1 = 5 then h else if q.1 = 6 then b else if q.1 = 7 then bd else if q.1 = 8 then qx else if q.1 = 9 then qm else if q.1 = 10 then g else if q.1 = 11 then ac else ab
def idF (j : Nat) : List xI := [(2, j, 0), (0, j, 0), (1, j, 0), (0, j, 1), (1, j, 1), (0, j, 2), (1, j, 2)]
def idP (j : Nat) : List xI := [(3, j, 0), (0, j, 3), (1, j, 3), (0, j, 4), (1, j, 4), (0, j, 5), (1, j, 5), (0, j, 6), (1, j, 6), (0, j, 7), (1, j, 7), (0, j, 8), (1, j, 8), (0, j, 9), (1, j, 9), (0, j, 10), (1, j, 10), (0, j, 11), (1, j, 11)]
def idS (j : Nat) : List xI := (4, j, 0) :: (idF j ++ idP j)
def id8 : List xI := (8, 0, 0) :: (((((((idS 0 ++ idS 1) ++ ((5, 0, 0) :: (10, 0, 0) :: ((((idS 2 ++ idS 3) ++ idS 4) ++ idS 5) ++ idS 6))) ++ [(6, 0, 0), (0, 0, 14), (1, 0, 14)]) ++ [(7, 0, 0), (0, 0, 15), (1, 0, 15), (0, 0, 16), (1, 0, 16)]) ++ idF 7) ++ [(0, 0, 12), (1, 0, 12)]) ++ [(0, 0, 13), (1, 0, 13)])
def id9 : List xI := [(9, 0, 0), (1, 0, 20), (1, 0, 21), (1, 0, 22), (11, 0, 0), (1, 0, 23), (12, 0, 0), (1, 0, 24), (1, 0, 25), (1, 0, 26), (1, 0, 27), (1, 0, 28)]
def pwI (ad : xI → Nat) (cA : Nat → ClassId) (I : List xI) : va_W := I.map fun q => (ad q, xcell ad cA m0 q)
theorem pw_app (ad : xI → Nat) (cA : Nat → ClassId) (I J : List xI) : pwI ad cA (I ++ J) = pwI ad cA I ++ pwI ad cA J := List.map_append
theorem pwF {ad : xI → Nat} {cA : Nat → ClassId} {j f : Nat} {r a : Nat → Nat} (hf : ad (2, j, 0) = f) (hr : ∀ c, c < 3 → ad (0, j, c) = r c) (ha : ∀ c, c < 3 → ad (1, j, c) = a c) : pwI ad cA (idF j) = wF cA f r a := by
  have e : wF cA f r a = wF cA (ad (2, j, 0)) (fun c => ad (0, j, c)) (fun c => ad (1, j, c)) := by
    unfold wF
    rw [hf, ← hr 0 (by omega), ← hr 1 (by omega), ← hr 2 (by omega), ← ha 0 (by omega), ← ha 1 (by omega), ← ha 2 (by omega)]
  rw [e]
  rfl
theorem pwP {ad : xI → Nat} {cA : Nat → ClassId} {j p : Nat} {r a : Nat → Nat} (hp : ad (3, j, 0) = p) (hr : ∀ c, 3 ≤ c → c < 12 → ad (0, j, c) = r c) (ha : ∀ c, 3 ≤ c → c < 12 → ad (1, j, c) = a c) : pwI ad cA (idP j) = wP cA p r a := by
  have e : wP cA p r a = wP cA (ad (3, j, 0)) (fun c => ad (0, j, c)) (fun c => ad (1, j, c)) := by
    unfold wP
    rw [hp, ← hr 3 (by omega) (by omega), ← hr 4 (by omega) (by omega), ← hr 5 (by omega) (by omega), ← hr 6 (by omega) (by omega), ← hr 7 (by omega) (by omega), ← hr 8 (by omega) (by omega), ← hr 9 (by omega) (by omega), ← hr 10 (by omega) (by omega), ← hr 11 (by omega) (by omega), ← ha 3 (by omega) (by omega), ← ha 4 (by omega) (by omega), ← ha 5 (by omega) (by omega), ← ha 6 (by omega) (by omega), ← ha 7 (by omega) (by omega), ← ha 8 (by omega) (by omega), ← ha 9 (by omega) (by omega), ← ha 10 (by omega) (by omega), ← ha 11 (by omega) (by omega)]
  rw [e]
  rfl
theorem pwS {ad : xI → Nat} {cA : Nat → ClassId} {j s f p : Nat} {r a : Nat → Nat} (hs : ad (4, j, 0) = s) (hf : ad (2, j, 0) = f) (hp : ad (3, j, 0) = p) (hr : ∀ c, c < 12 → ad (0, j, c) = r c) (ha : ∀ c, c < 12 → ad (1, j, c) = a c) : pwI ad cA (idS j) = wS cA s f p r a := by
  have e1 := pwF (cA := cA) hf (fun c hc => hr c (by omega)) (fun c hc => ha c (by omega))
  have e2 := pwP (cA := cA) hp (fun c _ hc => hr c hc) (fun c _ hc => ha c hc)
  have e3 : pwI ad cA (idS j) = (ad (4, j, 0), .inr (6, [.ref (ad (2, j, 0)), .ref (ad (3, j, 0))])) :: (pwI ad cA (idF j) ++ pwI ad cA (idP j)) := by
    rw [← pw_app]
    rfl
  rw [e3, e1, e2, hs, hf, hp]
  rfl
theorem wld_eq (cA : Nat → ClassId) (s0 f0 p0 : Nat) (r0 a0 : Nat → Nat) (s1 f1 p1 : Nat) (r1 a1 : Nat → Nat) (h g : Nat) (st f p : Nat → Nat) (r a : Nat → Nat → Nat) (b br ba bd d1 d2 d3 d4 fd : Nat) (rd ad : Nat → Nat) (l1 l2 t1 t2 qx qm : Nat) (am : Nat → Nat) (ac ab : Nat) : pwI (adF s0 f0 p0 r0 a0 s1 f1 p1 r1 a1 h g st f p r a b br ba bd d1 d2 d3 d4 fd rd ad l1 l2 t1 t2 qx qm am ac ab) cA (id8 ++ id9) = ([] ++ wC cA qx s0 f0 p0 r0 a0 s1 f1 p1 r1 a1 h g st f p r a b br ba bd d1 d2 d3 d4 fd rd ad l1 l2 t1 t2) ++ wMd cA qm am ac ab := by
  generalize hA : adF s0 f0 p0 r0 a0 s1 f1 p1 r1 a1 h g st f p r a b br ba bd d1 d2 d3 d4 fd rd ad l1 l2 t1 t2 qx qm am ac ab = A
  have v : ∀ q, A q = adF s0 f0 p0 r0 a0 s1 f1 p1 r1 a1 h g st f p r a b br ba bd d1 d2 d3 d4 fd rd ad l1 l2 t1 t2 qx qm am ac ab q := fun q => by rw [hA]
  have S0 : pwI A cA (idS 0) = wS cA s0 f0 p0 r0 a0 := pwS (v _) (v _) (v _) (fun c hc => (v _).trans (by show (if c < 12 then r0 c else _) = r0 c; rw [if_pos hc])) (fun c hc => (v _).trans (by show (if c < 12 then a0 c else _) = a0 c; rw [if_pos hc]))
  have S1 : pwI A cA (idS 1) = wS cA s1 f1 p1 r1 a1 := pwS (v _) (v _) (v _) (fun c hc => v _) (fun c hc => v _)
  have S2 : pwI A cA (idS 2) = wS cA (st 0) (f 0) (p 0) (r 0) (a 0) := pwS (v _) (v _) (v _) (fun c hc => v _) (fun c hc => v _)
  have S3 : pwI A cA (idS 3) = wS cA (st 1) (f 1) (p 1) (r 1) (a 1) := pwS (v _) (v _) (v _) (fun c hc => v _) (fun c hc => v _)
  have S4 : pwI A cA (idS 4) = wS cA (st 2) (f 2) (p 2) (r 2) (a 2) := pwS (v _) (v _) (v _) (fun c hc => v _) (fun c hc => v _)
  have S5 : pwI A cA (idS 5) = wS cA (st 3) (f 3) (p 3) (r 3) (a 3) := pwS (v _) (v _) (v _) (fun c hc => v _) (fun c hc => v _)
  have S6 : pwI A cA (idS 6) = wS cA (st 4) (f 4) (p 4) (r 4) (a 4) := pwS (v _) (v _) (v _) (fun c hc => v _) (fun c hc => v _)
  have F7 : pwI A cA (idF 7) = wF cA fd rd ad := pwF (v _) (fun c hc => v _) (fun c hc => v _)
  have hc : ∀ (q : xI) (I : List xI), pwI A cA (q :: I) = (A q, xcell A cA m0 q) :: pwI A cA I := fun _ _ => rfl
  have H5 : pwI A cA ((5, 0, 0) :: (10, 0, 0) :: ((((idS 2 ++ idS 3) ++ idS 4) ++ idS 5) ++ idS 6)) = wH cA h g st f p r a := by
    have er : xcell A cA m0 (10, 0, 0) = .inl (cA 3, 5, .inr (.inr (.inr (.inr fun i => some (st i))))) := by
      have e : (fun i => some (A (4, 2 + i, 0))) = fun i => some (st i) := by
        funext i
        rw [v]
        show some (if 2 + i = 0 then s0 else if 2 + i = 1 then s1 else st (2 + i - 2)) = some (st i)
        rw [if_neg (by omega), if_neg (by omega), show 2 + i - 2 = i by omega]
      show (.inl (cA 3, 5, .inr (.inr (.inr (.inr fun i => some (A (4, 2 + i, 0)))))) : va_E) = _
      rw [e]
    rw [hc, hc, pw_app, pw_app, pw_app, pw_app, S2, S3, S4, S5, S6, er]
    subst hA
    rfl
  have B6 : pwI A cA [(6, 0, 0), (0, 0, 14), (1, 0, 14)] = wB cA b br ba := by subst hA; rfl
  have B7 : pwI A cA [(7, 0, 0), (0, 0, 15), (1, 0, 15), (0, 0, 16), (1, 0, 16)] = wBd cA bd d1 d2 d3 d4 := by subst hA; rfl
  have R2 : pwI A cA [(0, 0, 12), (1, 0, 12)] = wRow cA 60 l1 l2 := by subst hA; rfl
  have R3 : pwI A cA [(0, 0, 13), (1, 0, 13)] = wRow cA 60 t1 t2 := by subst hA; rfl
  have M9 : pwI A cA id9 = wMd cA qm am ac ab := by subst hA; rfl
  rw [pw_app, M9]
  unfold id8
  rw [hc, pw_app, pw_app, pw_app, pw_app, pw_app, pw_app, pw_app, S0, S1, H5, B6, B7, F7, R2, R3]
  subst hA
  rfl
theorem ids_sub : ∀ q ∈ xids, q ∈ id8 ++ id9 := by decide +kernel
theorem ids_nd : (id8 ++ id9).Nodup := by decide +kernel
theorem SIM0 : SIM m0 := by
  refine ⟨((0, 0, 0, -6), fun _ _ => 0, fun _ _ => 0, fun _ _ => 0), [], none, (0, fun _ => 0), ?_, fun h hh => (by cases hh), fun k hk => (by cases hk), ⟨Nat.zero_le _, fun i hi => absurd hi (Nat.not_lt_zero i)⟩, ?_, ?_⟩
  · exact ⟨Nat.zero_le _, Nat.zero_le _, Nat.le_refl _, rfl, fun f hf => absurd hf (Nat.not_lt_zero f), fun f hf => absurd hf (Nat.not_lt_zero f), ⟨fun _ => 0, fun f hf => absurd hf (Nat.not_lt_zero f)⟩, fun f f' _ hf => absurd hf (Nat.not_lt_zero f')⟩
  · refine ⟨⟨⟨rfl, fun c _ f hf => absurd hf (Nat.not_lt_zero f)⟩, rfl, rfl, rfl, fun c _ f hf => absurd hf (Nat.not_lt_zero f), fun c _ f hf => absurd hf (Nat.not_lt_zero f)⟩, ⟨0, by decide, rfl, rfl, Nat.zero_le _, fun k S hk => (by cases k <;> cases hk)⟩, rfl, rfl, fun i hi => absurd hi (Nat.not_lt_zero i)⟩
  · refine ⟨⟨rfl, rfl, rfl, fun c _ f hf => absurd hf (Nat.not_lt_zero f), fun c _ f hf => absurd hf (Nat.not_lt_zero f), fun c _ f hf => absurd hf (Nat.not_lt_zero f)⟩, ⟨rfl, Nat.zero_le _, fun k S hk => (by cases k <;> cases hk)⟩, rfl, rfl, fun i hi => absurd hi (Nat.not_lt_zero i)⟩
/-- the fresh world, in the small machine's order -/
theorem fresh_wld {l : Launch} {D : va_G} {cA : Nat → ClassId} {ad : xI → Nat} {W0 : va_W} {A : Nat → Prop} {H : Heap} (hW : pwI ad cA (id8 ++ id9) = W0) (hP : va_P D vwCl W0 H) (hD : va_D A W0) : xGok (l, ad, D, cA) ∧ va_P D vwCl (xwld ad cA m0) H ∧ ∀ q, xA ad q → A q := by
  have key : ∀ q, xok q = true → ∃ i : Nat, (id8 ++ id9)[i]? = some q ∧ W0[i]? = some (ad q, xcell ad cA m0 q) := by
    intro q hq
    obtain ⟨i, hi⟩ := List.getElem?_of_mem (ids_sub q (xids_mem hq))
    refine ⟨i, hi, ?_⟩
    rw [← hW, pwI, List.getElem?_map, hi]
    rfl
  refine ⟨fun p q hp hq e => ?_, fun k x hx => ?_, fun q hq => ?_⟩
  · obtain ⟨i, h1, h2⟩ := key p hp
    obtain ⟨j, h3, h4⟩ := key q hq
    have := hD.1 i j _ _ h2 h4 e
    subst this
    exact Option.some.inj (h1.symm.trans h3)
  · rw [xwld, List.getElem?_map] at hx
    cases hy : xids[k]? with
    | none => rw [hy] at hx; cases hx
    | some y =>
      rw [hy] at hx
      obtain ⟨i, h1, h2⟩ := key y (xids_ok (List.mem_of_getElem? hy))
      have : x = (ad y, xcell ad cA m0 y) := (Option.some.inj hx).symm
      rw [this]
      exact hP i _ h2
  · obtain ⟨y, hy, rfl⟩ := hq
    obtain ⟨i, h1, h2⟩ := key y hy
    exact hD.2 i _ h2
