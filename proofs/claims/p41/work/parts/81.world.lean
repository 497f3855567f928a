/-! the world of fresh objects is the small machine's; both sides stand for one thing at the start -/
def m0 : xM := fun q i => if q.1 = 3 then (if i = 2 then -6 else 0) else 0
/-- the addresses -/
def adF (s0 f0 p0 : Nat) (r0 a0 : Nat → Nat) (s1 f1 p1 : Nat) (r1 a1 : Nat → Nat) (h g : Nat) (st f p : Nat → Nat) (r a : Nat → Nat → Nat) (b br ba bd d1 d2 d3 d4 fd : Nat) (rd ad : Nat → Nat) (l1 l2 t1 t2 qx bs : Nat) (am : Nat → Nat) (q : xI) : Nat :=
  if q.1 = 0 then (if q.2.1 = 0 then (if q.2.2 < 12 then r0 q.2.2 else if q.2.2 = 12 then l1 else if q.2.2 = 13 then t1 else if q.2.2 = 14 then br else if q.2.2 = 15 then d1 else d3) else if q.2.1 = 1 then r1 q.2.2 else if q.2.1 = 7 then rd q.2.2 else r (q.2.1 - 2) q.2.2)
  else if q.1 = 1 then (if q.2.1 = 0 then (if q.2.2 < 12 then a0 q.2.2 else if q.2.2 = 12 then l2 else if q.2.2 = 13 then t2 else if q.2.2 = 14 then ba else if q.2.2 = 15 then d2 else if q.2.2 = 16 then d4 else am q.2.2) else if q.2.1 = 1 then a1 q.2.2 else if q.2.1 = 7 then ad q.2.2 else a (q.2.1 - 2) q.2.2)
  else if q.1 = 2 then (if q.2.1 = 0 then f0 else if q.2.1 = 1 then f1 else if q.2.1 = 7 then fd else f (q.2.1 - 2))
  else if q.1 = 3 then (if q.2.1 = 0 then p0 else if q.2.1 = 1 then p1 else p (q.2.1 - 2))
  else if q.1 = 4 then (if q.2.1 = 0 then s0 else if q.2.1 = 1 then s1 else st (q.2.1 - 2))
  else if q.1 = 5 then h else if q.1 = 6 then b else if q.1 = 7 then bd else if q.1 = 8 then qx else if q.1 = 10 then g else bs
def idF (j : Nat) : List xI := [(2, j, 0), (0, j, 0), (1, j, 0), (0, j, 1), (1, j, 1), (0, j, 2), (1, j, 2)]
def idP (j : Nat) : List xI := [(3, j, 0), (0, j, 3), (1, j, 3), (0, j, 4), (1, j, 4), (0, j, 5), (1, j, 5), (0, j, 6), (1, j, 6), (0, j, 7), (1, j, 7), (0, j, 8), (1, j, 8), (0, j, 9), (1, j, 9), (0, j, 10), (1, j, 10), (0, j, 11), (1, j, 11)]
def idS (j : Nat) : List xI := (4, j, 0) :: (idF j ++ idP j)
def id8 : List xI := (8, 0, 0) :: (((((((idS 0 ++ idS 1) ++ ((5, 0, 0) :: (10, 0, 0) :: ((((idS 2 ++ idS 3) ++ idS 4) ++ idS 5) ++ idS 6))) ++ [(6, 0, 0), (0, 0, 14), (1, 0, 14)]) ++ [(7, 0, 0), (0, 0, 15), (1, 0, 15), (0, 0, 16), (1, 0, 16)]) ++ idF 7) ++ [(0, 0, 12), (1, 0, 12)]) ++ [(0, 0, 13), (1, 0, 13)])
def idL : List xI := [(1, 0, 20), (1, 0, 21), (1, 0, 22), (1, 0, 23), (1, 0, 24), (1, 0, 25), (1, 0, 26), (1, 0, 27), (1, 0, 28), (1, 0, 29), (1, 0, 30), (1, 0, 31), (1, 0, 32)]
/-- the law's rows, in the order in which they are made -/
def wLw (cA : Nat → ClassId) (am : Nat → Nat) : va_W := [(am 20, .inl (cA 0, 60, .inl fun _ => 0)), (am 21, .inl (cA 0, 60, .inl fun _ => 0)), (am 22, .inl (cA 0, 60, .inl fun _ => 0)), (am 23, .inl (cA 0, 48, .inl fun _ => 0)), (am 24, .inl (cA 0, 48, .inl fun _ => 0)), (am 25, .inl (cA 0, 48, .inl fun _ => 0)), (am 26, .inl (cA 0, 48, .inl fun _ => 0)), (am 27, .inl (cA 0, 48, .inl fun _ => 0)), (am 28, .inl (cA 0, 48, .inl fun _ => 0)), (am 29, .inl (cA 0, 48, .inl fun _ => 0)), (am 30, .inl (cA 0, 48, .inl fun _ => 0)), (am 31, .inl (cA 0, 48, .inl fun _ => 0)), (am 32, .inl (cA 0, 3, .inl fun _ => 0))]
def pwI (ad : xI → Nat) (cA : Nat → ClassId) (I : List xI) : va_W := I.map fun q => (ad q, xcell ad cA m0 q)
theorem pw_app (ad : xI → Nat) (cA : Nat → ClassId) (I J : List xI) : pwI ad cA (I ++ J) = pwI ad cA I ++ pwI ad cA J := List.map_append
theorem pwF {ad : xI → Nat} {cA : Nat → ClassId} {j f : Nat} {r a : Nat → Nat} (hf : ad (2, j, 0) = f) (hr : ∀ c, c < 3 → ad (0, j, c) = r c) (ha : ∀ c, c < 3 → ad (1, j, c) = a c) : pwI ad cA (idF j) = wF cA f r a := by
  have e : wF cA f r a = wF cA (ad (2, j, 0)) (fun c => ad (0, j, c)) (fun c => ad (1, j, c)) := by
    unfold wF
    rw [hf, ← hr 0 (by omega), ← hr 1 (by omega), ← hr 2 (by omega), ← ha 0 (by omega), ← ha 1 (by omega), ← ha 2 (by omega)]
  rw [e]
  rfl
theorem pwP {ad : xI → Nat} {cA : Nat → ClassId} {j p : Nat} {r a : Nat → Nat} (hp : ad (3, j, 0) = p) (hr : ∀ c, 3 ≤ c → c < 12 → ad (0, j, c) = r c) (ha : ∀ c, 3 ≤ c → c < 12 → ad (1, j, c) = a c) : pwI ad cA (idP j) = wP cA p r a := by
  have e : wP cA p r a = wP cA (ad (3, j, 0)) (fun c => ad (0, j, c)) (fun c => ad (1, j, c)) := by
    unfold wP
    rw [hp, ← hr 3 (by omega) (by omega), ← hr 4 (by omega) (by omega), ← hr 5 (by omega) (by omega), ← hr 6 (by omega) (by omega), ← hr 7 (by omega) (by omega), ← hr 8 (by omega) (by omega), ← hr 9 (by omega) (by omega), ← hr 10 (by omega) (by omega), ← hr 11 (by omega) (by omega), ← ha 3 (by omega) (by omega), ← ha 4 (by omega) (by omega), ← ha 5 (by omega) (by omega), ← ha 6 (by omega) (by omega), ← ha 7 (by omega) (by omega), ← ha 8 (by omega) (by omega), ← ha 9 (by omega) (by omega), ← ha 10 (by omega) (by omega), ← ha 11 (by omega) (by omega)]
  rw [e]
  rfl
theorem pwS {ad : xI → Nat} {cA : Nat → ClassId} {j s f p : Nat} {r a : Nat → Nat} (hs : ad (4, j, 0) = s) (hf : ad (2, j, 0) = f) (hp : ad (3, j, 0) = p) (hr : ∀ c, c < 12 → ad (0, j, c) = r c) (ha : ∀ c, c < 12 → ad (1, j, c) = a c) : pwI ad cA (idS j) = wS cA s f p r a := by
  have e1 := pwF (cA := cA) hf (fun c hc => hr c (by omega)) (fun c hc => ha c (by omega))
  have e2 := pwP (cA := cA) hp (fun c _ hc => hr c hc) (fun c _ hc => ha c hc)
  have e3 : pwI ad cA (idS j) = (ad (4, j, 0), .inr (6, [.ref (ad (2, j, 0)), .ref (ad (3, j, 0))])) :: (pwI ad cA (idF j) ++ pwI ad cA (idP j)) := by
    rw [← pw_app]
    rfl
  rw [e3, e1, e2, hs, hf, hp]
  rfl
theorem wld_eq (cA : Nat → ClassId) (s0 f0 p0 : Nat) (r0 a0 : Nat → Nat) (s1 f1 p1 : Nat) (r1 a1 : Nat → Nat) (h g : Nat) (st f p : Nat → Nat) (r a : Nat → Nat → Nat) (b br ba bd d1 d2 d3 d4 fd : Nat) (rd ad : Nat → Nat) (l1 l2 t1 t2 qx bs : Nat) (am : Nat → Nat) : pwI (adF s0 f0 p0 r0 a0 s1 f1 p1 r1 a1 h g st f p r a b br ba bd d1 d2 d3 d4 fd rd ad l1 l2 t1 t2 qx bs am) cA (id8 ++ idL) = ([] ++ wC cA qx s0 f0 p0 r0 a0 s1 f1 p1 r1 a1 h g st f p r a b br ba bd d1 d2 d3 d4 fd rd ad l1 l2 t1 t2) ++ wLw cA am := by
  generalize hA : adF s0 f0 p0 r0 a0 s1 f1 p1 r1 a1 h g st f p r a b br ba bd d1 d2 d3 d4 fd rd ad l1 l2 t1 t2 qx bs am = A
  have v : ∀ q, A q = adF s0 f0 p0 r0 a0 s1 f1 p1 r1 a1 h g st f p r a b br ba bd d1 d2 d3 d4 fd rd ad l1 l2 t1 t2 qx bs am q := fun q => by rw [hA]
  have S0 : pwI A cA (idS 0) = wS cA s0 f0 p0 r0 a0 := pwS (v _) (v _) (v _) (fun c hc => (v _).trans (by show (if c < 12 then r0 c else _) = r0 c; rw [if_pos hc])) (fun c hc => (v _).trans (by show (if c < 12 then a0 c else _) = a0 c; rw [if_pos hc]))
  have S1 : pwI A cA (idS 1) = wS cA s1 f1 p1 r1 a1 := pwS (v _) (v _) (v _) (fun c hc => v _) (fun c hc => v _)
  have S2 : pwI A cA (idS 2) = wS cA (st 0) (f 0) (p 0) (r 0) (a 0) := pwS (v _) (v _) (v _) (fun c hc => v _) (fun c hc => v _)
  have S3 : pwI A cA (idS 3) = wS cA (st 1) (f 1) (p 1) (r 1) (a 1) := pwS (v _) (v _) (v _) (fun c hc => v _) (fun c hc => v _)
  have S4 : pwI A cA (idS 4) = wS cA (st 2) (f 2) (p 2) (r 2) (a 2) := pwS (v _) (v _) (v _) (fun c hc => v _) (fun c hc => v _)
  have S5 : pwI A cA (idS 5) = wS cA (st 3) (f 3) (p 3) (r 3) (a 3) := pwS (v _) (v _) (v _) (fun c hc => v _) (fun c hc => v _)
  have S6 : pwI A cA (idS 6) = wS cA (st 4) (f 4) (p 4) (r 4) (a 4) := pwS (v _) (v _) (v _) (fun c hc => v _) (fun c hc => v _)
  have F7 : pwI A cA (idF 7) = wF cA fd rd ad := pwF (v _) (fun c hc => v _) (fun c hc => v _)
  have hc : ∀ (q : xI) (I : List xI), pwI A cA (q :: I) = (A q, xcell A cA m0 q) :: pwI A cA I := fun _ _ => rfl
  have H5 : pwI A cA ((5, 0, 0) :: (10, 0, 0) :: ((((idS 2 ++ idS 3) ++ idS 4) ++ idS 5) ++ idS 6)) = wH cA h g st f p r a := by
    have er : xcell A cA m0 (10, 0, 0) = .inl (cA 1, 5, .inr (.inr (.inr (.inr fun i => some (st i))))) := by
      have e : (fun i => some (A (4, 2 + i, 0))) = fun i => some (st i) := by
        funext i
        rw [v]
        show some (if 2 + i = 0 then s0 else if 2 + i = 1 then s1 else st (2 + i - 2)) = some (st i)
        rw [if_neg (by omega), if_neg (by omega), show 2 + i - 2 = i by omega]
      show (.inl (cA 1, 5, .inr (.inr (.inr (.inr fun i => some (A (4, 2 + i, 0)))))) : va_E) = _
      rw [e]
    rw [hc, hc, pw_app, pw_app, pw_app, pw_app, S2, S3, S4, S5, S6, er]
    subst hA
    rfl
  have B6 : pwI A cA [(6, 0, 0), (0, 0, 14), (1, 0, 14)] = wB cA b br ba := by subst hA; rfl
  have B7 : pwI A cA [(7, 0, 0), (0, 0, 15), (1, 0, 15), (0, 0, 16), (1, 0, 16)] = wBd cA bd d1 d2 d3 d4 := by subst hA; rfl
  have R2 : pwI A cA [(0, 0, 12), (1, 0, 12)] = wRow cA 60 l1 l2 := by subst hA; rfl
  have R3 : pwI A cA [(0, 0, 13), (1, 0, 13)] = wRow cA 60 t1 t2 := by subst hA; rfl
  have M9 : pwI A cA idL = wLw cA am := by subst hA; rfl
  rw [pw_app, M9]
  unfold id8
  rw [hc, pw_app, pw_app, pw_app, pw_app, pw_app, pw_app, pw_app, S0, S1, H5, B6, B7, F7, R2, R3]
  subst hA
  rfl
theorem ids_sub : ∀ q ∈ xids false, q ∈ id8 ++ idL := by decide +kernel
/-- the empty state -/
def S0 : aS := ((0, 0, 0, -6), fun _ _ => 0, fun _ _ => 0, fun _ _ => 0)
theorem Ok0 : Ok m0 S0 := by
  refine ⟨?_, ⟨fun l hl => absurd hl (Nat.not_lt_zero l), fun b hb => absurd hb (Nat.not_lt_zero b)⟩, ⟨⟨rfl, rfl, rfl⟩, fun c _ f hf => absurd hf (Nat.not_lt_zero f), fun c _ f hf => absurd hf (Nat.not_lt_zero f), fun c _ f hf => absurd hf (Nat.not_lt_zero f)⟩, [], none, (0, fun _ => 0), ?_⟩
  · exact ⟨Nat.zero_le _, Nat.zero_le _, Nat.le_refl _, rfl, fun f hf => absurd hf (Nat.not_lt_zero f), fun f hf => absurd hf (Nat.not_lt_zero f), ⟨fun _ => 0, fun f hf => absurd hf (Nat.not_lt_zero f)⟩, fun f f' _ hf => absurd hf (Nat.not_lt_zero f')⟩
  · exact ⟨⟨⟨rfl, fun c _ f hf => absurd hf (Nat.not_lt_zero f)⟩, rfl, rfl, rfl, fun c _ f hf => absurd hf (Nat.not_lt_zero f), fun c _ f hf => absurd hf (Nat.not_lt_zero f)⟩, ⟨0, by decide, rfl, rfl, Nat.zero_le _, fun k S hk => (by cases k <;> cases hk)⟩, rfl, rfl, fun i hi => absurd hi (Nat.not_lt_zero i)⟩
/-- the fresh world, in the small machine's order -/
theorem fresh_wld {l : Launch} {D : va_G} {cA : Nat → ClassId} {ad : xI → Nat} {W0 : va_W} {A : Nat → Prop} {H : Heap} (hW : pwI ad cA (id8 ++ idL) = W0) (hP : va_P D vwCl W0 H) (hD : va_D A W0) : xGok (l, ad, D, cA, false) ∧ va_P D vwCl (xwld false ad cA m0) H ∧ ∀ q, xA (l, ad, D, cA, false) q → A q := by
  subst hW
  exact wld_of (fun q hq => ids_sub q (xids_mem hq)) hP hD
