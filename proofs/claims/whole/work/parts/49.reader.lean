/-! texts: the model's reader -/
abbrev mO : Type := Bool × aS
def mkO (st : mO) (k l r : Int) : mO × Int := if st.1 = true ∧ (st.2.nf < 60 ∨ findS st.2 k l r ≠ -6) then ((true, (mkS st.2 k l r).2), (mkS st.2 k l r).1) else ((false, st.2), 0)
def whO : mO × Int → Nat → mO × Int
  | p, 0 => p
  | p, n + 1 => whO (mkO p.1 2 p.2 (-6)) n
def effA (w : Nat) (v : Int) (st : mO) (c : Int) : mO × Int := if c = 126 ∨ c = 40 then (st, v) else if c = 35 then whO (mkO st 1 (-6) (-6)) w else whO (mkO st 0 (c - 97) (-6)) w
def effB (L : pL) (v : Int) (st : mO) : mO × Int := match L with
  | [] => (st, v)
  | (s, a, w') :: r => if s = -6 then (st, v) else whO (mkO st s a v) w'
def eff (p : pS) (v : Int) (st : mO) (c : Int) : mO × Int := if p.1 = true then effA p.2.1 v st c else effB p.2.2 v st
def hgt : Nat → pL → Nat
  | w, [] => w
  | w, (_, _, w') :: r => w + 1 + hgt w' r
theorem hgt_w (w : Nat) (L : pL) : w ≤ hgt w L := by
  match L with
  | [] => exact Nat.le_refl _
  | (s, a, w') :: r => show w ≤ w + 1 + hgt w' r; omega
theorem hgt_0 (w : Nat) (L : pL) : hgt 0 L ≤ hgt w L := by
  match L with
  | [] => exact Nat.zero_le _
  | (s, a, w') :: r => show 0 + 1 + hgt w' r ≤ w + 1 + hgt w' r; omega
theorem stepA_hgt {w : Nat} {L : pL} {c : Int} {p' : pS} (h : stepA w L c = some p') : hgt p'.2.1 p'.2.2 ≤ hgt w L + 1 := by
  unfold stepA at h
  by_cases h1 : c = 126
  · rw [if_pos h1] at h
    injection h with h
    rw [← h]
    match L with
    | [] => exact Nat.le_refl _
    | (s, a, w') :: r => show w + 1 + 1 + hgt w' r ≤ w + 1 + hgt w' r + 1; omega
  · rw [if_neg h1] at h
    by_cases h2 : c = 40
    · rw [if_pos h2] at h
      by_cases h3 : L.length < 10
      · rw [if_pos h3] at h
        injection h with h
        rw [← h]
        show 0 + 1 + hgt w L ≤ hgt w L + 1
        omega
      · rw [if_neg h3] at h; cases h
    · rw [if_neg h2] at h
      by_cases h3 : c = 35 ∨ (97 ≤ c ∧ c ≤ 104)
      · rw [if_pos h3] at h
        injection h with h
        rw [← h]
        have := hgt_0 w L
        show hgt 0 L ≤ _
        omega
      · rw [if_neg h3] at h; cases h
theorem stepB_hgt {w : Nat} {L : pL} {v c : Int} {p' : pS} (h : stepB w L v c = some p') : hgt p'.2.1 p'.2.2 ≤ hgt w L + 1 := by
  match L, h with
  | [], h => cases h
  | (s, a, w') :: r, h =>
    unfold stepB at h
    dsimp only at h
    by_cases h1 : s = -6
    · rw [if_pos h1] at h
      by_cases h2 : sgn c = -6
      · rw [if_pos h2] at h; cases h
      · rw [if_neg h2] at h
        injection h with h
        rw [← h]
        show w + 1 + hgt w' r ≤ w + 1 + hgt w' r + 1
        omega
    · rw [if_neg h1] at h
      by_cases h2 : c = 41
      · rw [if_pos h2] at h
        injection h with h
        rw [← h]
        have := hgt_0 w' r
        show hgt 0 r ≤ w + 1 + hgt w' r + 1
        omega
      · rw [if_neg h2] at h; cases h
theorem step_hgt {p p' : pS} {v c : Int} (h : step p v c = some p') : hgt p'.2.1 p'.2.2 ≤ hgt p.2.1 p.2.2 + 1 := by
  unfold step at h
  by_cases h1 : p.1 = true
  · rw [if_pos h1] at h; exact stepA_hgt h
  · rw [if_neg h1] at h; exact stepB_hgt h
theorem mkO_dead {S : aS} {k l r : Int} : mkO (false, S) k l r = ((false, S), 0) := if_neg (fun q => by cases q.1)
theorem whO_dead {S : aS} : ∀ (n : Nat) (v : Int), (whO ((false, S), v) n).1 = (false, S)
  | 0, _ => rfl
  | n + 1, v => by
    show (whO (mkO (false, S) 2 v (-6)) n).1 = _
    rw [mkO_dead]
    exact whO_dead n 0
theorem eff_dead {p : pS} {v c : Int} {S : aS} : (eff p v (false, S) c).1 = (false, S) := by
  unfold eff effA effB
  split
  · split
    · rfl
    · split
      · rw [mkO_dead]; exact whO_dead _ _
      · rw [mkO_dead]; exact whO_dead _ _
  · split
    · rfl
    · split
      · rfl
      · rw [mkO_dead]; exact whO_dead _ _
/-- the run over a text: where it ends, the last formula, the state -/
def rn (T : aT) : Nat → Nat → pS → Int → mO → Int × Int × mO
  | 0, _, p, v, st => (if p.1 = false ∧ p.2.2.length = 0 then -6 else (T.1 : Int), v, st)
  | n + 1, i, p, v, st => match step p v (T.2 i) with
    | none => ((i : Int), v, st)
    | some p' => rn T n (i + 1) p' (eff p v st (T.2 i)).2 (eff p v st (T.2 i)).1
theorem rn_dead {T : aT} {S : aS} : ∀ (n i : Nat) (p : pS) (v : Int), (rn T n i p v (false, S)).2.2 = (false, S)
  | 0, _, _, _ => rfl
  | n + 1, i, p, v => by
    unfold rn
    split
    · rfl
    · rw [eff_dead]; exact rn_dead n _ _ _
def shp (L : pL) : List (Int × Nat) := L.map fun x => (x.1, x.2.2)
theorem shp_len {L L' : pL} (h : shp L = shp L') : L.length = L'.length := by
  have := congrArg List.length h
  unfold shp at this
  rwa [List.length_map, List.length_map] at this
theorem step_shp {p q : pS} {v v' c : Int} (h1 : p.1 = q.1) (h2 : p.2.1 = q.2.1) (h3 : shp p.2.2 = shp q.2.2) : (step p v c = none ∧ step q v' c = none) ∨ ∃ p' q', step p v c = some p' ∧ step q v' c = some q' ∧ p'.1 = q'.1 ∧ p'.2.1 = q'.2.1 ∧ shp p'.2.2 = shp q'.2.2 := by
  obtain ⟨w1, w, L⟩ := p
  obtain ⟨w1', w', L'⟩ := q
  have h1 : w1 = w1' := h1
  have h2 : w = w' := h2
  have h3 : shp L = shp L' := h3
  subst h1
  subst h2
  have hl := shp_len h3
  unfold step
  dsimp only
  by_cases hw : w1 = true
  · rw [if_pos hw, if_pos hw]
    unfold stepA
    rw [hl]
    by_cases c1 : c = 126
    · rw [if_pos c1, if_pos c1]
      exact Or.inr ⟨_, _, rfl, rfl, rfl, rfl, h3⟩
    · rw [if_neg c1, if_neg c1]
      by_cases c2 : c = 40
      · rw [if_pos c2, if_pos c2]
        by_cases c3 : L'.length < 10
        · rw [if_pos c3, if_pos c3]
          refine Or.inr ⟨_, _, rfl, rfl, rfl, rfl, ?_⟩
          show (_, _) :: shp L = (_, _) :: shp L'
          rw [h3]
        · rw [if_neg c3, if_neg c3]
          exact Or.inl ⟨rfl, rfl⟩
      · rw [if_neg c2, if_neg c2]
        by_cases c3 : c = 35 ∨ (97 ≤ c ∧ c ≤ 104)
        · rw [if_pos c3, if_pos c3]
          exact Or.inr ⟨_, _, rfl, rfl, rfl, rfl, h3⟩
        · rw [if_neg c3, if_neg c3]
          exact Or.inl ⟨rfl, rfl⟩
  · rw [if_neg hw, if_neg hw]
    match L, L', h3 with
    | [], [], _ => exact Or.inl ⟨rfl, rfl⟩
    | [], _ :: _, h3 => cases h3
    | _ :: _, [], h3 => cases h3
    | (s, a, u) :: r, (s', a', u') :: r', h3 =>
      have h3 : (s, u) :: shp r = (s', u') :: shp r' := h3
      injection h3 with h4 h5
      injection h4 with h4 h6
      subst h4
      subst h6
      unfold stepB
      dsimp only
      by_cases c1 : s = -6
      · rw [if_pos c1, if_pos c1]
        by_cases c2 : sgn c = -6
        · rw [if_pos c2, if_pos c2]
          exact Or.inl ⟨rfl, rfl⟩
        · rw [if_neg c2, if_neg c2]
          refine Or.inr ⟨_, _, rfl, rfl, rfl, rfl, ?_⟩
          show (sgn c, u) :: shp r = (sgn c, u) :: shp r'
          rw [h5]
      · rw [if_neg c1, if_neg c1]
        by_cases c2 : c = 41
        · rw [if_pos c2, if_pos c2]
          exact Or.inr ⟨_, _, rfl, rfl, rfl, rfl, h5⟩
        · rw [if_neg c2, if_neg c2]
          exact Or.inl ⟨rfl, rfl⟩
theorem rn_pos {T : aT} : ∀ (n i : Nat) (p q : pS) (v : Int) (st : mO), p.1 = q.1 → p.2.1 = q.2.1 → shp p.2.2 = shp q.2.2 → (rn T n i p v st).1 = eP T n i q
  | 0, i, p, q, v, st, h1, h2, h3 => by
    unfold rn eP
    dsimp only
    rw [h1, shp_len h3]
  | n + 1, i, p, q, v, st, h1, h2, h3 => by
    unfold rn eP
    rcases step_shp (v := v) (v' := 0) (c := T.2 i) h1 h2 h3 with ⟨e1, e2⟩ | ⟨p', q', e1, e2, g1, g2, g3⟩
    · rw [e1, e2]
    · rw [e1, e2]
      exact rn_pos n (i + 1) p' q' _ _ g1 g2 g3
theorem mkS_bd {S : aS} {k l r : Int} (h : bdS S) (hr : roomS S k l r) : bdS (mkS S k l r).2 := by
  unfold mkS
  by_cases c : findS S k l r = -6
  · rw [if_pos c]
    have h1 := h.1
    refine ⟨?_, h.2⟩
    show S.nf + 1 ≤ 60
    rcases hr with z | z
    · omega
    · exact absurd c z
  · rw [if_neg c]; exact h
def mM (μ : xM) (a0 : Int32) (st : mO) : Prop := (st.1 = true → ¬ a0 = 0 ∧ μ (9, 0, 0) 17 = 0) ∧ (st.1 = false → a0 = 0 ∨ ¬ μ (9, 0, 0) 17 = 0) ∧ repR (μ (1, 0, 20)) st.2 ∧ bdS st.2
theorem mM.keep {μ μ' : xM} {a0 : Int32} {st : mO} (h : mM μ a0 st) (e : μ' (9, 0, 0) 17 = μ (9, 0, 0) 17) (e2 : μ' (1, 0, 20) = μ (1, 0, 20)) : mM μ' a0 st := by
  unfold mM
  rw [e, e2]
  exact h
/-- the levels of open parentheses -/
def mLev (μ : xM) : Nat → pL → Prop
  | w, [] => (μ (1, 0, 26) 0).toInt = w
  | w, (s, a, w') :: r => (μ (1, 0, 26) (r.length + 1)).toInt = w ∧ (μ (1, 0, 28) (r.length + 1)).toInt = s ∧ (¬ s = -6 → (μ (1, 0, 27) (r.length + 1)).toInt = a) ∧ mLev μ w' r
theorem mLev.cg {μ μ' : xM} : ∀ {L : pL} {w : Nat}, mLev μ w L → (∀ c i, (c = 26 ∨ c = 27 ∨ c = 28) → i ≤ L.length → μ' (1, 0, c) i = μ (1, 0, c) i) → mLev μ' w L
  | [], w, h, e => by
    show (μ' (1, 0, 26) 0).toInt = w
    rw [e 26 0 (by omega) (Nat.le_refl _)]
    exact h
  | (s, a, w') :: r, w, h, e => by
    obtain ⟨h1, h2, h3, h4⟩ := h
    refine ⟨?_, ?_, ?_, mLev.cg h4 fun c i hc hi => e c i hc (by show i ≤ r.length + 1; omega)⟩
    · rw [e 26 (r.length + 1) (by omega) (Nat.le_refl (r.length + 1))]; exact h1
    · rw [e 28 (r.length + 1) (by omega) (Nat.le_refl (r.length + 1))]; exact h2
    · rw [e 27 (r.length + 1) (by omega) (Nat.le_refl (r.length + 1))]; exact h3
theorem mLev.top {μ : xM} {L : pL} {w : Nat} (h : mLev μ w L) : (μ (1, 0, 26) L.length).toInt = w := by
  match L, h with
  | [], h => exact h
  | (s, a, w') :: r, h => exact h.1
theorem mLev.set {μ μ' : xM} {L : pL} {w w2 : Nat} (h : mLev μ w L) (e : ∀ i, i ≠ L.length → μ' (1, 0, 26) i = μ (1, 0, 26) i) (e7 : μ' (1, 0, 27) = μ (1, 0, 27)) (e8 : μ' (1, 0, 28) = μ (1, 0, 28)) (hw : (μ' (1, 0, 26) L.length).toInt = w2) : mLev μ' w2 L := by
  match L, h, e, hw with
  | [], h, e, hw => exact hw
  | (s, a, w') :: r, h, e, hw =>
    obtain ⟨h1, h2, h3, h4⟩ := h
    refine ⟨hw, by rw [e8]; exact h2, by rw [e7]; exact h3, h4.cg fun c i hc hi => ?_⟩
    rcases hc with rfl | rfl | rfl
    · exact e i (by show i ≠ r.length + 1; omega)
    · rw [e7]
    · rw [e8]
def mPs (μ : xM) (p : pS) (v : Int) : Prop := (μ (9, 0, 0) 14).toInt = p.2.2.length ∧ μ (9, 0, 0) 15 = (if p.1 = true then 1 else 0) ∧ mLev μ p.2.1 p.2.2 ∧ (p.1 = false → (μ (9, 0, 0) 16).toInt = v)
/-- what the reader leaves -/
def frT (μ μ' : xM) : Prop := (∀ q, q ≠ (1, 0, 20) → q ≠ (9, 0, 0) → q ≠ (1, 0, 26) → q ≠ (1, 0, 27) → q ≠ (1, 0, 28) → μ' q = μ q) ∧ ∀ i, i < 14 → μ' (9, 0, 0) i = μ (9, 0, 0) i
theorem frT.tr {a b c : xM} (h1 : frT a b) (h2 : frT b c) : frT a c := ⟨fun q n1 n2 n3 n4 n5 => (h2.1 q n1 n2 n3 n4 n5).trans (h1.1 q n1 n2 n3 n4 n5), fun i hi => (h2.2 i hi).trans (h1.2 i hi)⟩
section
variable {G : xG} {d : Nat} {μ : xM} {Q : xP} {S : aS} {H : List aS} {K : Option aS} {T : aT}
theorem m_sign {c : Int32} (h : ∀ x : Int32, x.toInt = sgn c.toInt → Q (some (vI x)) μ) : MW G (d + 1) mX9_signOf [vI c] μ Q := by
  have e38 : (38 : Int32).toInt = 38 := rfl
  have e62 : (62 : Int32).toInt = 62 := rfl
  have e124 : (124 : Int32).toInt = 124 := rfl
  refine wX9_signOf (xif_c (fun z => h _ ?_) fun n1 => xif_c (fun z => h _ ?_) fun n2 => xif_c (fun z => h _ ?_) fun n3 => h _ ?_)
  all_goals unfold sgn
  all_goals rw [ti_eq] at *
  · rw [z]; rfl
  · rw [z]; rfl
  · rw [z]; rfl
  · rw [e38] at n1
    rw [e124] at n2
    rw [e62] at n3
    rw [if_neg n1, if_neg n2, if_neg n3]; rfl
theorem m_makes {a0 k l r : Int32} {st : mO} (hm : mM μ a0 st) (h : ∀ (x : Int32) (μ' : xM), x.toInt = (mkO st k.toInt l.toInt r.toInt).2 → (∀ q, q ≠ (1, 0, 20) → q ≠ (9, 0, 0) → μ' q = μ q) → (∀ i, i ≠ 17 → μ' (9, 0, 0) i = μ (9, 0, 0) i) → mM μ' a0 (mkO st k.toInt l.toInt r.toInt).1 → Q (some (vI x)) μ') : MW G (d + 4) mX9_makes [vR (9, 0, 0), vI a0, vI k, vI l, vI r] μ Q := by
  obtain ⟨lv, S⟩ := st
  obtain ⟨h1, h2, h3, h4⟩ := id hm
  have h3 : repR (μ (1, 0, 20)) S := h3
  have h4 : bdS S := h4
  cases lv with
  | false =>
    rw [mkO_dead] at h
    have done := h 0 μ rfl (fun _ _ _ => rfl) (fun _ _ => rfl) hm
    rcases h2 rfl with z | z
    · exact wX9_makes (xif_t z done)
    · exact wX9_makes (xif_c (fun _ => done) fun _ => xif_f z done)
  | true =>
    obtain ⟨n0, n17⟩ := h1 rfl
    have o17 : ∀ (v : Int32) i, i ≠ 17 → xst μ (9, 0, 0) 17 v (9, 0, 0) i = μ (9, 0, 0) i := fun v i hi => by rw [xst_rd, if_neg (fun q => hi q.2)]
    have at17 : ∀ v : Int32, xst μ (9, 0, 0) 17 v (9, 0, 0) 17 = v := fun v => by rw [xst_rd, if_pos ⟨rfl, rfl⟩]
    refine wX9_makes (xif_f n0 (xif_t n17 (m_room h3 h4.1 (fun hr => xif_f (by decide) ⟨z01, ?_⟩) (fun hr => xif_t rfl ⟨z11, ?_⟩))))
    · have e : mkO (true, S) k.toInt l.toInt r.toInt = ((true, (mkS S k.toInt l.toInt r.toInt).2), (mkS S k.toInt l.toInt r.toInt).1) := if_pos ⟨rfl, hr⟩
      rw [e] at h
      rw [at17]
      refine xif_t rfl (m_make (by rw [xst_ot (by decide)]; exact h3) h4 hr fun x μ' hx e1 r1 => ?_)
      refine h x μ' hx (fun q q1 q2 => by rw [e1 q q1, xst_ot q2]) (fun i hi => by rw [e1 _ (by decide), o17 _ i hi]) ⟨fun _ => ⟨n0, by rw [e1 _ (by decide), at17]⟩, fun z => (by cases z), r1, mkS_bd h4 hr⟩
    · have e : mkO (true, S) k.toInt l.toInt r.toInt = ((false, S), 0) := if_neg (fun q => hr q.2)
      rw [e] at h
      rw [at17]
      refine xif_f (by decide) (h 0 _ rfl (fun q q1 q2 => xst_ot q2) (o17 1) ⟨fun z => (by cases z), fun _ => Or.inr (by rw [at17]; decide), by rw [xst_ot (by decide)]; exact h3, h4⟩)
theorem m_whole {a0 f : Int32} {st : mO} {D w : Nat} (hm : mM μ a0 st) (hD : (μ (9, 0, 0) 14).toInt = D) (hD10 : D ≤ 10) (hw : (μ (1, 0, 26) D).toInt = w) (hw70 : w ≤ 100) (h : ∀ μ' : xM, (∀ q, q ≠ (1, 0, 20) → q ≠ (9, 0, 0) → q ≠ (1, 0, 26) → μ' q = μ q) → (∀ i, i < 15 → μ' (9, 0, 0) i = μ (9, 0, 0) i) → (∀ i, i ≠ D → μ' (1, 0, 26) i = μ (1, 0, 26) i) → μ' (1, 0, 26) D = 0 → μ' (9, 0, 0) 15 = 0 → (μ' (9, 0, 0) 16).toInt = (whO (st, f.toInt) w).2 → mM μ' a0 (whO (st, f.toInt) w).1 → Q none μ') : MW G (d + 5) mX9_isWhole [vR (9, 0, 0), vI a0, vI f] μ Q := by
  have hm0 : mM (xst μ (9, 0, 0) 16 f) a0 st := hm.keep (by rw [xst_rd, if_neg (fun q => by have := q.2; omega)]) (xst_ot (by decide))
  refine wX9_isWhole fun Z => ?_
  refine up_loop (σ := mO × xM) (fun i s => WS G eX9_isWhole (d + 5) Z Q 7 [vR (9, 0, 0), vI a0, vN, vI (nI i)] [] s.2) (fun i s => whO (s.1, (s.2 (9, 0, 0) 16).toInt) (w - i) = whO (st, f.toInt) w ∧ mM s.2 a0 s.1 ∧ (∀ q, q ≠ (1, 0, 20) → q ≠ (9, 0, 0) → s.2 q = μ q) ∧ ∀ i, i < 16 → s.2 (9, 0, 0) i = μ (9, 0, 0) i) w ?_ ?_ 0 (st, xst μ (9, 0, 0) 16 f) (by omega) ⟨?_, hm0, fun q q1 q2 => xst_ot q2, fun i hi => ?_⟩
  · rintro i ⟨st1, μ1⟩ hi ⟨i1, i2, i3, i4⟩ ih
    have ei : (nI i).toInt = i := nI_t (by omega)
    have hD1 : (μ1 (9, 0, 0) 14).toInt = D := by rw [show μ1 (9, 0, 0) 14 = μ (9, 0, 0) 14 from i4 14 (by omega)]; exact hD
    have h26 : μ1 (1, 0, 26) = μ (1, 0, 26) := i3 _ (by decide) (by decide)
    have i1 : whO (st1, (μ1 (9, 0, 0) 16).toInt) (w - i) = whO (st, f.toInt) w := i1
    rw [show w - i = (w - (i + 1)) + 1 by omega] at i1
    refine wX9_isWhole_7 ⟨ti_in hD1 (by omega), xif_f (by rw [ti_le, ti_cl' hD1, ei]; show ¬ (μ1 (1, 0, 26) D).toInt ≤ _; rw [h26, hw]; omega) (m_makes i2 fun x μ2 hx e1 e2 m2 => ?_)⟩
    rw [nI_1]
    refine ih ((mkO st1 2 (μ1 (9, 0, 0) 16).toInt (-6)).1, xst μ2 (9, 0, 0) 16 x) ⟨?_, m2.keep ?_ (xst_ot (by decide)), fun q q1 q2 => ?_, fun j hj => ?_⟩
    · show whO ((mkO st1 2 (μ1 (9, 0, 0) 16).toInt (-6)).1, (xst μ2 (9, 0, 0) 16 x (9, 0, 0) 16).toInt) (w - (i + 1)) = _
      rw [xst_rd, if_pos ⟨rfl, rfl⟩, hx]
      exact i1
    · rw [xst_rd, if_neg (fun q => by have := q.2; omega)]
    · show xst μ2 (9, 0, 0) 16 x q = μ q
      rw [xst_ot q2, e1 q q1 q2]
      exact i3 q q1 q2
    · show xst μ2 (9, 0, 0) 16 x (9, 0, 0) j = _
      rw [xst_rd, if_neg (fun q => by have := q.2; omega), e2 j (by omega)]
      exact i4 j hj
  · rintro ⟨st1, μ1⟩ ⟨i1, i2, i3, i4⟩
    have ei : (nI w).toInt = w := nI_t (by omega)
    have hD1 : (μ1 (9, 0, 0) 14).toInt = D := by rw [show μ1 (9, 0, 0) 14 = μ (9, 0, 0) 14 from i4 14 (by omega)]; exact hD
    have h26 : μ1 (1, 0, 26) = μ (1, 0, 26) := i3 _ (by decide) (by decide)
    rw [Nat.sub_self] at i1
    have i1 : (st1, (μ1 (9, 0, 0) 16).toInt) = whO (st, f.toInt) w := i1
    have i2 : mM μ1 a0 st1 := i2
    refine wX9_isWhole_7 ⟨ti_in hD1 (by omega), xif_t (by rw [ti_le, ti_cl' hD1, ei]; show (μ1 (1, 0, 26) D).toInt ≤ _; rw [h26, hw]; omega) ⟨ti_in hD1 (by omega), z01, ?_⟩⟩
    rw [ti_cl' hD1]
    refine h _ (fun q q1 q2 q3 => ?_) (fun i hi => ?_) (fun i hi => ?_) ?_ ?_ ?_ ?_
    · rw [xst_ot q2, xst_ot q3]
      exact i3 q q1 q2
    · rw [xst_rd, if_neg (fun q => by have := q.2; omega), xst_ot (by decide)]
      exact i4 i (by omega)
    · rw [xst_ot (by decide), xst_rd, if_neg (fun q => hi q.2)]
      exact congrFun h26 i
    · rw [xst_ot (by decide), xst_rd, if_pos ⟨rfl, rfl⟩]
    · rw [xst_rd, if_pos ⟨rfl, rfl⟩]
    · rw [xst_rd, if_neg (fun q => by have := q.2; omega), xst_ot (by decide), ← i1]
    · rw [← i1]
      exact i2.keep (by rw [xst_rd, if_neg (fun q => by have := q.2; omega), xst_ot (by decide)]) (by rw [xst_ot (by decide), xst_ot (by decide)])
  · show whO (st, (xst μ (9, 0, 0) 16 f (9, 0, 0) 16).toInt) (w - 0) = _
    rw [xst_rd, if_pos ⟨rfl, rfl⟩]
    rfl
  · show xst μ (9, 0, 0) 16 f (9, 0, 0) i = _
    rw [xst_rd, if_neg (fun q => by have := q.2; omega)]
end
