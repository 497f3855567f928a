/-! texts: what a run makes; the class's builder -/
def ext (S S2 : aS) : Prop := S2.1.2 = S.1.2 ∧ S.nf ≤ S2.nf ∧ S2.L = S.L ∧ S2.B = S.B ∧ ∀ c f, f < S.nf → S2.F c f = S.F c f
theorem ext.rf (S : aS) : ext S S := ⟨rfl, Nat.le_refl _, rfl, rfl, fun _ _ _ => rfl⟩
theorem ext.tr {a b c : aS} (h1 : ext a b) (h2 : ext b c) : ext a c := by
  obtain ⟨a1, a2, a3, a4, a5⟩ := h1
  obtain ⟨b1, b2, b3, b4, b5⟩ := h2
  exact ⟨b1.trans a1, Nat.le_trans a2 b2, b3.trans a3, b4.trans a4, fun k f hf => (b5 k f (by omega)).trans (a5 k f hf)⟩
theorem mkS_ok {S : aS} {k l r : Int} (hI : Inv S) (hr : roomS S k l r) (hok : okF (addF S k l r) S.nf) : Inv (mkS S k l r).2 ∧ ext S (mkS S k l r).2 ∧ 0 ≤ (mkS S k l r).1 ∧ (mkS S k l r).1 < (mkS S k l r).2.nf := by
  unfold mkS
  by_cases c : findS S k l r = -6
  · rw [if_pos c]
    have hlt : S.nf < 60 := by
      rcases hr with z | z
      · exact z
      · exact absurd c z
    refine ⟨Inv_add hI hlt hok, ⟨rfl, Nat.le_succ _, rfl, rfl, fun k f hf => ?_⟩, by show (0 : Int) ≤ S.nf; omega, by show (S.nf : Int) < (S.nf + 1 : Nat); omega⟩
    rw [addF_F, if_neg (by omega)]
  · rw [if_neg c]
    rcases findS_ok S k l r with z | ⟨f, h1, h2, h3⟩
    · exact absurd z c
    · exact ⟨hI, ext.rf S, by omega, by show findS S k l r < S.nf; omega⟩
theorem mkO_t {S : aS} {k l r : Int} (h : roomS S k l r) : mkO (true, S) k l r = ((true, (mkS S k l r).2), (mkS S k l r).1) := if_pos ⟨rfl, h⟩
theorem mkO_f {S : aS} {k l r : Int} (h : ¬ roomS S k l r) : mkO (true, S) k l r = ((false, S), 0) := if_neg (fun q => h q.2)
/-- a state that stands, and a formula of it -/
def okV (st : mO) (v : Int) : Prop := st.1 = true → Inv st.2 ∧ 0 ≤ v ∧ v < st.2.nf
theorem mkO_ok {S : aS} {k l r : Int} (hI : Inv S) (hok : okF (addF S k l r) S.nf) : okV (mkO (true, S) k l r).1 (mkO (true, S) k l r).2 ∧ ext S (mkO (true, S) k l r).1.2 := by
  by_cases h : roomS S k l r
  · rw [mkO_t h]
    obtain ⟨a, b, c, d⟩ := mkS_ok hI h hok
    exact ⟨fun _ => ⟨a, c, d⟩, b⟩
  · rw [mkO_f h]
    exact ⟨fun z => (by cases z), ext.rf S⟩
theorem whO_ok : ∀ (n : Nat) (p : mO × Int), okV p.1 p.2 → okV (whO p n).1 (whO p n).2 ∧ ext p.1.2 (whO p n).1.2
  | 0, p, h => ⟨h, ext.rf _⟩
  | n + 1, ((lv, S), v), h => by
    show okV (whO (mkO (lv, S) 2 v (-6)) n).1 (whO (mkO (lv, S) 2 v (-6)) n).2 ∧ ext S (whO (mkO (lv, S) 2 v (-6)) n).1.2
    cases lv with
    | false =>
      rw [mkO_dead]
      obtain ⟨a, b⟩ := whO_ok n ((false, S), 0) (fun z => (by cases z))
      exact ⟨a, b⟩
    | true =>
      obtain ⟨hI, h1, h2⟩ := h rfl
      have h2 : v < S.nf := h2
      obtain ⟨a, b⟩ := mkO_ok (S := S) (k := 2) (l := v) (r := -6) hI (okF_n (Or.inr (Or.inr (Or.inl ⟨rfl, h1, h2, rfl⟩))))
      obtain ⟨c, e⟩ := whO_ok n _ a
      exact ⟨c, b.tr e⟩
def okLv (S : aS) (L : pL) : Prop := ∀ x ∈ L, x.1 = -6 ∨ (3 ≤ x.1 ∧ x.1 ≤ 5 ∧ 0 ≤ x.2.1 ∧ x.2.1 < S.nf)
theorem okLv.ext {S S2 : aS} {L : pL} (h : okLv S L) (e : ext S S2) : okLv S2 L := by
  intro x hx
  have := e.2.1
  rcases h x hx with z | ⟨z1, z2, z3, z4⟩
  · exact Or.inl z
  · exact Or.inr ⟨z1, z2, z3, by omega⟩
/-- a run that stands -/
def okRun (p : pS) (v : Int) (st : mO) : Prop := st.1 = true → Inv st.2 ∧ (p.1 = false → 0 ≤ v ∧ v < st.2.nf) ∧ okLv st.2 p.2.2
theorem sgn_r {c : Int} (h : ¬ sgn c = -6) : 3 ≤ sgn c ∧ sgn c ≤ 5 := by
  unfold sgn at *
  split <;> (try split) <;> (try split) <;> simp_all
theorem run_step {p p' : pS} {v c : Int} {st : mO} (h : okRun p v st) (hs : step p v c = some p') : okRun p' (eff p v st c).2 (eff p v st c).1 ∧ ext st.2 (eff p v st c).1.2 := by
  obtain ⟨lv, S⟩ := st
  cases lv with
  | false =>
    rw [eff_dead]
    exact ⟨fun z => (by cases z), ext.rf S⟩
  | true =>
    obtain ⟨hI, hv, hL⟩ := h rfl
    obtain ⟨w1, w, L⟩ := p
    have hL : okLv S L := hL
    have hI : Inv S := hI
    have fin : ∀ (q : mO × Int) (n : Nat) (L' : pL), okV q.1 q.2 → ext S q.1.2 → okLv S L' → p' = (false, 0, L') → okRun p' (whO q n).2 (whO q n).1 ∧ ext S (whO q n).1.2 := by
      intro q n L' h1 h2 h3 h4
      obtain ⟨a, b⟩ := whO_ok n q h1
      refine ⟨fun z => ?_, h2.tr b⟩
      obtain ⟨c1, c2, c3⟩ := a z
      rw [h4]
      exact ⟨c1, fun _ => ⟨c2, c3⟩, h3.ext (h2.tr b)⟩
    cases w1 with
    | true =>
      have hs : stepA w L c = some p' := hs
      show okRun p' (effA w v (true, S) c).2 (effA w v (true, S) c).1 ∧ ext S (effA w v (true, S) c).1.2
      unfold stepA at hs
      unfold effA
      by_cases c1 : c = 126
      · rw [if_pos c1] at hs
        injection hs with hs
        rw [if_pos (Or.inl c1), ← hs]
        exact ⟨fun _ => ⟨hI, fun z => (by cases z), hL⟩, ext.rf S⟩
      · rw [if_neg c1] at hs
        by_cases c2 : c = 40
        · rw [if_pos c2] at hs
          by_cases c3 : L.length < 10
          · rw [if_pos c3] at hs
            injection hs with hs
            rw [if_pos (Or.inr c2), ← hs]
            refine ⟨fun _ => ⟨hI, fun z => (by cases z), fun x hx => ?_⟩, ext.rf S⟩
            rcases List.mem_cons.mp hx with rfl | hx
            · exact Or.inl rfl
            · exact hL x hx
          · rw [if_neg c3] at hs; cases hs
        · rw [if_neg c2] at hs
          rw [if_neg (fun q => by rcases q with z | z <;> omega)]
          by_cases c3 : c = 35 ∨ (97 ≤ c ∧ c ≤ 104)
          · rw [if_pos c3] at hs
            injection hs with hs
            by_cases c4 : c = 35
            · rw [if_pos c4]
              obtain ⟨a, b⟩ := mkO_ok (S := S) (k := 1) (l := -6) (r := -6) hI (Or.inr (Or.inl (by simp only [addF_F]; simp)))
              exact fin _ w L a b hL hs.symm
            · rw [if_neg c4]
              obtain ⟨a, b⟩ := mkO_ok (S := S) (k := 0) (l := c - 97) (r := -6) hI (okF_n (Or.inl ⟨rfl, by omega, by omega, rfl⟩))
              exact fin _ w L a b hL hs.symm
          · rw [if_neg c3] at hs; cases hs
    | false =>
      have hs : stepB w L v c = some p' := hs
      obtain ⟨v1, v2⟩ := hv rfl
      have v2 : v < S.nf := v2
      show okRun p' (effB L v (true, S)).2 (effB L v (true, S)).1 ∧ ext S (effB L v (true, S)).1.2
      match L, hL, hs with
      | [], _, hs => cases hs
      | (s, a, w') :: r, hL, hs =>
        have hs0 := hL (s, a, w') (by simp)
        have hr : okLv S r := fun x hx => hL x (by simp [hx])
        unfold stepB at hs
        unfold effB
        dsimp only at hs hs0 ⊢
        by_cases c1 : s = -6
        · rw [if_pos c1] at hs ⊢
          by_cases c2 : sgn c = -6
          · rw [if_pos c2] at hs; cases hs
          · rw [if_neg c2] at hs
            injection hs with hs
            rw [← hs]
            obtain ⟨g1, g2⟩ := sgn_r c2
            refine ⟨fun _ => ⟨hI, fun z => (by cases z), fun x hx => ?_⟩, ext.rf S⟩
            rcases List.mem_cons.mp hx with rfl | hx
            · exact Or.inr ⟨g1, g2, v1, v2⟩
            · exact hr x hx
        · rw [if_neg c1] at hs ⊢
          by_cases c2 : c = 41
          · rw [if_pos c2] at hs
            injection hs with hs
            rcases hs0 with z | ⟨z1, z2, z3, z4⟩
            · exact absurd z c1
            · obtain ⟨a', b⟩ := mkO_ok (S := S) (k := s) (l := a) (r := v) hI (okF_n (Or.inr (Or.inr (Or.inr ⟨z1, z2, z3, z4, v1, v2⟩))))
              exact fin _ w' r a' b hr hs.symm
          · rw [if_neg c2] at hs; cases hs
theorem rn_ok {T : aT} : ∀ (n i : Nat) (p : pS) (v : Int) (st : mO), okRun p v st → ((rn T n i p v st).1 = -6 → okV (rn T n i p v st).2.2 (rn T n i p v st).2.1) ∧ ext st.2 (rn T n i p v st).2.2.2
  | 0, i, p, v, st, h => by
    unfold rn
    refine ⟨fun z => ?_, ext.rf _⟩
    dsimp only at z ⊢
    by_cases c : p.1 = false ∧ p.2.2.length = 0
    · exact fun y => ⟨(h y).1, (h y).2.1 c.1⟩
    · rw [if_neg c] at z
      omega
  | n + 1, i, p, v, st, h => by
    unfold rn
    split
    · refine ⟨fun z => ?_, ext.rf _⟩
      dsimp only at z
      omega
    · rename_i p' hs
      obtain ⟨a, b⟩ := run_step h hs
      obtain ⟨c, e⟩ := rn_ok n (i + 1) p' _ _ a
      exact ⟨c, b.tr e⟩
/-- the class's stack -/
def cStk (μ : xM) : Nat → pL → Prop
  | w, [] => ∀ i, i < w → (μ (1, 0, 15) i).toInt = 126
  | w, (s, a, w') :: r => (∀ i, i < w → (μ (1, 0, 15) (hgt w' r + 1 + i)).toInt = 126) ∧ (μ (1, 0, 15) (hgt w' r)).toInt = (if s = -6 then 40 else s) ∧ (¬ s = -6 → (μ (1, 0, 16) (hgt w' r)).toInt = a) ∧ cStk μ w' r
theorem cStk.cg {μ μ' : xM} : ∀ {L : pL} {w : Nat}, cStk μ w L → (∀ c i, (c = 15 ∨ c = 16) → i < hgt w L → μ' (1, 0, c) i = μ (1, 0, c) i) → cStk μ' w L
  | [], w, h, e => fun i hi => by rw [e 15 i (by omega) hi]; exact h i hi
  | (s, a, w') :: r, w, h, e => by
    obtain ⟨h1, h2, h3, h4⟩ := h
    have e : ∀ c i, (c = 15 ∨ c = 16) → i < w + 1 + hgt w' r → μ' (1, 0, c) i = μ (1, 0, c) i := e
    refine ⟨fun i hi => ?_, ?_, ?_, cStk.cg h4 fun c i hc hi => e c i hc (by omega)⟩
    · rw [e 15 _ (by omega) (by omega)]; exact h1 i hi
    · rw [e 15 _ (by omega) (by omega)]; exact h2
    · rw [e 16 _ (by omega) (by omega)]; exact h3
theorem hgt_s (w : Nat) (L : pL) : hgt (w + 1) L = hgt w L + 1 := by
  match L with
  | [] => rfl
  | (s, a, w') :: r => show w + 1 + 1 + hgt w' r = w + 1 + hgt w' r + 1; omega
theorem cStk.pop {μ : xM} {L : pL} {w : Nat} (h : cStk μ (w + 1) L) : cStk μ w L ∧ (μ (1, 0, 15) (hgt w L)).toInt = 126 := by
  match L, h with
  | [], h => exact ⟨fun i hi => h i (by omega), h w (by omega)⟩
  | (s, a, w') :: r, h =>
    obtain ⟨h1, h2⟩ := h
    refine ⟨⟨fun i hi => h1 i (by omega), h2⟩, ?_⟩
    have := h1 w (by omega)
    rw [show hgt w' r + 1 + w = hgt w ((s, a, w') :: r) by show _ = w + 1 + hgt w' r; omega] at this
    exact this
theorem cStk.push {μ μ' : xM} {L : pL} {w : Nat} (h : cStk μ w L) (e : ∀ c i, (c = 15 ∨ c = 16) → i < hgt w L → μ' (1, 0, c) i = μ (1, 0, c) i) (hn : (μ' (1, 0, 15) (hgt w L)).toInt = 126) : cStk μ' (w + 1) L := by
  have h := h.cg e
  match L, h, hn with
  | [], h, hn =>
    intro i hi
    by_cases hiw : i = w
    · rw [hiw]; exact hn
    · exact h i (by omega)
  | (s, a, w') :: r, h, hn =>
    obtain ⟨h1, h2⟩ := h
    refine ⟨fun i hi => ?_, h2⟩
    by_cases hiw : i = w
    · rw [hiw, show hgt w' r + 1 + w = hgt w ((s, a, w') :: r) by show _ = w + 1 + hgt w' r; omega]
      exact hn
    · exact h1 i (by omega)
/-- what the builder leaves -/
def frB (μ μ' : xM) : Prop := ∀ q, ¬ ownF 7 q → q ≠ (7, 0, 0) → q ≠ (1, 0, 15) → q ≠ (1, 0, 16) → μ' q = μ q
theorem frB.rf {μ : xM} : frB μ μ := fun _ _ _ _ _ => rfl
theorem frB.tr {a b c : xM} (h1 : frB a b) (h2 : frB b c) : frB a c := fun q n1 n2 n3 n4 => (h2 q n1 n2 n3 n4).trans (h1 q n1 n2 n3 n4)
theorem nF7 {a b c : Nat} (h : a ≠ 2) (h2 : a ≠ 1 ∨ 3 ≤ c) : ¬ ownF 7 (a, b, c) := by
  rintro (z | z)
  · cases z; exact h rfl
  · obtain ⟨z1, z2, z3⟩ := z
    have z1 : a = 1 := z1
    have z3 : c < 3 := z3
    omega
section
variable {G : xG} {d : Nat} {μ : xM} {Q : xP} {S : aS} {H : List aS} {K : Option aS} {T : aT}
/-- one formula made in the draft, or none -/
theorem c_mkO {k l r : Int32} (hr : repF μ 7 S) (hb : S.nf ≤ 60) (h : ∀ (x : Int32) (μ' : xM), (mkO (true, S) k.toInt l.toInt r.toInt).1.1 = true → x.toInt = (mkO (true, S) k.toInt l.toInt r.toInt).2 → 0 ≤ x.toInt → (mkO (true, S) k.toInt l.toInt r.toInt).1.2.nf ≤ 60 → (∀ q, ¬ ownF 7 q → μ' q = μ q) → repF μ' 7 (mkO (true, S) k.toInt l.toInt r.toInt).1.2 → Q (some (vI x)) μ') (hf : (mkO (true, S) k.toInt l.toInt r.toInt).1.1 = false → Q (some (vI (-4))) μ) : MW G (d + 3) mX2_make [vR (2, 7, 0), vI k, vI l, vI r] μ Q := by
  by_cases hroom : roomS S k.toInt l.toInt r.toInt
  · rw [mkO_t hroom] at h
    refine make_ok hr hb hroom fun x μ' hx e r' => h x μ' rfl hx ?_ ?_ e r'
    · rw [hx]
      unfold mkS
      by_cases c : findS S k.toInt l.toInt r.toInt = -6
      · rw [if_pos c]; show (0 : Int) ≤ S.nf; omega
      · rw [if_neg c]
        rcases findS_ok S k.toInt l.toInt r.toInt with z | ⟨f, h1, h2, h3⟩
        · exact absurd z c
        · show 0 ≤ findS _ _ _ _
          omega
    · show (mkS S k.toInt l.toInt r.toInt).2.nf ≤ 60
      unfold mkS
      by_cases c : findS S k.toInt l.toInt r.toInt = -6
      · rw [if_pos c]
        show S.nf + 1 ≤ 60
        rcases hroom with z | z
        · omega
        · exact absurd c z
      · rw [if_neg c]; exact hb
  · rw [mkO_f hroom] at hf
    exact make_lim hr hb hroom (hf rfl)
theorem c_neg {L : pL} (hL : ∀ x ∈ L, x.1 = -6 ∨ (3 ≤ x.1 ∧ x.1 ≤ 5)) : ∀ (w : Nat) (S : aS) (f : Int32) (μ : xM), repF μ 7 S → S.nf ≤ 60 → 0 ≤ f.toInt → cStk μ w L → hgt w L ≤ 70 → (μ (7, 0, 0) 0).toInt = hgt w L → (∀ (x : Int32) (μ' : xM), (whO ((true, S), f.toInt) w).1.1 = true → x.toInt = (whO ((true, S), f.toInt) w).2 → 0 ≤ x.toInt → frB μ μ' → repF μ' 7 (whO ((true, S), f.toInt) w).1.2 → (whO ((true, S), f.toInt) w).1.2.nf ≤ 60 → cStk μ' 0 L → (μ' (7, 0, 0) 0).toInt = hgt 0 L → Q (some (vI x)) μ') → (∀ μ' : xM, (whO ((true, S), f.toInt) w).1.1 = false → frB μ μ' → Q (some (vI (-4))) μ') → ∀ Z : xZ, WS G eX1_negate (d + 4) Z Q 2 [vR (7, 0, 0), vN, vR (2, 7, 0), vI f] [] μ := by
  intro w
  induction w with
  | zero =>
    intro S f μ hr hb h0 hs hh7 hh ht hf Z
    have em4 : (-4 : Int32).toInt = -4 := rfl
    have e126 : (126 : Int32).toInt = 126 := rfl
    have done : Q (some (vI f)) μ := ht f μ rfl rfl h0 frB.rf hr hb hs hh
    refine wX1_negate_2 (xif_f (by rw [ti_eq, em4]; omega) (xif_c (fun _ => done) fun c => ?_))
    rw [ti_le, hh, ti_lit0] at c
    match L, hs, hh, hh7, c, hL with
    | [], hs, hh, hh7, c, hL => exact absurd (Int.le_refl 0) c
    | (s, a, w') :: r, hs, hh, hh7, c, hL =>
      have hh : (μ (7, 0, 0) 0).toInt = ((0 + 1 + hgt w' r : Nat) : Int) := hh
      have hh7 : 0 + 1 + hgt w' r ≤ 70 := hh7
      have e1 : (μ (7, 0, 0) 0 - 1).toInt = (hgt w' r : Nat) := by
        rw [ti_sub (by rw [hh, ti_lit1]; omega) (by rw [hh, ti_lit1]; omega), hh, ti_lit1]
        omega
      refine get_in e1 (by simp [xlenc]; omega) (xif_f ?_ done)
      rw [ti_eq, hs.2.1, e126]
      have := hL (s, a, w') (by simp)
      dsimp only at this
      split <;> omega
  | succ w ih =>
    intro S f μ hr hb h0 hs hh7 hh ht hf Z
    have em4 : (-4 : Int32).toInt = -4 := rfl
    have e126 : (126 : Int32).toInt = 126 := rfl
    have e2 : (2 : Int32).toInt = 2 := rfl
    rw [hgt_s] at hh hh7
    obtain ⟨hs1, hs2⟩ := hs.pop
    have e1 : (μ (7, 0, 0) 0 - 1).toInt = (hgt w L : Nat) := by
      rw [ti_sub (by rw [hh, ti_lit1]; omega) (by rw [hh, ti_lit1]; omega), hh, ti_lit1]
      omega
    refine wX1_negate_2 (xif_f (by rw [ti_eq, em4]; omega) (xif_f (by rw [ti_le, hh, ti_lit0]; omega) (get_in e1 (by simp [xlenc]; omega) (xif_t (by rw [ti_eq, hs2, e126]) (c_mkO hr hb (fun x μ1 hl hx hx0 hb1 e r1 => ?_) (fun hl => ?_))))))
    · have hw : whO ((true, S), f.toInt) (w + 1) = whO ((true, (mkO (true, S) 2 f.toInt (-6)).1.2), x.toInt) w := by
        show whO (mkO (true, S) 2 f.toInt (-6)) w = _
        have : mkO (true, S) 2 f.toInt (-6) = ((true, (mkO (true, S) 2 f.toInt (-6)).1.2), x.toInt) := Prod.ext (Prod.ext hl rfl) hx.symm
        rw [← this]
      rw [hw] at ht hf
      have n7 : μ1 (7, 0, 0) = μ (7, 0, 0) := e _ (nF7 (by decide) (by decide))
      show WS G eX1_negate (d + 4) Z Q 2 [vR (7, 0, 0), vN, vR (2, 7, 0), vI x] [] (xst μ1 (7, 0, 0) 0 (μ1 (7, 0, 0) 0 - 1))
      rw [n7]
      have fr : frB μ (xst μ1 (7, 0, 0) 0 (μ (7, 0, 0) 0 - 1)) := fun q q1 q2 q3 q4 => by rw [xst_ot q2]; exact e q q1
      refine ih _ x (xst μ1 (7, 0, 0) 0 (μ (7, 0, 0) 0 - 1)) (r1.keep fun q hq => xst_ot ?_) hb1 hx0 (hs1.cg fun c i hc hi => ?_) (by omega) ?_ (fun y μ2 a1 a2 a3 a4 => ht y μ2 a1 a2 a3 (fr.tr a4)) (fun μ2 a1 a2 => hf μ2 a1 (fr.tr a2)) Z
      · rintro rfl
        exact nF7 (by decide) (by decide) hq
      · rw [xst_ot (by rcases hc with rfl | rfl <;> decide)]
        exact congrFun (e _ (nF7 (by decide) (by rcases hc with rfl | rfl <;> decide))) i
      · rw [xst_rd, if_pos ⟨rfl, rfl⟩]
        exact e1
    · have hw : (whO ((true, S), f.toInt) (w + 1)).1.1 = false := by
        show (whO (mkO (true, S) 2 f.toInt (-6)) w).1.1 = _
        have : mkO (true, S) 2 f.toInt (-6) = ((false, (mkO (true, S) 2 f.toInt (-6)).1.2), (mkO (true, S) 2 f.toInt (-6)).2) := Prod.ext (Prod.ext hl rfl) rfl
        rw [this, whO_dead]
      exact wX1_negate_2 (xif_t rfl (hf _ hw fun q q1 q2 q3 q4 => xst_ot q2))
end
