/-! the law's rule: what it answers, as a number -/
theorem ln_eq {x y : Int64} : x = y ↔ x.toInt = y.toInt := Int64.toInt_inj.symm
theorem ln_i (x : Int32) : (Int32.toInt64 x).toInt = x.toInt := Int32.toInt_toInt64 x
theorem ln_add {x y : Int64} (h1 : -9223372036854775808 ≤ x.toInt + y.toInt) (h2 : x.toInt + y.toInt ≤ 9223372036854775807) : (x + y).toInt = x.toInt + y.toInt := by
  rw [Int64.toInt_add]
  exact Int.bmod_eq_of_le (by omega) (by omega)
theorem ln_mul {x y : Int64} (h1 : -9223372036854775808 ≤ x.toInt * y.toInt) (h2 : x.toInt * y.toInt ≤ 9223372036854775807) : (x * y).toInt = x.toInt * y.toInt := by
  rw [Int64.toInt_mul]
  exact Int.bmod_eq_of_le (by omega) (by omega)
/-- a formula's number, and one -/
theorem ln_succ {x : Int32} {n : Int} (hx : x.toInt = n) : (Int32.toInt64 x + (1 : Int64)).toInt = n + 1 := by
  have h := ti_bd x
  have e1 : (1 : Int64).toInt = 1 := rfl
  rw [ln_add (by rw [ln_i, e1]; omega) (by rw [ln_i, e1]; omega), ln_i, e1, hx]
/-- kind and parts in one -/
theorem ln_mk {k : Int64} {x y : Int64} {K X Y : Int} (hk : k.toInt = K) (hx : x.toInt = X) (hy : y.toInt = Y) (h1 : 0 ≤ K ∧ K ≤ 1000000000) (h2 : 0 ≤ X ∧ X ≤ 1000) (h3 : 0 ≤ Y ∧ Y ≤ 1000) : (k + (1000 : Int64) * x + y).toInt = K + 1000 * X + Y := by
  have e1 : (1000 : Int64).toInt = 1000 := rfl
  have m1 : ((1000 : Int64) * x).toInt = 1000 * X := by rw [ln_mul (by rw [hx, e1]; omega) (by rw [hx, e1]; omega), hx, e1]
  have m2 : (k + (1000 : Int64) * x).toInt = K + 1000 * X := by rw [ln_add (by rw [m1, hk]; omega) (by rw [m1, hk]; omega), m1, hk]
  rw [ln_add (by rw [m2, hy]; omega) (by rw [m2, hy]; omega), m2, hy]
noncomputable def rv2 (S : aS) (r : Int) (A : Nat) (B : Int) : Int := cif (r = 3) (300000000 + 1000 * A + B) (cif (r = 9) (cif (S.F 0 A = 5 ∧ S.F 1 A = B) (S.F 2 A + 1) 0) (cif (S.F 0 A = 2 ∧ S.F 1 A = B) 100999999 0))
noncomputable def rv1 (S : aS) (r : Int) (A b c : Nat) : Int :=
  cif (r = 7) (cif (avB S b ∧ avB S c ∧ fitsC S A b c) (con S b + 1) 0)
  (cif (r = 4 ∨ r = 5 ∨ r = 13) (cif (fits1 S r A) (tkv S r A + 1) 0)
  (cif (r = 2) ((A : Int) + 1)
  (cif (r = 6 ∨ r = 12) (cif (fitsT S r A b) ((b : Int) + 1) 0)
  (cif (avL S b) (rv2 S r A (S.L 0 b)) 0))))
noncomputable def rvB (S : aS) (r : Int) (a : Nat) : Int := cif (avB S a) (cif (r = 8) (500000000 + 1000 * asm S a + con S a) (cif (S.F 0 (con S a).toNat = 1) (200000000 + 1000 * asm S a + 999) 0)) 0
noncomputable def rv (S : aS) (r : Int) (a b c : Nat) : Int :=
  cif (r = 8 ∨ r = 10) (rvB S r a) (cif (avL S a) (rv1 S r (S.L 0 a).toNat b c) 0)
/-- a rule's places -/
def plc (S : aS) (r : Int) (a b c : Nat) : Prop := (2 ≤ r ∧ r ≤ 13) ∧ (if r = 8 ∨ r = 10 then a < S.nb else a < S.nl) ∧ (if r = 7 then b < S.nb else if r = 6 ∨ r = 12 then b < S.nf else b < S.nl) ∧ (r = 7 → c < S.nb)
section
variable {G : xG} {d : Nat} {μ : xM} {Q : xP} {S : aS}
theorem w_asm {i : Int32} {k : Nat} (hw : repW μ S) (hI : Inv S) (hi : i.toInt = k) (hk : k < S.nb) : vp_in (μ (1, 0, 29) i.toNatClampNeg) 48 ∧ (μ (1, 0, 23) (μ (1, 0, 29) i.toNatClampNeg).toNatClampNeg).toInt = asm S k := by
  have h48 := hI.2.1
  obtain ⟨l, h1, h2⟩ := hI.bs hk
  have e := rB0 hw hI hi hk
  rw [h1] at e
  refine ⟨ti_in e (by omega), ?_⟩
  rw [rL0 hw hI e h2, asm, h1]; rfl
theorem w_con {i : Int32} {k : Nat} (hw : repW μ S) (hI : Inv S) (hi : i.toInt = k) (hk : k < S.nb) (hc : ¬ S.B 1 k = -6) : vp_in (μ (1, 0, 30) i.toNatClampNeg) 48 ∧ (μ (1, 0, 23) (μ (1, 0, 30) i.toNatClampNeg).toNatClampNeg).toInt = con S k := by
  have h48 := hI.2.1
  obtain ⟨l, h1, h2⟩ := hI.be hk hc
  have e := rq hw hi hk
  rw [h1] at e
  have e := e.nn (by omega)
  refine ⟨ti_in e (by omega), ?_⟩
  rw [rL0 hw hI e h2, con, h1]; rfl
theorem w_rule {r a b c : Int32} {i j k : Nat} (hw : repW μ S) (hI : Inv S) (ha : a.toInt = i) (hb : b.toInt = j) (hc : c.toInt = k) (hp : plc S r.toInt i j k) (h : ∀ y : Int64, y.toInt = rv S r.toInt i j k → Q (some (vL y)) μ) : MW G (d + 2) mL_rule [vR (1, 0, 20), vR (1, 0, 21), vR (1, 0, 22), vR (1, 0, 23), vR (1, 0, 28), vR (1, 0, 29), vR (1, 0, 30), vR (1, 0, 31), vI r, vI a, vI b, vI c] μ Q := by
  have h60 := hI.1
  have h48 := hI.2.1
  have hb48 := hI.bd.2.2
  obtain ⟨⟨p1, p2⟩, p3, p4, p5⟩ := hp
  have e2 : (2 : Int32).toInt = 2 := rfl
  have e3 : (3 : Int32).toInt = 3 := rfl
  have e4 : (4 : Int32).toInt = 4 := rfl
  have e5 : (5 : Int32).toInt = 5 := rfl
  have e6 : (6 : Int32).toInt = 6 := rfl
  have e7 : (7 : Int32).toInt = 7 := rfl
  have e8 : (8 : Int32).toInt = 8 := rfl
  have e9 : (9 : Int32).toInt = 9 := rfl
  have e10 : (10 : Int32).toInt = 10 := rfl
  have e12 : (12 : Int32).toInt = 12 := rfl
  have e13 : (13 : Int32).toInt = 13 := rfl
  have s0 : rv S r.toInt i j k = 0 → Q (some (vL (0 : Int64))) μ := fun e => h 0 (by rw [e]; rfl)
  by_cases hbx : r.toInt = 8 ∨ r.toInt = 10
  · -- a box
    rw [if_pos hbx] at p3
    have via : vp_in a 48 := ti_in ha (by omega)
    have B := w_asm hw hI ha p3
    have eq1 := rq hw ha p3
    have erv : rv S r.toInt i j k = rvB S r.toInt i := by unfold rv; rw [cif_t hbx]
    have go : ∀ Z : xZ, WS G eL_rule (d + 2) Z Q 19 [vR (1, 0, 20), vR (1, 0, 21), vR (1, 0, 22), vR (1, 0, 23), vR (1, 0, 28), vR (1, 0, 29), vR (1, 0, 30), vR (1, 0, 31), vI r, vI a, vI b, vI c, vN, vN, vN] [vI (1 : Int32)] μ := by
      intro Z
      refine wL_rule_19 (xif_f (by decide) ⟨via, xif_c (fun c1 => s0 ?_) fun c1 => ⟨via, w_shut hw hI (rw_ hw ha p3) (hI.parX p3) (fun z => xif_f (by decide) (s0 ?_)) fun z => xif_t rfl ?_⟩⟩)
      · rw [ti_lt, ti_lit0, eq1.lt] at c1
        rw [erv, rvB, cif_f (fun z => z.1 c1)]
      · rw [erv, rvB, cif_f (fun y => z y.2)]
      · rw [ti_lt, ti_lit0, eq1.lt] at c1
        have C := w_con hw hI ha p3 c1
        obtain ⟨X, hX, hX2⟩ := hI.asmF p3
        obtain ⟨Y, hY, hY2⟩ := hI.conF p3 c1
        have hv : rv S r.toInt i j k = cif (r.toInt = 8) (500000000 + 1000 * asm S i + con S i) (cif (S.F 0 (con S i).toNat = 1) (200000000 + 1000 * asm S i + 999) 0) := by
          rw [erv, rvB, cif_t ⟨c1, z⟩]
        refine wL_rule_69 (xif_f (by decide) ⟨via, B.1, wL_rule_88 (xif_f (by decide) ⟨via, C.1, xif_c (fun c2 => ?_) (fun c2 => ⟨ti_in (C.2.trans hY) (by omega), xif_c (fun c3 => ?_) (fun c3 => s0 ?_)⟩)⟩)⟩)
        · rw [ti_eq, e8] at c2
          refine h _ ?_
          rw [hv, cif_t c2]
          exact ln_mk rfl ((ln_i _).trans B.2) ((ln_i _).trans C.2) (by omega) (by omega) (by omega)
        · rw [ti_eq, e8] at c2
          rw [ti_eq, rF0 hw hI (C.2.trans hY) hY2, ti_lit1] at c3
          refine h _ ?_
          rw [hv, cif_f c2, cif_t (by rw [hY]; exact c3)]
          exact ln_mk (Y := 999) rfl ((ln_i _).trans B.2) rfl (by omega) (by omega) (by omega)
        · rw [ti_eq, e8] at c2
          rw [ti_eq, rF0 hw hI (C.2.trans hY) hY2, ti_lit1] at c3
          rw [hv, cif_f c2, cif_f (by rw [hY]; exact c3)]
    refine wL_rule fun Z => xif_c (fun c1 => wL_rule_14 (go Z)) fun c1 => xif_c (fun c2 => wL_rule_14 (go Z)) fun c2 => ?_
    rw [ti_eq, e8] at c1
    rw [ti_eq, e10] at c2
    exact absurd hbx (by omega)
  · rw [if_neg hbx] at p3
    have via : vp_in a 48 := ti_in ha (by omega)
    have erv : rv S r.toInt i j k = cif (avL S i) (rv1 S r.toInt (S.L 0 i).toNat j k) 0 := by unfold rv; rw [cif_f hbx]
    refine wL_rule fun Z => xif_f (by rw [ti_eq, e8]; omega) (xif_f (by rw [ti_eq, e10]; omega) (wL_rule_19 (xif_t rfl ⟨via, w_shut hw hI (rx hw ha p3) (hI.home p3) (fun z => xif_f (by decide) (s0 ?_)) fun z => xif_t rfl (wL_rule_69 (xif_t rfl ⟨via, ?_⟩))⟩)))
    · rw [erv, cif_f (show ¬ avL S i from z)]
    rw [cif_t (show avL S i from z)] at erv
    rw [erv] at h s0
    clear erv
    obtain ⟨A, hA, hA2⟩ := hI.lf p3
    have hs := rL0 hw hI ha p3
    rw [hA] at hs
    rw [show (S.L 0 i).toNat = A by omega] at h s0
    generalize μ (1, 0, 23) a.toNatClampNeg = s at hs ⊢
    have vis : vp_in s 60 := ti_in hs (by omega)
    have K0 := rF0 hw hI hs hA2
    refine wL_rule_88 (xif_t rfl (xif_c (fun q => ?_) fun q7 => ?_))
    · -- cases
      rw [ti_eq, e7] at q
      rw [if_pos q] at p4
      have p5 := p5 q
      have vib : vp_in b 48 := ti_in hb (by omega)
      have vic : vp_in c 48 := ti_in hc (by omega)
      have ejb := rq hw hb p4
      have ejc := rq hw hc p5
      have e1 : rv1 S r.toInt A j k = cif (avB S j ∧ avB S k ∧ fitsC S A j k) (con S j + 1) 0 := by unfold rv1; rw [cif_t q]
      rw [e1] at h s0
      clear e1
      have no : ¬ (avB S j ∧ avB S k ∧ fitsC S A j k) → WS G eL_rule (d + 2) Z Q 222 [vN, vR (1, 0, 21), vR (1, 0, 22), vR (1, 0, 23), vN, vR (1, 0, 29), vR (1, 0, 30), vN, vN, vN, vI b, vI c, vN, vI s, vN] [] μ := fun z => wL_rule_222 (wL_rule_223 (xif_t rfl (s0 (cif_f z))))
      refine ⟨vib, xif_c (fun c1 => no fun z => z.1.1 ?_) fun c1 => ⟨vic, xif_c (fun c2 => no fun z => z.2.1.1 ?_) fun c2 => ⟨vib, w_shut hw hI (rw_ hw hb p4) (hI.parX p4) (fun z => xif_f (by decide) (no fun y => z y.1.2)) fun z1 => xif_t rfl ⟨vic, w_shut hw hI (rw_ hw hc p5) (hI.parX p5) (fun z => xif_f (by decide) (no fun y => z y.2.1.2)) fun z2 => xif_t rfl ⟨vis, xif_c (fun c3 => ?_) fun c3 => no fun y => c3 ?_⟩⟩⟩⟩⟩
      · rw [ti_lt, ti_lit0, ejb.lt] at c1; exact c1
      · rw [ti_lt, ti_lit0, ejc.lt] at c2; exact c2
      · rw [ti_lt, ti_lit0, ejb.lt] at c1
        rw [ti_lt, ti_lit0, ejc.lt] at c2
        rw [ti_eq, K0, e4] at c3
        have AJ := w_asm hw hI hb p4
        have AK := w_asm hw hI hc p5
        have CJ := w_con hw hI hb p4 c1
        have CK := w_con hw hI hc p5 c2
        obtain ⟨U, hU, hU2⟩ := hI.fl hA2 (by omega)
        obtain ⟨V, hV, hV2⟩ := hI.fr hA2 (by omega)
        have F1 := (rLf hw hs hA2).nn (by omega)
        have F2 := (rRt hw hs hA2).nn (by omega)
        refine wL_rule_223 (xif_f (by decide) ⟨vib, AJ.1, vis, xif_c (fun c4 => ⟨vic, AK.1, vis, xif_c (fun c5 => ⟨vib, CJ.1, vic, CK.1, xif_c (fun c6 => ⟨vib, CJ.1, h _ ?_⟩) fun c6 => s0 (cif_f fun y => c6 ?_)⟩) fun c5 => s0 (cif_f fun y => c5 ?_)⟩) fun c4 => s0 (cif_f fun y => c4 ?_)⟩)
        · rw [ti_eq, AJ.2, F1] at c4
          rw [ti_eq, AK.2, F2] at c5
          rw [ti_eq, CJ.2, CK.2] at c6
          rw [cif_t ⟨⟨c1, z1⟩, ⟨c2, z2⟩, c3, c4.symm, c5.symm, c6⟩]
          exact ln_succ CJ.2
        · rw [ti_eq, CJ.2, CK.2]; exact y.2.2.2.2.2
        · rw [ti_eq, AK.2, F2]; exact y.2.2.2.2.1.symm
        · rw [ti_eq, AJ.2, F1]; exact y.2.2.2.1.symm
      · rw [ti_eq, K0, e4]; exact y.2.2.1
    rw [ti_eq, e7] at q7
    rw [if_neg q7] at p4
    clear p5
    have e1 : rv1 S r.toInt A j k = cif (r.toInt = 4 ∨ r.toInt = 5 ∨ r.toInt = 13) (cif (fits1 S r.toInt A) (tkv S r.toInt A + 1) 0) (cif (r.toInt = 2) ((A : Int) + 1) (cif (r.toInt = 6 ∨ r.toInt = 12) (cif (fitsT S r.toInt A j) ((j : Int) + 1) 0) (cif (avL S j) (rv2 S r.toInt A (S.L 0 j)) 0))) := by unfold rv1; rw [cif_f q7]
    rw [e1] at h s0
    clear e1
    -- a conjunction's parts
    have and : (r.toInt = 4 ∨ r.toInt = 5) → WS G eL_rule (d + 2) Z Q 302 [vR (1, 0, 20), vR (1, 0, 21), vR (1, 0, 22), vN, vN, vN, vN, vN, vI r, vN, vN, vN, vN, vI s, vN] [] μ := by
      intro q
      rw [cif_t (by omega)] at h s0
      refine wL_rule_302 ⟨vis, xif_c (fun c1 => ?_) fun c1 => s0 (cif_f ?_)⟩
      · rw [ti_eq, K0, e3] at c1
        obtain ⟨U, hU, hU2⟩ := hI.fl hA2 (by omega)
        obtain ⟨V, hV, hV2⟩ := hI.fr hA2 (by omega)
        have F1 := (rLf hw hs hA2).nn (by omega)
        have F2 := (rRt hw hs hA2).nn (by omega)
        rw [cif_t (show fits1 S r.toInt A from Or.inr ⟨by omega, c1⟩)] at h
        refine xif_c (fun c2 => ⟨vis, wL_rule_327 (h _ ?_)⟩) fun c2 => ⟨vis, wL_rule_327 (h _ ?_)⟩
        · rw [ti_eq, e4] at c2
          rw [tkv, if_neg (by omega), if_pos c2]
          exact ln_succ F1
        · rw [ti_eq, e4] at c2
          rw [tkv, if_neg (by omega), if_neg c2]
          exact ln_succ F2
      · rw [ti_eq, K0, e3] at c1
        rintro (z | z)
        · omega
        · exact c1 z.2
    -- a line and a formula
    have toF : (r.toInt = 6 ∨ r.toInt = 12) → WS G eL_rule (d + 2) Z Q 400 [vR (1, 0, 20), vR (1, 0, 21), vR (1, 0, 22), vN, vN, vN, vN, vN, vI r, vN, vI b, vN, vN, vI s, vN] [] μ := by
      intro q
      rw [if_pos q] at p4
      have vib : vp_in b 60 := ti_in hb (by omega)
      rw [cif_f (by omega), cif_f (by omega), cif_t q] at h s0
      have no : ¬ fitsT S r.toInt A j → WS G eL_rule (d + 2) Z Q 454 [vN, vN, vN, vN, vN, vN, vN, vN, vN, vN, vI b, vN, vN, vN, vN] [vI (0 : Int32)] μ := fun z => wL_rule_454 (xif_t rfl (s0 (cif_f z)))
      have yes : fitsT S r.toInt A j → WS G eL_rule (d + 2) Z Q 454 [vN, vN, vN, vN, vN, vN, vN, vN, vN, vN, vI b, vN, vN, vN, vN] [vI (1 : Int32)] μ := fun z => wL_rule_454 (xif_f (by decide) (h _ (by rw [cif_t z]; exact ln_succ hb)))
      refine wL_rule_400 (xif_c (fun c1 => ⟨vis, xif_c (fun c2 => yes (Or.inr ?_)) fun c2 => no ?_⟩) fun c1 => ?_)
      · rw [ti_eq, e12] at c1
        rw [ti_eq, K0, ti_lit1] at c2
        exact ⟨by omega, c2⟩
      · rw [ti_eq, e12] at c1
        rw [ti_eq, K0, ti_lit1] at c2
        rintro (z | z)
        · omega
        · exact c2 z.2
      · rw [ti_eq, e12] at c1
        have q6 : r.toInt = 6 := by omega
        have KJ := rF0 hw hI hb p4
        have no' : ¬ fitsT S r.toInt A j → WS G eL_rule (d + 2) Z Q 453 [vN, vN, vN, vN, vN, vN, vN, vN, vN, vN, vI b, vN, vN, vN, vN] [] μ := fun z => wL_rule_453 (no z)
        refine ⟨vib, xif_c (fun c2 => ?_) fun c2 => no' ?_⟩
        · rw [ti_eq, KJ, e4] at c2
          obtain ⟨U, hU, hU2⟩ := hI.fl p4 (by omega)
          obtain ⟨V, hV, hV2⟩ := hI.fr p4 (by omega)
          have F1 := (rLf hw hb p4).nn (by omega)
          have F2 := (rRt hw hb p4).nn (by omega)
          refine ⟨vib, xif_c (fun c3 => wL_rule_449 (yes (Or.inl ⟨q6, c2, Or.inl ?_⟩))) fun c3 => ⟨vib, xif_c (fun c4 => wL_rule_449 (yes (Or.inl ⟨q6, c2, Or.inr ?_⟩))) fun c4 => no' ?_⟩⟩
          · rw [ti_eq, F1, hs] at c3; exact c3
          · rw [ti_eq, F2, hs] at c4; exact c4
          · rw [ti_eq, F1, hs] at c3
            rw [ti_eq, F2, hs] at c4
            rintro (z | z)
            · rcases z.2.2 with y | y
              · exact c3 y
              · exact c4 y
            · omega
        · rw [ti_eq, KJ, e4] at c2
          rintro (z | z)
          · exact c2 z.2.1
          · omega
    refine xif_c (fun q => and ?_) fun q4 => xif_c (fun q => and ?_) fun q5 => xif_c (fun q => ?_) fun q13 => xif_c (fun q => ?_) fun q2 => xif_c (fun q => toF ?_) fun q6 => xif_c (fun q => toF ?_) fun q12 => ?_
    · rw [ti_eq, e4] at q; omega
    · rw [ti_eq, e5] at q; omega
    · rw [ti_eq, e13] at q
      rw [cif_t (by omega)] at h s0
      refine ⟨vis, xif_c (fun c1 => ?_) fun c1 => s0 (cif_f ?_)⟩
      · rw [ti_eq, K0, e2] at c1
        obtain ⟨U, hU, hU2⟩ := hI.fl hA2 (by omega)
        have F1 := (rLf hw hs hA2).nn (by omega)
        have F1 := F1.trans hU
        have viu : vp_in (μ (1, 0, 21) s.toNatClampNeg) 60 := ti_in F1 (by omega)
        have KU := rF0 hw hI F1 (by omega)
        refine ⟨vis, viu, xif_c (fun c2 => ?_) fun c2 => s0 (cif_f ?_)⟩
        · rw [ti_eq, KU, e2] at c2
          obtain ⟨V, hV, hV2⟩ := hI.fl (show U < S.nf by omega) (by omega)
          have F2 := (rLf hw F1 (by omega)).nn (by omega)
          refine ⟨vis, viu, h _ ?_⟩
          rw [cif_t (show fits1 S r.toInt A from Or.inl ⟨q, c1, by rw [hU]; exact c2⟩), tkv, if_pos q, hU]
          exact ln_succ F2
        · rw [ti_eq, KU, e2] at c2
          rintro (z | z)
          · rw [hU] at z; exact c2 z.2.2
          · exact z.1 q
      · rw [ti_eq, K0, e2] at c1
        rintro (z | z)
        · exact c1 z.2.1
        · exact z.1 q
    · rw [ti_eq, e2] at q
      rw [cif_f (by omega), cif_t q] at h
      exact h _ (ln_succ hs)
    · rw [ti_eq, e6] at q; omega
    · rw [ti_eq, e12] at q; omega
    rw [ti_eq, e4] at q4
    rw [ti_eq, e5] at q5
    rw [ti_eq, e13] at q13
    rw [ti_eq, e2] at q2
    rw [ti_eq, e6] at q6
    rw [ti_eq, e12] at q12
    rw [if_neg (by omega)] at p4
    have vib : vp_in b 48 := ti_in hb (by omega)
    rw [cif_f (by omega), cif_f q2, cif_f (by omega)] at h s0
    refine ⟨vib, w_shut hw hI (rx hw hb p4) (hI.home p4) (fun z => xif_f (by decide) (s0 (cif_f (show ¬ avL S j from z)))) fun z => xif_t rfl ⟨vib, ?_⟩⟩
    rw [cif_t (show avL S j from z)] at h s0
    obtain ⟨B, hB, hB2⟩ := hI.lf p4
    have ht := rL0 hw hI hb p4
    unfold rv2 at h s0
    refine xif_c (fun q => ?_) fun q3 => xif_c (fun q => ?_) fun q9 => ?_
    · rw [ti_eq, e3] at q
      rw [cif_t q] at h
      exact h _ (ln_mk rfl ((ln_i _).trans hs) ((ln_i _).trans ht) (by omega) (by omega) (by omega))
    · rw [ti_eq, e9] at q
      rw [cif_f (by omega), cif_t q] at h s0
      have no : ¬ (S.F 0 A = 5 ∧ S.F 1 A = S.L 0 j) → WS G eL_rule (d + 2) Z Q 552 [vN, vN, vN, vN, vN, vN, vN, vN, vN, vN, vN, vN, vN, vN, vN] [] μ := fun z => wL_rule_552 (s0 (cif_f z))
      refine ⟨vis, xif_c (fun c1 => ?_) fun c1 => no ?_⟩
      · rw [ti_eq, K0, e5] at c1
        obtain ⟨U, hU, hU2⟩ := hI.fl hA2 (by omega)
        obtain ⟨V, hV, hV2⟩ := hI.fr hA2 (by omega)
        have F1 := (rLf hw hs hA2).nn (by omega)
        have F2 := (rRt hw hs hA2).nn (by omega)
        refine ⟨vis, xif_c (fun c2 => ⟨vis, h _ ?_⟩) fun c2 => no ?_⟩
        · rw [ti_eq, F1, ht] at c2
          rw [cif_t ⟨c1, c2⟩]
          exact ln_succ F2
        · rw [ti_eq, F1, ht] at c2
          exact fun y => c2 y.2
      · rw [ti_eq, K0, e5] at c1
        exact fun y => c1 y.1
    · rw [ti_eq, e3] at q3
      rw [ti_eq, e9] at q9
      rw [cif_f q3, cif_f q9] at h s0
      refine ⟨vis, xif_c (fun c1 => ?_) fun c1 => s0 (cif_f ?_)⟩
      · rw [ti_eq, K0, e2] at c1
        obtain ⟨U, hU, hU2⟩ := hI.fl hA2 (by omega)
        have F1 := (rLf hw hs hA2).nn (by omega)
        refine ⟨vis, xif_c (fun c2 => h _ ?_) fun c2 => s0 (cif_f ?_)⟩
        · rw [ti_eq, F1, ht] at c2
          rw [cif_t ⟨c1, c2⟩]; rfl
        · rw [ti_eq, F1, ht] at c2
          exact fun y => c2 y.2
      · rw [ti_eq, K0, e2] at c1
        exact fun y => c1 y.1
end
