/-! fromBox, cases: both sides -/
section
variable {G : xG} {d : Nat} {μ : xM} {Q : xP} {S : aS} {H : List aS} {K : Option aS} {T : aT}
theorem asm_ok {b : Int32} {k : Nat} (hr : repP μ 0 S) (hI : Inv S) (hb : b.toInt = k) (hk : k < S.nb) (h : ∀ x : Int32, x.toInt = asm S k → Q (some (vI x)) μ) : MW G (d + 2) mX4_assumptionOf [vR (3, 0, 0), vI b] μ Q := by
  obtain ⟨l, hl, hl2⟩ := hI.bs hk
  refine wX4_assumptionOf (c_st hr hI.bd.2.2 hb hk fun x hx => c_lf hr hI.2.1 (show x.toInt = l by rw [hx, hl]) hl2 fun y hy => h y ?_)
  rw [hy, asm, hl]; rfl
theorem con_ok {b : Int32} {k : Nat} (hr : repP μ 0 S) (hI : Inv S) (hb : b.toInt = k) (hk : k < S.nb) (hc : ¬ S.B 1 k = -6) (h : ∀ x : Int32, x.toInt = con S k → Q (some (vI x)) μ) : MW G (d + 2) mX4_conclusionOf [vR (3, 0, 0), vI b] μ Q := by
  obtain ⟨l, hl, hl2⟩ := hI.be hk hc
  refine wX4_conclusionOf (c_en hr hI.bd.2.2 hb hk fun x hx => c_lf hr hI.2.1 (show x.toInt = l by rw [hx, hl]) hl2 fun y hy => h y ?_)
  rw [hy, con, hl]; rfl
theorem m_asm {D : xP} {b : Int32} {k : Nat} (hr : repR (μ (1, 0, 20)) S) (hI : Inv S) (hb : b.toInt = k) (hk : k < S.nb) (h : ∀ y : Int32, y.toInt = asm S k → Q (some (vI y)) μ) : MW G (d + 1) mX9_opens [vR (9, 0, 0), vI b] μ (xrI fun x4 μ3 => MW G (d + 1) mX9_formulaOf [vR (9, 0, 0), vI x4] μ3 Q) := by
  obtain ⟨l, hl, hl2⟩ := hI.bs hk
  refine m_st hr hI.bd.2.2 hb hk fun x hx => m_lf hr hI.2.1 (show x.toInt = l by rw [hx, hl]) hl2 fun y hy => h y ?_
  rw [hy, asm, hl]; rfl
theorem m_con {D : xP} {b : Int32} {k : Nat} (hr : repR (μ (1, 0, 20)) S) (hI : Inv S) (hb : b.toInt = k) (hk : k < S.nb) (hc : ¬ S.B 1 k = -6) (h : ∀ y : Int32, y.toInt = con S k → Q (some (vI y)) μ) : MW G (d + 1) mX9_ends [vR (9, 0, 0), vI b] μ (xrI fun x4 μ3 => MW G (d + 1) mX9_formulaOf [vR (9, 0, 0), vI x4] μ3 Q) := by
  obtain ⟨l, hl, hl2⟩ := hI.be hk hc
  refine m_en hr hI.bd.2.2 hb hk fun x hx => m_lf hr hI.2.1 (show x.toInt = l by rw [hx, hl]) hl2 fun y hy => h y ?_
  rw [hy, con, hl]; rfl
theorem Inv.asmF {S : aS} (hI : Inv S) {k : Nat} (hk : k < S.nb) : ∃ A : Nat, asm S k = A ∧ A < S.nf := by
  obtain ⟨l, hl, hl2⟩ := hI.bs hk
  obtain ⟨A, hA, hA2⟩ := hI.lf hl2
  exact ⟨A, by rw [asm, hl]; exact hA, hA2⟩
theorem Inv.conF {S : aS} (hI : Inv S) {k : Nat} (hk : k < S.nb) (hc : ¬ S.B 1 k = -6) : ∃ A : Nat, con S k = A ∧ A < S.nf := by
  obtain ⟨l, hl, hl2⟩ := hI.be hk hc
  obtain ⟨A, hA, hA2⟩ := hI.lf hl2
  exact ⟨A, by rw [con, hl]; exact hA, hA2⟩
theorem c_fromBox (r b : Int32) (hc : cS μ S H K T) (hI : Inv S) (h : cG μ K T Q (sp_fromBox S H r.toInt b.toInt)) : MW G 8 mX8_fromBox [vR (8, 0, 0), vI r, vI b] μ Q := by
  have hP := hc.1.2
  have hF := hc.1.1
  have e8 : (8 : Int32).toInt = 8 := rfl
  have e10 : (10 : Int32).toInt = 10 := rfl
  have J : ∀ (Z : xZ) (i : Nat), b.toInt = i → i < S.nb → cG μ K T Q (sp_box S H r.toInt b.toInt) → WS G eX8_fromBox 8 Z Q 31 [vR (8, 0, 0), vI r, vI b, vN, vN] [] μ := by
    intro Z i hb hb2 h
    unfold sp_box at h
    have hi : b.toInt.toNat = i := by omega
    rw [hi] at h
    refine wX8_fromBox_31 (avB_ok hP hI hb hb2 (fun c1 => xif_f (by decide) ?_) (fun c1 => xif_t rfl ?_))
    · rw [cif_t c1] at h
      obtain ⟨A, hA, hA2⟩ := hI.asmF hb2
      obtain ⟨C, hC, hC2⟩ := hI.conF hb2 c1.1
      refine asm_ok hP hI hb hb2 fun x hx => con_ok hP hI hb hb2 c1.1 fun y hy => xif_c (fun c2 => ?_) (fun c2 => ?_)
      · rw [ti_eq, e8] at c2
        rw [cif_t c2, ← hx, ← hy] at h
        exact c_wm hc hI h
      · rw [ti_eq, e8] at c2
        rw [cif_f c2] at h
        have hCn : (con S i).toNat = C := by omega
        rw [hCn] at h
        refine kind_ok hF hI.1 (show y.toInt = C by rw [hy, hC]) hC2 (fun c3 => xif_f (by decide) ?_) (fun c3 => xif_t rfl ?_)
        · rw [ti_lit1] at c3
          rw [cif_t c3, ← hx] at h
          exact c_wm hc hI h
        · rw [ti_lit1] at c3
          rw [cif_f c3] at h
          exact h _ μ rfl frC.rf hc
    · rw [cif_f c1] at h
      exact h _ μ rfl frC.rf hc
  unfold sp_fromBox at h
  refine wX8_fromBox fun Z => hasB_ok hP (fun k h1 h2 => xif_f (by decide) ?_) fun z => xif_t rfl ?_
  · rw [cif_t ⟨by omega, by omega⟩] at h
    refine xif_c (fun c1 => J Z k h1 h2 ?_) (fun c1 => xif_c (fun c2 => J Z k h1 h2 ?_) (fun c2 => ?_))
    · rw [ti_eq, e8] at c1; rw [cif_t (Or.inl c1)] at h; exact h
    · rw [ti_eq, e10] at c2; rw [cif_t (Or.inr c2)] at h; exact h
    · rw [ti_eq, e8] at c1; rw [ti_eq, e10] at c2
      rw [cif_f (by omega)] at h
      exact h _ μ rfl frC.rf hc
  · rw [cif_f z] at h
    exact h _ μ rfl frC.rf hc
theorem m_fromBox (r b : Int32) (hc : mS μ S H K T) (hI : Inv S) (h : mG μ K T Q (sp_fromBox S H r.toInt b.toInt)) : MW G 8 mX9_fromBox [vR (9, 0, 0), vI r, vI b] μ Q := by
  have hR := hc.1
  have e1 : (1 : Int32).toInt = 1 := rfl
  have e8 : (8 : Int32).toInt = 8 := rfl
  have e10 : (10 : Int32).toInt = 10 := rfl
  have J : ∀ (Z : xZ) (i : Nat), b.toInt = i → i < S.nb → mG μ K T Q (sp_box S H r.toInt b.toInt) → WS G eX9_fromBox 8 Z Q 25 [vR (9, 0, 0), vI r, vI b, vN, vN] [] μ := by
    intro Z i hb hb2 h
    unfold sp_box at h
    have hi : b.toInt.toNat = i := by omega
    rw [hi] at h
    refine wX9_fromBox_25 (m_avB hR hI hb hb2 (fun c1 => xif_f (by decide) ?_) (fun c1 => xif_t rfl ?_))
    · rw [cif_t c1] at h
      obtain ⟨A, hA, hA2⟩ := hI.asmF hb2
      obtain ⟨C, hC, hC2⟩ := hI.conF hb2 c1.1
      obtain ⟨l1', hl1, hl2⟩ := hI.bs hb2
      obtain ⟨l2', hl3, hl4⟩ := hI.be hb2 c1.1
      refine m_st hR hI.bd.2.2 hb hb2 fun u hu => m_lf hR hI.2.1 (show u.toInt = l1' by rw [hu, hl1]) hl2 fun x hx => m_en hR hI.bd.2.2 hb hb2 fun v hv => m_lf hR hI.2.1 (show v.toInt = l2' by rw [hv, hl3]) hl4 fun y hy => ?_
      have hx : x.toInt = asm S i := by rw [hx, asm, hl1]; rfl
      have hy : y.toInt = con S i := by rw [hy, con, hl3]; rfl
      refine xif_c (fun c2 => ?_) (fun c2 => ?_)
      · rw [ti_eq, e8] at c2
        rw [cif_t c2, ← hx, ← hy] at h
        exact m_wm hc hI (fun _ => okF_n (Or.inr (Or.inr (Or.inr ⟨by decide, by decide, by omega, by omega, by omega, by omega⟩)))) h
      · rw [ti_eq, e8] at c2
        rw [cif_f c2] at h
        have hCn : (con S i).toNat = C := by omega
        rw [hCn] at h
        refine m_kind hR hI.1 (show y.toInt = C by rw [hy, hC]) hC2 fun w hw => xif_c (fun c3 => ?_) (fun c3 => ?_)
        · rw [ti_eq, hw, e1] at c3
          rw [cif_t c3, ← hx] at h
          exact m_wm hc hI (fun _ => okF_n (Or.inr (Or.inr (Or.inl ⟨rfl, by omega, by omega, rfl⟩)))) h
        · rw [ti_eq, hw, e1] at c3
          rw [cif_f c3] at h
          exact h _ μ rfl frM.rf hc
    · rw [cif_f c1] at h
      exact h _ μ rfl frM.rf hc
  unfold sp_fromBox at h
  refine wX9_fromBox fun Z => m_isB hR (fun k h1 h2 => xif_f (by decide) ?_) fun z => xif_t rfl ?_
  · rw [cif_t ⟨by omega, by omega⟩] at h
    refine xif_c (fun c1 => J Z k h1 h2 ?_) (fun c1 => xif_c (fun c2 => J Z k h1 h2 ?_) (fun c2 => ?_))
    · rw [ti_eq, e8] at c1; rw [cif_t (Or.inl c1)] at h; exact h
    · rw [ti_eq, e10] at c2; rw [cif_t (Or.inr c2)] at h; exact h
    · rw [ti_eq, e8] at c1; rw [ti_eq, e10] at c2
      rw [cif_f (by omega)] at h
      exact h _ μ rfl frM.rf hc
  · rw [cif_f z] at h
    exact h _ μ rfl frM.rf hc
theorem Inv.okBR {S : aS} (h : Inv S) {x : Int} (hx : vB S x) (hc : avB S x.toNat) : okBR S S.nl x := by
  have hk : x.toNat < S.nb := by have := hx.1; have := hx.2; omega
  obtain ⟨l, hl, hl2⟩ := h.be hk hc.1
  exact ⟨hx.1, hx.2, by omega, by omega⟩
theorem op_fromBox (r b : Int32) (ok : okO ((0 : Int), S, H, K, T)) : ∃ o : aO, cOp G mX8_fromBox [vI r, vI b] S H K T o ∧ mOp G mX9_fromBox [vI r, vI b] S H K T o ∧ okO o := by
  have hI : Inv S := ok.1
  refine opG (sp_fromBox S H r.toInt b.toInt) (fun hw => cif_i (P := okW) (fun h1 => cif_i (P := okW) (fun h2 => cif_i (P := okW) (fun h3 => cif_i (P := okW) (fun h4 => ?_) fun h4 => cif_i (P := okW) (fun h5 => ?_) fun _ => hw) fun _ => hw) fun _ => hw) fun _ => hw) ok (fun μ Q hc hI h => c_fromBox r b hc hI h) (fun μ Q hc hI h => m_fromBox r b hc hI h)
  all_goals
    have hk : b.toInt.toNat < S.nb := by have := h1.1; have := h1.2; omega
    obtain ⟨A, hA, hA2⟩ := hI.asmF hk
    obtain ⟨C, hC, hC2⟩ := hI.conF hk h3.1
  · exact okW_wm hw (fun _ => okF_n (Or.inr (Or.inr (Or.inr ⟨by decide, by decide, by omega, by omega, by omega, by omega⟩)))) (Or.inr (Or.inr (Or.inr (Or.inr ⟨Or.inl rfl, hI.okBR h1 h3, rfl, rfl⟩))))
  · exact okW_wm hw (fun _ => okF_n (Or.inr (Or.inr (Or.inl ⟨rfl, by omega, by omega, rfl⟩)))) (Or.inr (Or.inr (Or.inr (Or.inr ⟨Or.inr rfl, hI.okBR h1 h3, rfl, rfl⟩))))
theorem c_cases (l a b : Int32) (hc : cS μ S H K T) (hI : Inv S) (h : cG μ K T Q (sp_cases S H l.toInt a.toInt b.toInt)) : MW G 8 mX8_cases [vR (8, 0, 0), vI l, vI a, vI b] μ Q := by
  have hP := hc.1.2
  have hF := hc.1.1
  have e4 : (4 : Int32).toInt = 4 := rfl
  unfold sp_cases at h
  refine wX8_cases fun Z => hasL_ok hP (fun i h1 h2 => xif_f (by decide) (hasB_ok hP (fun p h3 h4 => xif_f (by decide) (hasB_ok hP (fun q h5 h6 => xif_f (by decide) ?_) fun z => xif_t rfl ?_)) fun z => xif_t rfl ?_)) fun z => xif_t rfl ?_
  · rw [cif_t ⟨by omega, by omega⟩, cif_t ⟨by omega, by omega⟩, cif_t ⟨by omega, by omega⟩] at h
    have hi : l.toInt.toNat = i := by omega
    have hp : a.toInt.toNat = p := by omega
    have hq : b.toInt.toNat = q := by omega
    rw [hi, hp, hq] at h
    obtain ⟨A, hA, hA2⟩ := hI.lf h2
    have hA' : (S.L 0 i).toNat = A := by omega
    rw [hA'] at h
    have J0 : ¬ (avL S i ∧ avB S p ∧ avB S q ∧ fitsC S A p q) → Q (some (vI (-3))) μ := by
      intro hn
      rw [cif_f hn] at h
      exact h _ μ rfl frC.rf hc
    refine avL_ok hP hI h1 h2 (fun c1 => xif_f (by decide) (avB_ok hP hI h3 h4 (fun c2 => xif_f (by decide) (avB_ok hP hI h5 h6 (fun c3 => xif_f (by decide) ?_) fun z => xif_t rfl (J0 fun y => z y.2.2.1))) fun z => xif_t rfl (J0 fun y => z y.2.1))) fun z => xif_t rfl (J0 fun y => z y.1)
    refine c_lf hP hI.2.1 h1 h2 fun x hx => con_ok hP hI h3 h4 c2.1 fun y hy => ?_
    have J1 : ¬ fitsC S A p q → WS G eX8_cases 8 Z Q 212 [vR (8, 0, 0), vI l, vI a, vI b, vN, vI y, vN] [] μ := fun hn => wX8_cases_212 (wX8_cases_213 (xif_t rfl (J0 fun z => hn z.2.2.2)))
    refine kind_ok hF hI.1 (show x.toInt = A by rw [hx, hA]) hA2 (fun c4 => xif_f (by decide) ?_) (fun c4 => xif_t rfl (J1 fun z => c4 z.1))
    rw [e4] at c4
    refine c_F hF hI.1 (by omega) (show x.toInt = A by rw [hx, hA]) hA2 fun w hw => asm_ok hP hI h3 h4 fun v hv => xif_c (fun c5 => ?_) (fun c5 => J1 fun z => c5 ?_)
    · rw [ti_eq, hw, hv] at c5
      refine c_F hF hI.1 (by omega) (show x.toInt = A by rw [hx, hA]) hA2 fun w2 hw2 => asm_ok hP hI h5 h6 fun v2 hv2 => xif_c (fun c6 => ?_) (fun c6 => J1 fun z => c6 ?_)
      · rw [ti_eq, hw2, hv2] at c6
        refine con_ok hP hI h5 h6 c3.1 fun u hu => xif_c (fun c7 => ?_) (fun c7 => J1 fun z => c7 ?_)
        · rw [ti_eq, hy, hu] at c7
          rw [cif_t ⟨c1, c2, c3, c4, c5, c6, c7⟩, ← hy] at h
          exact wX8_cases_213 (xif_f (by decide) (c_wr hc hI h))
        · rw [ti_eq, hy, hu]; exact z.2.2.2
      · rw [ti_eq, hw2, hv2]; exact z.2.2.1
    · rw [ti_eq, hw, hv]; exact z.2.1
  · rw [cif_t ⟨by omega, by omega⟩, cif_t ⟨by omega, by omega⟩, cif_f z] at h
    exact h _ μ rfl frC.rf hc
  · rw [cif_t ⟨by omega, by omega⟩, cif_f z] at h
    exact h _ μ rfl frC.rf hc
  · rw [cif_f z] at h
    exact h _ μ rfl frC.rf hc
theorem m_cases (l a b : Int32) (hc : mS μ S H K T) (hI : Inv S) (h : mG μ K T Q (sp_cases S H l.toInt a.toInt b.toInt)) : MW G 8 mX9_cases [vR (9, 0, 0), vI l, vI a, vI b] μ Q := by
  have hR := hc.1
  have hbd := hI.bd.2.2
  have e4 : (4 : Int32).toInt = 4 := rfl
  unfold sp_cases at h
  refine wX9_cases fun Z => m_isL hR (fun i h1 h2 => xif_f (by decide) (m_isB hR (fun p h3 h4 => xif_f (by decide) (m_isB hR (fun q h5 h6 => xif_f (by decide) ?_) fun z => xif_t rfl ?_)) fun z => xif_t rfl ?_)) fun z => xif_t rfl ?_
  · rw [cif_t ⟨by omega, by omega⟩, cif_t ⟨by omega, by omega⟩, cif_t ⟨by omega, by omega⟩] at h
    have hi : l.toInt.toNat = i := by omega
    have hp : a.toInt.toNat = p := by omega
    have hq : b.toInt.toNat = q := by omega
    rw [hi, hp, hq] at h
    obtain ⟨A, hA, hA2⟩ := hI.lf h2
    have hA' : (S.L 0 i).toNat = A := by omega
    rw [hA'] at h
    have J0 : ¬ (avL S i ∧ avB S p ∧ avB S q ∧ fitsC S A p q) → Q (some (vI (-3))) μ := by
      intro hn
      rw [cif_f hn] at h
      exact h _ μ rfl frM.rf hc
    have J1 : ¬ fitsC S A p q → WS G eX9_cases 8 Z Q 131 [vR (9, 0, 0), vI l, vI a, vI b, vN, vN] [] μ := fun hn => wX9_cases_131 (wX9_cases_132 (xif_t rfl (J0 fun z => hn z.2.2.2)))
    refine m_lf hR hI.2.1 h1 h2 fun x hx => m_avL hR hI h1 h2 (fun c1 => xif_f (by decide) (m_avB hR hI h3 h4 (fun c2 => xif_f (by decide) (m_avB hR hI h5 h6 (fun c3 => xif_f (by decide) ?_) fun z => xif_t rfl (J0 fun y => z y.2.2.1))) fun z => xif_t rfl (J0 fun y => z y.2.1))) fun z => xif_t rfl (J0 fun y => z y.1)
    have hxA : x.toInt = A := by rw [hx, hA]
    obtain ⟨p1, hp1, hp2⟩ := hI.bs h4
    obtain ⟨p3, hp3, hp4⟩ := hI.be h4 c2.1
    obtain ⟨q1, hq1, hq2⟩ := hI.bs h6
    obtain ⟨q3, hq3, hq4⟩ := hI.be h6 c3.1
    refine m_kind hR hI.1 hxA hA2 fun w hw => xif_c (fun c4 => ?_) (fun c4 => J0 fun z => c4 ?_)
    · rw [ti_eq, hw, e4] at c4
      refine m_st hR hbd h3 h4 fun u1 hu1 => m_lf hR hI.2.1 (show u1.toInt = p1 by rw [hu1, hp1]) hp2 fun v1 hv1 => m_left hR hI.1 hxA hA2 fun w1 hw1 => ?_
      have hv1 : v1.toInt = asm S p := by rw [hv1, asm, hp1]; rfl
      refine xif_c (fun c5 => ?_) (fun c5 => J1 fun z => c5 ?_)
      · rw [ti_eq, hw1, hv1] at c5
        refine m_st hR hbd h5 h6 fun u2 hu2 => m_lf hR hI.2.1 (show u2.toInt = q1 by rw [hu2, hq1]) hq2 fun v2 hv2 => m_right hR hI.1 hxA hA2 fun w2 hw2 => ?_
        have hv2 : v2.toInt = asm S q := by rw [hv2, asm, hq1]; rfl
        refine xif_c (fun c6 => ?_) (fun c6 => J1 fun z => c6 ?_)
        · rw [ti_eq, hw2, hv2] at c6
          refine m_en hR hbd h3 h4 fun u3 hu3 => m_lf hR hI.2.1 (show u3.toInt = p3 by rw [hu3, hp3]) hp4 fun v3 hv3 => m_en hR hbd h5 h6 fun u4 hu4 => m_lf hR hI.2.1 (show u4.toInt = q3 by rw [hu4, hq3]) hq4 fun v4 hv4 => ?_
          have hv3 : v3.toInt = con S p := by rw [hv3, con, hp3]; rfl
          have hv4 : v4.toInt = con S q := by rw [hv4, con, hq3]; rfl
          refine xif_c (fun c7 => ?_) (fun c7 => J1 fun z => c7 ?_)
          · rw [ti_eq, hv3, hv4] at c7
            refine wX9_cases_132 (xif_f (by decide) (m_en hR hbd h3 h4 fun u5 hu5 => m_lf hR hI.2.1 (show u5.toInt = p3 by rw [hu5, hp3]) hp4 fun v5 hv5 => ?_))
            have hv5 : v5.toInt = con S p := by rw [hv5, con, hp3]; rfl
            rw [cif_t ⟨c1, c2, c3, c4, c5.symm, c6.symm, c7⟩, ← hv5] at h
            exact m_wr hc hI h
          · rw [ti_eq, hv3, hv4]; exact z.2.2.2
        · rw [ti_eq, hw2, hv2]; exact z.2.2.1.symm
      · rw [ti_eq, hw1, hv1]; exact z.2.1.symm
    · rw [ti_eq, hw]; exact z.2.2.2.1
  · rw [cif_t ⟨by omega, by omega⟩, cif_t ⟨by omega, by omega⟩, cif_f z] at h
    exact h _ μ rfl frM.rf hc
  · rw [cif_t ⟨by omega, by omega⟩, cif_f z] at h
    exact h _ μ rfl frM.rf hc
  · rw [cif_f z] at h
    exact h _ μ rfl frM.rf hc
theorem op_cases (l a b : Int32) (ok : okO ((0 : Int), S, H, K, T)) : ∃ o : aO, cOp G mX8_cases [vI l, vI a, vI b] S H K T o ∧ mOp G mX9_cases [vI l, vI a, vI b] S H K T o ∧ okO o := by
  have hI : Inv S := ok.1
  refine opG (sp_cases S H l.toInt a.toInt b.toInt) (fun hw => cif_i (P := okW) (fun h1 => cif_i (P := okW) (fun h2 => cif_i (P := okW) (fun h3 => cif_i (P := okW) (fun h4 => ?_) fun _ => hw) fun _ => hw) fun _ => hw) fun _ => hw) ok (fun μ Q hc hI h => c_cases l a b hc hI h) (fun μ Q hc hI h => m_cases l a b hc hI h)
  obtain ⟨A, hA, hA2⟩ := hI.conF (k := a.toInt.toNat) (by have := h2.1; have := h2.2; omega) h4.2.1.1
  exact okW_wr hw (by omega) (Or.inr (Or.inr (Or.inr (Or.inl ⟨rfl, h1, hI.okBR h2 h4.2.1, hI.okBR h3 h4.2.2.1⟩))))
end
