/-! fromBox, cases: both sides -/
section
variable {G : xG} {d : Nat} {μ : xM} {Q : xP} {S : aS} {H : List aS} {K : Option aS} {T : aT}
theorem asm_ok {b : Int32} {k : Nat} (hr : repP μ 0 S) (hI : Inv S) (hb : b.toInt = k) (hk : k < S.nb) (h : ∀ x : Int32, x.toInt = asm S k → Q (some (vI x)) μ) : MW G (d + 2) mX4_assumptionOf [vR (3, 0, 0), vI b] μ Q := by
  obtain ⟨l, hl, hl2⟩ := hI.bs hk
  refine wX4_assumptionOf (c_st hr hI.bd.2.2 hb hk fun x hx => c_lf hr hI.2.1 (show x.toInt = l by rw [hx, hl]) hl2 fun y hy => h y ?_)
  rw [hy, asm, hl]; rfl
theorem con_ok {b : Int32} {k : Nat} (hr : repP μ 0 S) (hI : Inv S) (hb : b.toInt = k) (hk : k < S.nb) (hc : ¬ S.B 1 k = -6) (h : ∀ x : Int32, x.toInt = con S k → Q (some (vI x)) μ) : MW G (d + 2) mX4_conclusionOf [vR (3, 0, 0), vI b] μ Q := by
  obtain ⟨l, hl, hl2⟩ := hI.be hk hc
  refine wX4_conclusionOf (c_en hr hI.bd.2.2 hb hk fun x hx => c_lf hr hI.2.1 (show x.toInt = l by rw [hx, hl]) hl2 fun y hy => h y ?_)
  rw [hy, con, hl]; rfl
theorem Inv.asmF {S : aS} (hI : Inv S) {k : Nat} (hk : k < S.nb) : ∃ A : Nat, asm S k = A ∧ A < S.nf := by
  obtain ⟨l, hl, hl2⟩ := hI.bs hk
  obtain ⟨A, hA, hA2⟩ := hI.lf hl2
  exact ⟨A, by rw [asm, hl]; exact hA, hA2⟩
theorem Inv.conF {S : aS} (hI : Inv S) {k : Nat} (hk : k < S.nb) (hc : ¬ S.B 1 k = -6) : ∃ A : Nat, con S k = A ∧ A < S.nf := by
  obtain ⟨l, hl, hl2⟩ := hI.be hk hc
  obtain ⟨A, hA, hA2⟩ := hI.lf hl2
  exact ⟨A, by rw [con, hl]; exact hA, hA2⟩
theorem c_fromBox (r b : Int32) (hc : cS μ S H K T) (hI : Inv S) (h : cG μ K T Q (sp_fromBox S H r.toInt b.toInt)) : MW G 8 mX8_fromBox [vR (8, 0, 0), vI r, vI b] μ Q := by
  have hP := hc.1.2
  have hF := hc.1.1
  have e8 : (8 : Int32).toInt = 8 := rfl
  have e10 : (10 : Int32).toInt = 10 := rfl
  have J : ∀ (Z : xZ) (i : Nat), b.toInt = i → i < S.nb → cG μ K T Q (sp_box S H r.toInt b.toInt) → WS G eX8_fromBox 8 Z Q 31 [vR (8, 0, 0), vI r, vI b, vN, vN] [] μ := by
    intro Z i hb hb2 h
    unfold sp_box at h
    have hi : b.toInt.toNat = i := by omega
    rw [hi] at h
    refine wX8_fromBox_31 (avB_ok hP hI hb hb2 (fun c1 => xif_f (by decide) ?_) (fun c1 => xif_t rfl ?_))
    · rw [cif_t c1] at h
      obtain ⟨A, hA, hA2⟩ := hI.asmF hb2
      obtain ⟨C, hC, hC2⟩ := hI.conF hb2 c1.1
      refine asm_ok hP hI hb hb2 fun x hx => con_ok hP hI hb hb2 c1.1 fun y hy => xif_c (fun c2 => ?_) (fun c2 => ?_)
      · rw [ti_eq, e8] at c2
        rw [cif_t c2, ← hx, ← hy] at h
        exact c_wm hc hI h
      · rw [ti_eq, e8] at c2
        rw [cif_f c2] at h
        have hCn : (con S i).toNat = C := by omega
        rw [hCn] at h
        refine kind_ok hF hI.1 (show y.toInt = C by rw [hy, hC]) hC2 (fun c3 => xif_f (by decide) ?_) (fun c3 => xif_t rfl ?_)
        · rw [ti_lit1] at c3
          rw [cif_t c3, ← hx] at h
          exact c_wm hc hI h
        · rw [ti_lit1] at c3
          rw [cif_f c3] at h
          exact h _ μ rfl frC.rf hc
    · rw [cif_f c1] at h
      exact h _ μ rfl frC.rf hc
  unfold sp_fromBox at h
  refine wX8_fromBox fun Z => hasB_ok hP (fun k h1 h2 => xif_f (by decide) ?_) fun z => xif_t rfl ?_
  · rw [cif_t ⟨by omega, by omega⟩] at h
    refine xif_c (fun c1 => J Z k h1 h2 ?_) (fun c1 => xif_c (fun c2 => J Z k h1 h2 ?_) (fun c2 => ?_))
    · rw [ti_eq, e8] at c1; rw [cif_t (Or.inl c1)] at h; exact h
    · rw [ti_eq, e10] at c2; rw [cif_t (Or.inr c2)] at h; exact h
    · rw [ti_eq, e8] at c1; rw [ti_eq, e10] at c2
      rw [cif_f (by omega)] at h
      exact h _ μ rfl frC.rf hc
  · rw [cif_f z] at h
    exact h _ μ rfl frC.rf hc
theorem Inv.okBR {S : aS} (h : Inv S) {x : Int} (hx : vB S x) (hc : avB S x.toNat) : okBR S S.nl x := by
  have hk : x.toNat < S.nb := by have := hx.1; have := hx.2; omega
  obtain ⟨l, hl, hl2⟩ := h.be hk hc.1
  exact ⟨hx.1, hx.2, by omega, by omega⟩
theorem c_cases (l a b : Int32) (hc : cS μ S H K T) (hI : Inv S) (h : cG μ K T Q (sp_cases S H l.toInt a.toInt b.toInt)) : MW G 8 mX8_cases [vR (8, 0, 0), vI l, vI a, vI b] μ Q := by
  have hP := hc.1.2
  have hF := hc.1.1
  have e4 : (4 : Int32).toInt = 4 := rfl
  unfold sp_cases at h
  refine wX8_cases fun Z => hasL_ok hP (fun i h1 h2 => xif_f (by decide) (hasB_ok hP (fun p h3 h4 => xif_f (by decide) (hasB_ok hP (fun q h5 h6 => xif_f (by decide) ?_) fun z => xif_t rfl ?_)) fun z => xif_t rfl ?_)) fun z => xif_t rfl ?_
  · rw [cif_t ⟨by omega, by omega⟩, cif_t ⟨by omega, by omega⟩, cif_t ⟨by omega, by omega⟩] at h
    have hi : l.toInt.toNat = i := by omega
    have hp : a.toInt.toNat = p := by omega
    have hq : b.toInt.toNat = q := by omega
    rw [hi, hp, hq] at h
    obtain ⟨A, hA, hA2⟩ := hI.lf h2
    have hA' : (S.L 0 i).toNat = A := by omega
    rw [hA'] at h
    have J0 : ¬ (avL S i ∧ avB S p ∧ avB S q ∧ fitsC S A p q) → Q (some (vI (-3))) μ := by
      intro hn
      rw [cif_f hn] at h
      exact h _ μ rfl frC.rf hc
    refine avL_ok hP hI h1 h2 (fun c1 => xif_f (by decide) (avB_ok hP hI h3 h4 (fun c2 => xif_f (by decide) (avB_ok hP hI h5 h6 (fun c3 => xif_f (by decide) ?_) fun z => xif_t rfl (J0 fun y => z y.2.2.1))) fun z => xif_t rfl (J0 fun y => z y.2.1))) fun z => xif_t rfl (J0 fun y => z y.1)
    refine c_lf hP hI.2.1 h1 h2 fun x hx => con_ok hP hI h3 h4 c2.1 fun y hy => ?_
    have J1 : ¬ fitsC S A p q → WS G eX8_cases 8 Z Q 212 [vR (8, 0, 0), vI l, vI a, vI b, vN, vI y, vN] [] μ := fun hn => wX8_cases_212 (wX8_cases_213 (xif_t rfl (J0 fun z => hn z.2.2.2)))
    refine kind_ok hF hI.1 (show x.toInt = A by rw [hx, hA]) hA2 (fun c4 => xif_f (by decide) ?_) (fun c4 => xif_t rfl (J1 fun z => c4 z.1))
    rw [e4] at c4
    refine c_F hF hI.1 (by omega) (show x.toInt = A by rw [hx, hA]) hA2 fun w hw => asm_ok hP hI h3 h4 fun v hv => xif_c (fun c5 => ?_) (fun c5 => J1 fun z => c5 ?_)
    · rw [ti_eq, hw, hv] at c5
      refine c_F hF hI.1 (by omega) (show x.toInt = A by rw [hx, hA]) hA2 fun w2 hw2 => asm_ok hP hI h5 h6 fun v2 hv2 => xif_c (fun c6 => ?_) (fun c6 => J1 fun z => c6 ?_)
      · rw [ti_eq, hw2, hv2] at c6
        refine con_ok hP hI h5 h6 c3.1 fun u hu => xif_c (fun c7 => ?_) (fun c7 => J1 fun z => c7 ?_)
        · rw [ti_eq, hy, hu] at c7
          rw [cif_t ⟨c1, c2, c3, c4, c5, c6, c7⟩, ← hy] at h
          exact wX8_cases_213 (xif_f (by decide) (c_wr hc hI h))
        · rw [ti_eq, hy, hu]; exact z.2.2.2
      · rw [ti_eq, hw2, hv2]; exact z.2.2.1
    · rw [ti_eq, hw, hv]; exact z.2.1
  · rw [cif_t ⟨by omega, by omega⟩, cif_t ⟨by omega, by omega⟩, cif_f z] at h
    exact h _ μ rfl frC.rf hc
  · rw [cif_t ⟨by omega, by omega⟩, cif_f z] at h
    exact h _ μ rfl frC.rf hc
  · rw [cif_f z] at h
    exact h _ μ rfl frC.rf hc
end
