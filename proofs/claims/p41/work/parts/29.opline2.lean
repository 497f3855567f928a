/-! fromOne, toFormula, fromBox, cases: both sides -/
section
variable {G : xG} {d : Nat} {μ : xM} {Q : xP} {S : aS} {H : List aS} {K : Option aS} {T : aT}
theorem taken_ok {r x : Int32} {A : Nat} (hr : repF μ 0 S) (hI : Inv S) (hx : x.toInt = A) (hA : A < S.nf) (ht : fits1 S r.toInt A → ∀ y : Int32, y.toInt = tkv S r.toInt A → ¬ y = -6 → Q (some (vI y)) μ) (hf : ¬ fits1 S r.toInt A → Q (some (vI (-6))) μ) : MW G (d + 3) mX2_takenOut [vR (2, 0, 0), vI r, vI x] μ Q := by
  have e13 : (13 : Int32).toInt = 13 := rfl
  have e2 : (2 : Int32).toInt = 2 := rfl
  have e3 : (3 : Int32).toInt = 3 := rfl
  have e4 : (4 : Int32).toInt = 4 := rfl
  have hb := hI.1
  refine wX2_takenOut (xif_c (fun c1 => ?_) (fun c1 => ?_))
  · rw [ti_eq, e13] at c1
    refine kind_ok hr hb hx hA (fun c2 => xif_f (by decide) ?_) (fun c2 => xif_t rfl ?_)
    · rw [e2] at c2
      obtain ⟨B, hB, hB2⟩ := hI.fl hA (by omega)
      refine c_F hr hb (by omega) hx hA fun y hy => ?_
      rw [hB] at hy
      refine kind_ok hr hb hy (by omega) (fun c3 => xif_f (by decide) ?_) (fun c3 => xif_t rfl (hf ?_))
      · rw [e2] at c3
        obtain ⟨C, hC, hC2⟩ := hI.fl (f := B) (by omega) (by omega)
        refine c_F hr hb (by omega) hy (by omega) fun w hw => ht (Or.inl ⟨c1, c2, by rw [hB]; exact c3⟩) w ?_ ?_
        · rw [tkv, if_pos c1, hB, hw]; rfl
        · rw [ti_eq, hw, hC, ti_litm6]; omega
      · rw [e2] at c3
        rintro (z | z)
        · rw [hB] at z; exact c3 z.2.2
        · exact z.1 c1
    · rw [e2] at c2
      refine wX2_isOfKind (get_out (Or.inl (by decide)) (xif_f (by decide) ⟨z01, xif_t rfl (hf ?_)⟩))
      rintro (z | z)
      · exact c2 z.2.1
      · exact z.1 c1
  · rw [ti_eq, e13] at c1
    refine kind_ok hr hb hx hA (fun c2 => xif_f (by decide) ?_) (fun c2 => xif_t rfl (hf ?_))
    · rw [e3] at c2
      have hfit : fits1 S r.toInt A := Or.inr ⟨c1, c2⟩
      obtain ⟨B, hB, hB2⟩ := hI.fl hA (by omega)
      obtain ⟨C, hC, hC2⟩ := hI.fr hA (by omega)
      refine xif_c (fun c3 => ?_) (fun c3 => ?_)
      · rw [ti_eq, e4] at c3
        refine c_F hr hb (by omega) hx hA fun w hw => ht hfit w ?_ ?_
        · rw [tkv, if_neg c1, if_pos c3, hw]
        · rw [ti_eq, hw, hB, ti_litm6]; omega
      · rw [ti_eq, e4] at c3
        refine c_F hr hb (by omega) hx hA fun w hw => ht hfit w ?_ ?_
        · rw [tkv, if_neg c1, if_neg c3, hw]
        · rw [ti_eq, hw, hC, ti_litm6]; omega
    · rw [e3] at c2
      rintro (z | z)
      · exact c1 z.1
      · exact c2 z.2
theorem c_fromOne (r a : Int32) (hc : cS μ S H K T) (hI : Inv S) (h : cG μ K T Q (sp_fromOne S H r.toInt a.toInt)) : MW G 8 mX8_fromOne [vR (8, 0, 0), vI r, vI a] μ Q := by
  have hP := hc.1.2
  have hF := hc.1.1
  have e4 : (4 : Int32).toInt = 4 := rfl
  have e5 : (5 : Int32).toInt = 5 := rfl
  have e13 : (13 : Int32).toInt = 13 := rfl
  have J : ∀ (Z : xZ) (i : Nat), a.toInt = i → i < S.nl → cG μ K T Q (sp_one S H r.toInt a.toInt) → WS G eX8_fromOne 8 Z Q 35 [vR (8, 0, 0), vI r, vI a, vN] [] μ := by
    intro Z i ha ha2 h
    unfold sp_one at h
    have hi : a.toInt.toNat = i := by omega
    rw [hi] at h
    obtain ⟨A, hA, hA2⟩ := hI.lf ha2
    have hA' : (S.L 0 i).toNat = A := by omega
    rw [hA'] at h
    refine wX8_fromOne_35 (avL_ok hP hI ha ha2 (fun c1 => xif_f (by decide) ?_) (fun c1 => xif_t rfl ?_))
    · refine c_lf hP hI.2.1 ha ha2 fun x hx => taken_ok hF hI (by rw [hx, hA]) hA2 (fun c2 y hy hn => xif_f hn ?_) (fun c2 => xif_t rfl ?_)
      · rw [cif_t ⟨c1, c2⟩, ← hy] at h
        exact c_wr hc hI h
      · rw [cif_f (fun z => c2 z.2)] at h
        exact h _ μ rfl frC.rf hc
    · rw [cif_f (fun z => c1 z.1)] at h
      exact h _ μ rfl frC.rf hc
  unfold sp_fromOne at h
  refine wX8_fromOne fun Z => hasL_ok hP (fun k h1 h2 => xif_f (by decide) ?_) fun z => xif_t rfl ?_
  · rw [cif_t ⟨by omega, by omega⟩] at h
    refine xif_c (fun c1 => J Z k h1 h2 ?_) (fun c1 => xif_c (fun c2 => J Z k h1 h2 ?_) (fun c2 => xif_c (fun c3 => J Z k h1 h2 ?_) (fun c3 => ?_)))
    · rw [ti_eq, e4] at c1; rw [cif_t (Or.inl c1)] at h; exact h
    · rw [ti_eq, e5] at c2; rw [cif_t (Or.inr (Or.inl c2))] at h; exact h
    · rw [ti_eq, e13] at c3; rw [cif_t (Or.inr (Or.inr c3))] at h; exact h
    · rw [ti_eq, e4] at c1; rw [ti_eq, e5] at c2; rw [ti_eq, e13] at c3
      rw [cif_f (by omega)] at h
      exact h _ μ rfl frC.rf hc
  · rw [cif_f z] at h
    exact h _ μ rfl frC.rf hc
theorem disj_ok {x y : Int32} {A f : Nat} (hr : repF μ 0 S) (hI : Inv S) (hx : x.toInt = A) (hy : y.toInt = f) (hf : f < S.nf) (ht : S.F 0 f = 4 ∧ (S.F 1 f = A ∨ S.F 2 f = A) → Q (some (vI 1)) μ) (hn : ¬ (S.F 0 f = 4 ∧ (S.F 1 f = A ∨ S.F 2 f = A)) → Q (some (vI 0)) μ) : MW G (d + 3) mX2_isPartOfDisjunction [vR (2, 0, 0), vI x, vI y] μ Q := by
  have e4 : (4 : Int32).toInt = 4 := rfl
  refine wX2_isPartOfDisjunction (kind_ok hr hI.1 hy hf (fun c1 => xif_f (by decide) ?_) (fun c1 => xif_t rfl ⟨z01, hn fun z => c1 ?_⟩))
  · rw [e4] at c1
    refine c_F hr hI.1 (by omega) hy hf fun w hw => xif_c (fun c2 => ⟨z11, ht ⟨c1, Or.inl ?_⟩⟩) (fun c2 => c_F hr hI.1 (by omega) hy hf fun v hv => xif_c (fun c3 => ⟨z11, ht ⟨c1, Or.inr ?_⟩⟩) (fun c3 => ⟨z01, hn ?_⟩))
    · rw [ti_eq, hw, hx] at c2; exact c2
    · rw [ti_eq, hv, hx] at c3; exact c3
    · rw [ti_eq, hw, hx] at c2; rw [ti_eq, hv, hx] at c3
      rintro ⟨-, z | z⟩
      · exact c2 z
      · exact c3 z
  · rw [e4]; exact z.1
theorem c_toFormula (r a f : Int32) (hc : cS μ S H K T) (hI : Inv S) (h : cG μ K T Q (sp_toFormula S H r.toInt a.toInt f.toInt)) : MW G 8 mX8_toFormula [vR (8, 0, 0), vI r, vI a, vI f] μ Q := by
  have hP := hc.1.2
  have hF := hc.1.1
  have e1 : (1 : Int32).toInt = 1 := rfl
  have e6 : (6 : Int32).toInt = 6 := rfl
  have e12 : (12 : Int32).toInt = 12 := rfl
  have J : ∀ (Z : xZ) (i j : Nat), a.toInt = i → i < S.nl → f.toInt = j → j < S.nf → cG μ K T Q (sp_toF S H r.toInt a.toInt f.toInt) → WS G eX8_toFormula 8 Z Q 45 [vR (8, 0, 0), vI r, vI a, vI f, vN, vN] [] μ := by
    intro Z i j ha ha2 hf hf2 h
    unfold sp_toF at h
    have hi : a.toInt.toNat = i := by omega
    rw [hi] at h
    obtain ⟨A, hA, hA2⟩ := hI.lf ha2
    have hj : f.toInt.toNat = j := by omega
    have J0 : ¬ (avL S i ∧ fitsT S r.toInt (S.L 0 i) f.toInt) → Q (some (vI (-3))) μ := by
      intro hn
      rw [cif_f hn] at h
      exact h _ μ rfl frC.rf hc
    refine wX8_toFormula_45 (avL_ok hP hI ha ha2 (fun c1 => xif_f (by decide) ?_) (fun c1 => xif_t rfl (J0 fun z => c1 z.1)))
    have J1 : fitsT S r.toInt (S.L 0 i) f.toInt → WS G eX8_toFormula 8 Z Q 113 [vR (8, 0, 0), vI r, vI a, vI f, vN, vN] [vI 1] μ := by
      intro hfit
      rw [cif_t ⟨c1, hfit⟩] at h
      exact wX8_toFormula_113 (xif_f (by decide) (c_wr hc hI h))
    have J2 : ¬ fitsT S r.toInt (S.L 0 i) f.toInt → WS G eX8_toFormula 8 Z Q 113 [vR (8, 0, 0), vI r, vI a, vI f, vN, vN] [vI 0] μ := fun hfit => wX8_toFormula_113 (xif_t rfl (J0 fun z => hfit z.2))
    refine c_lf hP hI.2.1 ha ha2 fun x hx => xif_c (fun c2 => ?_) (fun c2 => ?_)
    · rw [ti_eq, e6] at c2
      refine disj_ok hF hI (show x.toInt = A by rw [hx, hA]) hf hf2 (fun c3 => J1 (Or.inl ⟨c2, ?_⟩)) (fun c3 => J2 ?_)
      · rw [hj, hA]; exact c3
      · rintro (z | z)
        · rw [hj, hA] at z; exact c3 z.2
        · exact z.1 c2
    · rw [ti_eq, e6] at c2
      refine kind_ok hF hI.1 (show x.toInt = A by rw [hx, hA]) hA2 (fun c3 => J1 (Or.inr ⟨c2, ?_⟩)) (fun c3 => J2 ?_)
      · rw [hA]; exact c3
      · rintro (z | z)
        · exact c2 z.1
        · rw [hA] at z; exact c3 z.2
  unfold sp_toFormula at h
  refine wX8_toFormula fun Z => hasL_ok hP (fun k h1 h2 => xif_f (by decide) (has_ok hF (fun k' h3 h4 => xif_f (by decide) ?_) fun z => xif_t rfl ?_)) fun z => xif_t rfl ?_
  · rw [cif_t ⟨by omega, by omega⟩, cif_t ⟨by omega, by omega⟩] at h
    refine xif_c (fun c1 => J Z k k' h1 h2 h3 h4 ?_) (fun c1 => xif_c (fun c2 => J Z k k' h1 h2 h3 h4 ?_) (fun c2 => ?_))
    · rw [ti_eq, e6] at c1; rw [cif_t (Or.inl c1)] at h; exact h
    · rw [ti_eq, e12] at c2; rw [cif_t (Or.inr c2)] at h; exact h
    · rw [ti_eq, e6] at c1; rw [ti_eq, e12] at c2
      rw [cif_f (by omega)] at h
      exact h _ μ rfl frC.rf hc
  · rw [cif_t ⟨by omega, by omega⟩, cif_f z] at h
    exact h _ μ rfl frC.rf hc
  · rw [cif_f z] at h
    exact h _ μ rfl frC.rf hc
end
