/-! the law's check of the formulas: it answers 1 -/
theorem ieq {x y : Int32} {v : Int} (hx : x.toInt = v) (hy : y.toInt = v) : x = y := Int32.toInt_inj.mp (hx.trans hy.symm)
section
variable {G : xG} {d : Nat} {μ : xM} {Q : xP} {S : aS} {H : List aS} {K : Option aS} {T : aT}
theorem w_formulas {a : Int32} (hc : cS μ S H K T) (hw : repW μ S) (hI : Inv S) (h : ∀ μ' : xM, (∀ q, q ≠ (1, 0, 13) → μ' q = μ q) → Q (some (vI 1)) μ') : MW G (d + 5) mL_formulas [vR (8, 0, 0), vR (1, 0, 20), vR (1, 0, 21), vR (1, 0, 22), vR (1, 0, 32), vI a] μ Q := by
  have h60 := hI.1
  have t0 := rt0 hw
  have e1 : (1 : Int32).toInt = 1 := rfl
  have e2 : (2 : Int32).toInt = (2 : Nat) := rfl
  have e3 : (3 : Int32).toInt = 3 := rfl
  have e256 : (256 : Int32).toInt = 256 := rfl
  refine wL_formulas fun Z => ?_
  refine up_loop (σ := Unit) (fun i _ => WS G eL_formulas (d + 5) Z Q 3 [vR (8, 0, 0), vR (1, 0, 20), vR (1, 0, 21), vR (1, 0, 22), vR (1, 0, 32), vI a, vI (nI i), vN, vN, vN] [] μ) (fun _ _ => True) S.nf ?_ ?_ 0 () (by omega) trivial
  · intro n _ hn _ ih
    have ih := ih () trivial
    have en : (nI n).toInt = n := nI_t (by omega)
    have vin : vp_in (nI n) 60 := ti_in en (by omega)
    have k0 := rF0 hw hI en hn
    have ff := hI.2.2.2.2.1 n hn
    unfold okF at ff
    rw [← nI_1] at ih
    -- the right part, then the next one
    have three : MW G (d + 4) mX8_part [vR (8, 0, 0), vI (nI n), vI (2 : Int32)] μ (xrI fun x10 μ9 => vp_in (nI n) 60 ∧ xif ((3 : Int32) ≤ (μ9 (1, 0, 20) (nI n).toNatClampNeg)) (vp_in (nI n) 60 ∧ xif (x10 = (μ9 (1, 0, 22) (nI n).toNatClampNeg)) (WS G eL_formulas (d + 5) Z Q 3 [vR (8, 0, 0), vR (1, 0, 20), vR (1, 0, 21), vR (1, 0, 22), vR (1, 0, 32), vI a, vI ((nI n) + (1 : Int32)), vN, vN, vN] [] μ9) (((0 : Int32) = 0 ∨ (0 : Int32) = 1) ∧ Q (some (vI (0 : Int32))) μ9)) (xif (x10 = (-6 : Int32)) (WS G eL_formulas (d + 5) Z Q 3 [vR (8, 0, 0), vR (1, 0, 20), vR (1, 0, 21), vR (1, 0, 22), vR (1, 0, 32), vI a, vI ((nI n) + (1 : Int32)), vN, vN, vN] [] μ9) (((0 : Int32) = 0 ∨ (0 : Int32) = 1) ∧ Q (some (vI (0 : Int32))) μ9))) := by
      refine k_part hc hI en hn e2 (by omega) fun y hy => ⟨vin, xif_c (fun c => ⟨vin, xif_t ?_ ih⟩) (fun c => xif_t ?_ ih)⟩
      · rw [ti_le, k0, e3] at c
        exact ieq hy ((rRt hw en hn).nn (by omega))
      · rw [ti_le, k0, e3] at c
        exact ieq hy (by rw [ti_litm6]; omega)
    refine wL_formulas_3 ⟨ti_in l0 (by omega), xif_f (by rw [ti_le, t0, en]; omega) ?_⟩
    refine k_part hc hI en hn l0 (by omega) fun x hx => ⟨vin, xif_t (ieq hx k0) ?_⟩
    refine k_part hc hI en hn l1 (by omega) fun y hy => ⟨vin, xif_c (fun c => ?_) (fun c => ⟨vin, xif_t ?_ three⟩)⟩
    · rw [ti_eq, k0, e1] at c
      exact xif_t (ieq hy (by rw [ti_litm6]; omega)) three
    · rw [ti_eq, k0, e1] at c
      exact ieq hy ((rLf hw en hn).nn (by omega))
  · intro _ _
    have en : (nI S.nf).toInt = S.nf := nI_t (by omega)
    refine wL_formulas_3 ⟨ti_in l0 (by omega), xif_t (by rw [ti_le, t0, en]; omega) ?_⟩
    refine w_low (by decide) fun v hv0 hv1 => ?_
    rw [e256] at hv1
    obtain ⟨vv, hvv, hvl⟩ : ∃ k : Nat, v.toInt = k ∧ k < 256 := ⟨v.toInt.toNat, by omega, by omega⟩
    refine w_truth hw hI hvv hvl fun y hy => ?_
    refine up_loop (σ := xM) (fun i m => WS G eL_formulas (d + 5) Z Q 113 [vR (8, 0, 0), vN, vN, vN, vR (1, 0, 32), vN, vI v, vL y, vN, vI (nI i)] [] m) (fun _ m => ∀ q, q ≠ (1, 0, 13) → m q = μ q) S.nf ?_ ?_ 0 μ (by omega) (fun _ _ => rfl)
    · intro n m hn hm ih
      have en : (nI n).toInt = n := nI_t (by omega)
      have hcm := (hc.sc13 (by omega) hm).2
      have t0 := rt0 (hw.sc13 hm)
      refine wL_formulas_113 ⟨ti_in l0 (by omega), xif_f (by rw [ti_le, t0, en]; omega) ?_⟩
      refine k_isTrue hcm hI en hn hvv hvl fun x m' hx he hc' => xif_t ?_ ?_
      · rw [xlr_b en (by omega), hy, decide_eq_true hn, Bool.true_and, bL_i]
        refine ieq hx ?_
        cases evS S vv n <;> rfl
      · rw [nI_1]
        exact ih m' fun q hq => (he q hq).trans (hm q hq)
    · intro m hm
      have en : (nI S.nf).toInt = S.nf := nI_t (by omega)
      have hcm := (hc.sc13 (by omega) hm).2
      have t0 := rt0 (hw.sc13 hm)
      refine wL_formulas_113 ⟨ti_in l0 (by omega), xif_t (by rw [ti_le, t0, en]; omega) ?_⟩
      refine k_formulas hcm fun x hx => ⟨ti_in l0 (by omega), xif_t (ieq hx t0) ⟨ti_in l0 (by omega), ?_⟩⟩
      exact k_noPart hcm t0 (xif_t rfl ⟨z11, h m hm⟩)
end
