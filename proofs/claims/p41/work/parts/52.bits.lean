/-! the law's truth; single bits as longs -/
def bL (b : Bool) : Int64 := if b = true then 1 else 0
theorem bL_and : ∀ a b, bL a &&& bL b = bL (a && b) := by decide +kernel
theorem bL_or : ∀ a b, bL a ||| bL b = bL (a || b) := by decide +kernel
theorem bL_not : ∀ a, (1 : Int64) - bL a = bL (!a) := by decide +kernel
theorem bL_i : ∀ a, Int64.toInt32 (bL a) = if a = true then 1 else 0 := by decide +kernel
theorem hb_1 (i : Nat) : hasb 1 i = decide (i = 0) := by
  unfold hasb
  show (1#64).getLsbD i = _
  rw [BitVec.getLsbD_one]
  simp
theorem xlr_0 {a : Int64} {x : Int32} {k : Nat} (hx : x.toInt = k) (hk : k < 64) : hasb (xlr a x) 0 = hasb a k := by
  rw [of_ti hx (by omega)]
  unfold hasb xlr
  rw [Int64.toBitVec_shiftRight, sm64 k hk, BitVec.getLsbD_sshiftRight', tn64 hk]
  simp [hk]
/-- a bit of a long, as a long -/
theorem xlr_b {a : Int64} {x : Int32} {k : Nat} (hx : x.toInt = k) (hk : k < 64) : (xlr a x) &&& 1 = bL (hasb a k) := by
  refine hb_ext fun i hi => ?_
  rw [hb_and, hb_1]
  unfold bL
  by_cases e : i = 0
  · subst e
    rw [xlr_0 hx hk]
    cases hasb a k <;> simp [hb_0, hb_1]
  · cases hasb a k <;> simp [hb_0, hb_1, e]
theorem xls_b {b : Bool} {x : Int32} {k : Nat} (hx : x.toInt = k) (hk : k < 64) (i : Nat) : hasb (xls (bL b) x) i = (b && decide (i = k)) := by
  cases b
  · have : xls (bL false) x = 0 := by
      rw [of_ti hx (by omega)]
      apply Int64.toBitVec_inj.mp
      unfold xls
      rw [Int64.toBitVec_shiftLeft, sm64 k hk]
      show (0#64) <<< (BitVec.ofNat 64 k) = 0#64
      rw [BitVec.shiftLeft_eq', tn64 hk]
      simp
    rw [this, hb_0]
    simp
  · show hasb (xls 1 x) i = _
    rw [hb_one hx hk]
    simp
theorem bL_1 {b : Bool} : lg_cmp (bL b) 1 = 0 ↔ b = true := by
  rw [cmp0]
  cases b <;> decide
theorem bL_0 {b : Bool} : lg_cmp (bL b) 0 = 0 ↔ b = false := by
  rw [cmp0]
  cases b <;> decide
theorem add_bL (v : Int32) (b : Bool) : Int64.toInt32 (Int32.toInt64 v + bL b) = v + (if b = true then 1 else 0) := by
  rw [Int64.toInt32_add, Int32.toInt32_toInt64, bL_i]
theorem atm' : ∀ v, v < 256 → ∀ a, a < 8 → Int32.toInt64 (((nI v) >>> ((nI a) &&& 31)) &&& (1 : Int32)) = bL (Nat.testBit v a) := by decide +kernel
theorem evS_rec {S : aS} (hI : Inv S) (v : Nat) {n : Nat} (hn : n < S.nf) : evS S v n = gE S v (evS S v) n := tab_rec (gE S v) false (gE_cg hI v) hn
section
variable {G : xG} {d : Nat} {μ : xM} {Q : xP} {S : aS}
theorem w_truth {a : Int32} {v : Nat} (hw : repW μ S) (hI : Inv S) (ha : a.toInt = v) (hv : v < 256) (h : ∀ y : Int64, (∀ i, hasb y i = (decide (i < S.nf) && evS S v i)) → Q (some (vL y)) μ) : MW G (d + 1) mL_truth [vR (1, 0, 20), vR (1, 0, 21), vR (1, 0, 22), vR (1, 0, 32), vI a] μ Q := by
  have h60 := hI.1
  have t0 := rt0 hw
  refine wL_truth fun Z => ?_
  refine up_loop (σ := Int64) (fun i y => WS G eL_truth (d + 1) Z Q 6 [vR (1, 0, 20), vR (1, 0, 21), vR (1, 0, 22), vR (1, 0, 32), vI a, vL y, vN, vI (nI i), vN, vN, vN, vN, vN, vN] [] μ) (fun i y => ∀ j, hasb y j = (decide (j < i) && evS S v j)) S.nf ?_ ?_ 0 _ (by omega) (fun j => by rw [hb_0]; simp)
  · intro n y hn hy ih
    have en : (nI n).toInt = n := nI_t (by omega)
    have vin : vp_in (nI n) 60 := ti_in en (by omega)
    have k0 := rF0 hw hI en hn
    have ff := hI.2.2.2.2.1 n hn
    unfold okF at ff
    -- behind the value
    have nxt : ∀ z : Int64, z = bL (evS S v n) → WS G eL_truth (d + 1) Z Q 146 [vR (1, 0, 20), vR (1, 0, 21), vR (1, 0, 22), vR (1, 0, 32), vI a, vL y, vN, vI (nI n), vN, vN, vN, vN, vN, vN] [vL z] μ := by
      intro z hz
      subst hz
      refine wL_truth_146 ?_
      rw [nI_1]
      refine ih _ fun j => ?_
      rw [hb_or, hy, xls_b en (by omega)]
      by_cases e : j = n
      · subst e; simp
      · have : decide (j < n + 1) = decide (j < n) := decide_eq_decide.mpr (by omega)
        simp [e, this]
    have rcE := evS_rec hI v hn
    unfold gE at rcE
    have lo : ∀ m, m < n → hasb y m = evS S v m := fun m hm => by rw [hy, decide_eq_true hm, Bool.true_and]
    have e2 : (2 : Int32).toInt = 2 := rfl
    have e3 : (3 : Int32).toInt = 3 := rfl
    have e4 : (4 : Int32).toInt = 4 := rfl
    -- the second part
    have two : ∀ s1 : Int64, (2 ≤ S.F 0 n → s1 = bL (evS S v (S.F 1 n).toNat)) → WS G eL_truth (d + 1) Z Q 35 [vR (1, 0, 20), vR (1, 0, 21), vR (1, 0, 22), vR (1, 0, 32), vI a, vL y, vN, vI (nI n), vN, vN, vN, vN, vN, vN] [vL s1] μ := by
      intro s1 hs1
      have three : ∀ s2 : Int64, (3 ≤ S.F 0 n → s2 = bL (evS S v (S.F 2 n).toNat)) → WS G eL_truth (d + 1) Z Q 58 [vR (1, 0, 20), vR (1, 0, 21), vR (1, 0, 22), vR (1, 0, 32), vI a, vL y, vN, vI (nI n), vL s1, vN, vN, vN, vN, vN] [vL s2] μ := by
        intro s2 hs2
        refine wL_truth_58 ⟨vin, xif_c (fun c0 => ⟨vin, nxt _ ?_⟩) (fun c0 => ⟨vin, xif_c (fun c1 => nxt _ ?_) (fun c1 => ⟨vin, xif_c (fun c2 => nxt _ ?_) (fun c2 => ⟨vin, xif_c (fun c3 => nxt _ ?_) (fun c3 => ⟨vin, xif_c (fun c4 => nxt _ ?_) (fun c4 => nxt _ ?_)⟩)⟩)⟩)⟩)⟩
        · rw [ti_eq, k0, ti_lit0] at c0
          have a1 : (μ (1, 0, 21) (nI n).toNatClampNeg).toInt = (S.F 1 n).toNat := by rw [(rLf hw en hn).nn (by omega)]; omega
          rw [rcE, if_pos c0, of_ti ha (by omega), of_ti a1 (by omega), atm' v hv _ (by omega)]
        · rw [ti_eq, k0, ti_lit0] at c0
          rw [ti_eq, k0, ti_lit1] at c1
          rw [rcE, if_neg c0, if_pos c1]; rfl
        · rw [ti_eq, k0, ti_lit0] at c0
          rw [ti_eq, k0, ti_lit1] at c1
          rw [ti_eq, k0, e2] at c2
          rw [rcE, if_neg c0, if_neg c1, if_pos c2, hs1 (by omega), bL_not]
        · rw [ti_eq, k0, ti_lit0] at c0
          rw [ti_eq, k0, ti_lit1] at c1
          rw [ti_eq, k0, e2] at c2
          rw [ti_eq, k0, e3] at c3
          rw [rcE, if_neg c0, if_neg c1, if_neg c2, if_pos c3, hs1 (by omega), hs2 (by omega), bL_and]
        · rw [ti_eq, k0, ti_lit0] at c0
          rw [ti_eq, k0, ti_lit1] at c1
          rw [ti_eq, k0, e2] at c2
          rw [ti_eq, k0, e3] at c3
          rw [ti_eq, k0, e4] at c4
          rw [rcE, if_neg c0, if_neg c1, if_neg c2, if_neg c3, if_pos c4, hs1 (by omega), hs2 (by omega), bL_or]
        · rw [ti_eq, k0, ti_lit0] at c0
          rw [ti_eq, k0, ti_lit1] at c1
          rw [ti_eq, k0, e2] at c2
          rw [ti_eq, k0, e3] at c3
          rw [ti_eq, k0, e4] at c4
          rw [rcE, if_neg c0, if_neg c1, if_neg c2, if_neg c3, if_neg c4, hs1 (by omega), hs2 (by omega), bL_not, bL_or]
      refine wL_truth_35 ⟨vin, xif_c (fun c => ⟨vin, three _ fun _ => ?_⟩) (fun c => three _ fun z => ?_)⟩
      · rw [ti_le, k0, e3] at c
        have a2 : (μ (1, 0, 22) (nI n).toNatClampNeg).toInt = (S.F 2 n).toNat := by rw [(rRt hw en hn).nn (by omega)]; omega
        rw [xlr_b a2 (by omega), lo _ (by omega)]
      · rw [ti_le, k0, e3] at c; omega
    refine wL_truth_6 ⟨ti_in l0 (by omega), xif_f (by rw [ti_le, t0, en]; omega) ⟨vin, xif_c (fun c => ⟨vin, two _ fun _ => ?_⟩) (fun c => two _ fun z => ?_)⟩⟩
    · rw [ti_le, k0, e2] at c
      have a1 : (μ (1, 0, 21) (nI n).toNatClampNeg).toInt = (S.F 1 n).toNat := by rw [(rLf hw en hn).nn (by omega)]; omega
      rw [xlr_b a1 (by omega), lo _ (by omega)]
    · rw [ti_le, k0, e2] at c; omega
  · intro y hy
    have en : (nI S.nf).toInt = S.nf := nI_t (by omega)
    exact wL_truth_6 ⟨ti_in l0 (by omega), xif_t (by rw [ti_le, t0, en]; omega) (h y hy)⟩
end
