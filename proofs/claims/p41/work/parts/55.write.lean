/-! the law's write -/
theorem x23 (μ : xM) (k : Nat) (v : Int32) : xst μ (1, 0, 23) k v (1, 0, 32) = μ (1, 0, 32) := by funext i; simp [xst_rd]
theorem x24 (μ : xM) (k : Nat) (v : Int32) : xst μ (1, 0, 24) k v (1, 0, 32) = μ (1, 0, 32) := by funext i; simp [xst_rd]
theorem x25 (μ : xM) (k : Nat) (v : Int32) : xst μ (1, 0, 25) k v (1, 0, 32) = μ (1, 0, 32) := by funext i; simp [xst_rd]
theorem x26 (μ : xM) (k : Nat) (v : Int32) : xst μ (1, 0, 26) k v (1, 0, 32) = μ (1, 0, 32) := by funext i; simp [xst_rd]
theorem x27 (μ : xM) (k : Nat) (v : Int32) : xst μ (1, 0, 27) k v (1, 0, 32) = μ (1, 0, 32) := by funext i; simp [xst_rd]
theorem x28 (μ : xM) (k : Nat) (v : Int32) : xst μ (1, 0, 28) k v (1, 0, 32) = μ (1, 0, 32) := by funext i; simp [xst_rd]
theorem x29 (μ : xM) (k : Nat) (v : Int32) : xst μ (1, 0, 29) k v (1, 0, 32) = μ (1, 0, 32) := by funext i; simp [xst_rd]
theorem x30 (μ : xM) (k : Nat) (v : Int32) : xst μ (1, 0, 30) k v (1, 0, 32) = μ (1, 0, 32) := by funext i; simp [xst_rd]
theorem x31 (μ : xM) (k : Nat) (v : Int32) : xst μ (1, 0, 31) k v (1, 0, 32) = μ (1, 0, 32) := by funext i; simp [xst_rd]
section
variable {G : xG} {d : Nat} {μ : xM} {Q : xP} {S : aS}
/-- words behind the last line say nothing -/
theorem repW.tail {μ' : xM} (hw : repW μ S) (e : ∀ c, 20 ≤ c → c < 33 → (c < 23 ∨ 29 ≤ c) → μ' (1, 0, c) = μ (1, 0, c)) (e2 : ∀ c, c < 6 → ∀ l, l ≠ S.nl → μ' (1, 0, 23 + c) l = μ (1, 0, 23 + c) l) : repW μ' S := by
  obtain ⟨h1, h2, h3, h4⟩ := hw
  refine ⟨by rw [e 32 (by omega) (by omega) (by omega)]; exact h1, fun c hc f hf => ?_, fun c hc f hf => ?_, fun c hc f hf => ?_⟩
  · rw [e _ (by omega) (by omega) (by omega)]; exact h2 c hc f hf
  · rw [e2 c hc f (by omega)]; exact h3 c hc f hf
  · rw [e _ (by omega) (by omega) (by omega)]; exact h4 c hc f hf
theorem repW_addL {μ' : xM} {f r a b c : Int} (hw : repW μ S) (h0 : μ' (1, 0, 32) 0 = μ (1, 0, 32) 0) (h1 : (μ' (1, 0, 32) 1).toInt = (S.nl : Int) + 1) (h2 : μ' (1, 0, 32) 2 = μ (1, 0, 32) 2) (ho : ∀ k, k < 6 → ∀ l, l ≠ S.nl → μ' (1, 0, 23 + k) l = μ (1, 0, 23 + k) l) (n0 : E (μ' (1, 0, 23) S.nl).toInt f) (n1 : E (μ' (1, 0, 24) S.nl).toInt r) (n2 : E (μ' (1, 0, 25) S.nl).toInt a) (n3 : E (μ' (1, 0, 26) S.nl).toInt b) (n4 : E (μ' (1, 0, 27) S.nl).toInt c) (n5 : E (μ' (1, 0, 28) S.nl).toInt S.inn) (hl : ∀ c, 20 ≤ c → c < 32 → (c < 23 ∨ 29 ≤ c) → μ' (1, 0, c) = μ (1, 0, c)) : repW μ' (addL S f r a b c) := by
  obtain ⟨⟨a1, a2, a3⟩, a4, a5, a6⟩ := hw
  refine ⟨⟨by rw [h0]; exact a1, by rw [addL_nl, h1]; omega, by rw [h2]; exact a3⟩, fun k hk x hx => ?_, fun k hk x hx => ?_, fun k hk x hx => ?_⟩
  · rw [hl _ (by omega) (by omega) (by omega)]; exact a4 k hk x hx
  · rw [addL_nl] at hx
    rw [addL_L]
    by_cases hxn : x = S.nl
    · subst hxn
      rw [if_pos rfl]
      rcases (show k = 0 ∨ k = 1 ∨ k = 2 ∨ k = 3 ∨ k = 4 ∨ k = 5 by omega) with rfl | rfl | rfl | rfl | rfl | rfl
      · exact n0
      · exact n1
      · exact n2
      · exact n3
      · exact n4
      · exact n5
    · rw [if_neg hxn, ho k hk x hxn]
      exact a5 k hk x (by omega)
  · rw [hl _ (by omega) (by omega) (by omega)]; exact a6 k hk x hx
theorem w_writeW {f r n : Int32} {ff rr a b c : Int} {A B C : Nat} (hw : repW μ S) (hb48 : S.nb ≤ 48) (hin : S.inn = latO S S.nb) (hlt : S.nl < 48) (hf : E f.toInt ff) (hr : E r.toInt rr) (hn : n.toInt = (A + 100 * B + 10000 * C : Nat)) (hA : A < 100) (hB : B < 100) (hC : C < 100) (ea : E ((A : Int) - 1) a) (eb : E ((B : Int) - 1) b) (ec : E ((C : Int) - 1) c)
    (h : ∀ (x : Int32) (μ' : xM), x.toInt = S.nl → frM μ μ' → repW μ' (addL S ff rr a b c) → Q (some (vI x)) μ') : MW G (d + 2) mL_write [vR (1, 0, 23), vR (1, 0, 24), vR (1, 0, 25), vR (1, 0, 26), vR (1, 0, 27), vR (1, 0, 28), vR (1, 0, 30), vR (1, 0, 32), vI f, vI r, vI n] μ Q := by
  have t1 := rt1 hw
  have e100 : (100 : Int32).toInt = 100 := rfl
  have e10000 : (10000 : Int32).toInt = 10000 := rfl
  have en : (μ (1, 0, 32) (1 : Int32).toNatClampNeg).toNatClampNeg = S.nl := ti_cl' t1
  have vin : vp_in (μ (1, 0, 32) (1 : Int32).toNatClampNeg) 48 := ti_in t1 hlt
  have z1 : (1 : Int32).toNatClampNeg = 1 := rfl
  have hn0 : 0 ≤ n.toInt := by omega
  have d1 := ti_div hn0 (show 0 < (100 : Int32).toInt by decide)
  have d2 := ti_div hn0 (show 0 < (10000 : Int32).toInt by decide)
  have d1' : (n / 100).toInt = (B + 100 * C : Nat) := by rw [d1, e100, hn]; omega
  have d2' : (n / 10000).toInt = (C : Nat) := by rw [d2, e10000, hn]; omega
  have r1 := ti_rem hn0 (show 0 < (100 : Int32).toInt by decide)
  have r1' : (n - n / 100 * 100).toInt = (A : Nat) := by rw [r1, e100, hn]; omega
  have r2 := ti_rem (x := n / 100) (y := 100) (by rw [d1']; omega) (by decide)
  have r2' : (n / 100 - n / 100 / 100 * 100).toInt = (B : Nat) := by rw [r2, e100, d1']; omega
  clear r1 r2 d1 d2
  have wa : (n - n / 100 * 100 - 1).toInt = (A : Int) - 1 := by rw [ti_sub (by rw [r1', ti_lit1]; omega) (by rw [r1', ti_lit1]; omega), r1', ti_lit1]
  have wb : (n / 100 - n / 100 / 100 * 100 - 1).toInt = (B : Int) - 1 := by rw [ti_sub (by rw [r2', ti_lit1]; omega) (by rw [r2', ti_lit1]; omega), r2', ti_lit1]
  have wc : (n / 10000 - 1).toInt = (C : Int) - 1 := by rw [ti_sub (by rw [d2', ti_lit1]; omega) (by rw [d2', ti_lit1]; omega), d2', ti_lit1]
  clear r1' r2' d1' d2'
  refine wL_write ⟨ti_in l1 (by omega), vin, vin, by decide, vin, by decide, by decide, vin, by decide, vin, ?_⟩
  rw [en]
  rw [← wa] at ea
  rw [← wb] at eb
  rw [← wc] at ec
  generalize n - n / 100 * 100 - 1 = va at ea ⊢
  generalize n / 100 - n / 100 / 100 * 100 - 1 = vb at eb ⊢
  generalize n / 10000 - 1 = vc at ec ⊢
  refine w_latestW (S := S) (hw.tail (fun c h1 h2 h3 => ?_) (fun c hc l hl => ?_)) hb48 fun x hx => ?_
  · funext i
    have a3 : ¬ c = 23 := by omega
    have a4 : ¬ c = 24 := by omega
    have a5 : ¬ c = 25 := by omega
    have a6 : ¬ c = 26 := by omega
    have a7 : ¬ c = 27 := by omega
    simp [xst_rd, a3, a4, a5, a6, a7]
  · simp [xst_rd, hl]
  show _ ∧ _ ∧ _ ∧ _
  rw [← hin] at hx
  simp only [x23, x24, x25, x26, x27, x28]
  have ep : (μ (1, 0, 32) 1 + 1).toInt = (S.nl : Int) + 1 := by
    rw [z1] at t1
    rw [ti_add (by rw [t1, ti_lit1]; omega) (by rw [t1, ti_lit1]; omega), t1, ti_lit1]
  refine ⟨vin, ti_in l1 (by omega), ti_in l1 (by omega), h _ _ t1 ?_ ?_⟩
  · exact ((((((frM_xst (by omega)).tr (frM_xst (by omega))).tr (frM_xst (by omega))).tr (frM_xst (by omega))).tr (frM_xst (by omega))).tr (frM_xst (by omega))).tr (frM_xst (by omega))
  · rw [z1]
    refine repW_addL hw ?_ ?_ ?_ (fun k hk l hl => ?_) ?_ ?_ ?_ ?_ ?_ ?_ (fun c h1 h2 h3 => ?_)
    · simp [xst_rd]
    · rw [xself, ep]
    · simp [xst_rd]
    · have : ¬ (23 + k = 32) := by omega
      simp [xst_rd, hl, this]
    · simp [xst_rd, hf]
    · simp [xst_rd, hr]
    · simp [xst_rd, ea]
    · simp [xst_rd, eb]
    · simp [xst_rd, ec]
    · simp [xst_rd, hx]
    · funext i
      have a3 : ¬ c = 23 := by omega
      have a4 : ¬ c = 24 := by omega
      have a5 : ¬ c = 25 := by omega
      have a6 : ¬ c = 26 := by omega
      have a7 : ¬ c = 27 := by omega
      have a8 : ¬ c = 28 := by omega
      have a9 : ¬ c = 32 := by omega
      simp [xst_rd, a3, a4, a5, a6, a7, a8, a9]
theorem w_write {f r n : Int32} {ff rr a b c : Int} {A B C : Nat} (hw : repW μ S) (hI : Inv S) (hlt : S.nl < 48) (hf : E f.toInt ff) (hr : E r.toInt rr) (hn : n.toInt = (A + 100 * B + 10000 * C : Nat)) (hA : A < 100) (hB : B < 100) (hC : C < 100) (ea : E ((A : Int) - 1) a) (eb : E ((B : Int) - 1) b) (ec : E ((C : Int) - 1) c)
    (h : ∀ (x : Int32) (μ' : xM), x.toInt = S.nl → frM μ μ' → repW μ' (addL S ff rr a b c) → Q (some (vI x)) μ') : MW G (d + 2) mL_write [vR (1, 0, 23), vR (1, 0, 24), vR (1, 0, 25), vR (1, 0, 26), vR (1, 0, 27), vR (1, 0, 28), vR (1, 0, 30), vR (1, 0, 32), vI f, vI r, vI n] μ Q := w_writeW hw hI.bd.2.2 hI.2.2.2.1 hlt hf hr hn hA hB hC ea eb ec h
end
