/-! lines and boxes: reading, availability, writing a line -/
def noo (S : aS) (x : Int) : Prop := x = -6 ∨ S.B 1 x.toNat = -6
def avL (S : aS) (l : Nat) : Prop := noo S (S.L 5 l)
def avB (S : aS) (b : Nat) : Prop := ¬ S.B 1 b = -6 ∧ noo S (S.B 2 b)
def okX (S : aS) (x : Int) : Prop := x = -6 ∨ (0 ≤ x ∧ x < S.nb)
def addL (S : aS) (f r a b c : Int) : aS := ((S.nf, S.nl + 1, S.nb, S.inn), S.F, fun k l => if l = S.nl then (if k = 0 then f else if k = 1 then r else if k = 2 then a else if k = 3 then b else if k = 4 then c else S.inn) else S.L k l, S.B)
theorem addL_L (S : aS) (f r a b c : Int) (k l : Nat) : (addL S f r a b c).L k l = if l = S.nl then (if k = 0 then f else if k = 1 then r else if k = 2 then a else if k = 3 then b else if k = 4 then c else S.inn) else S.L k l := rfl
theorem addL_nl (S : aS) (f r a b c : Int) : (addL S f r a b c).nl = S.nl + 1 := rfl
theorem Inv.home {S : aS} (h : Inv S) {l : Nat} (hl : l < S.nl) : okX S (S.L 5 l) := by
  rcases (h.2.2.2.2.2.1 l hl).2.2.2 with z | z
  · exact Or.inl z
  · exact Or.inr ⟨z.1, z.2.1⟩
theorem Inv.par {S : aS} (h : Inv S) {b : Nat} (hb : b < S.nb) : S.B 2 b = -6 ∨ (0 ≤ S.B 2 b ∧ S.B 2 b < b) := by
  obtain ⟨dp, h7⟩ := h.2.2.2.2.2.2.1
  rcases (h7 b hb).2.2.2.2.2.2.2 with z | z
  · exact Or.inl z.1
  · exact Or.inr ⟨z.1, z.2.1⟩
theorem Inv.parX {S : aS} (h : Inv S) {b : Nat} (hb : b < S.nb) : okX S (S.B 2 b) := by
  rcases h.par hb with z | z
  · exact Or.inl z
  · exact Or.inr ⟨z.1, by omega⟩
theorem latO_ok (S : aS) : ∀ n, latO S n = -6 ∨ ∃ b : Nat, latO S n = b ∧ b < n ∧ S.B 1 b = -6
  | 0 => Or.inl rfl
  | n + 1 => by
    unfold latO
    split
    · rename_i h; exact Or.inr ⟨n, rfl, by omega, h⟩
    · rcases latO_ok S n with h | ⟨b, h1, h2, h3⟩
      · exact Or.inl h
      · exact Or.inr ⟨b, h1, by omega, h3⟩
/-- an open box's parent is none, or open -/
theorem Inv.openPar {S : aS} (h : Inv S) {b : Nat} (hb : b < S.nb) (ho : S.B 1 b = -6) : noo S (S.B 2 b) := by
  obtain ⟨dp, h7⟩ := h.2.2.2.2.2.2.1
  rw [noo, (h7 b hb).2.2.2.2.1 ho]
  rcases latO_ok S b with z | ⟨b', h1, h2, h3⟩
  · exact Or.inl z
  · rw [h1]; exact Or.inr h3
section
variable {G : xG} {d j : Nat} {μ : xM} {Q : xP} {S : aS}
theorem hasL_ok {l : Int32} (hr : repP μ j S) (ht : ∀ k : Nat, l.toInt = k → k < S.nl → Q (some (vI 1)) μ) (hf : ¬ (0 ≤ l.toInt ∧ l.toInt < S.nl) → Q (some (vI 0)) μ) : MW G (d + 1) mX4_hasLine [vR (3, j, 0), vI l] μ Q := by
  refine wX4_hasLine (xif_c (fun c1 => ⟨z01, hf ?_⟩) fun c1 => xif_c (fun c2 => ⟨z01, hf ?_⟩) fun c2 => ⟨z11, ht l.toInt.toNat ?_ ?_⟩)
  all_goals simp only [ti_lt, ti_le, hr.1, ti_lit0] at *
  all_goals omega
theorem hasB_ok {b : Int32} (hr : repP μ j S) (ht : ∀ k : Nat, b.toInt = k → k < S.nb → Q (some (vI 1)) μ) (hf : ¬ (0 ≤ b.toInt ∧ b.toInt < S.nb) → Q (some (vI 0)) μ) : MW G (d + 1) mX4_hasBox [vR (3, j, 0), vI b] μ Q := by
  refine wX4_hasBox (xif_c (fun c1 => ⟨z01, hf ?_⟩) fun c1 => xif_c (fun c2 => ⟨z01, hf ?_⟩) fun c2 => ⟨z11, ht b.toInt.toNat ?_ ?_⟩)
  all_goals simp only [ti_lt, ti_le, hr.2.1, ti_lit0] at *
  all_goals omega
theorem full_ok (hr : repP μ j S) (ht : ¬ S.nl < 48 → Q (some (vI 1)) μ) (hf : S.nl < 48 → Q (some (vI 0)) μ) : MW G (d + 1) mX4_isFull [vR (3, j, 0)] μ Q := by
  have e48 : (48 : Int32).toInt = 48 := rfl
  refine wX4_isFull (xif_c (fun c1 => ⟨z01, hf ?_⟩) fun c1 => ⟨z11, ht ?_⟩)
  all_goals simp only [ti_lt, hr.1, e48] at *
  all_goals omega
theorem c_lf {l : Int32} {k : Nat} (hr : repP μ j S) (hb : S.nl ≤ 48) (hl : l.toInt = k) (hk : k < S.nl) (h : ∀ x : Int32, x.toInt = S.L 0 k → Q (some (vI x)) μ) : MW G (d + 1) mX5_get [vR (0, j, 3), vI l] μ Q := get_in hl (by simp [xlenc]; omega) (h _ (hr.2.2.2.1 0 (by omega) k hk))
theorem c_ru {l : Int32} {k : Nat} (hr : repP μ j S) (hb : S.nl ≤ 48) (hl : l.toInt = k) (hk : k < S.nl) (h : ∀ x : Int32, x.toInt = S.L 1 k → Q (some (vI x)) μ) : MW G (d + 1) mX5_get [vR (0, j, 4), vI l] μ Q := get_in hl (by simp [xlenc]; omega) (h _ (hr.2.2.2.1 1 (by omega) k hk))
theorem c_ho {l : Int32} {k : Nat} (hr : repP μ j S) (hb : S.nl ≤ 48) (hl : l.toInt = k) (hk : k < S.nl) (h : ∀ x : Int32, x.toInt = S.L 5 k → Q (some (vI x)) μ) : MW G (d + 1) mX5_get [vR (0, j, 5), vI l] μ Q := get_in hl (by simp [xlenc]; omega) (h _ (hr.2.2.2.1 5 (by omega) k hk))
theorem c_r0 {l : Int32} {k : Nat} (hr : repP μ j S) (hb : S.nl ≤ 48) (hl : l.toInt = k) (hk : k < S.nl) (h : ∀ x : Int32, x.toInt = S.L 2 k → Q (some (vI x)) μ) : MW G (d + 1) mX5_get [vR (0, j, 6), vI l] μ Q := get_in hl (by simp [xlenc]; omega) (h _ (hr.2.2.2.1 2 (by omega) k hk))
theorem c_r1 {l : Int32} {k : Nat} (hr : repP μ j S) (hb : S.nl ≤ 48) (hl : l.toInt = k) (hk : k < S.nl) (h : ∀ x : Int32, x.toInt = S.L 3 k → Q (some (vI x)) μ) : MW G (d + 1) mX5_get [vR (0, j, 7), vI l] μ Q := get_in hl (by simp [xlenc]; omega) (h _ (hr.2.2.2.1 3 (by omega) k hk))
theorem c_r2 {l : Int32} {k : Nat} (hr : repP μ j S) (hb : S.nl ≤ 48) (hl : l.toInt = k) (hk : k < S.nl) (h : ∀ x : Int32, x.toInt = S.L 4 k → Q (some (vI x)) μ) : MW G (d + 1) mX5_get [vR (0, j, 8), vI l] μ Q := get_in hl (by simp [xlenc]; omega) (h _ (hr.2.2.2.1 4 (by omega) k hk))
theorem c_st {l : Int32} {k : Nat} (hr : repP μ j S) (hb : S.nb ≤ 48) (hl : l.toInt = k) (hk : k < S.nb) (h : ∀ x : Int32, x.toInt = S.B 0 k → Q (some (vI x)) μ) : MW G (d + 1) mX5_get [vR (0, j, 9), vI l] μ Q := get_in hl (by simp [xlenc]; omega) (h _ (hr.2.2.2.2 0 (by omega) k hk))
theorem c_en {l : Int32} {k : Nat} (hr : repP μ j S) (hb : S.nb ≤ 48) (hl : l.toInt = k) (hk : k < S.nb) (h : ∀ x : Int32, x.toInt = S.B 1 k → Q (some (vI x)) μ) : MW G (d + 1) mX5_get [vR (0, j, 10), vI l] μ Q := get_in hl (by simp [xlenc]; omega) (h _ (hr.2.2.2.2 1 (by omega) k hk))
theorem c_pa {l : Int32} {k : Nat} (hr : repP μ j S) (hb : S.nb ≤ 48) (hl : l.toInt = k) (hk : k < S.nb) (h : ∀ x : Int32, x.toInt = S.B 2 k → Q (some (vI x)) μ) : MW G (d + 1) mX5_get [vR (0, j, 11), vI l] μ Q := get_in hl (by simp [xlenc]; omega) (h _ (hr.2.2.2.2 2 (by omega) k hk))
theorem noo_ok {x : Int32} (hr : repP μ j S) (hb : S.nb ≤ 48) (hx : okX S x.toInt) (ht : noo S x.toInt → Q (some (vI 1)) μ) (hf : ¬ noo S x.toInt → Q (some (vI 0)) μ) : MW G (d + 2) mX4_isNoneOrOpen [vR (3, j, 0), vI x] μ Q := by
  refine wX4_isNoneOrOpen (hasB_ok hr (fun k h1 h2 => xif_f (by decide) (c_en hr hb h1 h2 fun y hy => ?_)) fun z => xif_t rfl ⟨z11, ht ?_⟩)
  · refine xif_c (fun c1 => ⟨z11, ht (Or.inr ?_)⟩) (fun c1 => ⟨z01, hf ?_⟩)
    · rw [ti_eq, hy, ti_litm6] at c1
      rw [h1]; exact c1
    · rw [ti_eq, hy, ti_litm6] at c1
      rintro (z | z)
      · omega
      · rw [h1] at z; exact c1 z
  · rcases hx with q | q
    · exact Or.inl q
    · exact absurd q z
theorem avL_ok {l : Int32} {k : Nat} (hr : repP μ j S) (hI : Inv S) (hl : l.toInt = k) (hk : k < S.nl) (ht : avL S k → Q (some (vI 1)) μ) (hf : ¬ avL S k → Q (some (vI 0)) μ) : MW G (d + 3) mX4_isLineAvailable [vR (3, j, 0), vI l] μ Q := by
  have hbd := hI.bd
  refine wX4_isLineAvailable (c_ho hr hbd.2.1 hl hk fun x hx => noo_ok hr hbd.2.2 (by rw [hx]; exact hI.home hk) (fun z => ⟨z11, ht ?_⟩) (fun z => ⟨z01, hf ?_⟩))
  · rw [hx] at z; exact z
  · rw [hx] at z; exact z
theorem avB_ok {b : Int32} {k : Nat} (hr : repP μ j S) (hI : Inv S) (hl : b.toInt = k) (hk : k < S.nb) (ht : avB S k → Q (some (vI 1)) μ) (hf : ¬ avB S k → Q (some (vI 0)) μ) : MW G (d + 3) mX4_isBoxAvailable [vR (3, j, 0), vI b] μ Q := by
  have hbd := hI.bd
  refine wX4_isBoxAvailable (c_en hr hbd.2.2 hl hk fun x hx => xif_c (fun c1 => ⟨z01, hf fun z => z.1 ?_⟩) fun c1 => c_pa hr hbd.2.2 hl hk fun y hy => noo_ok hr hbd.2.2 (by rw [hy]; exact hI.parX hk) (fun z => xif_f (by decide) ⟨z11, ht ⟨?_, ?_⟩⟩) (fun z => xif_t rfl ⟨z01, hf fun q => z ?_⟩))
  · rw [ti_eq, hx, ti_litm6] at c1; exact c1
  · rw [ti_eq, hx, ti_litm6] at c1; exact c1
  · rw [hy] at z; exact z
  · rw [hy]; exact q.2
theorem addLine_ok {r f a b c : Int32} (hr : repP μ j S) (hb : bdS S) (hl : S.nl < 48) (h : ∀ (x : Int32) (μ' : xM), x.toInt = S.nl → (∀ q, ¬ ownP j q → μ' q = μ q) → repP μ' j (addL S f.toInt r.toInt a.toInt b.toInt c.toInt) → Q (some (vI x)) μ') : MW G (d + 2) mX4_addLine [vR (3, j, 0), vI r, vI f, vI a, vI b, vI c] μ Q := by
  obtain ⟨h1, h2, h3, h4, h5⟩ := hr
  refine wX4_addLine (set_in h1 (by simp [xlenc]; omega) (set_in h1 (by simp [xlenc]; omega) (set_in h1 (by simp [xlenc]; omega) (set_in h1 (by simp [xlenc]; omega) (set_in h1 (by simp [xlenc]; omega) (set_in h1 (by simp [xlenc]; omega) (h _ _ h1 (fun q hq => ?_) ⟨?_, ?_, ?_, fun k hk l hl' => ?_, fun k hk x hx => ?_⟩)))))))
  · funext i
    have n1 : ∀ c, 3 ≤ c → c < 12 → ¬ q = (1, j, c) := fun c hc hc2 e => hq (Or.inr (by rw [e]; exact ⟨rfl, rfl, hc, hc2⟩))
    have n2 : ¬ q = (3, j, 0) := fun e => hq (Or.inl e)
    simp [xst_rd, n1 3 (by omega) (by omega), n1 4 (by omega) (by omega), n1 5 (by omega) (by omega), n1 6 (by omega) (by omega), n1 7 (by omega) (by omega), n1 8 (by omega) (by omega), n2]
  · have e1 : (μ (3, j, 0) 0 + 1).toInt = (S.nl : Int) + 1 := by
      rw [ti_add (by rw [h1, ti_lit1]; omega) (by rw [h1, ti_lit1]; omega), h1, ti_lit1]
    rw [addL_nl]
    simp [xst_rd, e1]
  · simp [xst_rd]; exact h2
  · simp [xst_rd]; exact h3
  · rw [addL_L]
    rw [addL_nl] at hl'
    by_cases hln : l = S.nl
    · subst hln
      rcases (show k = 0 ∨ k = 1 ∨ k = 2 ∨ k = 3 ∨ k = 4 ∨ k = 5 by omega) with rfl | rfl | rfl | rfl | rfl | rfl <;> simp [xst_rd, lcol]
      exact h3
    · have hx := h4 k hk l (by omega)
      rcases (show k = 0 ∨ k = 1 ∨ k = 2 ∨ k = 3 ∨ k = 4 ∨ k = 5 by omega) with rfl | rfl | rfl | rfl | rfl | rfl <;> simpa [xst_rd, lcol, hln] using hx
  · have := h5 k hk x hx
    show _ = S.B k x
    rcases (show k = 0 ∨ k = 1 ∨ k = 2 by omega) with rfl | rfl | rfl <;> simpa [xst_rd] using this
-- the model
theorem m_isL {l : Int32} (hr : repR (μ (1, 0, 20)) S) (ht : ∀ k : Nat, l.toInt = k → k < S.nl → Q (some (vI 1)) μ) (hf : ¬ (0 ≤ l.toInt ∧ l.toInt < S.nl) → Q (some (vI 0)) μ) : MW G (d + 1) mX9_isLine [vR (9, 0, 0), vI l] μ Q := by
  refine wX9_isLine (xif_c (fun c1 => ⟨z01, hf ?_⟩) fun c1 => ⟨ti_in l1 (by omega), xif_c (fun c2 => ⟨z01, hf ?_⟩) fun c2 => ⟨z11, ht l.toInt.toNat ?_ ?_⟩⟩)
  all_goals simp only [ti_lt, ti_le, ti_lit0, ti_cl' l1, hr.2.1] at *
  all_goals omega
theorem m_isB {b : Int32} (hr : repR (μ (1, 0, 20)) S) (ht : ∀ k : Nat, b.toInt = k → k < S.nb → Q (some (vI 1)) μ) (hf : ¬ (0 ≤ b.toInt ∧ b.toInt < S.nb) → Q (some (vI 0)) μ) : MW G (d + 1) mX9_isBox [vR (9, 0, 0), vI b] μ Q := by
  refine wX9_isBox (xif_c (fun c1 => ⟨z01, hf ?_⟩) fun c1 => ⟨ti_in l2 (by omega), xif_c (fun c2 => ⟨z01, hf ?_⟩) fun c2 => ⟨z11, ht b.toInt.toNat ?_ ?_⟩⟩)
  all_goals simp only [ti_lt, ti_le, ti_lit0, ti_cl' l2, hr.2.2.1] at *
  all_goals omega
theorem m_full (hr : repR (μ (1, 0, 20)) S) (hb : S.nl ≤ 48) (ht : ¬ S.nl < 48 → Q (some (vI 1)) μ) (hf : S.nl < 48 → Q (some (vI 0)) μ) : MW G (d + 1) mX9_isFull [vR (9, 0, 0)] μ Q := by
  have e48 : (48 : Int32).toInt = 48 := rfl
  refine wX9_isFull ⟨ti_in l1 (by omega), xif_c (fun c1 => ⟨z11, ht ?_⟩) fun c1 => ⟨z01, hf ?_⟩⟩
  all_goals simp only [ti_eq, ti_cl' l1, hr.2.1, e48] at *
  all_goals omega
theorem l183 : (183 : Int32).toInt = (183 : Nat) := rfl
theorem l6 : (6 : Int32).toInt = (6 : Nat) := rfl
theorem l471 : (471 : Int32).toInt = (471 : Nat) := rfl
theorem l4 : (4 : Int32).toInt = (4 : Nat) := rfl
theorem l5 : (5 : Int32).toInt = (5 : Nat) := rfl
theorem m_lf {l : Int32} {k : Nat} (hr : repR (μ (1, 0, 20)) S) (hb : S.nl ≤ 48) (hl : l.toInt = k) (hk : k < S.nl) (h : ∀ x : Int32, x.toInt = S.L 0 k → Q (some (vI x)) μ) : MW G (d + 1) mX9_formulaOf [vR (9, 0, 0), vI l] μ Q := by
  have e := lin l183 l6 hl (by omega)
  refine wX9_formulaOf ⟨ti_in e (by omega), ?_⟩
  rw [ti_cl' e]
  exact h _ (hr.2.2.2.2.1 0 (by omega) k hk)
theorem m_ru {l : Int32} {k : Nat} (hr : repR (μ (1, 0, 20)) S) (hb : S.nl ≤ 48) (hl : l.toInt = k) (hk : k < S.nl) (h : ∀ x : Int32, x.toInt = S.L 1 k → Q (some (vI x)) μ) : MW G (d + 1) mX9_ruleOf [vR (9, 0, 0), vI l] μ Q := by
  have e := lin1 (lin l183 l6 hl (by omega)) l1 (by omega)
  refine wX9_ruleOf ⟨ti_in e (by omega), ?_⟩
  rw [ti_cl' e]
  exact h _ (hr.2.2.2.2.1 1 (by omega) k hk)
theorem m_ho {l : Int32} {k : Nat} (hr : repR (μ (1, 0, 20)) S) (hb : S.nl ≤ 48) (hl : l.toInt = k) (hk : k < S.nl) (h : ∀ x : Int32, x.toInt = S.L 5 k → Q (some (vI x)) μ) : MW G (d + 1) mX9_boxOf [vR (9, 0, 0), vI l] μ Q := by
  have e := lin1 (lin l183 l6 hl (by omega)) l5 (by omega)
  refine wX9_boxOf ⟨ti_in e (by omega), ?_⟩
  rw [ti_cl' e]
  exact h _ (hr.2.2.2.2.1 5 (by omega) k hk)
theorem m_ref {l i : Int32} {k c : Nat} (hr : repR (μ (1, 0, 20)) S) (hb : S.nl ≤ 48) (hl : l.toInt = k) (hk : k < S.nl) (hi : i.toInt = c) (hc : c < 3) (h : ∀ x : Int32, x.toInt = S.L (2 + c) k → Q (some (vI x)) μ) : MW G (d + 1) mX9_refOf [vR (9, 0, 0), vI l, vI i] μ Q := by
  have e := lin1 (lin1 (lin l183 l6 hl (by omega)) l2 (by omega)) hi (by omega)
  refine wX9_refOf ⟨ti_in e (by omega), ?_⟩
  rw [ti_cl' e, show 183 + 6 * k + 2 + c = 183 + 6 * k + (2 + c) by omega]
  exact h _ (hr.2.2.2.2.1 (2 + c) (by omega) k hk)
theorem m_st {l : Int32} {k : Nat} (hr : repR (μ (1, 0, 20)) S) (hb : S.nb ≤ 48) (hl : l.toInt = k) (hk : k < S.nb) (h : ∀ x : Int32, x.toInt = S.B 0 k → Q (some (vI x)) μ) : MW G (d + 1) mX9_opens [vR (9, 0, 0), vI l] μ Q := by
  have e := lin l471 l3 hl (by omega)
  refine wX9_opens ⟨ti_in e (by omega), ?_⟩
  rw [ti_cl' e]
  exact h _ (hr.2.2.2.2.2 0 (by omega) k hk)
theorem m_en {l : Int32} {k : Nat} (hr : repR (μ (1, 0, 20)) S) (hb : S.nb ≤ 48) (hl : l.toInt = k) (hk : k < S.nb) (h : ∀ x : Int32, x.toInt = S.B 1 k → Q (some (vI x)) μ) : MW G (d + 1) mX9_ends [vR (9, 0, 0), vI l] μ Q := by
  have e := lin1 (lin l471 l3 hl (by omega)) l1 (by omega)
  refine wX9_ends ⟨ti_in e (by omega), ?_⟩
  rw [ti_cl' e]
  exact h _ (hr.2.2.2.2.2 1 (by omega) k hk)
theorem m_pa {l : Int32} {k : Nat} (hr : repR (μ (1, 0, 20)) S) (hb : S.nb ≤ 48) (hl : l.toInt = k) (hk : k < S.nb) (h : ∀ x : Int32, x.toInt = S.B 2 k → Q (some (vI x)) μ) : MW G (d + 1) mX9_parent [vR (9, 0, 0), vI l] μ Q := by
  have e := lin1 (lin l471 l3 hl (by omega)) l2 (by omega)
  refine wX9_parent ⟨ti_in e (by omega), ?_⟩
  rw [ti_cl' e]
  exact h _ (hr.2.2.2.2.2 2 (by omega) k hk)
theorem m_latest (hr : repR (μ (1, 0, 20)) S) (hb : S.nb ≤ 48) (h : ∀ x : Int32, x.toInt = latO S S.nb → Q (some (vI x)) μ) : MW G (d + 2) mX9_latest [vR (9, 0, 0)] μ Q := by
  refine wX9_latest fun Z => ?_
  refine up_loop (σ := Int32) (fun i x => WS G eX9_latest (d + 2) Z Q 5 [vR (9, 0, 0), vI x, vI (nI i)] [] μ) (fun i x => x.toInt = latO S i) S.nb ?_ ?_ 0 _ (by omega) rfl
  · intro i x hi hx ih
    have ei : (nI i).toInt = i := nI_t (by omega)
    refine wX9_latest_5 ⟨ti_in l2 (by omega), xif_f (by rw [ti_le, ti_cl' l2, hr.2.2.1, ei]; omega) (m_en hr hb ei hi fun y hy => xif_c (fun c1 => ?_) (fun c1 => ?_))⟩
    · rw [ti_eq, hy, ti_litm6] at c1
      rw [nI_1]
      refine ih _ ?_
      unfold latO
      rw [if_pos c1, ei]
    · rw [ti_eq, hy, ti_litm6] at c1
      rw [nI_1]
      refine ih _ ?_
      unfold latO
      rw [if_neg c1, hx]
  · intro x hx
    have ei : (nI S.nb).toInt = S.nb := nI_t (by omega)
    exact wX9_latest_5 ⟨ti_in l2 (by omega), xif_t (by rw [ti_le, ti_cl' l2, hr.2.2.1, ei]; omega) (h _ hx)⟩
theorem m_isShut {x : Int32} (hr : repR (μ (1, 0, 20)) S) (hI : Inv S) (hx : okX S x.toInt) (ht : ¬ noo S x.toInt → Q (some (vI 1)) μ) (hf : noo S x.toInt → Q (some (vI 0)) μ) : MW G (d + 2) mX9_isShut [vR (9, 0, 0), vI x] μ Q := by
  have hbd := hI.bd
  refine wX9_isShut fun Z => ?_
  have lp : ∀ (n : Nat) (y : Int32), y.toInt < n → okX S y.toInt → noo S y.toInt → Q (some (vI 0)) μ → WS G eX9_isShut (d + 2) Z Q 4 [vR (9, 0, 0), vN, vI 0, vI y] [] μ := by
    intro n
    induction n with
    | zero =>
      intro y hy h1 h2 hq
      refine wX9_isShut_4 (xif_t ?_ ⟨z01, hq⟩)
      rw [ti_eq, ti_litm6]
      rcases h1 with z | z
      · exact z
      · omega
    | succ n ih =>
      intro y hy h1 h2 hq
      rcases h1 with z | ⟨z1, z2⟩
      · exact wX9_isShut_4 (xif_t (by rw [ti_eq, ti_litm6]; exact z) ⟨z01, hq⟩)
      · have hk : y.toInt = (y.toInt.toNat : Nat) := by omega
        have hkb : y.toInt.toNat < S.nb := by omega
        have ho : S.B 1 y.toInt.toNat = -6 := by
          rcases h2 with q | q
          · omega
          · exact q
        refine wX9_isShut_4 (xif_f (by rw [ti_eq, ti_litm6]; omega) (xif_t rfl (m_en hr hbd.2.2 hk hkb fun e he => xif_t (by rw [ti_eq, he, ti_litm6]; exact ho) (m_pa hr hbd.2.2 hk hkb fun p hp => ?_))))
        have := hI.par hkb
        exact ih p (by rw [hp]; omega) (by rw [hp]; exact hI.parX hkb) (by rw [hp]; exact hI.openPar hkb ho) hq
  by_cases hn : noo S x.toInt
  · exact lp (x.toInt.toNat + 1) x (by omega) hx hn (hf hn)
  · rcases hx with z | ⟨z1, z2⟩
    · exact absurd (Or.inl z) hn
    · have hk : x.toInt = (x.toInt.toNat : Nat) := by omega
      have hkb : x.toInt.toNat < S.nb := by omega
      refine wX9_isShut_4 (xif_f (by rw [ti_eq, ti_litm6]; omega) (xif_t rfl (m_en hr hbd.2.2 hk hkb fun e he => xif_f (by rw [ti_eq, he, ti_litm6]; exact fun q => hn (Or.inr q)) (m_pa hr hbd.2.2 hk hkb fun p hp => ?_))))
      exact wX9_isShut_4 (xif_c (fun _ => ⟨z11, ht hn⟩) fun _ => xif_f (by decide) ⟨z11, ht hn⟩)
theorem m_avL {l : Int32} {k : Nat} (hr : repR (μ (1, 0, 20)) S) (hI : Inv S) (hl : l.toInt = k) (hk : k < S.nl) (ht : avL S k → Q (some (vI 1)) μ) (hf : ¬ avL S k → Q (some (vI 0)) μ) : MW G (d + 3) mX9_isAvailable [vR (9, 0, 0), vI l] μ Q := by
  have hbd := hI.bd
  refine wX9_isAvailable (m_ho hr hbd.2.1 hl hk fun x hx => m_isShut hr hI (by rw [hx]; exact hI.home hk) (fun z => xif_f (by decide) ⟨z01, hf ?_⟩) (fun z => xif_t rfl ⟨z11, ht ?_⟩))
  · rw [hx] at z; exact z
  · rw [hx] at z; exact z
theorem m_avB {b : Int32} {k : Nat} (hr : repR (μ (1, 0, 20)) S) (hI : Inv S) (hl : b.toInt = k) (hk : k < S.nb) (ht : avB S k → Q (some (vI 1)) μ) (hf : ¬ avB S k → Q (some (vI 0)) μ) : MW G (d + 3) mX9_isBoxAvailable [vR (9, 0, 0), vI b] μ Q := by
  have hbd := hI.bd
  refine wX9_isBoxAvailable (m_en hr hbd.2.2 hl hk fun x hx => xif_c (fun c1 => ⟨z01, hf fun z => z.1 ?_⟩) fun c1 => m_pa hr hbd.2.2 hl hk fun y hy => m_isShut hr hI (by rw [hy]; exact hI.parX hk) (fun z => xif_f (by decide) ⟨z01, hf fun q => z ?_⟩) (fun z => xif_t rfl ⟨z11, ht ⟨?_, ?_⟩⟩))
  · rw [ti_eq, hx, ti_litm6] at c1; exact c1
  · rw [hy]; exact q.2
  · rw [ti_eq, hx, ti_litm6] at c1; exact c1
  · rw [hy] at z; exact z
theorem repR_addL {z z' : Nat → Int32} {f r a b c y : Int32} (hr : repR z S) (hb : bdS S) (hl : S.nl < 48) (hi : y.toInt = S.inn) (h1 : (z' 1).toInt = (S.nl : Int) + 1) (e0 : z' (183 + 6 * S.nl) = f) (e1 : z' (183 + 6 * S.nl + 1) = r) (e2 : z' (183 + 6 * S.nl + 2) = a) (e3 : z' (183 + 6 * S.nl + 3) = b) (e4 : z' (183 + 6 * S.nl + 4) = c) (e5 : z' (183 + 6 * S.nl + 5) = y) (e : ∀ i, i ≠ 1 → (i < 183 + 6 * S.nl ∨ 183 + 6 * S.nl + 5 < i) → z' i = z i) : repR z' (addL S f.toInt r.toInt a.toInt b.toInt c.toInt) := by
  obtain ⟨b1, b2, b3⟩ := hb
  obtain ⟨r1, r2, r3, r4, r5, r6⟩ := hr
  refine ⟨by rw [e 0 (by omega) (by omega)]; exact r1, h1, by rw [e 2 (by omega) (by omega)]; exact r3, fun k hk x hx => ?_, fun k hk x hx => ?_, fun k hk x hx => ?_⟩
  · have hx : x < S.nf := hx
    rw [e _ (by omega) (by omega)]
    exact r4 k hk x hx
  · rw [addL_L]
    rw [addL_nl] at hx
    by_cases hxn : x = S.nl
    · rw [if_pos hxn, hxn]
      rcases (show k = 0 ∨ k = 1 ∨ k = 2 ∨ k = 3 ∨ k = 4 ∨ k = 5 by omega) with rfl | rfl | rfl | rfl | rfl | rfl
      · rw [Nat.add_zero, e0]; rfl
      · rw [e1]; rfl
      · rw [e2]; rfl
      · rw [e3]; rfl
      · rw [e4]; rfl
      · rw [e5]; exact hi
    · rw [if_neg hxn, e _ (by omega) (by omega)]
      exact r5 k hk x (by omega)
  · have hx : x < S.nb := hx
    rw [e _ (by omega) (by omega)]
    exact r6 k hk x hx
set_option maxHeartbeats 2000000 in
theorem m_write {r f a b c : Int32} (hr : repR (μ (1, 0, 20)) S) (hb : bdS S) (hin : S.inn = latO S S.nb) (hl : S.nl < 48) (h : ∀ (x : Int32) (μ' : xM), x.toInt = S.nl → (∀ q, q ≠ (1, 0, 20) → μ' q = μ q) → repR (μ' (1, 0, 20)) (addL S f.toInt r.toInt a.toInt b.toInt c.toInt) → Q (some (vI x)) μ') : MW G (d + 3) mX9_write [vR (9, 0, 0), vI f, vI r, vI a, vI b, vI c] μ Q := by
  have n1 : (1 : Int32).toNatClampNeg = 1 := rfl
  have z1 := hr.2.1
  have i0 := lin l183 l6 z1 (by omega)
  have i1 := lin1 i0 l1 (by omega)
  have i2 := lin1 i0 l2 (by omega)
  have i3 := lin1 i0 l3 (by omega)
  have i4 := lin1 i0 l4 (by omega)
  have i5 := lin1 i0 l5 (by omega)
  refine wX9_write ?_
  rw [n1, ti_cl' i0, ti_cl' i1, ti_cl' i2, ti_cl' i3, ti_cl' i4, ti_cl' i5]
  refine ⟨ti_in l1 (by omega), ti_in i0 (by omega), ti_in i1 (by omega), ti_in i2 (by omega), ti_in i3 (by omega), ti_in i4 (by omega), ?_⟩
  refine m_latest (d := d) (S := S) ?_ hb.2.2 fun y hy => ?_
  · obtain ⟨r1, r2, r3, r4, r5, r6⟩ := hr
    obtain ⟨b1, b2, b3⟩ := hb
    have e : ∀ i, (i < 183 + 6 * S.nl ∨ 183 + 6 * S.nl + 5 < i) → (xst (xst (xst (xst (xst μ (1, 0, 20) (183 + 6 * S.nl) f) (1, 0, 20) (183 + 6 * S.nl + 1) r) (1, 0, 20) (183 + 6 * S.nl + 2) a) (1, 0, 20) (183 + 6 * S.nl + 3) b) (1, 0, 20) (183 + 6 * S.nl + 4) c) (1, 0, 20) i = μ (1, 0, 20) i := by
      intro i hi
      rw [xst_rd, if_neg (fun q => by have := q.2; omega), xst_rd, if_neg (fun q => by have := q.2; omega), xst_rd, if_neg (fun q => by have := q.2; omega), xst_rd, if_neg (fun q => by have := q.2; omega), xst_rd, if_neg (fun q => by have := q.2; omega)]
    refine ⟨by rw [e 0 (by omega)]; exact r1, by rw [e 1 (by omega)]; exact r2, by rw [e 2 (by omega)]; exact r3, fun k hk x hx => ?_, fun k hk x hx => ?_, fun k hk x hx => ?_⟩
    · rw [e _ (by omega)]; exact r4 k hk x hx
    · rw [e _ (by omega)]; exact r5 k hk x hx
    · rw [e _ (by omega)]; exact r6 k hk x hx
  · have ea : (μ (1, 0, 20) 1 + 1).toInt = (S.nl : Int) + 1 := by
      rw [ti_add (by rw [z1, ti_lit1]; omega) (by rw [z1, ti_lit1]; omega), z1, ti_lit1]
    have v1 : ∀ (i0 i1 i2 i3 i4 i5 : Nat) (u0 u1 u2 u3 u4 u5 : Int32), i0 ≠ 1 → i1 ≠ 1 → i2 ≠ 1 → i3 ≠ 1 → i4 ≠ 1 → i5 ≠ 1 → (xst (xst (xst (xst (xst (xst μ (1, 0, 20) i0 u0) (1, 0, 20) i1 u1) (1, 0, 20) i2 u2) (1, 0, 20) i3 u3) (1, 0, 20) i4 u4) (1, 0, 20) i5 u5) (1, 0, 20) 1 = μ (1, 0, 20) 1 := by
      intro i0 i1 i2 i3 i4 i5 u0 u1 u2 u3 u4 u5 h0 h1 h2 h3 h4 h5
      rw [xst_rd, if_neg (fun q => h5 q.2.symm), xst_rd, if_neg (fun q => h4 q.2.symm), xst_rd, if_neg (fun q => h3 q.2.symm), xst_rd, if_neg (fun q => h2 q.2.symm), xst_rd, if_neg (fun q => h1 q.2.symm), xst_rd, if_neg (fun q => h0 q.2.symm)]
    show vp_in _ 615 ∧ _
    rw [v1 _ _ _ _ _ _ _ _ _ _ _ _ (by omega) (by omega) (by omega) (by omega) (by omega) (by omega)]
    refine ⟨ti_in i5 (by omega), ti_in l1 (by omega), ti_in l1 (by omega), ti_in l1 (by omega), h _ _ ?_ (fun q hq => ?_) (repR_addL (y := y) hr hb hl (hy.trans hin.symm) ?_ ?_ ?_ ?_ ?_ ?_ ?_ (fun i n0 n1 => ?_))⟩
    · rw [xst_rd, if_pos ⟨rfl, rfl⟩, ti_sub (by rw [ea, ti_lit1]; omega) (by rw [ea, ti_lit1]; omega), ea, ti_lit1]
      omega
    · funext i
      simp [xst_rd, hq]
    · rw [xst_rd, if_pos ⟨rfl, rfl⟩, ea]
    · simp only [xst_rd, true_and]
      rw [if_neg (by omega), if_neg (by omega), if_neg (by omega), if_neg (by omega), if_neg (by omega), if_neg (by omega), if_pos trivial]
    · simp only [xst_rd, true_and]
      rw [if_neg (by omega), if_neg (by omega), if_neg (by omega), if_neg (by omega), if_neg (by omega), if_pos trivial]
    · simp only [xst_rd, true_and]
      rw [if_neg (by omega), if_neg (by omega), if_neg (by omega), if_neg (by omega), if_pos trivial]
    · simp only [xst_rd, true_and]
      rw [if_neg (by omega), if_neg (by omega), if_neg (by omega), if_pos trivial]
    · simp only [xst_rd, true_and]
      rw [if_neg (by omega), if_neg (by omega), if_pos trivial]
    · simp only [xst_rd, true_and]
      rw [if_neg (by omega), if_pos trivial]
    · simp only [xst_rd, true_and]
      rw [if_neg n0, if_neg (by omega), if_neg (by omega), if_neg (by omega), if_neg (by omega), if_neg (by omega), if_neg (by omega)]
end
