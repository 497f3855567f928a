/-! lines and boxes: reading, availability, writing a line -/
def noo (S : aS) (x : Int) : Prop := x = -6 ∨ S.B 1 x.toNat = -6
def avL (S : aS) (l : Nat) : Prop := noo S (S.L 5 l)
def avB (S : aS) (b : Nat) : Prop := ¬ S.B 1 b = -6 ∧ noo S (S.B 2 b)
def okX (S : aS) (x : Int) : Prop := x = -6 ∨ (0 ≤ x ∧ x < S.nb)
def addL (S : aS) (f r a b c : Int) : aS := ((S.nf, S.nl + 1, S.nb, S.inn), S.F, fun k l => if l = S.nl then (if k = 0 then f else if k = 1 then r else if k = 2 then a else if k = 3 then b else if k = 4 then c else S.inn) else S.L k l, S.B)
theorem addL_L (S : aS) (f r a b c : Int) (k l : Nat) : (addL S f r a b c).L k l = if l = S.nl then (if k = 0 then f else if k = 1 then r else if k = 2 then a else if k = 3 then b else if k = 4 then c else S.inn) else S.L k l := rfl
theorem addL_nl (S : aS) (f r a b c : Int) : (addL S f r a b c).nl = S.nl + 1 := rfl
theorem Inv.home {S : aS} (h : Inv S) {l : Nat} (hl : l < S.nl) : okX S (S.L 5 l) := by
  rcases (h.2.2.2.2.2.1 l hl).2.2.2 with z | z
  · exact Or.inl z
  · exact Or.inr ⟨z.1, z.2.1⟩
theorem Inv.par {S : aS} (h : Inv S) {b : Nat} (hb : b < S.nb) : S.B 2 b = -6 ∨ (0 ≤ S.B 2 b ∧ S.B 2 b < b) := by
  obtain ⟨dp, h7⟩ := h.2.2.2.2.2.2.1
  rcases (h7 b hb).2.2.2.2.2.2.2 with z | z
  · exact Or.inl z.1
  · exact Or.inr ⟨z.1, z.2.1⟩
theorem Inv.parX {S : aS} (h : Inv S) {b : Nat} (hb : b < S.nb) : okX S (S.B 2 b) := by
  rcases h.par hb with z | z
  · exact Or.inl z
  · exact Or.inr ⟨z.1, by omega⟩
theorem latO_ok (S : aS) : ∀ n, latO S n = -6 ∨ ∃ b : Nat, latO S n = b ∧ b < n ∧ S.B 1 b = -6
  | 0 => Or.inl rfl
  | n + 1 => by
    unfold latO
    split
    · rename_i h; exact Or.inr ⟨n, rfl, by omega, h⟩
    · rcases latO_ok S n with h | ⟨b, h1, h2, h3⟩
      · exact Or.inl h
      · exact Or.inr ⟨b, h1, by omega, h3⟩
/-- an open box's parent is none, or open -/
theorem Inv.openPar {S : aS} (h : Inv S) {b : Nat} (hb : b < S.nb) (ho : S.B 1 b = -6) : noo S (S.B 2 b) := by
  obtain ⟨dp, h7⟩ := h.2.2.2.2.2.2.1
  rw [noo, (h7 b hb).2.2.2.2.1 ho]
  rcases latO_ok S b with z | ⟨b', h1, h2, h3⟩
  · exact Or.inl z
  · rw [h1]; exact Or.inr h3
section
variable {G : xG} {d j : Nat} {μ : xM} {Q : xP} {S : aS}
theorem hasL_ok {l : Int32} (hr : repP μ j S) (ht : ∀ k : Nat, l.toInt = k → k < S.nl → Q (some (vI 1)) μ) (hf : ¬ (0 ≤ l.toInt ∧ l.toInt < S.nl) → Q (some (vI 0)) μ) : MW G (d + 1) mX4_hasLine [vR (3, j, 0), vI l] μ Q := by
  refine wX4_hasLine (xif_c (fun c1 => ⟨z01, hf ?_⟩) fun c1 => xif_c (fun c2 => ⟨z01, hf ?_⟩) fun c2 => ⟨z11, ht l.toInt.toNat ?_ ?_⟩)
  all_goals simp only [ti_lt, ti_le, hr.1, ti_lit0] at *
  all_goals omega
theorem hasB_ok {b : Int32} (hr : repP μ j S) (ht : ∀ k : Nat, b.toInt = k → k < S.nb → Q (some (vI 1)) μ) (hf : ¬ (0 ≤ b.toInt ∧ b.toInt < S.nb) → Q (some (vI 0)) μ) : MW G (d + 1) mX4_hasBox [vR (3, j, 0), vI b] μ Q := by
  refine wX4_hasBox (xif_c (fun c1 => ⟨z01, hf ?_⟩) fun c1 => xif_c (fun c2 => ⟨z01, hf ?_⟩) fun c2 => ⟨z11, ht b.toInt.toNat ?_ ?_⟩)
  all_goals simp only [ti_lt, ti_le, hr.2.1, ti_lit0] at *
  all_goals omega
theorem full_ok (hr : repP μ j S) (ht : ¬ S.nl < 48 → Q (some (vI 1)) μ) (hf : S.nl < 48 → Q (some (vI 0)) μ) : MW G (d + 1) mX4_isFull [vR (3, j, 0)] μ Q := by
  have e48 : (48 : Int32).toInt = 48 := rfl
  refine wX4_isFull (xif_c (fun c1 => ⟨z01, hf ?_⟩) fun c1 => ⟨z11, ht ?_⟩)
  all_goals simp only [ti_lt, hr.1, e48] at *
  all_goals omega
theorem c_lf {l : Int32} {k : Nat} (hr : repP μ j S) (hb : S.nl ≤ 48) (hl : l.toInt = k) (hk : k < S.nl) (h : ∀ x : Int32, x.toInt = S.L 0 k → Q (some (vI x)) μ) : MW G (d + 1) mX5_get [vR (0, j, 3), vI l] μ Q := get_in hl (by simp [xlenc]; omega) (h _ (hr.2.2.2.1 0 (by omega) k hk))
theorem c_ru {l : Int32} {k : Nat} (hr : repP μ j S) (hb : S.nl ≤ 48) (hl : l.toInt = k) (hk : k < S.nl) (h : ∀ x : Int32, x.toInt = S.L 1 k → Q (some (vI x)) μ) : MW G (d + 1) mX5_get [vR (0, j, 4), vI l] μ Q := get_in hl (by simp [xlenc]; omega) (h _ (hr.2.2.2.1 1 (by omega) k hk))
theorem c_ho {l : Int32} {k : Nat} (hr : repP μ j S) (hb : S.nl ≤ 48) (hl : l.toInt = k) (hk : k < S.nl) (h : ∀ x : Int32, x.toInt = S.L 5 k → Q (some (vI x)) μ) : MW G (d + 1) mX5_get [vR (0, j, 5), vI l] μ Q := get_in hl (by simp [xlenc]; omega) (h _ (hr.2.2.2.1 5 (by omega) k hk))
theorem c_r0 {l : Int32} {k : Nat} (hr : repP μ j S) (hb : S.nl ≤ 48) (hl : l.toInt = k) (hk : k < S.nl) (h : ∀ x : Int32, x.toInt = S.L 2 k → Q (some (vI x)) μ) : MW G (d + 1) mX5_get [vR (0, j, 6), vI l] μ Q := get_in hl (by simp [xlenc]; omega) (h _ (hr.2.2.2.1 2 (by omega) k hk))
theorem c_r1 {l : Int32} {k : Nat} (hr : repP μ j S) (hb : S.nl ≤ 48) (hl : l.toInt = k) (hk : k < S.nl) (h : ∀ x : Int32, x.toInt = S.L 3 k → Q (some (vI x)) μ) : MW G (d + 1) mX5_get [vR (0, j, 7), vI l] μ Q := get_in hl (by simp [xlenc]; omega) (h _ (hr.2.2.2.1 3 (by omega) k hk))
theorem c_r2 {l : Int32} {k : Nat} (hr : repP μ j S) (hb : S.nl ≤ 48) (hl : l.toInt = k) (hk : k < S.nl) (h : ∀ x : Int32, x.toInt = S.L 4 k → Q (some (vI x)) μ) : MW G (d + 1) mX5_get [vR (0, j, 8), vI l] μ Q := get_in hl (by simp [xlenc]; omega) (h _ (hr.2.2.2.1 4 (by omega) k hk))
theorem c_st {l : Int32} {k : Nat} (hr : repP μ j S) (hb : S.nb ≤ 48) (hl : l.toInt = k) (hk : k < S.nb) (h : ∀ x : Int32, x.toInt = S.B 0 k → Q (some (vI x)) μ) : MW G (d + 1) mX5_get [vR (0, j, 9), vI l] μ Q := get_in hl (by simp [xlenc]; omega) (h _ (hr.2.2.2.2 0 (by omega) k hk))
theorem c_en {l : Int32} {k : Nat} (hr : repP μ j S) (hb : S.nb ≤ 48) (hl : l.toInt = k) (hk : k < S.nb) (h : ∀ x : Int32, x.toInt = S.B 1 k → Q (some (vI x)) μ) : MW G (d + 1) mX5_get [vR (0, j, 10), vI l] μ Q := get_in hl (by simp [xlenc]; omega) (h _ (hr.2.2.2.2 1 (by omega) k hk))
theorem c_pa {l : Int32} {k : Nat} (hr : repP μ j S) (hb : S.nb ≤ 48) (hl : l.toInt = k) (hk : k < S.nb) (h : ∀ x : Int32, x.toInt = S.B 2 k → Q (some (vI x)) μ) : MW G (d + 1) mX5_get [vR (0, j, 11), vI l] μ Q := get_in hl (by simp [xlenc]; omega) (h _ (hr.2.2.2.2 2 (by omega) k hk))
theorem noo_ok {x : Int32} (hr : repP μ j S) (hb : S.nb ≤ 48) (hx : okX S x.toInt) (ht : noo S x.toInt → Q (some (vI 1)) μ) (hf : ¬ noo S x.toInt → Q (some (vI 0)) μ) : MW G (d + 2) mX4_isNoneOrOpen [vR (3, j, 0), vI x] μ Q := by
  refine wX4_isNoneOrOpen (hasB_ok hr (fun k h1 h2 => xif_f (by decide) (c_en hr hb h1 h2 fun y hy => ?_)) fun z => xif_t rfl ⟨z11, ht ?_⟩)
  · refine xif_c (fun c1 => ⟨z11, ht (Or.inr ?_)⟩) (fun c1 => ⟨z01, hf ?_⟩)
    · rw [ti_eq, hy, ti_litm6] at c1
      rw [h1]; exact c1
    · rw [ti_eq, hy, ti_litm6] at c1
      rintro (z | z)
      · omega
      · rw [h1] at z; exact c1 z
  · rcases hx with q | q
    · exact Or.inl q
    · exact absurd q z
theorem avL_ok {l : Int32} {k : Nat} (hr : repP μ j S) (hI : Inv S) (hl : l.toInt = k) (hk : k < S.nl) (ht : avL S k → Q (some (vI 1)) μ) (hf : ¬ avL S k → Q (some (vI 0)) μ) : MW G (d + 3) mX4_isLineAvailable [vR (3, j, 0), vI l] μ Q := by
  have hbd := hI.bd
  refine wX4_isLineAvailable (c_ho hr hbd.2.1 hl hk fun x hx => noo_ok hr hbd.2.2 (by rw [hx]; exact hI.home hk) (fun z => ⟨z11, ht ?_⟩) (fun z => ⟨z01, hf ?_⟩))
  · rw [hx] at z; exact z
  · rw [hx] at z; exact z
theorem avB_ok {b : Int32} {k : Nat} (hr : repP μ j S) (hI : Inv S) (hl : b.toInt = k) (hk : k < S.nb) (ht : avB S k → Q (some (vI 1)) μ) (hf : ¬ avB S k → Q (some (vI 0)) μ) : MW G (d + 3) mX4_isBoxAvailable [vR (3, j, 0), vI b] μ Q := by
  have hbd := hI.bd
  refine wX4_isBoxAvailable (c_en hr hbd.2.2 hl hk fun x hx => xif_c (fun c1 => ⟨z01, hf fun z => z.1 ?_⟩) fun c1 => c_pa hr hbd.2.2 hl hk fun y hy => noo_ok hr hbd.2.2 (by rw [hy]; exact hI.parX hk) (fun z => xif_f (by decide) ⟨z11, ht ⟨?_, ?_⟩⟩) (fun z => xif_t rfl ⟨z01, hf fun q => z ?_⟩))
  · rw [ti_eq, hx, ti_litm6] at c1; exact c1
  · rw [ti_eq, hx, ti_litm6] at c1; exact c1
  · rw [hy] at z; exact z
  · rw [hy]; exact q.2
theorem addLine_ok {r f a b c : Int32} (hr : repP μ j S) (hb : bdS S) (hl : S.nl < 48) (h : ∀ (x : Int32) (μ' : xM), x.toInt = S.nl → (∀ q, ¬ ownP j q → μ' q = μ q) → repP μ' j (addL S f.toInt r.toInt a.toInt b.toInt c.toInt) → Q (some (vI x)) μ') : MW G (d + 2) mX4_addLine [vR (3, j, 0), vI r, vI f, vI a, vI b, vI c] μ Q := by
  obtain ⟨h1, h2, h3, h4, h5⟩ := hr
  refine wX4_addLine (set_in h1 (by simp [xlenc]; omega) (set_in h1 (by simp [xlenc]; omega) (set_in h1 (by simp [xlenc]; omega) (set_in h1 (by simp [xlenc]; omega) (set_in h1 (by simp [xlenc]; omega) (set_in h1 (by simp [xlenc]; omega) (h _ _ h1 (fun q hq => ?_) ⟨?_, ?_, ?_, fun k hk l hl' => ?_, fun k hk x hx => ?_⟩)))))))
  · funext i
    have n1 : ∀ c, 3 ≤ c → c < 12 → ¬ q = (1, j, c) := fun c hc hc2 e => hq (Or.inr (by rw [e]; exact ⟨rfl, rfl, hc, hc2⟩))
    have n2 : ¬ q = (3, j, 0) := fun e => hq (Or.inl e)
    simp [xst_rd, n1 3 (by omega) (by omega), n1 4 (by omega) (by omega), n1 5 (by omega) (by omega), n1 6 (by omega) (by omega), n1 7 (by omega) (by omega), n1 8 (by omega) (by omega), n2]
  · have e1 : (μ (3, j, 0) 0 + 1).toInt = (S.nl : Int) + 1 := by
      rw [ti_add (by rw [h1, ti_lit1]; omega) (by rw [h1, ti_lit1]; omega), h1, ti_lit1]
    rw [addL_nl]
    simp [xst_rd, e1]
  · simp [xst_rd]; exact h2
  · simp [xst_rd]; exact h3
  · rw [addL_L]
    rw [addL_nl] at hl'
    by_cases hln : l = S.nl
    · subst hln
      rcases (show k = 0 ∨ k = 1 ∨ k = 2 ∨ k = 3 ∨ k = 4 ∨ k = 5 by omega) with rfl | rfl | rfl | rfl | rfl | rfl <;> simp [xst_rd, lcol]
      exact h3
    · have hx := h4 k hk l (by omega)
      rcases (show k = 0 ∨ k = 1 ∨ k = 2 ∨ k = 3 ∨ k = 4 ∨ k = 5 by omega) with rfl | rfl | rfl | rfl | rfl | rfl <;> simpa [xst_rd, lcol, hln] using hx
  · have := h5 k hk x hx
    show _ = S.B k x
    rcases (show k = 0 ∨ k = 1 ∨ k = 2 by omega) with rfl | rfl | rfl <;> simpa [xst_rd] using this
-- the model
theorem l183 : (183 : Int32).toInt = (183 : Nat) := rfl
theorem l6 : (6 : Int32).toInt = (6 : Nat) := rfl
theorem l471 : (471 : Int32).toInt = (471 : Nat) := rfl
theorem l4 : (4 : Int32).toInt = (4 : Nat) := rfl
theorem l5 : (5 : Int32).toInt = (5 : Nat) := rfl
end
