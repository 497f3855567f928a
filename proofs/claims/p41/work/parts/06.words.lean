-- a class's words, by their places in the tables
theorem xu_of {ws : List Cond} (ps : List Nat) (hp : ws = ps.filterMap (fun i => lw_tbl[i]?)) (h : ws.all goodWord = true) : ∀ w ∈ ws, xin w := by
  intro w hw
  have h1 := List.all_eq_true.mp h w hw
  rw [hp] at hw
  obtain ⟨i, -, hi⟩ := List.mem_filterMap.mp hw
  exact ⟨List.mem_of_getElem? hi, h1⟩
set_option maxRecDepth 100000 in
theorem xu_X0 : ∀ w ∈ u_ws RX0 TX0 5, xin w := xu_of [174, 176, 178, 180, 182] (by decide +kernel) (by decide +kernel)
set_option maxRecDepth 100000 in
theorem xu_X1 : ∀ w ∈ u_ws RX1 TX1 3, xin w := xu_of [196, 198, 200] (by decide +kernel) (by decide +kernel)
set_option maxRecDepth 100000 in
theorem xu_X2 : ∀ w ∈ u_ws RX2 TX2 4, xin w := xu_of [70, 72, 74, 76] (by decide +kernel) (by decide +kernel)
set_option maxRecDepth 100000 in
theorem xu_X3 : ∀ w ∈ u_ws RX3 TX3 3, xin w := xu_of [154, 156, 158] (by decide +kernel) (by decide +kernel)
set_option maxRecDepth 100000 in
theorem xu_X4 : ∀ w ∈ u_ws RX4 TX4 12, xin w := xu_of [108, 110, 112, 114, 116, 118, 120, 122, 124, 126, 128, 130] (by decide +kernel) (by decide +kernel)
set_option maxRecDepth 100000 in
theorem xu_X5 : ∀ w ∈ u_ws RX5 TX5 1, xin w := xu_of [58] (by decide +kernel) (by decide +kernel)
set_option maxRecDepth 100000 in
theorem xu_X7 : ∀ w ∈ u_ws RX7 TX7 2, xin w := xu_of [137, 139] (by decide +kernel) (by decide +kernel)
set_option maxRecDepth 100000 in
theorem xu_X8 : ∀ w ∈ u_ws RX8 TX8 9, xin w := xu_of [216, 218, 220, 222, 224, 226, 228, 230, 232] (by decide +kernel) (by decide +kernel)
theorem xcl_ok : ∀ (ci : Nat) (C : String) (T : u_T) (N : Nat), vwCl[ci]? = some (C, T, N) → (∀ w ∈ u_ws C T N, xin w) ∧ (∃ ty : Nat → FieldType, ∀ k, k < N → parseFieldDescriptor (T k).2.2.1 = some (ty k)) ∧ (∀ a, a < N → ∀ b, b < N → a ≠ b → (T a).2.1 ≠ (T b).2.1) := by
  intro ci C T N h
  match ci, h with
  | 0, h => cases h; exact ⟨xu_X0, ⟨tyX0, tyX0_ok⟩, nmX0⟩
  | 1, h => cases h; exact ⟨xu_X1, ⟨tyX1, tyX1_ok⟩, nmX1⟩
  | 2, h => cases h; exact ⟨xu_X2, ⟨tyX2, tyX2_ok⟩, nmX2⟩
  | 3, h => cases h; exact ⟨xu_X3, ⟨tyX3, tyX3_ok⟩, nmX3⟩
  | 4, h => cases h; exact ⟨xu_X4, ⟨tyX4, tyX4_ok⟩, nmX4⟩
  | 5, h => cases h; exact ⟨xu_X5, ⟨tyX5, tyX5_ok⟩, nmX5⟩
  | 6, h => cases h; exact ⟨xu_X7, ⟨tyX7, tyX7_ok⟩, nmX7⟩
  | 7, h => cases h; exact ⟨xu_X8, ⟨tyX8, tyX8_ok⟩, nmX8⟩
  | n + 8, h => simp [vwCl] at h
