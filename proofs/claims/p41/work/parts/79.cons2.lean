/-! the constructors (written by wip/p41/gen_cons.py) -/
abbrev YX5 : cY := (yX5_init, cX5_init, 2)
abbrev YX0 : cY := (yX0_init, cX0_init, 1)
abbrev YX1 : cY := (yX1_init, cX1_init, 1)
abbrev YX2 : cY := (yX2_init, cX2_init, 1)
abbrev YX4 : cY := (yX4_init, cX4_init, 1)
abbrev YX7 : cY := (yX7_init, cX7_init, 1)
abbrev YX3 : cY := (yX3_init, cX3_init, 2)
abbrev YX8 : cY := (yX8_init, cX8_init, 1)
/-- worlds of fresh objects -/
def wRow (cA : Nat → ClassId) (n r a : Nat) : va_W := [(r, .inr (5, [.ref a])), (a, .inl (cA 0, n, .inl fun _ => 0))]
def wF (cA : Nat → ClassId) (q : Nat) (r a : Nat → Nat) : va_W := (q, .inr (2, [.int 0, .ref (r 0), .ref (r 1), .ref (r 2)])) :: ((([] ++ wRow cA 60 (r 0) (a 0)) ++ wRow cA 60 (r 1) (a 1)) ++ wRow cA 60 (r 2) (a 2))
def wP (cA : Nat → ClassId) (q : Nat) (r a : Nat → Nat) : va_W := (q, .inr (4, [.int 0, .int 0, .int (-6), .ref (r 3), .ref (r 4), .ref (r 5), .ref (r 6), .ref (r 7), .ref (r 8), .ref (r 9), .ref (r 10), .ref (r 11)])) :: ((((((((([] ++ wRow cA 48 (r 3) (a 3)) ++ wRow cA 48 (r 4) (a 4)) ++ wRow cA 48 (r 5) (a 5)) ++ wRow cA 48 (r 6) (a 6)) ++ wRow cA 48 (r 7) (a 7)) ++ wRow cA 48 (r 8) (a 8)) ++ wRow cA 48 (r 9) (a 9)) ++ wRow cA 48 (r 10) (a 10)) ++ wRow cA 48 (r 11) (a 11))
def wB (cA : Nat → ClassId) (q r a : Nat) : va_W := (q, .inr (0, [.int 0, .ref r, .int 0, .int 0, .int 0])) :: ([] ++ wRow cA 70 r a)
def wBd (cA : Nat → ClassId) (q r a r2 a2 : Nat) : va_W := (q, .inr (1, [.int 0, .ref r, .ref r2])) :: (([] ++ wRow cA 70 r a) ++ wRow cA 70 r2 a2)
def wS (cA : Nat → ClassId) (q f p : Nat) (r a : Nat → Nat) : va_W := (q, .inr (6, [.ref f, .ref p])) :: (([] ++ wF cA f r a) ++ wP cA p r a)
def BX0 (cA : Nat → ClassId) (q : Nat) (w : va_W) : Prop := ∃ r a : Nat, w = wB cA q r a
def BX1 (cA : Nat → ClassId) (q : Nat) (w : va_W) : Prop := ∃ r a r2 a2 : Nat, w = wBd cA q r a r2 a2
def BX2 (cA : Nat → ClassId) (q : Nat) (w : va_W) : Prop := ∃ r a : Nat → Nat, w = wF cA q r a
def BX4 (cA : Nat → ClassId) (q : Nat) (w : va_W) : Prop := ∃ r a : Nat → Nat, w = wP cA q r a
def BX7 (cA : Nat → ClassId) (q : Nat) (w : va_W) : Prop := ∃ (f p : Nat) (r a : Nat → Nat), w = wS cA q f p r a
theorem dX5_init_0 : decode cX5_init 0 = .ok (.aload_n 0, 1) := by decide +kernel
theorem dX5_init_1 : decode cX5_init 1 = .ok (.invokespecial 3, 3) := by decide +kernel
theorem dX5_init_4 : decode cX5_init 4 = .ok (.aload_n 0, 1) := by decide +kernel
theorem dX5_init_5 : decode cX5_init 5 = .ok (.iload_n 1, 1) := by decide +kernel
theorem dX5_init_6 : decode cX5_init 6 = .ok (.iconst 0, 1) := by decide +kernel
theorem dX5_init_7 : decode cX5_init 7 = .ok (.invokestatic 9, 3) := by decide +kernel
theorem dX5_init_10 : decode cX5_init 10 = .ok (.newarray .int, 2) := by decide +kernel
theorem dX5_init_12 : decode cX5_init 12 = .ok (.putfield 15, 3) := by decide +kernel
theorem dX5_init_15 : decode cX5_init 15 = .ok (.return_, 1) := by decide +kernel
theorem cRow (l : Launch) (D : va_G) (cA : Nat → ClassId) {x : Int32} {N : Nat} (hx0 : x.toInt = N) (hN : N ≤ 100) : CMet l D cA YX5 (1, 1, N, 40) [.int x] (.inr (5, [.null])) (fun q w => ∃ a, w = wRow cA N q a) := by
  refine CMet.of (idx := 3) (by decide +kernel) rfl ⟨xw 53 (by decide +kernel) (by decide +kernel), xw 34 (by decide +kernel) (by decide +kernel), xw 35 (by decide +kernel) (by decide +kernel)⟩ ⟨(Nat.le_of_ble_eq_true rfl), (Nat.le_of_ble_eq_true rfl)⟩ (fun _ => (Nat.le_of_ble_eq_true rfl)) dX5_init_0 dX5_init_1 ?_
  intro q p e s m args below meth c A ls Ts Qf hH hin hA hS hP hD hl fin
  obtain ⟨hx, hb, hml, hown, hts, htw, hK, hN⟩ := id hH
  have hls := hl.1
  have hl0 : ls[0]? = some (.val (.ref q)) := lv_at hl 0 rfl
  have hl1 : ls[1]? = some (.val (.int x)) := lv_at hl 1 rfl
  refine lv_aload_n hx hb dX5_init_4 rfl hl0 ?_
  refine lv_iload_n hx hb dX5_init_5 rfl hl1 ?_
  refine lv_iconst (v := 0) hx hb dX5_init_6 (by decide) ?_
  refine va_mmax hx hb (by rw [hml, hls]) hown (hts _ (htw _ (xw 54 (by decide +kernel) (by decide +kernel)))) (hts _ (htw _ (xw 55 (by decide +kernel) (by decide +kernel)))) (hts _ (htw _ (xw 20 (by decide +kernel) (by decide +kernel)))) (hts _ (htw _ (xw 56 (by decide +kernel) (by decide +kernel)))) (Nat.le_of_ble_eq_true rfl) (Nat.le_of_ble_eq_true rfl) (Nat.zero_le _) (Nat.zero_le _) dX5_init_7 ?_
  have hmx : (if x < (0 : Int32) then (0 : Int32) else x) = x := if_neg (by rw [ti_lt, hx0, ti_lit0]; omega)
  rw [hmx]
  refine cs_arr hH (atype := .int) (ty := .int) (t := 0) (N := N) rfl rfl (Or.inl rfl) (xw 61 (by decide +kernel) (by decide +kernel)) hP hD hS hA (by rw [ti_lt, hx0, ti_lit0]; omega) (ti_cl' hx0) (by show N * 4 ≤ _; omega) ⟨Nat.le_refl _, by show 0 + N ≤ N; omega⟩ dX5_init_10 (fun a0 H hP hD hS => ?_)
  refine cs_ref hH (ci := 5) rfl hP hD hS hin 0 (by decide) (Nat.le_of_ble_eq_true rfl) rfl rfl (xw 57 (by decide +kernel) (by decide +kernel)) (ty := .array .int) (by decide +kernel) rfl rfl dX5_init_12 (fun H locs hP hD hS => ?_)
  refine W.widen (k := 1) (n := N) (Nat.le_refl _) (by omega) ?_
  exact fin 15 _ _ _ _ dX5_init_15 ⟨a0, rfl⟩ hP hD hS
theorem dX0_init_0 : decode cX0_init 0 = .ok (.aload_n 0, 1) := by decide +kernel
theorem dX0_init_1 : decode cX0_init 1 = .ok (.invokespecial 3, 3) := by decide +kernel
theorem dX0_init_4 : decode cX0_init 4 = .ok (.aload_n 0, 1) := by decide +kernel
theorem dX0_init_5 : decode cX0_init 5 = .ok (.iconst 0, 1) := by decide +kernel
theorem dX0_init_6 : decode cX0_init 6 = .ok (.putfield 9, 3) := by decide +kernel
theorem dX0_init_9 : decode cX0_init 9 = .ok (.aload_n 0, 1) := by decide +kernel
theorem dX0_init_10 : decode cX0_init 10 = .ok (.new 15, 3) := by decide +kernel
theorem dX0_init_13 : decode cX0_init 13 = .ok (.dup, 1) := by decide +kernel
theorem dX0_init_14 : decode cX0_init 14 = .ok (.bipush 70, 2) := by decide +kernel
theorem dX0_init_16 : decode cX0_init 16 = .ok (.invokespecial 17, 3) := by decide +kernel
theorem dX0_init_19 : decode cX0_init 19 = .ok (.putfield 20, 3) := by decide +kernel
theorem dX0_init_22 : decode cX0_init 22 = .ok (.aload_n 0, 1) := by decide +kernel
theorem dX0_init_23 : decode cX0_init 23 = .ok (.iconst 0, 1) := by decide +kernel
theorem dX0_init_24 : decode cX0_init 24 = .ok (.putfield 24, 3) := by decide +kernel
theorem dX0_init_27 : decode cX0_init 27 = .ok (.aload_n 0, 1) := by decide +kernel
theorem dX0_init_28 : decode cX0_init 28 = .ok (.iconst 0, 1) := by decide +kernel
theorem dX0_init_29 : decode cX0_init 29 = .ok (.putfield 27, 3) := by decide +kernel
theorem dX0_init_32 : decode cX0_init 32 = .ok (.aload_n 0, 1) := by decide +kernel
theorem dX0_init_33 : decode cX0_init 33 = .ok (.iconst 0, 1) := by decide +kernel
theorem dX0_init_34 : decode cX0_init 34 = .ok (.putfield 30, 3) := by decide +kernel
theorem dX0_init_37 : decode cX0_init 37 = .ok (.return_, 1) := by decide +kernel
theorem ccX0_init_16 : cCall RX0 17 YX5 1 := ⟨xw 52 (by decide +kernel) (by decide +kernel), xw 19 (by decide +kernel) (by decide +kernel), Or.inl (xw 168 (by decide +kernel) (by decide +kernel)), xw 51 (by decide +kernel) (by decide +kernel), rfl, by decide, by decide, by decide +kernel⟩
set_option maxRecDepth 20000 in
theorem cX0 (l : Launch) (D : va_G) (cA : Nat → ClassId) : CMet l D cA YX0 (2, 2, 71, 80) [] (.inr (0, [.int 0, .null, .int 0, .int 0, .int 0])) (BX0 cA) := by
  refine CMet.of (idx := 3) (by decide +kernel) rfl ⟨xw 166 (by decide +kernel) (by decide +kernel), xw 34 (by decide +kernel) (by decide +kernel), xw 35 (by decide +kernel) (by decide +kernel)⟩ ⟨(Nat.le_of_ble_eq_true rfl), (Nat.le_of_ble_eq_true rfl)⟩ (fun _ => (Nat.le_of_ble_eq_true rfl)) dX0_init_0 dX0_init_1 ?_
  intro q p e s m args below meth c A ls Ts Qf hH hin hA hS hP hD hl fin
  have hx := hH.1
  have hb := hH.2.1
  have hls := hl.1
  have hl0 : ls[0]? = some (.val (.ref q)) := lv_at hl 0 rfl
  refine lv_aload_n hx hb dX0_init_4 rfl hl0 ?_
  refine lv_iconst (v := 0) hx hb dX0_init_5 (by decide) ?_
  refine cs_int hH (ci := 0) rfl hP hD hS 0 (by decide) (Nat.le_of_ble_eq_true rfl) rfl (xw 169 (by decide +kernel) (by decide +kernel)) (ty := .int) (by decide +kernel) rfl rfl dX0_init_6 (fun H locs hP hD hS => ?_)
  have hP : va_P D vwCl ((q, .inr (0, [.int 0, .null, .int 0, .int 0, .int 0])) :: ([] : va_W) : va_W) _ := hP
  have hD : va_D A ((q, .inr (0, [.int 0, .null, .int 0, .int 0, .int 0])) :: ([] : va_W) : va_W) := hD
  refine lv_aload_n hx hb dX0_init_9 rfl hl0 ?_
  refine cs_new hH (cj := 5) (fs1 := [.null]) rfl tyX5 tyX5_ok (fun j hj => by rcases (show j = 0 by omega) with rfl <;> rfl) (xw 167 (by decide +kernel) (by decide +kernel)) (xw 49 (by decide +kernel) (by decide +kernel)) (xw 19 (by decide +kernel) (by decide +kernel)) hP hD hS hA ⟨(Nat.le_of_ble_eq_true rfl), (Nat.le_of_ble_eq_true rfl)⟩ dX0_init_10 (fun q0 H hP hD hS => ?_)
  refine lv_dup hx hb dX0_init_13 rfl ?_
  refine lv_bipush (v := 70) hx hb dX0_init_14 (by decide) ?_
  refine cs_call hH (As := [.int 70]) (rest := [.ref q0, .ref q]) (cRow l D cA (x := 70) (N := 70) rfl (by decide)) ccX0_init_16 hP hD hS hA hls (Nat.le_of_ble_eq_true rfl) ⟨(Nat.le_of_ble_eq_true rfl), (Nat.le_of_ble_eq_true rfl)⟩ ⟨(Nat.le_of_ble_eq_true rfl), (Nat.le_of_ble_eq_true rfl)⟩ dX0_init_16 (fun w H locs hw hP hD hS => ?_)
  obtain ⟨a0, rfl⟩ := hw
  have hP : va_P D vwCl ((q, .inr (0, [.int 0, .null, .int 0, .int 0, .int 0])) :: (([] : va_W) ++ wRow cA 70 q0 a0) : va_W) _ := hP
  have hD : va_D A ((q, .inr (0, [.int 0, .null, .int 0, .int 0, .int 0])) :: (([] : va_W) ++ wRow cA 70 q0 a0) : va_W) := hD
  refine cs_ref hH (ci := 0) rfl hP hD hS hin 1 (by decide) (Nat.le_of_ble_eq_true rfl) rfl rfl (xw 170 (by decide +kernel) (by decide +kernel)) (ty := .object "BoxedProofs$Row") (by decide +kernel) rfl rfl dX0_init_19 (fun H locs hP hD hS => ?_)
  have hP : va_P D vwCl ((q, .inr (0, [.int 0, .ref q0, .int 0, .int 0, .int 0])) :: (([] : va_W) ++ wRow cA 70 q0 a0) : va_W) _ := hP
  have hD : va_D A ((q, .inr (0, [.int 0, .ref q0, .int 0, .int 0, .int 0])) :: (([] : va_W) ++ wRow cA 70 q0 a0) : va_W) := hD
  refine lv_aload_n hx hb dX0_init_22 rfl hl0 ?_
  refine lv_iconst (v := 0) hx hb dX0_init_23 (by decide) ?_
  refine cs_int hH (ci := 0) rfl hP hD hS 2 (by decide) (Nat.le_of_ble_eq_true rfl) rfl (xw 171 (by decide +kernel) (by decide +kernel)) (ty := .int) (by decide +kernel) rfl rfl dX0_init_24 (fun H locs hP hD hS => ?_)
  have hP : va_P D vwCl ((q, .inr (0, [.int 0, .ref q0, .int 0, .int 0, .int 0])) :: (([] : va_W) ++ wRow cA 70 q0 a0) : va_W) _ := hP
  have hD : va_D A ((q, .inr (0, [.int 0, .ref q0, .int 0, .int 0, .int 0])) :: (([] : va_W) ++ wRow cA 70 q0 a0) : va_W) := hD
  refine lv_aload_n hx hb dX0_init_27 rfl hl0 ?_
  refine lv_iconst (v := 0) hx hb dX0_init_28 (by decide) ?_
  refine cs_int hH (ci := 0) rfl hP hD hS 3 (by decide) (Nat.le_of_ble_eq_true rfl) rfl (xw 172 (by decide +kernel) (by decide +kernel)) (ty := .int) (by decide +kernel) rfl rfl dX0_init_29 (fun H locs hP hD hS => ?_)
  have hP : va_P D vwCl ((q, .inr (0, [.int 0, .ref q0, .int 0, .int 0, .int 0])) :: (([] : va_W) ++ wRow cA 70 q0 a0) : va_W) _ := hP
  have hD : va_D A ((q, .inr (0, [.int 0, .ref q0, .int 0, .int 0, .int 0])) :: (([] : va_W) ++ wRow cA 70 q0 a0) : va_W) := hD
  refine lv_aload_n hx hb dX0_init_32 rfl hl0 ?_
  refine lv_iconst (v := 0) hx hb dX0_init_33 (by decide) ?_
  refine cs_int hH (ci := 0) rfl hP hD hS 4 (by decide) (Nat.le_of_ble_eq_true rfl) rfl (xw 173 (by decide +kernel) (by decide +kernel)) (ty := .boolean) (by decide +kernel) rfl rfl dX0_init_34 (fun H locs hP hD hS => ?_)
  have hP : va_P D vwCl ((q, .inr (0, [.int 0, .ref q0, .int 0, .int 0, .int 0])) :: (([] : va_W) ++ wRow cA 70 q0 a0) : va_W) _ := hP
  have hD : va_D A ((q, .inr (0, [.int 0, .ref q0, .int 0, .int 0, .int 0])) :: (([] : va_W) ++ wRow cA 70 q0 a0) : va_W) := hD
  refine W.widen (k := 2) (n := 71) (Nat.le_of_ble_eq_true rfl) (Nat.le_of_ble_eq_true rfl) ?_
  exact fin 37 _ _ _ _ dX0_init_37 (⟨q0, a0, rfl⟩) hP hD hS
theorem dX1_init_0 : decode cX1_init 0 = .ok (.aload_n 0, 1) := by decide +kernel
theorem dX1_init_1 : decode cX1_init 1 = .ok (.invokespecial 3, 3) := by decide +kernel
theorem dX1_init_4 : decode cX1_init 4 = .ok (.aload_n 0, 1) := by decide +kernel
theorem dX1_init_5 : decode cX1_init 5 = .ok (.iconst 0, 1) := by decide +kernel
theorem dX1_init_6 : decode cX1_init 6 = .ok (.putfield 9, 3) := by decide +kernel
theorem dX1_init_9 : decode cX1_init 9 = .ok (.aload_n 0, 1) := by decide +kernel
theorem dX1_init_10 : decode cX1_init 10 = .ok (.new 15, 3) := by decide +kernel
theorem dX1_init_13 : decode cX1_init 13 = .ok (.dup, 1) := by decide +kernel
theorem dX1_init_14 : decode cX1_init 14 = .ok (.bipush 70, 2) := by decide +kernel
theorem dX1_init_16 : decode cX1_init 16 = .ok (.invokespecial 17, 3) := by decide +kernel
theorem dX1_init_19 : decode cX1_init 19 = .ok (.putfield 20, 3) := by decide +kernel
theorem dX1_init_22 : decode cX1_init 22 = .ok (.aload_n 0, 1) := by decide +kernel
theorem dX1_init_23 : decode cX1_init 23 = .ok (.new 15, 3) := by decide +kernel
theorem dX1_init_26 : decode cX1_init 26 = .ok (.dup, 1) := by decide +kernel
theorem dX1_init_27 : decode cX1_init 27 = .ok (.bipush 70, 2) := by decide +kernel
theorem dX1_init_29 : decode cX1_init 29 = .ok (.invokespecial 17, 3) := by decide +kernel
theorem dX1_init_32 : decode cX1_init 32 = .ok (.putfield 24, 3) := by decide +kernel
theorem dX1_init_35 : decode cX1_init 35 = .ok (.return_, 1) := by decide +kernel
theorem ccX1_init_16 : cCall RX1 17 YX5 1 := ⟨xw 52 (by decide +kernel) (by decide +kernel), xw 19 (by decide +kernel) (by decide +kernel), Or.inl (xw 192 (by decide +kernel) (by decide +kernel)), xw 51 (by decide +kernel) (by decide +kernel), rfl, by decide, by decide, by decide +kernel⟩
theorem ccX1_init_29 : cCall RX1 17 YX5 1 := ⟨xw 52 (by decide +kernel) (by decide +kernel), xw 19 (by decide +kernel) (by decide +kernel), Or.inl (xw 192 (by decide +kernel) (by decide +kernel)), xw 51 (by decide +kernel) (by decide +kernel), rfl, by decide, by decide, by decide +kernel⟩
set_option maxRecDepth 20000 in
theorem cX1 (l : Launch) (D : va_G) (cA : Nat → ClassId) : CMet l D cA YX1 (2, 4, 142, 80) [] (.inr (1, [.int 0, .null, .null])) (BX1 cA) := by
  refine CMet.of (idx := 3) (by decide +kernel) rfl ⟨xw 190 (by decide +kernel) (by decide +kernel), xw 34 (by decide +kernel) (by decide +kernel), xw 35 (by decide +kernel) (by decide +kernel)⟩ ⟨(Nat.le_of_ble_eq_true rfl), (Nat.le_of_ble_eq_true rfl)⟩ (fun _ => (Nat.le_of_ble_eq_true rfl)) dX1_init_0 dX1_init_1 ?_
  intro q p e s m args below meth c A ls Ts Qf hH hin hA hS hP hD hl fin
  have hx := hH.1
  have hb := hH.2.1
  have hls := hl.1
  have hl0 : ls[0]? = some (.val (.ref q)) := lv_at hl 0 rfl
  refine lv_aload_n hx hb dX1_init_4 rfl hl0 ?_
  refine lv_iconst (v := 0) hx hb dX1_init_5 (by decide) ?_
  refine cs_int hH (ci := 1) rfl hP hD hS 0 (by decide) (Nat.le_of_ble_eq_true rfl) rfl (xw 193 (by decide +kernel) (by decide +kernel)) (ty := .int) (by decide +kernel) rfl rfl dX1_init_6 (fun H locs hP hD hS => ?_)
  have hP : va_P D vwCl ((q, .inr (1, [.int 0, .null, .null])) :: ([] : va_W) : va_W) _ := hP
  have hD : va_D A ((q, .inr (1, [.int 0, .null, .null])) :: ([] : va_W) : va_W) := hD
  refine lv_aload_n hx hb dX1_init_9 rfl hl0 ?_
  refine cs_new hH (cj := 5) (fs1 := [.null]) rfl tyX5 tyX5_ok (fun j hj => by rcases (show j = 0 by omega) with rfl <;> rfl) (xw 191 (by decide +kernel) (by decide +kernel)) (xw 49 (by decide +kernel) (by decide +kernel)) (xw 19 (by decide +kernel) (by decide +kernel)) hP hD hS hA ⟨(Nat.le_of_ble_eq_true rfl), (Nat.le_of_ble_eq_true rfl)⟩ dX1_init_10 (fun q0 H hP hD hS => ?_)
  refine lv_dup hx hb dX1_init_13 rfl ?_
  refine lv_bipush (v := 70) hx hb dX1_init_14 (by decide) ?_
  refine cs_call hH (As := [.int 70]) (rest := [.ref q0, .ref q]) (cRow l D cA (x := 70) (N := 70) rfl (by decide)) ccX1_init_16 hP hD hS hA hls (Nat.le_of_ble_eq_true rfl) ⟨(Nat.le_of_ble_eq_true rfl), (Nat.le_of_ble_eq_true rfl)⟩ ⟨(Nat.le_of_ble_eq_true rfl), (Nat.le_of_ble_eq_true rfl)⟩ dX1_init_16 (fun w H locs hw hP hD hS => ?_)
  obtain ⟨a0, rfl⟩ := hw
  have hP : va_P D vwCl ((q, .inr (1, [.int 0, .null, .null])) :: (([] : va_W) ++ wRow cA 70 q0 a0) : va_W) _ := hP
  have hD : va_D A ((q, .inr (1, [.int 0, .null, .null])) :: (([] : va_W) ++ wRow cA 70 q0 a0) : va_W) := hD
  refine cs_ref hH (ci := 1) rfl hP hD hS hin 1 (by decide) (Nat.le_of_ble_eq_true rfl) rfl rfl (xw 194 (by decide +kernel) (by decide +kernel)) (ty := .object "BoxedProofs$Row") (by decide +kernel) rfl rfl dX1_init_19 (fun H locs hP hD hS => ?_)
  have hP : va_P D vwCl ((q, .inr (1, [.int 0, .ref q0, .null])) :: (([] : va_W) ++ wRow cA 70 q0 a0) : va_W) _ := hP
  have hD : va_D A ((q, .inr (1, [.int 0, .ref q0, .null])) :: (([] : va_W) ++ wRow cA 70 q0 a0) : va_W) := hD
  refine lv_aload_n hx hb dX1_init_22 rfl hl0 ?_
  refine cs_new hH (cj := 5) (fs1 := [.null]) rfl tyX5 tyX5_ok (fun j hj => by rcases (show j = 0 by omega) with rfl <;> rfl) (xw 191 (by decide +kernel) (by decide +kernel)) (xw 49 (by decide +kernel) (by decide +kernel)) (xw 19 (by decide +kernel) (by decide +kernel)) hP hD hS hA ⟨(Nat.le_of_ble_eq_true rfl), (Nat.le_of_ble_eq_true rfl)⟩ dX1_init_23 (fun q1 H hP hD hS => ?_)
  refine lv_dup hx hb dX1_init_26 rfl ?_
  refine lv_bipush (v := 70) hx hb dX1_init_27 (by decide) ?_
  refine cs_call hH (As := [.int 70]) (rest := [.ref q1, .ref q]) (cRow l D cA (x := 70) (N := 70) rfl (by decide)) ccX1_init_29 hP hD hS hA hls (Nat.le_of_ble_eq_true rfl) ⟨(Nat.le_of_ble_eq_true rfl), (Nat.le_of_ble_eq_true rfl)⟩ ⟨(Nat.le_of_ble_eq_true rfl), (Nat.le_of_ble_eq_true rfl)⟩ dX1_init_29 (fun w H locs hw hP hD hS => ?_)
  obtain ⟨a1, rfl⟩ := hw
  have hP : va_P D vwCl ((q, .inr (1, [.int 0, .ref q0, .null])) :: ((([] : va_W) ++ wRow cA 70 q0 a0) ++ wRow cA 70 q1 a1) : va_W) _ := hP
  have hD : va_D A ((q, .inr (1, [.int 0, .ref q0, .null])) :: ((([] : va_W) ++ wRow cA 70 q0 a0) ++ wRow cA 70 q1 a1) : va_W) := hD
  refine cs_ref hH (ci := 1) rfl hP hD hS hin 2 (by decide) (Nat.le_of_ble_eq_true rfl) rfl rfl (xw 195 (by decide +kernel) (by decide +kernel)) (ty := .object "BoxedProofs$Row") (by decide +kernel) rfl rfl dX1_init_32 (fun H locs hP hD hS => ?_)
  have hP : va_P D vwCl ((q, .inr (1, [.int 0, .ref q0, .ref q1])) :: ((([] : va_W) ++ wRow cA 70 q0 a0) ++ wRow cA 70 q1 a1) : va_W) _ := hP
  have hD : va_D A ((q, .inr (1, [.int 0, .ref q0, .ref q1])) :: ((([] : va_W) ++ wRow cA 70 q0 a0) ++ wRow cA 70 q1 a1) : va_W) := hD
  refine W.widen (k := 4) (n := 142) (Nat.le_of_ble_eq_true rfl) (Nat.le_of_ble_eq_true rfl) ?_
  exact fin 35 _ _ _ _ dX1_init_35 (⟨q0, a0, q1, a1, rfl⟩) hP hD hS
theorem dX2_init_0 : decode cX2_init 0 = .ok (.aload_n 0, 1) := by decide +kernel
theorem dX2_init_1 : decode cX2_init 1 = .ok (.invokespecial 3, 3) := by decide +kernel
theorem dX2_init_4 : decode cX2_init 4 = .ok (.aload_n 0, 1) := by decide +kernel
theorem dX2_init_5 : decode cX2_init 5 = .ok (.iconst 0, 1) := by decide +kernel
theorem dX2_init_6 : decode cX2_init 6 = .ok (.putfield 9, 3) := by decide +kernel
theorem dX2_init_9 : decode cX2_init 9 = .ok (.aload_n 0, 1) := by decide +kernel
theorem dX2_init_10 : decode cX2_init 10 = .ok (.new 15, 3) := by decide +kernel
theorem dX2_init_13 : decode cX2_init 13 = .ok (.dup, 1) := by decide +kernel
theorem dX2_init_14 : decode cX2_init 14 = .ok (.bipush 60, 2) := by decide +kernel
theorem dX2_init_16 : decode cX2_init 16 = .ok (.invokespecial 17, 3) := by decide +kernel
theorem dX2_init_19 : decode cX2_init 19 = .ok (.putfield 20, 3) := by decide +kernel
theorem dX2_init_22 : decode cX2_init 22 = .ok (.aload_n 0, 1) := by decide +kernel
theorem dX2_init_23 : decode cX2_init 23 = .ok (.new 15, 3) := by decide +kernel
theorem dX2_init_26 : decode cX2_init 26 = .ok (.dup, 1) := by decide +kernel
theorem dX2_init_27 : decode cX2_init 27 = .ok (.bipush 60, 2) := by decide +kernel
theorem dX2_init_29 : decode cX2_init 29 = .ok (.invokespecial 17, 3) := by decide +kernel
theorem dX2_init_32 : decode cX2_init 32 = .ok (.putfield 24, 3) := by decide +kernel
theorem dX2_init_35 : decode cX2_init 35 = .ok (.aload_n 0, 1) := by decide +kernel
theorem dX2_init_36 : decode cX2_init 36 = .ok (.new 15, 3) := by decide +kernel
theorem dX2_init_39 : decode cX2_init 39 = .ok (.dup, 1) := by decide +kernel
theorem dX2_init_40 : decode cX2_init 40 = .ok (.bipush 60, 2) := by decide +kernel
theorem dX2_init_42 : decode cX2_init 42 = .ok (.invokespecial 17, 3) := by decide +kernel
theorem dX2_init_45 : decode cX2_init 45 = .ok (.putfield 27, 3) := by decide +kernel
theorem dX2_init_48 : decode cX2_init 48 = .ok (.return_, 1) := by decide +kernel
theorem ccX2_init_16 : cCall RX2 17 YX5 1 := ⟨xw 52 (by decide +kernel) (by decide +kernel), xw 19 (by decide +kernel) (by decide +kernel), Or.inl (xw 50 (by decide +kernel) (by decide +kernel)), xw 51 (by decide +kernel) (by decide +kernel), rfl, by decide, by decide, by decide +kernel⟩
theorem ccX2_init_29 : cCall RX2 17 YX5 1 := ⟨xw 52 (by decide +kernel) (by decide +kernel), xw 19 (by decide +kernel) (by decide +kernel), Or.inl (xw 50 (by decide +kernel) (by decide +kernel)), xw 51 (by decide +kernel) (by decide +kernel), rfl, by decide, by decide, by decide +kernel⟩
theorem ccX2_init_42 : cCall RX2 17 YX5 1 := ⟨xw 52 (by decide +kernel) (by decide +kernel), xw 19 (by decide +kernel) (by decide +kernel), Or.inl (xw 50 (by decide +kernel) (by decide +kernel)), xw 51 (by decide +kernel) (by decide +kernel), rfl, by decide, by decide, by decide +kernel⟩
set_option maxRecDepth 20000 in
theorem cX2 (l : Launch) (D : va_G) (cA : Nat → ClassId) : CMet l D cA YX2 (2, 6, 183, 80) [] (.inr (2, [.int 0, .null, .null, .null])) (BX2 cA) := by
  refine CMet.of (idx := 3) (by decide +kernel) rfl ⟨xw 47 (by decide +kernel) (by decide +kernel), xw 34 (by decide +kernel) (by decide +kernel), xw 35 (by decide +kernel) (by decide +kernel)⟩ ⟨(Nat.le_of_ble_eq_true rfl), (Nat.le_of_ble_eq_true rfl)⟩ (fun _ => (Nat.le_of_ble_eq_true rfl)) dX2_init_0 dX2_init_1 ?_
  intro q p e s m args below meth c A ls Ts Qf hH hin hA hS hP hD hl fin
  have hx := hH.1
  have hb := hH.2.1
  have hls := hl.1
  have hl0 : ls[0]? = some (.val (.ref q)) := lv_at hl 0 rfl
  refine lv_aload_n hx hb dX2_init_4 rfl hl0 ?_
  refine lv_iconst (v := 0) hx hb dX2_init_5 (by decide) ?_
  refine cs_int hH (ci := 2) rfl hP hD hS 0 (by decide) (Nat.le_of_ble_eq_true rfl) rfl (xw 62 (by decide +kernel) (by decide +kernel)) (ty := .int) (by decide +kernel) rfl rfl dX2_init_6 (fun H locs hP hD hS => ?_)
  have hP : va_P D vwCl ((q, .inr (2, [.int 0, .null, .null, .null])) :: ([] : va_W) : va_W) _ := hP
  have hD : va_D A ((q, .inr (2, [.int 0, .null, .null, .null])) :: ([] : va_W) : va_W) := hD
  refine lv_aload_n hx hb dX2_init_9 rfl hl0 ?_
  refine cs_new hH (cj := 5) (fs1 := [.null]) rfl tyX5 tyX5_ok (fun j hj => by rcases (show j = 0 by omega) with rfl <;> rfl) (xw 48 (by decide +kernel) (by decide +kernel)) (xw 49 (by decide +kernel) (by decide +kernel)) (xw 19 (by decide +kernel) (by decide +kernel)) hP hD hS hA ⟨(Nat.le_of_ble_eq_true rfl), (Nat.le_of_ble_eq_true rfl)⟩ dX2_init_10 (fun q0 H hP hD hS => ?_)
  refine lv_dup hx hb dX2_init_13 rfl ?_
  refine lv_bipush (v := 60) hx hb dX2_init_14 (by decide) ?_
  refine cs_call hH (As := [.int 60]) (rest := [.ref q0, .ref q]) (cRow l D cA (x := 60) (N := 60) rfl (by decide)) ccX2_init_16 hP hD hS hA hls (Nat.le_of_ble_eq_true rfl) ⟨(Nat.le_of_ble_eq_true rfl), (Nat.le_of_ble_eq_true rfl)⟩ ⟨(Nat.le_of_ble_eq_true rfl), (Nat.le_of_ble_eq_true rfl)⟩ dX2_init_16 (fun w H locs hw hP hD hS => ?_)
  obtain ⟨a0, rfl⟩ := hw
  have hP : va_P D vwCl ((q, .inr (2, [.int 0, .null, .null, .null])) :: (([] : va_W) ++ wRow cA 60 q0 a0) : va_W) _ := hP
  have hD : va_D A ((q, .inr (2, [.int 0, .null, .null, .null])) :: (([] : va_W) ++ wRow cA 60 q0 a0) : va_W) := hD
  refine cs_ref hH (ci := 2) rfl hP hD hS hin 1 (by decide) (Nat.le_of_ble_eq_true rfl) rfl rfl (xw 64 (by decide +kernel) (by decide +kernel)) (ty := .object "BoxedProofs$Row") (by decide +kernel) rfl rfl dX2_init_19 (fun H locs hP hD hS => ?_)
  have hP : va_P D vwCl ((q, .inr (2, [.int 0, .ref q0, .null, .null])) :: (([] : va_W) ++ wRow cA 60 q0 a0) : va_W) _ := hP
  have hD : va_D A ((q, .inr (2, [.int 0, .ref q0, .null, .null])) :: (([] : va_W) ++ wRow cA 60 q0 a0) : va_W) := hD
  refine lv_aload_n hx hb dX2_init_22 rfl hl0 ?_
  refine cs_new hH (cj := 5) (fs1 := [.null]) rfl tyX5 tyX5_ok (fun j hj => by rcases (show j = 0 by omega) with rfl <;> rfl) (xw 48 (by decide +kernel) (by decide +kernel)) (xw 49 (by decide +kernel) (by decide +kernel)) (xw 19 (by decide +kernel) (by decide +kernel)) hP hD hS hA ⟨(Nat.le_of_ble_eq_true rfl), (Nat.le_of_ble_eq_true rfl)⟩ dX2_init_23 (fun q1 H hP hD hS => ?_)
  refine lv_dup hx hb dX2_init_26 rfl ?_
  refine lv_bipush (v := 60) hx hb dX2_init_27 (by decide) ?_
  refine cs_call hH (As := [.int 60]) (rest := [.ref q1, .ref q]) (cRow l D cA (x := 60) (N := 60) rfl (by decide)) ccX2_init_29 hP hD hS hA hls (Nat.le_of_ble_eq_true rfl) ⟨(Nat.le_of_ble_eq_true rfl), (Nat.le_of_ble_eq_true rfl)⟩ ⟨(Nat.le_of_ble_eq_true rfl), (Nat.le_of_ble_eq_true rfl)⟩ dX2_init_29 (fun w H locs hw hP hD hS => ?_)
  obtain ⟨a1, rfl⟩ := hw
  have hP : va_P D vwCl ((q, .inr (2, [.int 0, .ref q0, .null, .null])) :: ((([] : va_W) ++ wRow cA 60 q0 a0) ++ wRow cA 60 q1 a1) : va_W) _ := hP
  have hD : va_D A ((q, .inr (2, [.int 0, .ref q0, .null, .null])) :: ((([] : va_W) ++ wRow cA 60 q0 a0) ++ wRow cA 60 q1 a1) : va_W) := hD
  refine cs_ref hH (ci := 2) rfl hP hD hS hin 2 (by decide) (Nat.le_of_ble_eq_true rfl) rfl rfl (xw 66 (by decide +kernel) (by decide +kernel)) (ty := .object "BoxedProofs$Row") (by decide +kernel) rfl rfl dX2_init_32 (fun H locs hP hD hS => ?_)
  have hP : va_P D vwCl ((q, .inr (2, [.int 0, .ref q0, .ref q1, .null])) :: ((([] : va_W) ++ wRow cA 60 q0 a0) ++ wRow cA 60 q1 a1) : va_W) _ := hP
  have hD : va_D A ((q, .inr (2, [.int 0, .ref q0, .ref q1, .null])) :: ((([] : va_W) ++ wRow cA 60 q0 a0) ++ wRow cA 60 q1 a1) : va_W) := hD
  refine lv_aload_n hx hb dX2_init_35 rfl hl0 ?_
  refine cs_new hH (cj := 5) (fs1 := [.null]) rfl tyX5 tyX5_ok (fun j hj => by rcases (show j = 0 by omega) with rfl <;> rfl) (xw 48 (by decide +kernel) (by decide +kernel)) (xw 49 (by decide +kernel) (by decide +kernel)) (xw 19 (by decide +kernel) (by decide +kernel)) hP hD hS hA ⟨(Nat.le_of_ble_eq_true rfl), (Nat.le_of_ble_eq_true rfl)⟩ dX2_init_36 (fun q2 H hP hD hS => ?_)
  refine lv_dup hx hb dX2_init_39 rfl ?_
  refine lv_bipush (v := 60) hx hb dX2_init_40 (by decide) ?_
  refine cs_call hH (As := [.int 60]) (rest := [.ref q2, .ref q]) (cRow l D cA (x := 60) (N := 60) rfl (by decide)) ccX2_init_42 hP hD hS hA hls (Nat.le_of_ble_eq_true rfl) ⟨(Nat.le_of_ble_eq_true rfl), (Nat.le_of_ble_eq_true rfl)⟩ ⟨(Nat.le_of_ble_eq_true rfl), (Nat.le_of_ble_eq_true rfl)⟩ dX2_init_42 (fun w H locs hw hP hD hS => ?_)
  obtain ⟨a2, rfl⟩ := hw
  have hP : va_P D vwCl ((q, .inr (2, [.int 0, .ref q0, .ref q1, .null])) :: (((([] : va_W) ++ wRow cA 60 q0 a0) ++ wRow cA 60 q1 a1) ++ wRow cA 60 q2 a2) : va_W) _ := hP
  have hD : va_D A ((q, .inr (2, [.int 0, .ref q0, .ref q1, .null])) :: (((([] : va_W) ++ wRow cA 60 q0 a0) ++ wRow cA 60 q1 a1) ++ wRow cA 60 q2 a2) : va_W) := hD
  refine cs_ref hH (ci := 2) rfl hP hD hS hin 3 (by decide) (Nat.le_of_ble_eq_true rfl) rfl rfl (xw 68 (by decide +kernel) (by decide +kernel)) (ty := .object "BoxedProofs$Row") (by decide +kernel) rfl rfl dX2_init_45 (fun H locs hP hD hS => ?_)
  have hP : va_P D vwCl ((q, .inr (2, [.int 0, .ref q0, .ref q1, .ref q2])) :: (((([] : va_W) ++ wRow cA 60 q0 a0) ++ wRow cA 60 q1 a1) ++ wRow cA 60 q2 a2) : va_W) _ := hP
  have hD : va_D A ((q, .inr (2, [.int 0, .ref q0, .ref q1, .ref q2])) :: (((([] : va_W) ++ wRow cA 60 q0 a0) ++ wRow cA 60 q1 a1) ++ wRow cA 60 q2 a2) : va_W) := hD
  refine W.widen (k := 6) (n := 183) (Nat.le_of_ble_eq_true rfl) (Nat.le_of_ble_eq_true rfl) ?_
  exact fin 48 _ _ _ _ dX2_init_48 (⟨fun c => if c = 0 then q0 else if c = 1 then q1 else q2, fun c => if c = 0 then a0 else if c = 1 then a1 else a2, rfl⟩) hP hD hS
theorem dX4_init_0 : decode cX4_init 0 = .ok (.aload_n 0, 1) := by decide +kernel
theorem dX4_init_1 : decode cX4_init 1 = .ok (.invokespecial 3, 3) := by decide +kernel
theorem dX4_init_4 : decode cX4_init 4 = .ok (.aload_n 0, 1) := by decide +kernel
theorem dX4_init_5 : decode cX4_init 5 = .ok (.iconst 0, 1) := by decide +kernel
theorem dX4_init_6 : decode cX4_init 6 = .ok (.putfield 9, 3) := by decide +kernel
theorem dX4_init_9 : decode cX4_init 9 = .ok (.aload_n 0, 1) := by decide +kernel
theorem dX4_init_10 : decode cX4_init 10 = .ok (.iconst 0, 1) := by decide +kernel
theorem dX4_init_11 : decode cX4_init 11 = .ok (.putfield 15, 3) := by decide +kernel
theorem dX4_init_14 : decode cX4_init 14 = .ok (.aload_n 0, 1) := by decide +kernel
theorem dX4_init_15 : decode cX4_init 15 = .ok (.bipush (-6), 2) := by decide +kernel
theorem dX4_init_17 : decode cX4_init 17 = .ok (.putfield 18, 3) := by decide +kernel
theorem dX4_init_20 : decode cX4_init 20 = .ok (.aload_n 0, 1) := by decide +kernel
theorem dX4_init_21 : decode cX4_init 21 = .ok (.new 21, 3) := by decide +kernel
theorem dX4_init_24 : decode cX4_init 24 = .ok (.dup, 1) := by decide +kernel
theorem dX4_init_25 : decode cX4_init 25 = .ok (.bipush 48, 2) := by decide +kernel
theorem dX4_init_27 : decode cX4_init 27 = .ok (.invokespecial 23, 3) := by decide +kernel
theorem dX4_init_30 : decode cX4_init 30 = .ok (.putfield 26, 3) := by decide +kernel
theorem dX4_init_33 : decode cX4_init 33 = .ok (.aload_n 0, 1) := by decide +kernel
theorem dX4_init_34 : decode cX4_init 34 = .ok (.new 21, 3) := by decide +kernel
theorem dX4_init_37 : decode cX4_init 37 = .ok (.dup, 1) := by decide +kernel
theorem dX4_init_38 : decode cX4_init 38 = .ok (.bipush 48, 2) := by decide +kernel
theorem dX4_init_40 : decode cX4_init 40 = .ok (.invokespecial 23, 3) := by decide +kernel
theorem dX4_init_43 : decode cX4_init 43 = .ok (.putfield 30, 3) := by decide +kernel
theorem dX4_init_46 : decode cX4_init 46 = .ok (.aload_n 0, 1) := by decide +kernel
theorem dX4_init_47 : decode cX4_init 47 = .ok (.new 21, 3) := by decide +kernel
theorem dX4_init_50 : decode cX4_init 50 = .ok (.dup, 1) := by decide +kernel
theorem dX4_init_51 : decode cX4_init 51 = .ok (.bipush 48, 2) := by decide +kernel
theorem dX4_init_53 : decode cX4_init 53 = .ok (.invokespecial 23, 3) := by decide +kernel
theorem dX4_init_56 : decode cX4_init 56 = .ok (.putfield 33, 3) := by decide +kernel
theorem dX4_init_59 : decode cX4_init 59 = .ok (.aload_n 0, 1) := by decide +kernel
theorem dX4_init_60 : decode cX4_init 60 = .ok (.new 21, 3) := by decide +kernel
theorem dX4_init_63 : decode cX4_init 63 = .ok (.dup, 1) := by decide +kernel
theorem dX4_init_64 : decode cX4_init 64 = .ok (.bipush 48, 2) := by decide +kernel
theorem dX4_init_66 : decode cX4_init 66 = .ok (.invokespecial 23, 3) := by decide +kernel
theorem dX4_init_69 : decode cX4_init 69 = .ok (.putfield 36, 3) := by decide +kernel
theorem dX4_init_72 : decode cX4_init 72 = .ok (.aload_n 0, 1) := by decide +kernel
theorem dX4_init_73 : decode cX4_init 73 = .ok (.new 21, 3) := by decide +kernel
theorem dX4_init_76 : decode cX4_init 76 = .ok (.dup, 1) := by decide +kernel
theorem dX4_init_77 : decode cX4_init 77 = .ok (.bipush 48, 2) := by decide +kernel
theorem dX4_init_79 : decode cX4_init 79 = .ok (.invokespecial 23, 3) := by decide +kernel
theorem dX4_init_82 : decode cX4_init 82 = .ok (.putfield 39, 3) := by decide +kernel
theorem dX4_init_85 : decode cX4_init 85 = .ok (.aload_n 0, 1) := by decide +kernel
theorem dX4_init_86 : decode cX4_init 86 = .ok (.new 21, 3) := by decide +kernel
theorem dX4_init_89 : decode cX4_init 89 = .ok (.dup, 1) := by decide +kernel
theorem dX4_init_90 : decode cX4_init 90 = .ok (.bipush 48, 2) := by decide +kernel
theorem dX4_init_92 : decode cX4_init 92 = .ok (.invokespecial 23, 3) := by decide +kernel
theorem dX4_init_95 : decode cX4_init 95 = .ok (.putfield 42, 3) := by decide +kernel
theorem dX4_init_98 : decode cX4_init 98 = .ok (.aload_n 0, 1) := by decide +kernel
theorem dX4_init_99 : decode cX4_init 99 = .ok (.new 21, 3) := by decide +kernel
theorem dX4_init_102 : decode cX4_init 102 = .ok (.dup, 1) := by decide +kernel
theorem dX4_init_103 : decode cX4_init 103 = .ok (.bipush 48, 2) := by decide +kernel
theorem dX4_init_105 : decode cX4_init 105 = .ok (.invokespecial 23, 3) := by decide +kernel
theorem dX4_init_108 : decode cX4_init 108 = .ok (.putfield 45, 3) := by decide +kernel
theorem dX4_init_111 : decode cX4_init 111 = .ok (.aload_n 0, 1) := by decide +kernel
theorem dX4_init_112 : decode cX4_init 112 = .ok (.new 21, 3) := by decide +kernel
theorem dX4_init_115 : decode cX4_init 115 = .ok (.dup, 1) := by decide +kernel
theorem dX4_init_116 : decode cX4_init 116 = .ok (.bipush 48, 2) := by decide +kernel
theorem dX4_init_118 : decode cX4_init 118 = .ok (.invokespecial 23, 3) := by decide +kernel
theorem dX4_init_121 : decode cX4_init 121 = .ok (.putfield 48, 3) := by decide +kernel
theorem dX4_init_124 : decode cX4_init 124 = .ok (.aload_n 0, 1) := by decide +kernel
theorem dX4_init_125 : decode cX4_init 125 = .ok (.new 21, 3) := by decide +kernel
theorem dX4_init_128 : decode cX4_init 128 = .ok (.dup, 1) := by decide +kernel
theorem dX4_init_129 : decode cX4_init 129 = .ok (.bipush 48, 2) := by decide +kernel
theorem dX4_init_131 : decode cX4_init 131 = .ok (.invokespecial 23, 3) := by decide +kernel
theorem dX4_init_134 : decode cX4_init 134 = .ok (.putfield 51, 3) := by decide +kernel
theorem dX4_init_137 : decode cX4_init 137 = .ok (.return_, 1) := by decide +kernel
theorem ccX4_init_27 : cCall RX4 23 YX5 1 := ⟨xw 52 (by decide +kernel) (by decide +kernel), xw 19 (by decide +kernel) (by decide +kernel), Or.inl (xw 86 (by decide +kernel) (by decide +kernel)), xw 51 (by decide +kernel) (by decide +kernel), rfl, by decide, by decide, by decide +kernel⟩
theorem ccX4_init_40 : cCall RX4 23 YX5 1 := ⟨xw 52 (by decide +kernel) (by decide +kernel), xw 19 (by decide +kernel) (by decide +kernel), Or.inl (xw 86 (by decide +kernel) (by decide +kernel)), xw 51 (by decide +kernel) (by decide +kernel), rfl, by decide, by decide, by decide +kernel⟩
theorem ccX4_init_53 : cCall RX4 23 YX5 1 := ⟨xw 52 (by decide +kernel) (by decide +kernel), xw 19 (by decide +kernel) (by decide +kernel), Or.inl (xw 86 (by decide +kernel) (by decide +kernel)), xw 51 (by decide +kernel) (by decide +kernel), rfl, by decide, by decide, by decide +kernel⟩
theorem ccX4_init_66 : cCall RX4 23 YX5 1 := ⟨xw 52 (by decide +kernel) (by decide +kernel), xw 19 (by decide +kernel) (by decide +kernel), Or.inl (xw 86 (by decide +kernel) (by decide +kernel)), xw 51 (by decide +kernel) (by decide +kernel), rfl, by decide, by decide, by decide +kernel⟩
theorem ccX4_init_79 : cCall RX4 23 YX5 1 := ⟨xw 52 (by decide +kernel) (by decide +kernel), xw 19 (by decide +kernel) (by decide +kernel), Or.inl (xw 86 (by decide +kernel) (by decide +kernel)), xw 51 (by decide +kernel) (by decide +kernel), rfl, by decide, by decide, by decide +kernel⟩
theorem ccX4_init_92 : cCall RX4 23 YX5 1 := ⟨xw 52 (by decide +kernel) (by decide +kernel), xw 19 (by decide +kernel) (by decide +kernel), Or.inl (xw 86 (by decide +kernel) (by decide +kernel)), xw 51 (by decide +kernel) (by decide +kernel), rfl, by decide, by decide, by decide +kernel⟩
theorem ccX4_init_105 : cCall RX4 23 YX5 1 := ⟨xw 52 (by decide +kernel) (by decide +kernel), xw 19 (by decide +kernel) (by decide +kernel), Or.inl (xw 86 (by decide +kernel) (by decide +kernel)), xw 51 (by decide +kernel) (by decide +kernel), rfl, by decide, by decide, by decide +kernel⟩
theorem ccX4_init_118 : cCall RX4 23 YX5 1 := ⟨xw 52 (by decide +kernel) (by decide +kernel), xw 19 (by decide +kernel) (by decide +kernel), Or.inl (xw 86 (by decide +kernel) (by decide +kernel)), xw 51 (by decide +kernel) (by decide +kernel), rfl, by decide, by decide, by decide +kernel⟩
theorem ccX4_init_131 : cCall RX4 23 YX5 1 := ⟨xw 52 (by decide +kernel) (by decide +kernel), xw 19 (by decide +kernel) (by decide +kernel), Or.inl (xw 86 (by decide +kernel) (by decide +kernel)), xw 51 (by decide +kernel) (by decide +kernel), rfl, by decide, by decide, by decide +kernel⟩
set_option maxRecDepth 20000 in
theorem cX4 (l : Launch) (D : va_G) (cA : Nat → ClassId) : CMet l D cA YX4 (2, 18, 441, 80) [] (.inr (4, [.int 0, .int 0, .int 0, .null, .null, .null, .null, .null, .null, .null, .null, .null])) (BX4 cA) := by
  refine CMet.of (idx := 3) (by decide +kernel) rfl ⟨xw 84 (by decide +kernel) (by decide +kernel), xw 34 (by decide +kernel) (by decide +kernel), xw 35 (by decide +kernel) (by decide +kernel)⟩ ⟨(Nat.le_of_ble_eq_true rfl), (Nat.le_of_ble_eq_true rfl)⟩ (fun _ => (Nat.le_of_ble_eq_true rfl)) dX4_init_0 dX4_init_1 ?_
  intro q p e s m args below meth c A ls Ts Qf hH hin hA hS hP hD hl fin
  have hx := hH.1
  have hb := hH.2.1
  have hls := hl.1
  have hl0 : ls[0]? = some (.val (.ref q)) := lv_at hl 0 rfl
  refine lv_aload_n hx hb dX4_init_4 rfl hl0 ?_
  refine lv_iconst (v := 0) hx hb dX4_init_5 (by decide) ?_
  refine cs_int hH (ci := 4) rfl hP hD hS 0 (by decide) (Nat.le_of_ble_eq_true rfl) rfl (xw 87 (by decide +kernel) (by decide +kernel)) (ty := .int) (by decide +kernel) rfl rfl dX4_init_6 (fun H locs hP hD hS => ?_)
  have hP : va_P D vwCl ((q, .inr (4, [.int 0, .int 0, .int 0, .null, .null, .null, .null, .null, .null, .null, .null, .null])) :: ([] : va_W) : va_W) _ := hP
  have hD : va_D A ((q, .inr (4, [.int 0, .int 0, .int 0, .null, .null, .null, .null, .null, .null, .null, .null, .null])) :: ([] : va_W) : va_W) := hD
  refine lv_aload_n hx hb dX4_init_9 rfl hl0 ?_
  refine lv_iconst (v := 0) hx hb dX4_init_10 (by decide) ?_
  refine cs_int hH (ci := 4) rfl hP hD hS 1 (by decide) (Nat.le_of_ble_eq_true rfl) rfl (xw 89 (by decide +kernel) (by decide +kernel)) (ty := .int) (by decide +kernel) rfl rfl dX4_init_11 (fun H locs hP hD hS => ?_)
  have hP : va_P D vwCl ((q, .inr (4, [.int 0, .int 0, .int 0, .null, .null, .null, .null, .null, .null, .null, .null, .null])) :: ([] : va_W) : va_W) _ := hP
  have hD : va_D A ((q, .inr (4, [.int 0, .int 0, .int 0, .null, .null, .null, .null, .null, .null, .null, .null, .null])) :: ([] : va_W) : va_W) := hD
  refine lv_aload_n hx hb dX4_init_14 rfl hl0 ?_
  refine lv_bipush (v := (-6)) hx hb dX4_init_15 (by decide) ?_
  refine cs_int hH (ci := 4) rfl hP hD hS 2 (by decide) (Nat.le_of_ble_eq_true rfl) rfl (xw 91 (by decide +kernel) (by decide +kernel)) (ty := .int) (by decide +kernel) rfl rfl dX4_init_17 (fun H locs hP hD hS => ?_)
  have hP : va_P D vwCl ((q, .inr (4, [.int 0, .int 0, .int (-6), .null, .null, .null, .null, .null, .null, .null, .null, .null])) :: ([] : va_W) : va_W) _ := hP
  have hD : va_D A ((q, .inr (4, [.int 0, .int 0, .int (-6), .null, .null, .null, .null, .null, .null, .null, .null, .null])) :: ([] : va_W) : va_W) := hD
  refine lv_aload_n hx hb dX4_init_20 rfl hl0 ?_
  refine cs_new hH (cj := 5) (fs1 := [.null]) rfl tyX5 tyX5_ok (fun j hj => by rcases (show j = 0 by omega) with rfl <;> rfl) (xw 85 (by decide +kernel) (by decide +kernel)) (xw 49 (by decide +kernel) (by decide +kernel)) (xw 19 (by decide +kernel) (by decide +kernel)) hP hD hS hA ⟨(Nat.le_of_ble_eq_true rfl), (Nat.le_of_ble_eq_true rfl)⟩ dX4_init_21 (fun q0 H hP hD hS => ?_)
  refine lv_dup hx hb dX4_init_24 rfl ?_
  refine lv_bipush (v := 48) hx hb dX4_init_25 (by decide) ?_
  refine cs_call hH (As := [.int 48]) (rest := [.ref q0, .ref q]) (cRow l D cA (x := 48) (N := 48) rfl (by decide)) ccX4_init_27 hP hD hS hA hls (Nat.le_of_ble_eq_true rfl) ⟨(Nat.le_of_ble_eq_true rfl), (Nat.le_of_ble_eq_true rfl)⟩ ⟨(Nat.le_of_ble_eq_true rfl), (Nat.le_of_ble_eq_true rfl)⟩ dX4_init_27 (fun w H locs hw hP hD hS => ?_)
  obtain ⟨a0, rfl⟩ := hw
  have hP : va_P D vwCl ((q, .inr (4, [.int 0, .int 0, .int (-6), .null, .null, .null, .null, .null, .null, .null, .null, .null])) :: (([] : va_W) ++ wRow cA 48 q0 a0) : va_W) _ := hP
  have hD : va_D A ((q, .inr (4, [.int 0, .int 0, .int (-6), .null, .null, .null, .null, .null, .null, .null, .null, .null])) :: (([] : va_W) ++ wRow cA 48 q0 a0) : va_W) := hD
  refine cs_ref hH (ci := 4) rfl hP hD hS hin 3 (by decide) (Nat.le_of_ble_eq_true rfl) rfl rfl (xw 93 (by decide +kernel) (by decide +kernel)) (ty := .object "BoxedProofs$Row") (by decide +kernel) rfl rfl dX4_init_30 (fun H locs hP hD hS => ?_)
  have hP : va_P D vwCl ((q, .inr (4, [.int 0, .int 0, .int (-6), .ref q0, .null, .null, .null, .null, .null, .null, .null, .null])) :: (([] : va_W) ++ wRow cA 48 q0 a0) : va_W) _ := hP
  have hD : va_D A ((q, .inr (4, [.int 0, .int 0, .int (-6), .ref q0, .null, .null, .null, .null, .null, .null, .null, .null])) :: (([] : va_W) ++ wRow cA 48 q0 a0) : va_W) := hD
  refine lv_aload_n hx hb dX4_init_33 rfl hl0 ?_
  refine cs_new hH (cj := 5) (fs1 := [.null]) rfl tyX5 tyX5_ok (fun j hj => by rcases (show j = 0 by omega) with rfl <;> rfl) (xw 85 (by decide +kernel) (by decide +kernel)) (xw 49 (by decide +kernel) (by decide +kernel)) (xw 19 (by decide +kernel) (by decide +kernel)) hP hD hS hA ⟨(Nat.le_of_ble_eq_true rfl), (Nat.le_of_ble_eq_true rfl)⟩ dX4_init_34 (fun q1 H hP hD hS => ?_)
  refine lv_dup hx hb dX4_init_37 rfl ?_
  refine lv_bipush (v := 48) hx hb dX4_init_38 (by decide) ?_
  refine cs_call hH (As := [.int 48]) (rest := [.ref q1, .ref q]) (cRow l D cA (x := 48) (N := 48) rfl (by decide)) ccX4_init_40 hP hD hS hA hls (Nat.le_of_ble_eq_true rfl) ⟨(Nat.le_of_ble_eq_true rfl), (Nat.le_of_ble_eq_true rfl)⟩ ⟨(Nat.le_of_ble_eq_true rfl), (Nat.le_of_ble_eq_true rfl)⟩ dX4_init_40 (fun w H locs hw hP hD hS => ?_)
  obtain ⟨a1, rfl⟩ := hw
  have hP : va_P D vwCl ((q, .inr (4, [.int 0, .int 0, .int (-6), .ref q0, .null, .null, .null, .null, .null, .null, .null, .null])) :: ((([] : va_W) ++ wRow cA 48 q0 a0) ++ wRow cA 48 q1 a1) : va_W) _ := hP
  have hD : va_D A ((q, .inr (4, [.int 0, .int 0, .int (-6), .ref q0, .null, .null, .null, .null, .null, .null, .null, .null])) :: ((([] : va_W) ++ wRow cA 48 q0 a0) ++ wRow cA 48 q1 a1) : va_W) := hD
  refine cs_ref hH (ci := 4) rfl hP hD hS hin 4 (by decide) (Nat.le_of_ble_eq_true rfl) rfl rfl (xw 95 (by decide +kernel) (by decide +kernel)) (ty := .object "BoxedProofs$Row") (by decide +kernel) rfl rfl dX4_init_43 (fun H locs hP hD hS => ?_)
  have hP : va_P D vwCl ((q, .inr (4, [.int 0, .int 0, .int (-6), .ref q0, .ref q1, .null, .null, .null, .null, .null, .null, .null])) :: ((([] : va_W) ++ wRow cA 48 q0 a0) ++ wRow cA 48 q1 a1) : va_W) _ := hP
  have hD : va_D A ((q, .inr (4, [.int 0, .int 0, .int (-6), .ref q0, .ref q1, .null, .null, .null, .null, .null, .null, .null])) :: ((([] : va_W) ++ wRow cA 48 q0 a0) ++ wRow cA 48 q1 a1) : va_W) := hD
  refine lv_aload_n hx hb dX4_init_46 rfl hl0 ?_
  refine cs_new hH (cj := 5) (fs1 := [.null]) rfl tyX5 tyX5_ok (fun j hj => by rcases (show j = 0 by omega) with rfl <;> rfl) (xw 85 (by decide +kernel) (by decide +kernel)) (xw 49 (by decide +kernel) (by decide +kernel)) (xw 19 (by decide +kernel) (by decide +kernel)) hP hD hS hA ⟨(Nat.le_of_ble_eq_true rfl), (Nat.le_of_ble_eq_true rfl)⟩ dX4_init_47 (fun q2 H hP hD hS => ?_)
  refine lv_dup hx hb dX4_init_50 rfl ?_
  refine lv_bipush (v := 48) hx hb dX4_init_51 (by decide) ?_
  refine cs_call hH (As := [.int 48]) (rest := [.ref q2, .ref q]) (cRow l D cA (x := 48) (N := 48) rfl (by decide)) ccX4_init_53 hP hD hS hA hls (Nat.le_of_ble_eq_true rfl) ⟨(Nat.le_of_ble_eq_true rfl), (Nat.le_of_ble_eq_true rfl)⟩ ⟨(Nat.le_of_ble_eq_true rfl), (Nat.le_of_ble_eq_true rfl)⟩ dX4_init_53 (fun w H locs hw hP hD hS => ?_)
  obtain ⟨a2, rfl⟩ := hw
  have hP : va_P D vwCl ((q, .inr (4, [.int 0, .int 0, .int (-6), .ref q0, .ref q1, .null, .null, .null, .null, .null, .null, .null])) :: (((([] : va_W) ++ wRow cA 48 q0 a0) ++ wRow cA 48 q1 a1) ++ wRow cA 48 q2 a2) : va_W) _ := hP
  have hD : va_D A ((q, .inr (4, [.int 0, .int 0, .int (-6), .ref q0, .ref q1, .null, .null, .null, .null, .null, .null, .null])) :: (((([] : va_W) ++ wRow cA 48 q0 a0) ++ wRow cA 48 q1 a1) ++ wRow cA 48 q2 a2) : va_W) := hD
  refine cs_ref hH (ci := 4) rfl hP hD hS hin 5 (by decide) (Nat.le_of_ble_eq_true rfl) rfl rfl (xw 97 (by decide +kernel) (by decide +kernel)) (ty := .object "BoxedProofs$Row") (by decide +kernel) rfl rfl dX4_init_56 (fun H locs hP hD hS => ?_)
  have hP : va_P D vwCl ((q, .inr (4, [.int 0, .int 0, .int (-6), .ref q0, .ref q1, .ref q2, .null, .null, .null, .null, .null, .null])) :: (((([] : va_W) ++ wRow cA 48 q0 a0) ++ wRow cA 48 q1 a1) ++ wRow cA 48 q2 a2) : va_W) _ := hP
  have hD : va_D A ((q, .inr (4, [.int 0, .int 0, .int (-6), .ref q0, .ref q1, .ref q2, .null, .null, .null, .null, .null, .null])) :: (((([] : va_W) ++ wRow cA 48 q0 a0) ++ wRow cA 48 q1 a1) ++ wRow cA 48 q2 a2) : va_W) := hD
  refine lv_aload_n hx hb dX4_init_59 rfl hl0 ?_
  refine cs_new hH (cj := 5) (fs1 := [.null]) rfl tyX5 tyX5_ok (fun j hj => by rcases (show j = 0 by omega) with rfl <;> rfl) (xw 85 (by decide +kernel) (by decide +kernel)) (xw 49 (by decide +kernel) (by decide +kernel)) (xw 19 (by decide +kernel) (by decide +kernel)) hP hD hS hA ⟨(Nat.le_of_ble_eq_true rfl), (Nat.le_of_ble_eq_true rfl)⟩ dX4_init_60 (fun q3 H hP hD hS => ?_)
  refine lv_dup hx hb dX4_init_63 rfl ?_
  refine lv_bipush (v := 48) hx hb dX4_init_64 (by decide) ?_
  refine cs_call hH (As := [.int 48]) (rest := [.ref q3, .ref q]) (cRow l D cA (x := 48) (N := 48) rfl (by decide)) ccX4_init_66 hP hD hS hA hls (Nat.le_of_ble_eq_true rfl) ⟨(Nat.le_of_ble_eq_true rfl), (Nat.le_of_ble_eq_true rfl)⟩ ⟨(Nat.le_of_ble_eq_true rfl), (Nat.le_of_ble_eq_true rfl)⟩ dX4_init_66 (fun w H locs hw hP hD hS => ?_)
  obtain ⟨a3, rfl⟩ := hw
  have hP : va_P D vwCl ((q, .inr (4, [.int 0, .int 0, .int (-6), .ref q0, .ref q1, .ref q2, .null, .null, .null, .null, .null, .null])) :: ((((([] : va_W) ++ wRow cA 48 q0 a0) ++ wRow cA 48 q1 a1) ++ wRow cA 48 q2 a2) ++ wRow cA 48 q3 a3) : va_W) _ := hP
  have hD : va_D A ((q, .inr (4, [.int 0, .int 0, .int (-6), .ref q0, .ref q1, .ref q2, .null, .null, .null, .null, .null, .null])) :: ((((([] : va_W) ++ wRow cA 48 q0 a0) ++ wRow cA 48 q1 a1) ++ wRow cA 48 q2 a2) ++ wRow cA 48 q3 a3) : va_W) := hD
  refine cs_ref hH (ci := 4) rfl hP hD hS hin 6 (by decide) (Nat.le_of_ble_eq_true rfl) rfl rfl (xw 99 (by decide +kernel) (by decide +kernel)) (ty := .object "BoxedProofs$Row") (by decide +kernel) rfl rfl dX4_init_69 (fun H locs hP hD hS => ?_)
  have hP : va_P D vwCl ((q, .inr (4, [.int 0, .int 0, .int (-6), .ref q0, .ref q1, .ref q2, .ref q3, .null, .null, .null, .null, .null])) :: ((((([] : va_W) ++ wRow cA 48 q0 a0) ++ wRow cA 48 q1 a1) ++ wRow cA 48 q2 a2) ++ wRow cA 48 q3 a3) : va_W) _ := hP
  have hD : va_D A ((q, .inr (4, [.int 0, .int 0, .int (-6), .ref q0, .ref q1, .ref q2, .ref q3, .null, .null, .null, .null, .null])) :: ((((([] : va_W) ++ wRow cA 48 q0 a0) ++ wRow cA 48 q1 a1) ++ wRow cA 48 q2 a2) ++ wRow cA 48 q3 a3) : va_W) := hD
  refine lv_aload_n hx hb dX4_init_72 rfl hl0 ?_
  refine cs_new hH (cj := 5) (fs1 := [.null]) rfl tyX5 tyX5_ok (fun j hj => by rcases (show j = 0 by omega) with rfl <;> rfl) (xw 85 (by decide +kernel) (by decide +kernel)) (xw 49 (by decide +kernel) (by decide +kernel)) (xw 19 (by decide +kernel) (by decide +kernel)) hP hD hS hA ⟨(Nat.le_of_ble_eq_true rfl), (Nat.le_of_ble_eq_true rfl)⟩ dX4_init_73 (fun q4 H hP hD hS => ?_)
  refine lv_dup hx hb dX4_init_76 rfl ?_
  refine lv_bipush (v := 48) hx hb dX4_init_77 (by decide) ?_
  refine cs_call hH (As := [.int 48]) (rest := [.ref q4, .ref q]) (cRow l D cA (x := 48) (N := 48) rfl (by decide)) ccX4_init_79 hP hD hS hA hls (Nat.le_of_ble_eq_true rfl) ⟨(Nat.le_of_ble_eq_true rfl), (Nat.le_of_ble_eq_true rfl)⟩ ⟨(Nat.le_of_ble_eq_true rfl), (Nat.le_of_ble_eq_true rfl)⟩ dX4_init_79 (fun w H locs hw hP hD hS => ?_)
  obtain ⟨a4, rfl⟩ := hw
  have hP : va_P D vwCl ((q, .inr (4, [.int 0, .int 0, .int (-6), .ref q0, .ref q1, .ref q2, .ref q3, .null, .null, .null, .null, .null])) :: (((((([] : va_W) ++ wRow cA 48 q0 a0) ++ wRow cA 48 q1 a1) ++ wRow cA 48 q2 a2) ++ wRow cA 48 q3 a3) ++ wRow cA 48 q4 a4) : va_W) _ := hP
  have hD : va_D A ((q, .inr (4, [.int 0, .int 0, .int (-6), .ref q0, .ref q1, .ref q2, .ref q3, .null, .null, .null, .null, .null])) :: (((((([] : va_W) ++ wRow cA 48 q0 a0) ++ wRow cA 48 q1 a1) ++ wRow cA 48 q2 a2) ++ wRow cA 48 q3 a3) ++ wRow cA 48 q4 a4) : va_W) := hD
  refine cs_ref hH (ci := 4) rfl hP hD hS hin 7 (by decide) (Nat.le_of_ble_eq_true rfl) rfl rfl (xw 100 (by decide +kernel) (by decide +kernel)) (ty := .object "BoxedProofs$Row") (by decide +kernel) rfl rfl dX4_init_82 (fun H locs hP hD hS => ?_)
  have hP : va_P D vwCl ((q, .inr (4, [.int 0, .int 0, .int (-6), .ref q0, .ref q1, .ref q2, .ref q3, .ref q4, .null, .null, .null, .null])) :: (((((([] : va_W) ++ wRow cA 48 q0 a0) ++ wRow cA 48 q1 a1) ++ wRow cA 48 q2 a2) ++ wRow cA 48 q3 a3) ++ wRow cA 48 q4 a4) : va_W) _ := hP
  have hD : va_D A ((q, .inr (4, [.int 0, .int 0, .int (-6), .ref q0, .ref q1, .ref q2, .ref q3, .ref q4, .null, .null, .null, .null])) :: (((((([] : va_W) ++ wRow cA 48 q0 a0) ++ wRow cA 48 q1 a1) ++ wRow cA 48 q2 a2) ++ wRow cA 48 q3 a3) ++ wRow cA 48 q4 a4) : va_W) := hD
  refine lv_aload_n hx hb dX4_init_85 rfl hl0 ?_
  refine cs_new hH (cj := 5) (fs1 := [.null]) rfl tyX5 tyX5_ok (fun j hj => by rcases (show j = 0 by omega) with rfl <;> rfl) (xw 85 (by decide +kernel) (by decide +kernel)) (xw 49 (by decide +kernel) (by decide +kernel)) (xw 19 (by decide +kernel) (by decide +kernel)) hP hD hS hA ⟨(Nat.le_of_ble_eq_true rfl), (Nat.le_of_ble_eq_true rfl)⟩ dX4_init_86 (fun q5 H hP hD hS => ?_)
  refine lv_dup hx hb dX4_init_89 rfl ?_
  refine lv_bipush (v := 48) hx hb dX4_init_90 (by decide) ?_
  refine cs_call hH (As := [.int 48]) (rest := [.ref q5, .ref q]) (cRow l D cA (x := 48) (N := 48) rfl (by decide)) ccX4_init_92 hP hD hS hA hls (Nat.le_of_ble_eq_true rfl) ⟨(Nat.le_of_ble_eq_true rfl), (Nat.le_of_ble_eq_true rfl)⟩ ⟨(Nat.le_of_ble_eq_true rfl), (Nat.le_of_ble_eq_true rfl)⟩ dX4_init_92 (fun w H locs hw hP hD hS => ?_)
  obtain ⟨a5, rfl⟩ := hw
  have hP : va_P D vwCl ((q, .inr (4, [.int 0, .int 0, .int (-6), .ref q0, .ref q1, .ref q2, .ref q3, .ref q4, .null, .null, .null, .null])) :: ((((((([] : va_W) ++ wRow cA 48 q0 a0) ++ wRow cA 48 q1 a1) ++ wRow cA 48 q2 a2) ++ wRow cA 48 q3 a3) ++ wRow cA 48 q4 a4) ++ wRow cA 48 q5 a5) : va_W) _ := hP
  have hD : va_D A ((q, .inr (4, [.int 0, .int 0, .int (-6), .ref q0, .ref q1, .ref q2, .ref q3, .ref q4, .null, .null, .null, .null])) :: ((((((([] : va_W) ++ wRow cA 48 q0 a0) ++ wRow cA 48 q1 a1) ++ wRow cA 48 q2 a2) ++ wRow cA 48 q3 a3) ++ wRow cA 48 q4 a4) ++ wRow cA 48 q5 a5) : va_W) := hD
  refine cs_ref hH (ci := 4) rfl hP hD hS hin 8 (by decide) (Nat.le_of_ble_eq_true rfl) rfl rfl (xw 101 (by decide +kernel) (by decide +kernel)) (ty := .object "BoxedProofs$Row") (by decide +kernel) rfl rfl dX4_init_95 (fun H locs hP hD hS => ?_)
  have hP : va_P D vwCl ((q, .inr (4, [.int 0, .int 0, .int (-6), .ref q0, .ref q1, .ref q2, .ref q3, .ref q4, .ref q5, .null, .null, .null])) :: ((((((([] : va_W) ++ wRow cA 48 q0 a0) ++ wRow cA 48 q1 a1) ++ wRow cA 48 q2 a2) ++ wRow cA 48 q3 a3) ++ wRow cA 48 q4 a4) ++ wRow cA 48 q5 a5) : va_W) _ := hP
  have hD : va_D A ((q, .inr (4, [.int 0, .int 0, .int (-6), .ref q0, .ref q1, .ref q2, .ref q3, .ref q4, .ref q5, .null, .null, .null])) :: ((((((([] : va_W) ++ wRow cA 48 q0 a0) ++ wRow cA 48 q1 a1) ++ wRow cA 48 q2 a2) ++ wRow cA 48 q3 a3) ++ wRow cA 48 q4 a4) ++ wRow cA 48 q5 a5) : va_W) := hD
  refine lv_aload_n hx hb dX4_init_98 rfl hl0 ?_
  refine cs_new hH (cj := 5) (fs1 := [.null]) rfl tyX5 tyX5_ok (fun j hj => by rcases (show j = 0 by omega) with rfl <;> rfl) (xw 85 (by decide +kernel) (by decide +kernel)) (xw 49 (by decide +kernel) (by decide +kernel)) (xw 19 (by decide +kernel) (by decide +kernel)) hP hD hS hA ⟨(Nat.le_of_ble_eq_true rfl), (Nat.le_of_ble_eq_true rfl)⟩ dX4_init_99 (fun q6 H hP hD hS => ?_)
  refine lv_dup hx hb dX4_init_102 rfl ?_
  refine lv_bipush (v := 48) hx hb dX4_init_103 (by decide) ?_
  refine cs_call hH (As := [.int 48]) (rest := [.ref q6, .ref q]) (cRow l D cA (x := 48) (N := 48) rfl (by decide)) ccX4_init_105 hP hD hS hA hls (Nat.le_of_ble_eq_true rfl) ⟨(Nat.le_of_ble_eq_true rfl), (Nat.le_of_ble_eq_true rfl)⟩ ⟨(Nat.le_of_ble_eq_true rfl), (Nat.le_of_ble_eq_true rfl)⟩ dX4_init_105 (fun w H locs hw hP hD hS => ?_)
  obtain ⟨a6, rfl⟩ := hw
  have hP : va_P D vwCl ((q, .inr (4, [.int 0, .int 0, .int (-6), .ref q0, .ref q1, .ref q2, .ref q3, .ref q4, .ref q5, .null, .null, .null])) :: (((((((([] : va_W) ++ wRow cA 48 q0 a0) ++ wRow cA 48 q1 a1) ++ wRow cA 48 q2 a2) ++ wRow cA 48 q3 a3) ++ wRow cA 48 q4 a4) ++ wRow cA 48 q5 a5) ++ wRow cA 48 q6 a6) : va_W) _ := hP
  have hD : va_D A ((q, .inr (4, [.int 0, .int 0, .int (-6), .ref q0, .ref q1, .ref q2, .ref q3, .ref q4, .ref q5, .null, .null, .null])) :: (((((((([] : va_W) ++ wRow cA 48 q0 a0) ++ wRow cA 48 q1 a1) ++ wRow cA 48 q2 a2) ++ wRow cA 48 q3 a3) ++ wRow cA 48 q4 a4) ++ wRow cA 48 q5 a5) ++ wRow cA 48 q6 a6) : va_W) := hD
  refine cs_ref hH (ci := 4) rfl hP hD hS hin 9 (by decide) (Nat.le_of_ble_eq_true rfl) rfl rfl (xw 102 (by decide +kernel) (by decide +kernel)) (ty := .object "BoxedProofs$Row") (by decide +kernel) rfl rfl dX4_init_108 (fun H locs hP hD hS => ?_)
  have hP : va_P D vwCl ((q, .inr (4, [.int 0, .int 0, .int (-6), .ref q0, .ref q1, .ref q2, .ref q3, .ref q4, .ref q5, .ref q6, .null, .null])) :: (((((((([] : va_W) ++ wRow cA 48 q0 a0) ++ wRow cA 48 q1 a1) ++ wRow cA 48 q2 a2) ++ wRow cA 48 q3 a3) ++ wRow cA 48 q4 a4) ++ wRow cA 48 q5 a5) ++ wRow cA 48 q6 a6) : va_W) _ := hP
  have hD : va_D A ((q, .inr (4, [.int 0, .int 0, .int (-6), .ref q0, .ref q1, .ref q2, .ref q3, .ref q4, .ref q5, .ref q6, .null, .null])) :: (((((((([] : va_W) ++ wRow cA 48 q0 a0) ++ wRow cA 48 q1 a1) ++ wRow cA 48 q2 a2) ++ wRow cA 48 q3 a3) ++ wRow cA 48 q4 a4) ++ wRow cA 48 q5 a5) ++ wRow cA 48 q6 a6) : va_W) := hD
  refine lv_aload_n hx hb dX4_init_111 rfl hl0 ?_
  refine cs_new hH (cj := 5) (fs1 := [.null]) rfl tyX5 tyX5_ok (fun j hj => by rcases (show j = 0 by omega) with rfl <;> rfl) (xw 85 (by decide +kernel) (by decide +kernel)) (xw 49 (by decide +kernel) (by decide +kernel)) (xw 19 (by decide +kernel) (by decide +kernel)) hP hD hS hA ⟨(Nat.le_of_ble_eq_true rfl), (Nat.le_of_ble_eq_true rfl)⟩ dX4_init_112 (fun q7 H hP hD hS => ?_)
  refine lv_dup hx hb dX4_init_115 rfl ?_
  refine lv_bipush (v := 48) hx hb dX4_init_116 (by decide) ?_
  refine cs_call hH (As := [.int 48]) (rest := [.ref q7, .ref q]) (cRow l D cA (x := 48) (N := 48) rfl (by decide)) ccX4_init_118 hP hD hS hA hls (Nat.le_of_ble_eq_true rfl) ⟨(Nat.le_of_ble_eq_true rfl), (Nat.le_of_ble_eq_true rfl)⟩ ⟨(Nat.le_of_ble_eq_true rfl), (Nat.le_of_ble_eq_true rfl)⟩ dX4_init_118 (fun w H locs hw hP hD hS => ?_)
  obtain ⟨a7, rfl⟩ := hw
  have hP : va_P D vwCl ((q, .inr (4, [.int 0, .int 0, .int (-6), .ref q0, .ref q1, .ref q2, .ref q3, .ref q4, .ref q5, .ref q6, .null, .null])) :: ((((((((([] : va_W) ++ wRow cA 48 q0 a0) ++ wRow cA 48 q1 a1) ++ wRow cA 48 q2 a2) ++ wRow cA 48 q3 a3) ++ wRow cA 48 q4 a4) ++ wRow cA 48 q5 a5) ++ wRow cA 48 q6 a6) ++ wRow cA 48 q7 a7) : va_W) _ := hP
  have hD : va_D A ((q, .inr (4, [.int 0, .int 0, .int (-6), .ref q0, .ref q1, .ref q2, .ref q3, .ref q4, .ref q5, .ref q6, .null, .null])) :: ((((((((([] : va_W) ++ wRow cA 48 q0 a0) ++ wRow cA 48 q1 a1) ++ wRow cA 48 q2 a2) ++ wRow cA 48 q3 a3) ++ wRow cA 48 q4 a4) ++ wRow cA 48 q5 a5) ++ wRow cA 48 q6 a6) ++ wRow cA 48 q7 a7) : va_W) := hD
  refine cs_ref hH (ci := 4) rfl hP hD hS hin 10 (by decide) (Nat.le_of_ble_eq_true rfl) rfl rfl (xw 104 (by decide +kernel) (by decide +kernel)) (ty := .object "BoxedProofs$Row") (by decide +kernel) rfl rfl dX4_init_121 (fun H locs hP hD hS => ?_)
  have hP : va_P D vwCl ((q, .inr (4, [.int 0, .int 0, .int (-6), .ref q0, .ref q1, .ref q2, .ref q3, .ref q4, .ref q5, .ref q6, .ref q7, .null])) :: ((((((((([] : va_W) ++ wRow cA 48 q0 a0) ++ wRow cA 48 q1 a1) ++ wRow cA 48 q2 a2) ++ wRow cA 48 q3 a3) ++ wRow cA 48 q4 a4) ++ wRow cA 48 q5 a5) ++ wRow cA 48 q6 a6) ++ wRow cA 48 q7 a7) : va_W) _ := hP
  have hD : va_D A ((q, .inr (4, [.int 0, .int 0, .int (-6), .ref q0, .ref q1, .ref q2, .ref q3, .ref q4, .ref q5, .ref q6, .ref q7, .null])) :: ((((((((([] : va_W) ++ wRow cA 48 q0 a0) ++ wRow cA 48 q1 a1) ++ wRow cA 48 q2 a2) ++ wRow cA 48 q3 a3) ++ wRow cA 48 q4 a4) ++ wRow cA 48 q5 a5) ++ wRow cA 48 q6 a6) ++ wRow cA 48 q7 a7) : va_W) := hD
  refine lv_aload_n hx hb dX4_init_124 rfl hl0 ?_
  refine cs_new hH (cj := 5) (fs1 := [.null]) rfl tyX5 tyX5_ok (fun j hj => by rcases (show j = 0 by omega) with rfl <;> rfl) (xw 85 (by decide +kernel) (by decide +kernel)) (xw 49 (by decide +kernel) (by decide +kernel)) (xw 19 (by decide +kernel) (by decide +kernel)) hP hD hS hA ⟨(Nat.le_of_ble_eq_true rfl), (Nat.le_of_ble_eq_true rfl)⟩ dX4_init_125 (fun q8 H hP hD hS => ?_)
  refine lv_dup hx hb dX4_init_128 rfl ?_
  refine lv_bipush (v := 48) hx hb dX4_init_129 (by decide) ?_
  refine cs_call hH (As := [.int 48]) (rest := [.ref q8, .ref q]) (cRow l D cA (x := 48) (N := 48) rfl (by decide)) ccX4_init_131 hP hD hS hA hls (Nat.le_of_ble_eq_true rfl) ⟨(Nat.le_of_ble_eq_true rfl), (Nat.le_of_ble_eq_true rfl)⟩ ⟨(Nat.le_of_ble_eq_true rfl), (Nat.le_of_ble_eq_true rfl)⟩ dX4_init_131 (fun w H locs hw hP hD hS => ?_)
  obtain ⟨a8, rfl⟩ := hw
  have hP : va_P D vwCl ((q, .inr (4, [.int 0, .int 0, .int (-6), .ref q0, .ref q1, .ref q2, .ref q3, .ref q4, .ref q5, .ref q6, .ref q7, .null])) :: (((((((((([] : va_W) ++ wRow cA 48 q0 a0) ++ wRow cA 48 q1 a1) ++ wRow cA 48 q2 a2) ++ wRow cA 48 q3 a3) ++ wRow cA 48 q4 a4) ++ wRow cA 48 q5 a5) ++ wRow cA 48 q6 a6) ++ wRow cA 48 q7 a7) ++ wRow cA 48 q8 a8) : va_W) _ := hP
  have hD : va_D A ((q, .inr (4, [.int 0, .int 0, .int (-6), .ref q0, .ref q1, .ref q2, .ref q3, .ref q4, .ref q5, .ref q6, .ref q7, .null])) :: (((((((((([] : va_W) ++ wRow cA 48 q0 a0) ++ wRow cA 48 q1 a1) ++ wRow cA 48 q2 a2) ++ wRow cA 48 q3 a3) ++ wRow cA 48 q4 a4) ++ wRow cA 48 q5 a5) ++ wRow cA 48 q6 a6) ++ wRow cA 48 q7 a7) ++ wRow cA 48 q8 a8) : va_W) := hD
  refine cs_ref hH (ci := 4) rfl hP hD hS hin 11 (by decide) (Nat.le_of_ble_eq_true rfl) rfl rfl (xw 106 (by decide +kernel) (by decide +kernel)) (ty := .object "BoxedProofs$Row") (by decide +kernel) rfl rfl dX4_init_134 (fun H locs hP hD hS => ?_)
  have hP : va_P D vwCl ((q, .inr (4, [.int 0, .int 0, .int (-6), .ref q0, .ref q1, .ref q2, .ref q3, .ref q4, .ref q5, .ref q6, .ref q7, .ref q8])) :: (((((((((([] : va_W) ++ wRow cA 48 q0 a0) ++ wRow cA 48 q1 a1) ++ wRow cA 48 q2 a2) ++ wRow cA 48 q3 a3) ++ wRow cA 48 q4 a4) ++ wRow cA 48 q5 a5) ++ wRow cA 48 q6 a6) ++ wRow cA 48 q7 a7) ++ wRow cA 48 q8 a8) : va_W) _ := hP
  have hD : va_D A ((q, .inr (4, [.int 0, .int 0, .int (-6), .ref q0, .ref q1, .ref q2, .ref q3, .ref q4, .ref q5, .ref q6, .ref q7, .ref q8])) :: (((((((((([] : va_W) ++ wRow cA 48 q0 a0) ++ wRow cA 48 q1 a1) ++ wRow cA 48 q2 a2) ++ wRow cA 48 q3 a3) ++ wRow cA 48 q4 a4) ++ wRow cA 48 q5 a5) ++ wRow cA 48 q6 a6) ++ wRow cA 48 q7 a7) ++ wRow cA 48 q8 a8) : va_W) := hD
  refine W.widen (k := 18) (n := 441) (Nat.le_of_ble_eq_true rfl) (Nat.le_of_ble_eq_true rfl) ?_
  exact fin 137 _ _ _ _ dX4_init_137 (⟨fun c => if c = 3 then q0 else if c = 4 then q1 else if c = 5 then q2 else if c = 6 then q3 else if c = 7 then q4 else if c = 8 then q5 else if c = 9 then q6 else if c = 10 then q7 else q8, fun c => if c = 3 then a0 else if c = 4 then a1 else if c = 5 then a2 else if c = 6 then a3 else if c = 7 then a4 else if c = 8 then a5 else if c = 9 then a6 else if c = 10 then a7 else a8, rfl⟩) hP hD hS
theorem dX7_init_0 : decode cX7_init 0 = .ok (.aload_n 0, 1) := by decide +kernel
theorem dX7_init_1 : decode cX7_init 1 = .ok (.invokespecial 1, 3) := by decide +kernel
theorem dX7_init_4 : decode cX7_init 4 = .ok (.aload_n 0, 1) := by decide +kernel
theorem dX7_init_5 : decode cX7_init 5 = .ok (.new 7, 3) := by decide +kernel
theorem dX7_init_8 : decode cX7_init 8 = .ok (.dup, 1) := by decide +kernel
theorem dX7_init_9 : decode cX7_init 9 = .ok (.invokespecial 9, 3) := by decide +kernel
theorem dX7_init_12 : decode cX7_init 12 = .ok (.putfield 10, 3) := by decide +kernel
theorem dX7_init_15 : decode cX7_init 15 = .ok (.aload_n 0, 1) := by decide +kernel
theorem dX7_init_16 : decode cX7_init 16 = .ok (.new 16, 3) := by decide +kernel
theorem dX7_init_19 : decode cX7_init 19 = .ok (.dup, 1) := by decide +kernel
theorem dX7_init_20 : decode cX7_init 20 = .ok (.invokespecial 18, 3) := by decide +kernel
theorem dX7_init_23 : decode cX7_init 23 = .ok (.putfield 19, 3) := by decide +kernel
theorem dX7_init_26 : decode cX7_init 26 = .ok (.return_, 1) := by decide +kernel
theorem ccX7_init_9 : cCall RX7 9 YX2 0 := ⟨xw 46 (by decide +kernel) (by decide +kernel), xw 18 (by decide +kernel) (by decide +kernel), Or.inr (by decide), xw 45 (by decide +kernel) (by decide +kernel), rfl, by decide, by decide, by decide +kernel⟩
theorem ccX7_init_20 : cCall RX7 18 YX4 0 := ⟨xw 83 (by decide +kernel) (by decide +kernel), xw 21 (by decide +kernel) (by decide +kernel), Or.inr (by decide), xw 82 (by decide +kernel) (by decide +kernel), rfl, by decide, by decide, by decide +kernel⟩
set_option maxRecDepth 20000 in
theorem cX7 (l : Launch) (D : va_G) (cA : Nat → ClassId) : CMet l D cA YX7 (3, 26, 640, 120) [] (.inr (6, [.null, .null])) (BX7 cA) := by
  refine CMet.of (idx := 1) (by decide +kernel) rfl ⟨xw 41 (by decide +kernel) (by decide +kernel), xw 34 (by decide +kernel) (by decide +kernel), xw 35 (by decide +kernel) (by decide +kernel)⟩ ⟨(Nat.le_of_ble_eq_true rfl), (Nat.le_of_ble_eq_true rfl)⟩ (fun _ => (Nat.le_of_ble_eq_true rfl)) dX7_init_0 dX7_init_1 ?_
  intro q p e s m args below meth c A ls Ts Qf hH hin hA hS hP hD hl fin
  have hx := hH.1
  have hb := hH.2.1
  have hls := hl.1
  have hl0 : ls[0]? = some (.val (.ref q)) := lv_at hl 0 rfl
  refine lv_aload_n hx hb dX7_init_4 rfl hl0 ?_
  refine cs_new hH (cj := 2) (fs1 := [.int 0, .null, .null, .null]) rfl tyX2 tyX2_ok (fun j hj => by rcases (show j = 0 ∨ j = 1 ∨ j = 2 ∨ j = 3 by omega) with rfl | rfl | rfl | rfl <;> rfl) (xw 42 (by decide +kernel) (by decide +kernel)) (xw 43 (by decide +kernel) (by decide +kernel)) (xw 18 (by decide +kernel) (by decide +kernel)) hP hD hS hA ⟨(Nat.le_of_ble_eq_true rfl), (Nat.le_of_ble_eq_true rfl)⟩ dX7_init_5 (fun q0 H hP hD hS => ?_)
  refine lv_dup hx hb dX7_init_8 rfl ?_
  refine cs_call hH (As := []) (rest := [.ref q0, .ref q]) (cX2 l D cA) ccX7_init_9 hP hD hS hA hls (Nat.le_of_ble_eq_true rfl) ⟨(Nat.le_of_ble_eq_true rfl), (Nat.le_of_ble_eq_true rfl)⟩ ⟨(Nat.le_of_ble_eq_true rfl), (Nat.le_of_ble_eq_true rfl)⟩ dX7_init_9 (fun w H locs hw hP hD hS => ?_)
  obtain ⟨r_0, a_0, rfl⟩ := hw
  have hP : va_P D vwCl ((q, .inr (6, [.null, .null])) :: (([] : va_W) ++ wF cA q0 r_0 a_0) : va_W) _ := hP
  have hD : va_D A ((q, .inr (6, [.null, .null])) :: (([] : va_W) ++ wF cA q0 r_0 a_0) : va_W) := hD
  refine cs_ref hH (ci := 6) rfl hP hD hS hin 0 (by decide) (Nat.le_of_ble_eq_true rfl) rfl rfl (xw 133 (by decide +kernel) (by decide +kernel)) (ty := .object "BoxedProofs$Formulas") (by decide +kernel) rfl rfl dX7_init_12 (fun H locs hP hD hS => ?_)
  have hP : va_P D vwCl ((q, .inr (6, [.ref q0, .null])) :: (([] : va_W) ++ wF cA q0 r_0 a_0) : va_W) _ := hP
  have hD : va_D A ((q, .inr (6, [.ref q0, .null])) :: (([] : va_W) ++ wF cA q0 r_0 a_0) : va_W) := hD
  refine lv_aload_n hx hb dX7_init_15 rfl hl0 ?_
  refine cs_new hH (cj := 4) (fs1 := [.int 0, .int 0, .int 0, .null, .null, .null, .null, .null, .null, .null, .null, .null]) rfl tyX4 tyX4_ok (fun j hj => by rcases (show j = 0 ∨ j = 1 ∨ j = 2 ∨ j = 3 ∨ j = 4 ∨ j = 5 ∨ j = 6 ∨ j = 7 ∨ j = 8 ∨ j = 9 ∨ j = 10 ∨ j = 11 by omega) with rfl | rfl | rfl | rfl | rfl | rfl | rfl | rfl | rfl | rfl | rfl | rfl <;> rfl) (xw 79 (by decide +kernel) (by decide +kernel)) (xw 80 (by decide +kernel) (by decide +kernel)) (xw 21 (by decide +kernel) (by decide +kernel)) hP hD hS hA ⟨(Nat.le_of_ble_eq_true rfl), (Nat.le_of_ble_eq_true rfl)⟩ dX7_init_16 (fun q1 H hP hD hS => ?_)
  refine lv_dup hx hb dX7_init_19 rfl ?_
  refine cs_call hH (As := []) (rest := [.ref q1, .ref q]) (cX4 l D cA) ccX7_init_20 hP hD hS hA hls (Nat.le_of_ble_eq_true rfl) ⟨(Nat.le_of_ble_eq_true rfl), (Nat.le_of_ble_eq_true rfl)⟩ ⟨(Nat.le_of_ble_eq_true rfl), (Nat.le_of_ble_eq_true rfl)⟩ dX7_init_20 (fun w H locs hw hP hD hS => ?_)
  obtain ⟨r_1, a_1, rfl⟩ := hw
  have hP : va_P D vwCl ((q, .inr (6, [.ref q0, .null])) :: ((([] : va_W) ++ wF cA q0 r_0 a_0) ++ wP cA q1 r_1 a_1) : va_W) _ := hP
  have hD : va_D A ((q, .inr (6, [.ref q0, .null])) :: ((([] : va_W) ++ wF cA q0 r_0 a_0) ++ wP cA q1 r_1 a_1) : va_W) := hD
  refine cs_ref hH (ci := 6) rfl hP hD hS hin 1 (by decide) (Nat.le_of_ble_eq_true rfl) rfl rfl (xw 135 (by decide +kernel) (by decide +kernel)) (ty := .object "BoxedProofs$Proof") (by decide +kernel) rfl rfl dX7_init_23 (fun H locs hP hD hS => ?_)
  have hP : va_P D vwCl ((q, .inr (6, [.ref q0, .ref q1])) :: ((([] : va_W) ++ wF cA q0 r_0 a_0) ++ wP cA q1 r_1 a_1) : va_W) _ := hP
  have hD : va_D A ((q, .inr (6, [.ref q0, .ref q1])) :: ((([] : va_W) ++ wF cA q0 r_0 a_0) ++ wP cA q1 r_1 a_1) : va_W) := hD
  refine W.widen (k := 26) (n := 640) (Nat.le_of_ble_eq_true rfl) (Nat.le_of_ble_eq_true rfl) ?_
  exact fin 26 _ _ _ _ dX7_init_26 (⟨q0, q1, fun c => if c < 3 then r_0 c else r_1 c, fun c => if c < 3 then a_0 c else a_1 c, rfl⟩) hP hD hS
