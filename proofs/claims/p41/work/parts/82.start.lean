/-! the law's start: the classes, the object, the rows, the loop (written by wip/p41/gen_start.py) -/
theorem xcl_in : ∀ (ci : Nat) (C : String) (T : u_T) (N : Nat), vwCl[ci]? = some (C, T, N) → xin (Cond.instantiable C N) := by
  intro ci C T N h
  match ci, h with
  | 0, h => cases h; exact xw 162 (by decide +kernel) (by decide +kernel)
  | 1, h => cases h; exact xw 186 (by decide +kernel) (by decide +kernel)
  | 2, h => cases h; exact xw 43 (by decide +kernel) (by decide +kernel)
  | 3, h => cases h; exact xw 143 (by decide +kernel) (by decide +kernel)
  | 4, h => cases h; exact xw 80 (by decide +kernel) (by decide +kernel)
  | 5, h => cases h; exact xw 49 (by decide +kernel) (by decide +kernel)
  | 6, h => cases h; exact xw 37 (by decide +kernel) (by decide +kernel)
  | 7, h => cases h; exact xw 29 (by decide +kernel) (by decide +kernel)
  | k + 8, h => simp [vwCl] at h
theorem lw_cls {s : State} {args : Array Value} (hts : ∀ w ∈ lw_tbl, w.before args s = true) : ∃ (dC : Nat → ClassId) (dI : Nat → Nat → Nat), ∀ (k : Nat) (q : vw_C), vwCl[k]? = some q → u_Kn s q.1 q.2.1 q.2.2 (dC k) (dI k) := by
  have h : ∀ k : Nat, ∃ (cC : ClassId) (iS : Nat → Nat), ∀ q : vw_C, vwCl[k]? = some q → u_Kn s q.1 q.2.1 q.2.2 cC iS := by
    intro k
    cases hq : vwCl[k]? with
    | none => exact ⟨0, fun _ => 0, fun q h => by cases h⟩
    | some q =>
      obtain ⟨C, T, N⟩ := q
      obtain ⟨cC, iS, h⟩ := u_known (n := N) hts (fun w hw => ((xcl_ok k C T N hq).1 w hw).1) (hts _ (xcl_in k C T N hq).1)
      exact ⟨cC, iS, fun q h2 => by cases h2; exact h⟩
  exact ⟨fun k => (h k).choose, fun k => (h k).choose_spec.choose, fun k q hq => (h k).choose_spec.choose_spec q hq⟩
theorem lw_arr {s : State} {args : Array Value} (hts : ∀ w ∈ lw_tbl, w.before args s = true) : ∃ cA : Nat → ClassId, ∀ (k : Nat) (q : ClassId × FieldType), (xtys cA)[k]? = some q → ArrOfT s q.1 q.2 ∧ va_RA s q.1 q.2 := by
  obtain ⟨c0, k0, p0, a1, a2, a3⟩ := Cond.arrayClass_spec (type := .int) (hts _ (List.mem_of_getElem? (i := 61) (by decide +kernel)))
  obtain ⟨p3, c3, k3, e1, -, e3, e4, e5⟩ := Cond.arrayOver_spec (n := "BoxedProofs$State") (hts _ (List.mem_of_getElem? (i := 149) (by decide +kernel)))
  refine ⟨fun k => match k with | 0 => c0 | _ => c3, fun k q h => ?_⟩
  match k, h with
  | 0, h => cases h; exact ⟨fun n z => ⟨(fun k h => by cases h), k0, a2, p0, a3⟩, a1⟩
  | 1, h => cases h; exact ⟨fun n z => ⟨(fun k h => by cases h), k3, e3, p3, e4⟩, k3, p3, e3, e4, e1, e5⟩
  | k + 2, h => simp [xtys] at h
theorem cn_in : ∀ x ∈ cnL, Cond.methodLinkNest x.1 x.2.1 x.2.2 RX8 ∈ lw_tbl := by
  unfold cnL
  exact xfc (List.mem_of_getElem? (i := 44) (by decide +kernel)) (xfc (List.mem_of_getElem? (i := 81) (by decide +kernel)) (xfc (List.mem_of_getElem? (i := 38) (by decide +kernel)) (xfc (List.mem_of_getElem? (i := 163) (by decide +kernel)) (xfc (List.mem_of_getElem? (i := 187) (by decide +kernel)) (xfc (List.mem_of_getElem? (i := 204) (by decide +kernel)) (xfc (List.mem_of_getElem? (i := 150) (by decide +kernel)) xfn))))))
theorem lw_cN {s : State} {args : Array Value} (hts : ∀ w ∈ lw_tbl, w.before args s = true) : cN s := ⟨fun x hx => va_Nw.of rfl (hts _ (cn_in x hx)), va_AO.of (hts _ (List.mem_of_getElem? (i := 149) (by decide +kernel)))⟩
theorem ccL_4 : cCall R_law 105 YX8 0 := ⟨xw 32 (by decide +kernel) (by decide +kernel), xw 16 (by decide +kernel) (by decide +kernel), Or.inl (xw 30 (by decide +kernel) (by decide +kernel)), xw 31 (by decide +kernel) (by decide +kernel), rfl, by decide, by decide, by decide +kernel⟩
theorem dL_0 : decode code 0 = .ok (.new 28, 3) := by decide +kernel
theorem dL_3 : decode code 3 = .ok (.dup, 1) := by decide +kernel
theorem dL_4 : decode code 4 = .ok (.invokespecial 105, 3) := by decide +kernel
theorem dL_7 : decode code 7 = .ok (.astore_n 1, 1) := by decide +kernel
theorem dL_8 : decode code 8 = .ok (.bipush 60, 2) := by decide +kernel
theorem dL_10 : decode code 10 = .ok (.newarray .int, 2) := by decide +kernel
theorem dL_12 : decode code 12 = .ok (.astore_n 2, 1) := by decide +kernel
theorem dL_13 : decode code 13 = .ok (.bipush 60, 2) := by decide +kernel
theorem dL_15 : decode code 15 = .ok (.newarray .int, 2) := by decide +kernel
theorem dL_17 : decode code 17 = .ok (.astore_n 3, 1) := by decide +kernel
theorem dL_18 : decode code 18 = .ok (.bipush 60, 2) := by decide +kernel
theorem dL_20 : decode code 20 = .ok (.newarray .int, 2) := by decide +kernel
theorem dL_22 : decode code 22 = .ok (.astore 4, 2) := by decide +kernel
theorem dL_24 : decode code 24 = .ok (.bipush 48, 2) := by decide +kernel
theorem dL_26 : decode code 26 = .ok (.newarray .int, 2) := by decide +kernel
theorem dL_28 : decode code 28 = .ok (.astore 5, 2) := by decide +kernel
theorem dL_30 : decode code 30 = .ok (.bipush 48, 2) := by decide +kernel
theorem dL_32 : decode code 32 = .ok (.newarray .int, 2) := by decide +kernel
theorem dL_34 : decode code 34 = .ok (.astore 6, 2) := by decide +kernel
theorem dL_36 : decode code 36 = .ok (.bipush 48, 2) := by decide +kernel
theorem dL_38 : decode code 38 = .ok (.newarray .int, 2) := by decide +kernel
theorem dL_40 : decode code 40 = .ok (.astore 7, 2) := by decide +kernel
theorem dL_42 : decode code 42 = .ok (.bipush 48, 2) := by decide +kernel
theorem dL_44 : decode code 44 = .ok (.newarray .int, 2) := by decide +kernel
theorem dL_46 : decode code 46 = .ok (.astore 8, 2) := by decide +kernel
theorem dL_48 : decode code 48 = .ok (.bipush 48, 2) := by decide +kernel
theorem dL_50 : decode code 50 = .ok (.newarray .int, 2) := by decide +kernel
theorem dL_52 : decode code 52 = .ok (.astore 9, 2) := by decide +kernel
theorem dL_54 : decode code 54 = .ok (.bipush 48, 2) := by decide +kernel
theorem dL_56 : decode code 56 = .ok (.newarray .int, 2) := by decide +kernel
theorem dL_58 : decode code 58 = .ok (.astore 10, 2) := by decide +kernel
theorem dL_60 : decode code 60 = .ok (.bipush 48, 2) := by decide +kernel
theorem dL_62 : decode code 62 = .ok (.newarray .int, 2) := by decide +kernel
theorem dL_64 : decode code 64 = .ok (.astore 11, 2) := by decide +kernel
theorem dL_66 : decode code 66 = .ok (.bipush 48, 2) := by decide +kernel
theorem dL_68 : decode code 68 = .ok (.newarray .int, 2) := by decide +kernel
theorem dL_70 : decode code 70 = .ok (.astore 12, 2) := by decide +kernel
theorem dL_72 : decode code 72 = .ok (.bipush 48, 2) := by decide +kernel
theorem dL_74 : decode code 74 = .ok (.newarray .int, 2) := by decide +kernel
theorem dL_76 : decode code 76 = .ok (.astore 13, 2) := by decide +kernel
theorem dL_78 : decode code 78 = .ok (.iconst 3, 1) := by decide +kernel
theorem dL_79 : decode code 79 = .ok (.newarray .int, 2) := by decide +kernel
theorem dL_81 : decode code 81 = .ok (.astore 14, 2) := by decide +kernel
theorem dL_83 : decode code 83 = .ok (.iconst 0, 1) := by decide +kernel
theorem dL_84 : decode code 84 = .ok (.istore 15, 2) := by decide +kernel
theorem app13 (X : va_W) (a0 a1 a2 a3 a4 a5 a6 a7 a8 a9 a10 a11 a12 : Nat × va_E) : X ++ [a0, a1, a2, a3, a4, a5, a6, a7, a8, a9, a10, a11, a12] = (((((((((((((X ++ [a0]) ++ [a1]) ++ [a2]) ++ [a3]) ++ [a4]) ++ [a5]) ++ [a6]) ++ [a7]) ++ [a8]) ++ [a9]) ++ [a10]) ++ [a11]) ++ [a12]) := by simp
set_option maxRecDepth 20000 in
/-- THE LAW, from its entry -/
theorem whole_start {p : Program} {e : Env} {s : State} {m : MethodId} {below : List Frame} {meth : Method} {c : Code} (l : Launch) (hflags : l.flags = flags0) {b L : Nat} {xs : Nat → Int32} (hL : L ≤ 260) (C0 : lw_At p s m meth c b L xs) : W p l e room_1 s m #[Value.ref b] below meth c s.heap [] 0 0 (lw_Z below #[Value.ref b] s) (entryFrame m ([Value.ref b] : List Value).toArray 33) := by
  obtain ⟨hx, hb, hr, hml, hown, hts, hX, hbl, hlocks, hgv⟩ := id C0
  have hA : ∀ q : Nat, s.heap.size ≤ q → (fun q : Nat => s.heap.size ≤ q) q := fun _ h => h
  obtain ⟨dC, dI, hKc⟩ := lw_cls hts
  obtain ⟨cA, hKa⟩ := lw_arr hts
  have hK : va_K (dC, dI) vwCl (xtys cA) s := ⟨hKc, hKa⟩
  have hH : cHost p s m #[Value.ref b] c (dC, dI) cA R_law code 33 lw_tbl := ⟨hx, hb, hml, hown, hts, fun w hw => hw.1, hK, lw_cN hts⟩
  have hS : va_S (fun q : Nat => s.heap.size ≤ q) s.heap s.heap [] := va_S.rf
  have hP : va_P (dC, dI) vwCl ([] : va_W) s.heap := fun k q h => by simp at h
  have hD : va_D (fun q : Nat => s.heap.size ≤ q) ([] : va_W) := ⟨fun i j p q h => by simp at h, fun k q h => by simp at h⟩
  have hl := lv_entry ([.ref b]) (n := 33) (Nat.le_of_ble_eq_true rfl)
  rw [lg_entry_eq]
  generalize (lg_sl ([.ref b]) ++ List.replicate (33 - (lg_sl ([.ref b])).length) Slot.unset).toArray = ls at hl ⊢
  have hl : lv_has ls 33 [(0, .ref b)] := hl
  refine cs_new hH (cj := 7) (fs1 := [.null, .null, .null, .null, .null, .null, .null, .null, .int 0]) rfl tyX8 tyX8_ok (fun j hj => by rcases (show j = 0 ∨ j = 1 ∨ j = 2 ∨ j = 3 ∨ j = 4 ∨ j = 5 ∨ j = 6 ∨ j = 7 ∨ j = 8 by omega) with rfl | rfl | rfl | rfl | rfl | rfl | rfl | rfl | rfl <;> rfl) (xw 28 (by decide +kernel) (by decide +kernel)) (xw 29 (by decide +kernel) (by decide +kernel)) (xw 16 (by decide +kernel) (by decide +kernel)) hP hD hS hA ⟨(Nat.le_of_ble_eq_true rfl), (Nat.le_of_ble_eq_true rfl)⟩ dL_0 (fun qx H hP hD hS => ?_)
  refine lv_dup hx hb dL_3 rfl ?_
  refine cs_call hH (As := []) (rest := [.ref qx]) (cX8 l (dC, dI) cA) ccL_4 (R0 := []) hP hD hS hA hl.1 (Nat.le_of_ble_eq_true rfl) ⟨(Nat.le_of_ble_eq_true rfl), (Nat.le_of_ble_eq_true rfl)⟩ ⟨(Nat.le_of_ble_eq_true rfl), (Nat.le_of_ble_eq_true rfl)⟩ dL_4 (fun w H locs hw hP hD hS => ?_)
  obtain ⟨s0, f0, p0, r0, a0, s1, f1, p1, r1, a1, h, g, st, f, p', r, a, b', br, ba, bd, d1, d2, d3, d4, fd, rd, ad, l1, l2, t1, t2, rfl⟩ := hw
  refine lv_astore_n (lv' := [(1, .ref qx), (0, .ref b)]) hx hb dL_7 rfl hl (by decide) rfl (fun ls hl => ?_)
  refine lv_bipush (v := 60) hx hb dL_8 (by decide) ?_
  refine cs_arr hH (atype := .int) (ty := .int) (t := 0) (N := 60) rfl rfl (by simp) (xw 61 (by decide +kernel) (by decide +kernel)) hP hD hS hA (by decide) (by decide) (by decide) ⟨(Nat.le_of_ble_eq_true rfl), (Nat.le_of_ble_eq_true rfl)⟩ dL_10 (fun q0 H hP hD hS => ?_)
  refine lv_astore_n (lv' := [(2, .ref q0), (1, .ref qx), (0, .ref b)]) hx hb dL_12 rfl hl (by decide) rfl (fun ls hl => ?_)
  refine lv_bipush (v := 60) hx hb dL_13 (by decide) ?_
  refine cs_arr hH (atype := .int) (ty := .int) (t := 0) (N := 60) rfl rfl (by simp) (xw 61 (by decide +kernel) (by decide +kernel)) hP hD hS hA (by decide) (by decide) (by decide) ⟨(Nat.le_of_ble_eq_true rfl), (Nat.le_of_ble_eq_true rfl)⟩ dL_15 (fun q1 H hP hD hS => ?_)
  refine lv_astore_n (lv' := [(3, .ref q1), (2, .ref q0), (1, .ref qx), (0, .ref b)]) hx hb dL_17 rfl hl (by decide) rfl (fun ls hl => ?_)
  refine lv_bipush (v := 60) hx hb dL_18 (by decide) ?_
  refine cs_arr hH (atype := .int) (ty := .int) (t := 0) (N := 60) rfl rfl (by simp) (xw 61 (by decide +kernel) (by decide +kernel)) hP hD hS hA (by decide) (by decide) (by decide) ⟨(Nat.le_of_ble_eq_true rfl), (Nat.le_of_ble_eq_true rfl)⟩ dL_20 (fun q2 H hP hD hS => ?_)
  refine lv_astore (lv' := [(4, .ref q2), (3, .ref q1), (2, .ref q0), (1, .ref qx), (0, .ref b)]) hx hb dL_22 hl (by decide) rfl (fun ls hl => ?_)
  refine lv_bipush (v := 48) hx hb dL_24 (by decide) ?_
  refine cs_arr hH (atype := .int) (ty := .int) (t := 0) (N := 48) rfl rfl (by simp) (xw 61 (by decide +kernel) (by decide +kernel)) hP hD hS hA (by decide) (by decide) (by decide) ⟨(Nat.le_of_ble_eq_true rfl), (Nat.le_of_ble_eq_true rfl)⟩ dL_26 (fun q3 H hP hD hS => ?_)
  refine lv_astore (lv' := [(5, .ref q3), (4, .ref q2), (3, .ref q1), (2, .ref q0), (1, .ref qx), (0, .ref b)]) hx hb dL_28 hl (by decide) rfl (fun ls hl => ?_)
  refine lv_bipush (v := 48) hx hb dL_30 (by decide) ?_
  refine cs_arr hH (atype := .int) (ty := .int) (t := 0) (N := 48) rfl rfl (by simp) (xw 61 (by decide +kernel) (by decide +kernel)) hP hD hS hA (by decide) (by decide) (by decide) ⟨(Nat.le_of_ble_eq_true rfl), (Nat.le_of_ble_eq_true rfl)⟩ dL_32 (fun q4 H hP hD hS => ?_)
  refine lv_astore (lv' := [(6, .ref q4), (5, .ref q3), (4, .ref q2), (3, .ref q1), (2, .ref q0), (1, .ref qx), (0, .ref b)]) hx hb dL_34 hl (by decide) rfl (fun ls hl => ?_)
  refine lv_bipush (v := 48) hx hb dL_36 (by decide) ?_
  refine cs_arr hH (atype := .int) (ty := .int) (t := 0) (N := 48) rfl rfl (by simp) (xw 61 (by decide +kernel) (by decide +kernel)) hP hD hS hA (by decide) (by decide) (by decide) ⟨(Nat.le_of_ble_eq_true rfl), (Nat.le_of_ble_eq_true rfl)⟩ dL_38 (fun q5 H hP hD hS => ?_)
  refine lv_astore (lv' := [(7, .ref q5), (6, .ref q4), (5, .ref q3), (4, .ref q2), (3, .ref q1), (2, .ref q0), (1, .ref qx), (0, .ref b)]) hx hb dL_40 hl (by decide) rfl (fun ls hl => ?_)
  refine lv_bipush (v := 48) hx hb dL_42 (by decide) ?_
  refine cs_arr hH (atype := .int) (ty := .int) (t := 0) (N := 48) rfl rfl (by simp) (xw 61 (by decide +kernel) (by decide +kernel)) hP hD hS hA (by decide) (by decide) (by decide) ⟨(Nat.le_of_ble_eq_true rfl), (Nat.le_of_ble_eq_true rfl)⟩ dL_44 (fun q6 H hP hD hS => ?_)
  refine lv_astore (lv' := [(8, .ref q6), (7, .ref q5), (6, .ref q4), (5, .ref q3), (4, .ref q2), (3, .ref q1), (2, .ref q0), (1, .ref qx), (0, .ref b)]) hx hb dL_46 hl (by decide) rfl (fun ls hl => ?_)
  refine lv_bipush (v := 48) hx hb dL_48 (by decide) ?_
  refine cs_arr hH (atype := .int) (ty := .int) (t := 0) (N := 48) rfl rfl (by simp) (xw 61 (by decide +kernel) (by decide +kernel)) hP hD hS hA (by decide) (by decide) (by decide) ⟨(Nat.le_of_ble_eq_true rfl), (Nat.le_of_ble_eq_true rfl)⟩ dL_50 (fun q7 H hP hD hS => ?_)
  refine lv_astore (lv' := [(9, .ref q7), (8, .ref q6), (7, .ref q5), (6, .ref q4), (5, .ref q3), (4, .ref q2), (3, .ref q1), (2, .ref q0), (1, .ref qx), (0, .ref b)]) hx hb dL_52 hl (by decide) rfl (fun ls hl => ?_)
  refine lv_bipush (v := 48) hx hb dL_54 (by decide) ?_
  refine cs_arr hH (atype := .int) (ty := .int) (t := 0) (N := 48) rfl rfl (by simp) (xw 61 (by decide +kernel) (by decide +kernel)) hP hD hS hA (by decide) (by decide) (by decide) ⟨(Nat.le_of_ble_eq_true rfl), (Nat.le_of_ble_eq_true rfl)⟩ dL_56 (fun q8 H hP hD hS => ?_)
  refine lv_astore (lv' := [(10, .ref q8), (9, .ref q7), (8, .ref q6), (7, .ref q5), (6, .ref q4), (5, .ref q3), (4, .ref q2), (3, .ref q1), (2, .ref q0), (1, .ref qx), (0, .ref b)]) hx hb dL_58 hl (by decide) rfl (fun ls hl => ?_)
  refine lv_bipush (v := 48) hx hb dL_60 (by decide) ?_
  refine cs_arr hH (atype := .int) (ty := .int) (t := 0) (N := 48) rfl rfl (by simp) (xw 61 (by decide +kernel) (by decide +kernel)) hP hD hS hA (by decide) (by decide) (by decide) ⟨(Nat.le_of_ble_eq_true rfl), (Nat.le_of_ble_eq_true rfl)⟩ dL_62 (fun q9 H hP hD hS => ?_)
  refine lv_astore (lv' := [(11, .ref q9), (10, .ref q8), (9, .ref q7), (8, .ref q6), (7, .ref q5), (6, .ref q4), (5, .ref q3), (4, .ref q2), (3, .ref q1), (2, .ref q0), (1, .ref qx), (0, .ref b)]) hx hb dL_64 hl (by decide) rfl (fun ls hl => ?_)
  refine lv_bipush (v := 48) hx hb dL_66 (by decide) ?_
  refine cs_arr hH (atype := .int) (ty := .int) (t := 0) (N := 48) rfl rfl (by simp) (xw 61 (by decide +kernel) (by decide +kernel)) hP hD hS hA (by decide) (by decide) (by decide) ⟨(Nat.le_of_ble_eq_true rfl), (Nat.le_of_ble_eq_true rfl)⟩ dL_68 (fun q10 H hP hD hS => ?_)
  refine lv_astore (lv' := [(12, .ref q10), (11, .ref q9), (10, .ref q8), (9, .ref q7), (8, .ref q6), (7, .ref q5), (6, .ref q4), (5, .ref q3), (4, .ref q2), (3, .ref q1), (2, .ref q0), (1, .ref qx), (0, .ref b)]) hx hb dL_70 hl (by decide) rfl (fun ls hl => ?_)
  refine lv_bipush (v := 48) hx hb dL_72 (by decide) ?_
  refine cs_arr hH (atype := .int) (ty := .int) (t := 0) (N := 48) rfl rfl (by simp) (xw 61 (by decide +kernel) (by decide +kernel)) hP hD hS hA (by decide) (by decide) (by decide) ⟨(Nat.le_of_ble_eq_true rfl), (Nat.le_of_ble_eq_true rfl)⟩ dL_74 (fun q11 H hP hD hS => ?_)
  refine lv_astore (lv' := [(13, .ref q11), (12, .ref q10), (11, .ref q9), (10, .ref q8), (9, .ref q7), (8, .ref q6), (7, .ref q5), (6, .ref q4), (5, .ref q3), (4, .ref q2), (3, .ref q1), (2, .ref q0), (1, .ref qx), (0, .ref b)]) hx hb dL_76 hl (by decide) rfl (fun ls hl => ?_)
  refine lv_iconst (v := 3) hx hb dL_78 (by decide) ?_
  refine cs_arr hH (atype := .int) (ty := .int) (t := 0) (N := 3) rfl rfl (by simp) (xw 61 (by decide +kernel) (by decide +kernel)) hP hD hS hA (by decide) (by decide) (by decide) ⟨(Nat.le_of_ble_eq_true rfl), (Nat.le_of_ble_eq_true rfl)⟩ dL_79 (fun q12 H hP hD hS => ?_)
  refine lv_astore (lv' := [(14, .ref q12), (13, .ref q11), (12, .ref q10), (11, .ref q9), (10, .ref q8), (9, .ref q7), (8, .ref q6), (7, .ref q5), (6, .ref q4), (5, .ref q3), (4, .ref q2), (3, .ref q1), (2, .ref q0), (1, .ref qx), (0, .ref b)]) hx hb dL_81 hl (by decide) rfl (fun ls hl => ?_)
  refine lv_iconst (v := 0) hx hb dL_83 (by decide) ?_
  refine lv_istore (lv' := [(15, .int 0), (14, .ref q12), (13, .ref q11), (12, .ref q10), (11, .ref q9), (10, .ref q8), (9, .ref q7), (8, .ref q6), (7, .ref q5), (6, .ref q4), (5, .ref q3), (4, .ref q2), (3, .ref q1), (2, .ref q0), (1, .ref qx), (0, .ref b)]) hx hb dL_84 hl (by decide) rfl (fun ls hl => ?_)
  have eW : ([] ++ wC cA qx s0 f0 p0 r0 a0 s1 f1 p1 r1 a1 h g st f p' r a b' br ba bd d1 d2 d3 d4 fd rd ad l1 l2 t1 t2) ++ wLw cA (fun c => if c = 20 then q0 else if c = 21 then q1 else if c = 22 then q2 else if c = 23 then q3 else if c = 24 then q4 else if c = 25 then q5 else if c = 26 then q6 else if c = 27 then q7 else if c = 28 then q8 else if c = 29 then q9 else if c = 30 then q10 else if c = 31 then q11 else q12) = _ := (congrArg (([] ++ wC cA qx s0 f0 p0 r0 a0 s1 f1 p1 r1 a1 h g st f p' r a b' br ba bd d1 d2 d3 d4 fd rd ad l1 l2 t1 t2) ++ ·) (show wLw cA (fun c => if c = 20 then q0 else if c = 21 then q1 else if c = 22 then q2 else if c = 23 then q3 else if c = 24 then q4 else if c = 25 then q5 else if c = 26 then q6 else if c = 27 then q7 else if c = 28 then q8 else if c = 29 then q9 else if c = 30 then q10 else if c = 31 then q11 else q12) = [(q0, .inl (cA 0, 60, .inl fun _ => 0)), (q1, .inl (cA 0, 60, .inl fun _ => 0)), (q2, .inl (cA 0, 60, .inl fun _ => 0)), (q3, .inl (cA 0, 48, .inl fun _ => 0)), (q4, .inl (cA 0, 48, .inl fun _ => 0)), (q5, .inl (cA 0, 48, .inl fun _ => 0)), (q6, .inl (cA 0, 48, .inl fun _ => 0)), (q7, .inl (cA 0, 48, .inl fun _ => 0)), (q8, .inl (cA 0, 48, .inl fun _ => 0)), (q9, .inl (cA 0, 48, .inl fun _ => 0)), (q10, .inl (cA 0, 48, .inl fun _ => 0)), (q11, .inl (cA 0, 48, .inl fun _ => 0)), (q12, .inl (cA 0, 3, .inl fun _ => 0))] from rfl)).trans (app13 _ _ _ _ _ _ _ _ _ _ _ _ _ _)
  rw [← eW] at hP hD
  obtain ⟨hG, hP0, hA0⟩ := fresh_wld (l := l) (wld_eq cA s0 f0 p0 r0 a0 s1 f1 p1 r1 a1 h g st f p' r a b' br ba bd d1 d2 d3 d4 fd rd ad l1 l2 t1 t2 qx b (fun c => if c = 20 then q0 else if c = 21 then q1 else if c = 22 then q2 else if c = 23 then q3 else if c = 24 then q4 else if c = 25 then q5 else if c = 26 then q6 else if c = 27 then q7 else if c = 28 then q8 else if c = 29 then q9 else if c = 30 then q10 else if c = 31 then q11 else q12)) hP hD
  have C1 : LC p l s m meth c b L xs (adF s0 f0 p0 r0 a0 s1 f1 p1 r1 a1 h g st f p' r a b' br ba bd d1 d2 d3 d4 fd rd ad l1 l2 t1 t2 qx b (fun c => if c = 20 then q0 else if c = 21 then q1 else if c = 22 then q2 else if c = 23 then q3 else if c = 24 then q4 else if c = 25 then q5 else if c = 26 then q6 else if c = 27 then q7 else if c = 28 then q8 else if c = 29 then q9 else if c = 30 then q10 else if c = 31 then q11 else q12)) (dC, dI) cA := ⟨C0, hL, hK, hA0, rfl⟩
  refine la_86 C1 70 0 _ _ m0 S0 rfl (Nat.le_refl _) ⟨Nat.le_of_ble_eq_true rfl, Nat.le_of_ble_eq_true rfl⟩ Ok0 hG (lc_x C1) (lc_y C1 ⟨Nat.le_of_ble_eq_true rfl, Nat.le_of_ble_eq_true rfl⟩) H _ ls hP0 hS ⟨hl.1, hl.2.1, fun i hi => ?_⟩ (fun i => ?_) trivial
  · match i, hi with
    | 0, _ => exact hl.2.2 (0, .ref b) (by simp)
    | 1, _ => exact hl.2.2 (1, .ref qx) (by simp)
    | 2, _ => exact hl.2.2 (2, .ref q0) (by simp)
    | 3, _ => exact hl.2.2 (3, .ref q1) (by simp)
    | 4, _ => exact hl.2.2 (4, .ref q2) (by simp)
    | 5, _ => exact hl.2.2 (5, .ref q3) (by simp)
    | 6, _ => exact hl.2.2 (6, .ref q4) (by simp)
    | 7, _ => exact hl.2.2 (7, .ref q5) (by simp)
    | 8, _ => exact hl.2.2 (8, .ref q6) (by simp)
    | 9, _ => exact hl.2.2 (9, .ref q7) (by simp)
    | 10, _ => exact hl.2.2 (10, .ref q8) (by simp)
    | 11, _ => exact hl.2.2 (11, .ref q9) (by simp)
    | 12, _ => exact hl.2.2 (12, .ref q10) (by simp)
    | 13, _ => exact hl.2.2 (13, .ref q11) (by simp)
    | 14, _ => exact hl.2.2 (14, .ref q12) (by simp)
    | 15, _ => exact hl.2.2 (15, .int 0) (by simp)
    | 16, hi => exact absurd rfl hi
    | 17, hi => exact absurd rfl hi
    | 18, hi => exact absurd rfl hi
    | 19, hi => exact absurd rfl hi
    | 20, hi => exact absurd rfl hi
    | 21, hi => exact absurd rfl hi
    | 22, hi => exact absurd rfl hi
    | 23, hi => exact absurd rfl hi
    | 24, hi => exact absurd rfl hi
    | 25, hi => exact absurd rfl hi
    | 26, hi => exact absurd rfl hi
    | 27, hi => exact absurd rfl hi
    | 28, hi => exact absurd rfl hi
    | 29, hi => exact absurd rfl hi
    | 30, hi => exact absurd rfl hi
    | 31, hi => exact absurd rfl hi
    | 32, hi => exact absurd rfl hi
    | n + 33, hi => exact absurd (by cases n <;> rfl) hi
  · match i with
    | 0 => exact Or.inl rfl
    | 1 => exact Or.inr (show xok false (8, 0, 0) = true by decide)
    | 2 => exact Or.inr (show xok false (1, 0, 20) = true by decide)
    | 3 => exact Or.inr (show xok false (1, 0, 21) = true by decide)
    | 4 => exact Or.inr (show xok false (1, 0, 22) = true by decide)
    | 5 => exact Or.inr (show xok false (1, 0, 23) = true by decide)
    | 6 => exact Or.inr (show xok false (1, 0, 24) = true by decide)
    | 7 => exact Or.inr (show xok false (1, 0, 25) = true by decide)
    | 8 => exact Or.inr (show xok false (1, 0, 26) = true by decide)
    | 9 => exact Or.inr (show xok false (1, 0, 27) = true by decide)
    | 10 => exact Or.inr (show xok false (1, 0, 28) = true by decide)
    | 11 => exact Or.inr (show xok false (1, 0, 29) = true by decide)
    | 12 => exact Or.inr (show xok false (1, 0, 30) = true by decide)
    | 13 => exact Or.inr (show xok false (1, 0, 31) = true by decide)
    | 14 => exact Or.inr (show xok false (1, 0, 32) = true by decide)
    | 15 => exact trivial
    | 16 => exact trivial
    | 17 => exact trivial
    | 18 => exact trivial
    | 19 => exact trivial
    | 20 => exact trivial
    | 21 => exact trivial
    | 22 => exact trivial
    | 23 => exact trivial
    | 24 => exact trivial
    | 25 => exact trivial
    | 26 => exact trivial
    | 27 => exact trivial
    | 28 => exact trivial
    | 29 => exact trivial
    | 30 => exact trivial
    | 31 => exact trivial
    | 32 => exact trivial
    | n + 33 =>
      rw [show xnth (lb [vI 0, vN, vN, vN, vN, vN, vN, vN, vN, vN, vN, vN, vN, vN, vN, vN, vN, vN]) (n + 33) = vN by cases n <;> rfl]
      exact trivial
