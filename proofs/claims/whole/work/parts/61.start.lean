/-! the law's start: the classes, the two objects, the loop -/
theorem xcl_in : ∀ (ci : Nat) (C : String) (T : u_T) (N : Nat), vwCl[ci]? = some (C, T, N) → xin (Cond.instantiable C N) := by
  intro ci C T N h
  match ci, h with
  | 0, h => cases h; exact xw 219 (by decide +kernel) (by decide +kernel)
  | 1, h => cases h; exact xw 246 (by decide +kernel) (by decide +kernel)
  | 2, h => cases h; exact xw 99 (by decide +kernel) (by decide +kernel)
  | 3, h => cases h; exact xw 199 (by decide +kernel) (by decide +kernel)
  | 4, h => cases h; exact xw 136 (by decide +kernel) (by decide +kernel)
  | 5, h => cases h; exact xw 105 (by decide +kernel) (by decide +kernel)
  | 6, h => cases h; exact xw 93 (by decide +kernel) (by decide +kernel)
  | 7, h => cases h; exact xw 85 (by decide +kernel) (by decide +kernel)
  | 8, h => cases h; exact xw 758 (by decide +kernel) (by decide +kernel)
  | k + 9, h => simp at h
theorem lw_cls {s : State} {args : Array Value} (hts : ∀ w ∈ lw_tbl, w.before args s = true) : ∃ (dC : Nat → ClassId) (dI : Nat → Nat → Nat), ∀ (k : Nat) (q : vw_C), vwCl[k]? = some q → u_Kn s q.1 q.2.1 q.2.2 (dC k) (dI k) := by
  have h : ∀ k : Nat, ∃ (cC : ClassId) (iS : Nat → Nat), ∀ q : vw_C, vwCl[k]? = some q → u_Kn s q.1 q.2.1 q.2.2 cC iS := by
    intro k
    cases hq : vwCl[k]? with
    | none => exact ⟨0, fun _ => 0, fun q h => by cases h⟩
    | some q =>
      obtain ⟨C, T, N⟩ := q
      obtain ⟨cC, iS, h⟩ := u_known (n := N) hts (fun w hw => ((xcl_ok k C T N hq).1 w hw).1) (hts _ (xcl_in k C T N hq).1)
      exact ⟨cC, iS, fun q h2 => by cases h2; exact h⟩
  exact ⟨fun k => (h k).choose, fun k => (h k).choose_spec.choose, fun k q hq => (h k).choose_spec.choose_spec q hq⟩
theorem lw_arr {s : State} {args : Array Value} (hts : ∀ w ∈ lw_tbl, w.before args s = true) : ∃ cA : Nat → ClassId, ∀ (k : Nat) (q : ClassId × FieldType), (xtys cA)[k]? = some q → ArrOfT s q.1 q.2 ∧ va_RA s q.1 q.2 := by
  obtain ⟨c0, k0, p0, a1, a2, a3⟩ := Cond.arrayClass_spec (type := .int) (hts _ (List.mem_of_getElem? (i := 117) (by decide +kernel)))
  obtain ⟨c1, k1, p1, b1, b2, b3⟩ := Cond.arrayClass_spec (type := .boolean) (hts _ (List.mem_of_getElem? (i := 819) (by decide +kernel)))
  obtain ⟨c2, k2, p2, d1, d2, d3⟩ := Cond.arrayClass_spec (type := .char) (hts _ (List.mem_of_getElem? (i := 818) (by decide +kernel)))
  obtain ⟨p3, c3, k3, e1, -, e3, e4, e5⟩ := Cond.arrayOver_spec (n := "BoxedProofs$State") (hts _ (List.mem_of_getElem? (i := 205) (by decide +kernel)))
  refine ⟨fun k => match k with | 0 => c0 | 1 => c1 | 2 => c2 | _ => c3, fun k q h => ?_⟩
  match k, h with
  | 0, h => cases h; exact ⟨fun n z => ⟨(fun k h => by cases h), k0, a2, p0, a3⟩, a1⟩
  | 1, h => cases h; exact ⟨fun n z => ⟨(fun k h => by cases h), k1, b2, p1, b3⟩, b1⟩
  | 2, h => cases h; exact ⟨fun n z => ⟨(fun k h => by cases h), k2, d2, p2, d3⟩, d1⟩
  | 3, h => cases h; exact ⟨fun n z => ⟨(fun k h => by cases h), k3, e3, p3, e4⟩, k3, p3, e3, e4, e1, e5⟩
  | k + 4, h => simp [xtys] at h
theorem cn_in : ∀ x ∈ cnL, Cond.methodLinkNest x.1 x.2.1 x.2.2 RX8 ∈ lw_tbl := by
  unfold cnL
  exact xfc (List.mem_of_getElem? (i := 100) (by decide +kernel)) (xfc (List.mem_of_getElem? (i := 137) (by decide +kernel)) (xfc (List.mem_of_getElem? (i := 94) (by decide +kernel)) (xfc (List.mem_of_getElem? (i := 220) (by decide +kernel)) (xfc (List.mem_of_getElem? (i := 247) (by decide +kernel)) (xfc (List.mem_of_getElem? (i := 264) (by decide +kernel)) (xfc (List.mem_of_getElem? (i := 206) (by decide +kernel)) xfn))))))
theorem lw_cN {s : State} {args : Array Value} (hts : ∀ w ∈ lw_tbl, w.before args s = true) : cN s := ⟨fun x hx => va_Nw.of rfl (hts _ (cn_in x hx)), va_AO.of (hts _ (List.mem_of_getElem? (i := 205) (by decide +kernel)))⟩
theorem ccL_4 : cCall R_law 9 YX8 0 := ⟨xw 88 (by decide +kernel) (by decide +kernel), xw 70 (by decide +kernel) (by decide +kernel), Or.inl (xw 86 (by decide +kernel) (by decide +kernel)), xw 87 (by decide +kernel) (by decide +kernel), rfl, by decide, by decide, by decide +kernel⟩
theorem ccL_12 : cCall R_law 12 YX9 0 := ⟨xw 761 (by decide +kernel) (by decide +kernel), xw 79 (by decide +kernel) (by decide +kernel), Or.inl (xw 759 (by decide +kernel) (by decide +kernel)), xw 760 (by decide +kernel) (by decide +kernel), rfl, by decide, by decide, by decide +kernel⟩
set_option maxRecDepth 20000 in
/-- THE LAW, from its entry -/
theorem whole_start {p : Program} {e : Env} {s : State} {m : MethodId} {below : List Frame} {meth : Method} {c : Code} (l : Launch) (hflags : l.flags = flags0) {b L : Nat} {xs : Nat → Int32} (hL : L ≤ 2048) (C0 : lw_At p s m meth c b L xs) : W p l e room_1 s m #[Value.ref b] below meth c s.heap [] 0 0 (lw_Z below #[Value.ref b] s) (entryFrame m ([Value.ref b] : List Value).toArray 4) := by
  obtain ⟨hx, hb, hr, hml, hown, hts, hX, hbl, hlocks, hgv⟩ := id C0
  have hA : ∀ q : Nat, s.heap.size ≤ q → (fun q : Nat => s.heap.size ≤ q) q := fun _ h => h
  obtain ⟨dC, dI, hKc⟩ := lw_cls hts
  obtain ⟨cA, hKa⟩ := lw_arr hts
  have hK : va_K (dC, dI) vwCl (xtys cA) s := ⟨hKc, hKa⟩
  have hH : cHost p s m #[Value.ref b] c (dC, dI) cA R_law code 4 lw_tbl := ⟨hx, hb, hml, hown, hts, fun w hw => hw.1, hK, lw_cN hts⟩
  have hS : va_S (fun q : Nat => s.heap.size ≤ q) s.heap s.heap [] := va_S.rf
  have hP : va_P (dC, dI) vwCl ([] : va_W) s.heap := fun k q h => by simp at h
  have hD : va_D (fun q : Nat => s.heap.size ≤ q) ([] : va_W) := ⟨fun i j p q h => by simp at h, fun k q h => by simp at h⟩
  have hl := lv_entry ([.ref b]) (n := 4) (Nat.le_of_ble_eq_true rfl)
  rw [lg_entry_eq]
  generalize (lg_sl ([.ref b]) ++ List.replicate (4 - (lg_sl ([.ref b])).length) Slot.unset).toArray = ls at hl ⊢
  have hl : lv_has ls 4 [(0, .ref b)] := hl
  refine cs_new hH (cj := 7) (fs1 := [.null, .null, .null, .null, .null, .null, .null, .null, .int 0]) rfl tyX8 tyX8_ok (fun j hj => by rcases (show j = 0 ∨ j = 1 ∨ j = 2 ∨ j = 3 ∨ j = 4 ∨ j = 5 ∨ j = 6 ∨ j = 7 ∨ j = 8 by omega) with rfl | rfl | rfl | rfl | rfl | rfl | rfl | rfl | rfl <;> rfl) (xw 84 (by decide +kernel) (by decide +kernel)) (xw 85 (by decide +kernel) (by decide +kernel)) (xw 70 (by decide +kernel) (by decide +kernel)) hP hD hS hA ⟨(Nat.le_of_ble_eq_true rfl), (Nat.le_of_ble_eq_true rfl)⟩ dL_0 (fun qx H hP hD hS => ?_)
  refine lv_dup hx hb dL_3 rfl ?_
  refine cs_call hH (As := []) (rest := [.ref qx]) (cX8 l (dC, dI) cA) ccL_4 (R0 := []) hP hD hS hA hl.1 (Nat.le_of_ble_eq_true rfl) ⟨(Nat.le_of_ble_eq_true rfl), (Nat.le_of_ble_eq_true rfl)⟩ ⟨(Nat.le_of_ble_eq_true rfl), (Nat.le_of_ble_eq_true rfl)⟩ dL_4 (fun w H locs hw hP hD hS => ?_)
  obtain ⟨s0, f0, p0, r0, a0, s1, f1, p1, r1, a1, h, g, st, f, p', r, a, b', br, ba, bd, d1, d2, d3, d4, fd, rd, ad, l1, l2, t1, t2, rfl⟩ := hw
  refine lv_astore_n (lv' := [(1, .ref qx), (0, .ref b)]) hx hb dL_7 rfl hl (by decide) rfl (fun ls hl => ?_)
  refine cs_new hH (cj := 8) (fs1 := [.null, .null, .int 0, .null, .int 0, .null, .int 0, .null, .null, .null, .null, .null, .null, .null, .int 0, .int 0, .int 0, .int 0]) rfl tyX9 tyX9_ok (fun j hj => by rcases (show j = 0 ∨ j = 1 ∨ j = 2 ∨ j = 3 ∨ j = 4 ∨ j = 5 ∨ j = 6 ∨ j = 7 ∨ j = 8 ∨ j = 9 ∨ j = 10 ∨ j = 11 ∨ j = 12 ∨ j = 13 ∨ j = 14 ∨ j = 15 ∨ j = 16 ∨ j = 17 by omega) with rfl | rfl | rfl | rfl | rfl | rfl | rfl | rfl | rfl | rfl | rfl | rfl | rfl | rfl | rfl | rfl | rfl | rfl <;> rfl) (xw 757 (by decide +kernel) (by decide +kernel)) (xw 758 (by decide +kernel) (by decide +kernel)) (xw 79 (by decide +kernel) (by decide +kernel)) hP hD hS hA ⟨(Nat.le_of_ble_eq_true rfl), (Nat.le_of_ble_eq_true rfl)⟩ dL_8 (fun qm H hP hD hS => ?_)
  refine lv_dup hx hb dL_11 rfl ?_
  refine cs_call hH (As := []) (rest := [.ref qm]) (cX9 l (dC, dI) cA) ccL_12 hP hD hS hA hl.1 (Nat.le_of_ble_eq_true rfl) ⟨(Nat.le_of_ble_eq_true rfl), (Nat.le_of_ble_eq_true rfl)⟩ ⟨(Nat.le_of_ble_eq_true rfl), (Nat.le_of_ble_eq_true rfl)⟩ dL_12 (fun w H locs hw hP hD hS => ?_)
  obtain ⟨am, ac, ab, rfl⟩ := hw
  refine lv_astore_n (lv' := [(2, .ref qm), (1, .ref qx), (0, .ref b)]) hx hb dL_15 rfl hl (by decide) rfl (fun ls hl => ?_)
  refine lv_iconst (v := 0) hx hb dL_16 (by decide) ?_
  refine lv_istore_n (lv' := [(3, .int 0), (2, .ref qm), (1, .ref qx), (0, .ref b)]) hx hb dL_17 rfl hl (by decide) rfl (fun ls hl => ?_)
  obtain ⟨hG, hP0, hA0⟩ := fresh_wld (l := l) (wld_eq cA s0 f0 p0 r0 a0 s1 f1 p1 r1 a1 h g st f p' r a b' br ba bd d1 d2 d3 d4 fd rd ad l1 l2 t1 t2 qx qm am ac ab) hP hD
  refine W.widen (k := 600000) (n := 7302250) (Nat.le_of_ble_eq_true rfl) (Nat.le_of_ble_eq_true rfl) ?_
  exact lw_loop ⟨C0, hL, hG, hK, hA0⟩ (L + 1) 0 0 m0 rfl (Nat.zero_le L) (by omega) SIM0 _ _ _ hP0 hS hl
