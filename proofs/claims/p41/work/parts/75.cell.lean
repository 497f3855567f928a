/-! the law's cell, as a contract -/
def mL_cell : xD := (yL_cell, cL_cell, 2, some .int, 2)
theorem xdL_cell : xdF mL_cell := ⟨xw 502 (by decide +kernel) (by decide +kernel), xw 15 (by decide +kernel) (by decide +kernel), by decide, by decide, (by decide +kernel), by decide⟩
theorem xdL_trim : xdF mL_trim := ⟨xw 653 (by decide +kernel) (by decide +kernel), xw 15 (by decide +kernel) (by decide +kernel), by decide, by decide, (by decide +kernel), by decide⟩
theorem xsL_106 : xsF 12 (106, 0, mL_cell) := ⟨⟨xw 500 (by decide +kernel) (by decide +kernel), xdL_cell⟩, xw 501 (by decide +kernel) (by decide +kernel)⟩
theorem xsL_145 : xsF 12 (145, 0, mL_trim) := ⟨⟨xw 651 (by decide +kernel) (by decide +kernel), xdL_trim⟩, xw 652 (by decide +kernel) (by decide +kernel)⟩
theorem dC_0 : decode cL_cell 0 = .ok (.iload_n 1, 1) := by decide +kernel
theorem dC_1 : decode cL_cell 1 = .ok (.aload_n 0, 1) := by decide +kernel
theorem dC_2 : decode cL_cell 2 = .ok (.arraylength, 1) := by decide +kernel
theorem dC_3 : decode cL_cell 3 = .ok (.if_icmp .ge 9, 3) := by decide +kernel
theorem dC_6 : decode cL_cell 6 = .ok (.aload_n 0, 1) := by decide +kernel
theorem dC_7 : decode cL_cell 7 = .ok (.iload_n 1, 1) := by decide +kernel
theorem dC_8 : decode cL_cell 8 = .ok (.iaload, 1) := by decide +kernel
theorem dC_9 : decode cL_cell 9 = .ok (.goto 10, 3) := by decide +kernel
theorem dC_12 : decode cL_cell 12 = .ok (.ldc 7, 2) := by decide +kernel
theorem dC_14 : decode cL_cell 14 = .ok (.iload_n 1, 1) := by decide +kernel
theorem dC_15 : decode cL_cell 15 = .ok (.imul, 1) := by decide +kernel
theorem dC_16 : decode cL_cell 16 = .ok (.ldc 8, 2) := by decide +kernel
theorem dC_18 : decode cL_cell 18 = .ok (.iadd, 1) := by decide +kernel
theorem dC_19 : decode cL_cell 19 = .ok (.ireturn, 1) := by decide +kernel
def ePre (b L : Nat) (xs : Nat → Int32) : State → Prop := fun U => b < U.heap.size ∧ va_X b L xs U U.heap
def ePost : Array Value → State → Outcome → State → Prop := va_Qi (S := Unit) (fun _ _ => True) (fun _ _ => True) (fun _ => False)
theorem t_cell {l : Launch} {b L : Nat} {xs : Nat → Int32} {k : Int32} (hk : 0 ≤ k.toInt) (hL : L ≤ 260) :
    Met l mL_cell.1 (xws mL_cell) (xrm 1) (va_Pc [.ref b, .int k] (ePre b L xs)) ePost 0 0 (fun _ => False) := by
  refine Met.ofW (cc := cL_cell) (maxL := 2) (ret := some .int) (ws' := xgw) (by decide +kernel) rfl ?_
  intro p e s m args' below meth c s₁ B hml hv
  obtain ⟨rfl, hbl, hX⟩ := hv
  have hx := B.exec
  have hb := B.bytes
  have hown : s.vm.findClass (xcn 12) = some m.cls := findClass_of_methodNamed B.named
  have hts : ∀ w ∈ xgw, w.before #[.ref b, .int k] s = true := fun w hw => atoms_spec (ws := xws mL_cell) B.pre w (List.mem_cons_of_mem _ hw)
  have hS : va_S (fun _ => False) s.heap s.heap [] := va_S.rf
  rw [lg_entry_eq]
  have hl := lv_entry [Value.ref b, .int k] (n := 2) (Nat.le_of_ble_eq_true rfl)
  generalize (lg_sl [Value.ref b, .int k] ++ List.replicate (2 - (lg_sl [Value.ref b, .int k]).length) Slot.unset).toArray = ls at hl ⊢
  have hl : lv_has ls 2 [(0, .ref b), (1, .int k)] := hl
  have out : ∀ y : Int32, W p l e (xrm 1) s m #[.ref b, .int k] below meth c s.heap [] 0 0 (MQ below ePost #[.ref b, .int k] s 0 0 (fun _ => False)) (F0 m 19 ls [.int y]) := fun y => W.iret hx hb B.returns (fun t ht hW => ⟨⟨y, (), rfl, trivial, trivial⟩, hS.F ht⟩) hS.2.2 dC_19 B.notSynchronized
  have eL : (Int32.ofNat L).toInt = L := ti_of (by omega)
  refine lv_iload_n hx hb dC_0 rfl (lv_at hl 1 rfl) ?_
  refine lv_aload_n hx hb dC_1 rfl (lv_at hl 0 rfl) ?_
  refine va_slen hx hb hX hbl (fun z => z) hS dC_2 ?_
  refine lv_icmp_ge (tgt := 12) hx hb dC_3 rfl (fun _ => ?_) fun c => ?_
  · refine lv_ldc hx hb hown (hts _ (xin_gw (xw (w := Cond.constant (xcn 12) 7 32452867) 503 (by decide +kernel) (by decide +kernel)))) dC_12 ?_
    refine lv_iload_n hx hb dC_14 rfl (lv_at hl 1 rfl) ?_
    refine lv_imul hx hb dC_15 ?_
    refine lv_ldc hx hb hown (hts _ (xin_gw (xw (w := Cond.constant (xcn 12) 8 15485863) 504 (by decide +kernel) (by decide +kernel)))) dC_16 ?_
    exact lv_iadd hx hb dC_18 (out _)
  · rw [ti_le, eL] at c
    refine lv_aload_n hx hb dC_6 rfl (lv_at hl 0 rfl) ?_
    refine lv_iload_n hx hb dC_7 rfl (lv_at hl 1 rfl) ?_
    refine va_sld hx hb hX hbl (fun z => z) hS (ti_in (show k.toInt = (k.toInt.toNat : Nat) by omega) (by omega)) dC_8 ?_
    exact lv_goto (tgt := 19) hx hb dC_9 rfl (out _)
