/-! the constructors of the history, the class and the model (written by wip/p41/gen_cons.py) -/
def wRing (cA : Nat → ClassId) (g : Nat) (f : Nat → Option Nat) : Nat × va_E := (g, .inl (cA 1, 5, .inr (.inr (.inr (.inr f)))))
def wH (cA : Nat → ClassId) (q g : Nat) (st f p : Nat → Nat) (r a : Nat → Nat → Nat) : va_W := (q, .inr (3, [.int 0, .int 0, .ref g])) :: wRing cA g (fun i => some (st i)) :: ((((([] ++ wS cA (st 0) (f 0) (p 0) (r 0) (a 0)) ++ wS cA (st 1) (f 1) (p 1) (r 1) (a 1)) ++ wS cA (st 2) (f 2) (p 2) (r 2) (a 2)) ++ wS cA (st 3) (f 3) (p 3) (r 3) (a 3)) ++ wS cA (st 4) (f 4) (p 4) (r 4) (a 4))
def BX3 (cA : Nat → ClassId) (q : Nat) (w : va_W) : Prop := ∃ (g : Nat) (st f p : Nat → Nat) (r a : Nat → Nat → Nat), w = wH cA q g st f p r a
def wC (cA : Nat → ClassId) (q s0 f0 p0 : Nat) (r0 a0 : Nat → Nat) (s1 f1 p1 : Nat) (r1 a1 : Nat → Nat) (h g : Nat) (st f p : Nat → Nat) (r a : Nat → Nat → Nat) (b br ba bd d1 d2 d3 d4 fd : Nat) (rd ad : Nat → Nat) (l1 l2 t1 t2 : Nat) : va_W := (q, .inr (7, [.ref s0, .ref s1, .ref h, .ref b, .ref bd, .ref fd, .ref l1, .ref t1, .int 0])) :: (((((((([] ++ wS cA s0 f0 p0 r0 a0) ++ wS cA s1 f1 p1 r1 a1) ++ wH cA h g st f p r a) ++ wB cA b br ba) ++ wBd cA bd d1 d2 d3 d4) ++ wF cA fd rd ad) ++ wRow cA 60 l1 l2) ++ wRow cA 60 t1 t2)
def BX8 (cA : Nat → ClassId) (q : Nat) (w : va_W) : Prop := ∃ (s0 f0 p0 : Nat) (r0 a0 : Nat → Nat) (s1 f1 p1 : Nat) (r1 a1 : Nat → Nat) (h g : Nat) (st f p : Nat → Nat) (r a : Nat → Nat → Nat) (b br ba bd d1 d2 d3 d4 fd : Nat) (rd ad : Nat → Nat) (l1 l2 t1 t2 : Nat), w = wC cA q s0 f0 p0 r0 a0 s1 f1 p1 r1 a1 h g st f p r a b br ba bd d1 d2 d3 d4 fd rd ad l1 l2 t1 t2
theorem arrV_cg {cI : ClassId} {N : Nat} {f g : Nat → Value} (h : ∀ j, j < N → f j = g j) : arrV cI N f = arrV cI N g := by
  unfold arrV
  congr 1
  apply Array.ext
  · simp
  · intro i h1 h2
    simp only [Array.getElem_ofFn]
    exact h i (by simpa using h1)
theorem ring_cg {D : va_G} {cl : List vw_C} {cA : Nat → ClassId} {g : Nat} {f f' : Nat → Option Nat} {o : Nat × va_E} {X : va_W} {H : Heap} (h : ∀ j, j < 5 → f j = f' j) (hP : va_P D cl (o :: wRing cA g f :: X) H) : va_P D cl (o :: wRing cA g f' :: X) H := by
  intro k q hq
  match k, hq with
  | 0, hq => exact hP 0 q hq
  | 1, hq =>
    have hq : q = wRing cA g f' := (Option.some.inj hq).symm
    subst hq
    have := hP 1 (wRing cA g f) rfl
    show H[g]? = some (vp_cell _ _)
    have this : H[g]? = some (vp_cell _ _) := this
    rw [this, vp_cell_q, vp_cell_q, arrV_cg (fun j hj => by rw [h j hj])]
  | k + 2, hq => exact hP (k + 2) q hq
theorem ring_cgD {A : Nat → Prop} {cA : Nat → ClassId} {g : Nat} {f f' : Nat → Option Nat} {o : Nat × va_E} {X : va_W} (hD : va_D A (o :: wRing cA g f :: X)) : va_D A (o :: wRing cA g f' :: X) := by
  have key : ∀ (k : Nat) (q : Nat × va_E), (o :: wRing cA g f' :: X)[k]? = some q → ∃ q', (o :: wRing cA g f :: X)[k]? = some q' ∧ q'.1 = q.1 := by
    intro k q hq
    match k, hq with
    | 0, hq => exact ⟨q, hq, rfl⟩
    | 1, hq =>
      have hq : q = wRing cA g f' := (Option.some.inj hq).symm
      subst hq
      exact ⟨wRing cA g f, rfl, rfl⟩
    | k + 2, hq => exact ⟨q, hq, rfl⟩
  refine ⟨fun i j x y hx hy e => ?_, fun k q hq => ?_⟩
  · obtain ⟨x', h1, h2⟩ := key i x hx
    obtain ⟨y', h3, h4⟩ := key j y hy
    exact hD.1 i j x' y' h1 h3 (by rw [h2, h4, e])
  · obtain ⟨q', h1, h2⟩ := key k q hq
    rw [← h2]
    exact hD.2 k q' h1
section
variable {p : Program} {l : Launch} {e : Env} {R : Room} {s : State} {m : MethodId} {args : Array Value} {below : List Frame} {meth : Method} {c : Code} {H : Heap} {locs : List Loc} {cells slots : Nat} {Q : State → Prop}
variable {D : va_G} {cA : Nat → ClassId} {own : String} {cc : ByteArray} {nL : Nat} {Ts : List Cond} {A : Nat → Prop} {pc : Nat} {ls : Array Slot} {rest : List Value}
theorem cs_ring (h : cHost p s m args c D cA own cc nL Ts) {idx : Nat} (hl1 : xin (Cond.classLink own idx RX7)) {X : va_W} (hP : va_P D vwCl X H) (hD : va_D A X) (hS : va_S A s.heap H locs) (hA : ∀ q, s.heap.size ≤ q → A q) (hf : cells + 1 ≤ R.cells ∧ slots + 5 ≤ R.slots) (hdg : decode cc pc = .ok (.anewarray idx, 3))
    (kk : ∀ (q : Nat) (H1 : Heap), va_P D vwCl (X ++ [wRing cA q fun _ => none]) H1 → va_D A (X ++ [wRing cA q fun _ => none]) → va_S A s.heap H1 locs → W p l e R s m args below meth c H1 locs (cells + 1) (slots + 5) Q (F0 m (pc + 3) ls (.ref q :: rest))) : W p l e R s m args below meth c H locs cells slots Q (F0 m pc ls (.int 5 :: rest)) := by
  obtain ⟨hx, hb, hml, hown, hts, hin, hK, hNe⟩ := h
  refine va_newq (C := RX7) (N' := 5) hx hb hown (hts _ (hin _ hl1)) hNe.2 hK hP hD hS hA (by decide) (by decide) (by decide) hf.1 hf.2 hdg (fun q cA1 H1 hK1 hP1 hD1 hS1 => ?_)
  have e1 : s.vm.findClass ("[" ++ (FieldType.object RX7).toString) = some cA1 := by
    obtain ⟨-, kA, comp, -, -, -, z⟩ := hK1.2 (xtys cA).length (cA1, .object RX7) (by rw [List.getElem?_append_right (Nat.le_refl _), Nat.sub_self]; rfl)
    exact z
  have e2 : s.vm.findClass ("[" ++ (FieldType.object RX7).toString) = some (cA 1) := by
    obtain ⟨-, kA, comp, -, -, -, z⟩ := hK.2 1 (cA 1, .object RX7) rfl
    exact z
  have e3 : cA1 = cA 1 := Option.some.inj (e1.symm.trans e2)
  rw [e3] at hP1 hD1
  exact kk q H1 hP1 hD1 hS1
theorem cs_get (h : cHost p s m args c D cA own cc nL Ts) {T0 : u_T} {N0 ci : Nat} (hci : vwCl[ci]? = some (own, T0, N0)) {h0 : Nat} {fs : List Value} {X : va_W} (hP : va_P D vwCl ((h0, .inr (ci, fs)) :: X) H) (k : Nat) (hk : k < N0) {idx : Nat} (hlink : xin (Cond.fieldLink own idx (T0 k).1 (T0 k).2.1 (T0 k).2.2.1)) {v : Value} (hv : fs[k]? = some v) (hdg : decode cc pc = .ok (.getfield idx, 3))
    (kk : W p l e R s m args below meth c H locs cells slots Q (F0 m (pc + 3) ls (v :: rest))) : W p l e R s m args below meth c H locs cells slots Q (F0 m pc ls (.ref h0 :: rest)) := by
  obtain ⟨hx, hb, hml, hown, hts, hin, hK, hNe⟩ := h
  obtain ⟨c1, -, -⟩ := xcl_ok ci own T0 N0 hci
  exact va_get (q0 := 0) (Ts := Ts) hx hb hts (fun w hw => hin w (c1 w hw)) hown hK hP rfl hci k hk (hts _ (hin _ hlink)) (fun _ z => z) hv hdg kk
end
theorem dX3_init_0 : decode cX3_init 0 = .ok (.aload_n 0, 1) := by decide +kernel
theorem dX3_init_1 : decode cX3_init 1 = .ok (.invokespecial 3, 3) := by decide +kernel
theorem dX3_init_4 : decode cX3_init 4 = .ok (.aload_n 0, 1) := by decide +kernel
theorem dX3_init_5 : decode cX3_init 5 = .ok (.iconst 0, 1) := by decide +kernel
theorem dX3_init_6 : decode cX3_init 6 = .ok (.putfield 9, 3) := by decide +kernel
theorem dX3_init_9 : decode cX3_init 9 = .ok (.aload_n 0, 1) := by decide +kernel
theorem dX3_init_10 : decode cX3_init 10 = .ok (.iconst 0, 1) := by decide +kernel
theorem dX3_init_11 : decode cX3_init 11 = .ok (.putfield 15, 3) := by decide +kernel
theorem dX3_init_14 : decode cX3_init 14 = .ok (.aload_n 0, 1) := by decide +kernel
theorem dX3_init_15 : decode cX3_init 15 = .ok (.iconst 5, 1) := by decide +kernel
theorem dX3_init_16 : decode cX3_init 16 = .ok (.anewarray 18, 3) := by decide +kernel
theorem dX3_init_19 : decode cX3_init 19 = .ok (.putfield 20, 3) := by decide +kernel
theorem dX3_init_22 : decode cX3_init 22 = .ok (.iconst 0, 1) := by decide +kernel
theorem dX3_init_23 : decode cX3_init 23 = .ok (.istore_n 1, 1) := by decide +kernel
theorem dX3_init_24 : decode cX3_init 24 = .ok (.iload_n 1, 1) := by decide +kernel
theorem dX3_init_25 : decode cX3_init 25 = .ok (.aload_n 0, 1) := by decide +kernel
theorem dX3_init_26 : decode cX3_init 26 = .ok (.getfield 20, 3) := by decide +kernel
theorem dX3_init_29 : decode cX3_init 29 = .ok (.arraylength, 1) := by decide +kernel
theorem dX3_init_30 : decode cX3_init 30 = .ok (.if_icmp .ge 22, 3) := by decide +kernel
theorem dX3_init_33 : decode cX3_init 33 = .ok (.aload_n 0, 1) := by decide +kernel
theorem dX3_init_34 : decode cX3_init 34 = .ok (.getfield 20, 3) := by decide +kernel
theorem dX3_init_37 : decode cX3_init 37 = .ok (.iload_n 1, 1) := by decide +kernel
theorem dX3_init_38 : decode cX3_init 38 = .ok (.new 18, 3) := by decide +kernel
theorem dX3_init_41 : decode cX3_init 41 = .ok (.dup, 1) := by decide +kernel
theorem dX3_init_42 : decode cX3_init 42 = .ok (.invokespecial 24, 3) := by decide +kernel
theorem dX3_init_45 : decode cX3_init 45 = .ok (.aastore, 1) := by decide +kernel
theorem dX3_init_46 : decode cX3_init 46 = .ok (.iinc 1 1, 3) := by decide +kernel
theorem dX3_init_49 : decode cX3_init 49 = .ok (.goto (-25), 3) := by decide +kernel
theorem dX3_init_52 : decode cX3_init 52 = .ok (.return_, 1) := by decide +kernel
theorem ccX3_init_42 : cCall RX3 24 YX7 0 := ⟨xw 40 (by decide +kernel) (by decide +kernel), xw 17 (by decide +kernel) (by decide +kernel), Or.inr (by decide), xw 39 (by decide +kernel) (by decide +kernel), rfl, by decide, by decide, by decide +kernel⟩
set_option maxRecDepth 20000 in
theorem cX3 (l : Launch) (D : va_G) (cA : Nat → ClassId) : CMet l D cA YX3 (4, 136, 3215, 160) [] (.inr (3, [.int 0, .int 0, .null])) (BX3 cA) := by
  refine CMet.of (idx := 3) (by decide +kernel) rfl ⟨xw 147 (by decide +kernel) (by decide +kernel), xw 34 (by decide +kernel) (by decide +kernel), xw 35 (by decide +kernel) (by decide +kernel)⟩ ⟨(Nat.le_of_ble_eq_true rfl), (Nat.le_of_ble_eq_true rfl)⟩ (fun _ => (Nat.le_of_ble_eq_true rfl)) dX3_init_0 dX3_init_1 ?_
  intro q p e s m args below meth c A ls Ts Qf hH hin hA hS hP hD hl fin
  have hx := hH.1
  have hb := hH.2.1
  have hls := hl.1
  have hl0 : ls[0]? = some (.val (.ref q)) := lv_at hl 0 rfl
  obtain ⟨-, -, -, hown, hts, htw, hK, hNe⟩ := id hH
  refine lv_aload_n hx hb dX3_init_4 rfl hl0 ?_
  refine lv_iconst (v := 0) hx hb dX3_init_5 (by decide) ?_
  refine cs_int hH (ci := 3) rfl hP hD hS 0 (by decide) (Nat.le_of_ble_eq_true rfl) rfl (xw 151 (by decide +kernel) (by decide +kernel)) (ty := .int) (by decide +kernel) rfl rfl dX3_init_6 (fun H locs hP hD hS => ?_)
  have hP : va_P D vwCl ((q, .inr (3, [.int 0, .int 0, .null])) :: [] : va_W) _ := hP
  have hD : va_D A ((q, .inr (3, [.int 0, .int 0, .null])) :: [] : va_W) := hD
  refine lv_aload_n hx hb dX3_init_9 rfl hl0 ?_
  refine lv_iconst (v := 0) hx hb dX3_init_10 (by decide) ?_
  refine cs_int hH (ci := 3) rfl hP hD hS 1 (by decide) (Nat.le_of_ble_eq_true rfl) rfl (xw 152 (by decide +kernel) (by decide +kernel)) (ty := .int) (by decide +kernel) rfl rfl dX3_init_11 (fun H locs hP hD hS => ?_)
  have hP : va_P D vwCl ((q, .inr (3, [.int 0, .int 0, .null])) :: [] : va_W) _ := hP
  have hD : va_D A ((q, .inr (3, [.int 0, .int 0, .null])) :: [] : va_W) := hD
  refine lv_aload_n hx hb dX3_init_14 rfl hl0 ?_
  refine lv_iconst (v := 5) hx hb dX3_init_15 (by decide) ?_
  refine cs_ring hH (xw 148 (by decide +kernel) (by decide +kernel)) hP hD hS hA ⟨(Nat.le_of_ble_eq_true rfl), (Nat.le_of_ble_eq_true rfl)⟩ dX3_init_16 (fun g H hP hD hS => ?_)
  have hP : va_P D vwCl ((q, .inr (3, [.int 0, .int 0, .null])) :: [wRing cA g fun _ => none] : va_W) _ := hP
  have hD : va_D A ((q, .inr (3, [.int 0, .int 0, .null])) :: [wRing cA g fun _ => none] : va_W) := hD
  refine cs_ref hH (ci := 3) rfl hP hD hS hin 2 (by decide) (Nat.le_of_ble_eq_true rfl) rfl rfl (xw 153 (by decide +kernel) (by decide +kernel)) (ty := .array (.object RX7)) (by decide +kernel) rfl rfl dX3_init_19 (fun H locs hP hD hS => ?_)
  have hP : va_P D vwCl ((q, .inr (3, [.int 0, .int 0, .ref g])) :: wRing cA g (fun _ => none) :: ([] : va_W) : va_W) _ := hP
  have hD : va_D A ((q, .inr (3, [.int 0, .int 0, .ref g])) :: wRing cA g (fun _ => none) :: ([] : va_W) : va_W) := hD
  refine lv_iconst (v := 0) hx hb dX3_init_22 (by decide) ?_
  refine lv_istore_n (lv' := [(1, .int 0), (0, .ref q)]) hx hb dX3_init_23 rfl hl (by decide) rfl (fun ls hl => ?_)
  have hls := hl.1
  refine lv_iload_n hx hb dX3_init_24 rfl (lv_at hl 0 rfl) ?_
  refine lv_aload_n hx hb dX3_init_25 rfl (lv_at hl 1 rfl) ?_
  refine cs_get hH (ci := 3) rfl hP 2 (by decide) (xw 153 (by decide +kernel) (by decide +kernel)) rfl dX3_init_26 ?_
  refine va_alen (q0 := 1) (t0 := 1) (v := 5) hx hb hK hP rfl rfl rfl dX3_init_29 ?_
  refine lv_icmp_ge (tgt := 52) hx hb dX3_init_30 (by decide) (fun cmp => ?_) (fun cmp => ?_)
  · exact absurd cmp (by decide)
  refine lv_aload_n hx hb dX3_init_33 rfl (lv_at hl 1 rfl) ?_
  refine cs_get hH (ci := 3) rfl hP 2 (by decide) (xw 153 (by decide +kernel) (by decide +kernel)) rfl dX3_init_34 ?_
  refine lv_iload_n hx hb dX3_init_37 rfl (lv_at hl 0 rfl) ?_
  refine cs_new hH (cj := 6) (fs1 := [.null, .null]) rfl tyX7 tyX7_ok (fun j hj => by rcases (show j = 0 ∨ j = 1 by omega) with rfl | rfl <;> rfl) (xw 148 (by decide +kernel) (by decide +kernel)) (xw 37 (by decide +kernel) (by decide +kernel)) (xw 17 (by decide +kernel) (by decide +kernel)) hP hD hS hA ⟨(Nat.le_of_ble_eq_true rfl), (Nat.le_of_ble_eq_true rfl)⟩ dX3_init_38 (fun s0 H hP hD hS => ?_)
  refine lv_dup hx hb dX3_init_41 rfl ?_
  refine cs_call hH (As := []) (rest := [.ref s0, .int 0, .ref g]) (cX7 l D cA) ccX3_init_42 hP hD hS hA hls (Nat.le_of_ble_eq_true rfl) ⟨(Nat.le_of_ble_eq_true rfl), (Nat.le_of_ble_eq_true rfl)⟩ ⟨(Nat.le_of_ble_eq_true rfl), (Nat.le_of_ble_eq_true rfl)⟩ dX3_init_42 (fun w H locs hw hP hD hS => ?_)
  obtain ⟨f0, p0, r0, a0, rfl⟩ := hw
  have hP : va_P D vwCl ((q, .inr (3, [.int 0, .int 0, .ref g])) :: wRing cA g (fun _ => none) :: (([] : va_W) ++ wS cA s0 f0 p0 r0 a0) : va_W) _ := hP
  have hD : va_D A ((q, .inr (3, [.int 0, .int 0, .ref g])) :: wRing cA g (fun _ => none) :: (([] : va_W) ++ wS cA s0 f0 p0 r0 a0) : va_W) := hD
  refine va_astq (q0 := 1) (t0 := 1) (qk := 2) (ci := 6) hx hb hK hP hD hS rfl rfl rfl rfl (ti_in (k := 0) rfl (by decide)) dX3_init_45 (fun H locs hP hD hS => ?_)
  have hP : va_P D vwCl ((q, .inr (3, [.int 0, .int 0, .ref g])) :: wRing cA g (va_up (fun _ => none) 0 (some s0)) :: (([] : va_W) ++ wS cA s0 f0 p0 r0 a0) : va_W) _ := hP
  have hD : va_D A ((q, .inr (3, [.int 0, .int 0, .ref g])) :: wRing cA g (va_up (fun _ => none) 0 (some s0)) :: (([] : va_W) ++ wS cA s0 f0 p0 r0 a0) : va_W) := hD
  refine lv_iinc (v := 1) (lv' := [(1, .int 1), (0, .ref q)]) hx hb dX3_init_46 hl (k := 0) rfl (by decide) (by decide) rfl (fun ls hl => ?_)
  refine lv_goto (tgt := 24) hx hb dX3_init_49 (by decide) ?_
  have hls := hl.1
  refine lv_iload_n hx hb dX3_init_24 rfl (lv_at hl 0 rfl) ?_
  refine lv_aload_n hx hb dX3_init_25 rfl (lv_at hl 1 rfl) ?_
  refine cs_get hH (ci := 3) rfl hP 2 (by decide) (xw 153 (by decide +kernel) (by decide +kernel)) rfl dX3_init_26 ?_
  refine va_alen (q0 := 1) (t0 := 1) (v := 5) hx hb hK hP rfl rfl rfl dX3_init_29 ?_
  refine lv_icmp_ge (tgt := 52) hx hb dX3_init_30 (by decide) (fun cmp => ?_) (fun cmp => ?_)
  · exact absurd cmp (by decide)
  refine lv_aload_n hx hb dX3_init_33 rfl (lv_at hl 1 rfl) ?_
  refine cs_get hH (ci := 3) rfl hP 2 (by decide) (xw 153 (by decide +kernel) (by decide +kernel)) rfl dX3_init_34 ?_
  refine lv_iload_n hx hb dX3_init_37 rfl (lv_at hl 0 rfl) ?_
  refine cs_new hH (cj := 6) (fs1 := [.null, .null]) rfl tyX7 tyX7_ok (fun j hj => by rcases (show j = 0 ∨ j = 1 by omega) with rfl | rfl <;> rfl) (xw 148 (by decide +kernel) (by decide +kernel)) (xw 37 (by decide +kernel) (by decide +kernel)) (xw 17 (by decide +kernel) (by decide +kernel)) hP hD hS hA ⟨(Nat.le_of_ble_eq_true rfl), (Nat.le_of_ble_eq_true rfl)⟩ dX3_init_38 (fun s1 H hP hD hS => ?_)
  refine lv_dup hx hb dX3_init_41 rfl ?_
  refine cs_call hH (As := []) (rest := [.ref s1, .int 1, .ref g]) (cX7 l D cA) ccX3_init_42 hP hD hS hA hls (Nat.le_of_ble_eq_true rfl) ⟨(Nat.le_of_ble_eq_true rfl), (Nat.le_of_ble_eq_true rfl)⟩ ⟨(Nat.le_of_ble_eq_true rfl), (Nat.le_of_ble_eq_true rfl)⟩ dX3_init_42 (fun w H locs hw hP hD hS => ?_)
  obtain ⟨f1, p1, r1, a1, rfl⟩ := hw
  have hP : va_P D vwCl ((q, .inr (3, [.int 0, .int 0, .ref g])) :: wRing cA g (va_up (fun _ => none) 0 (some s0)) :: ((([] : va_W) ++ wS cA s0 f0 p0 r0 a0) ++ wS cA s1 f1 p1 r1 a1) : va_W) _ := hP
  have hD : va_D A ((q, .inr (3, [.int 0, .int 0, .ref g])) :: wRing cA g (va_up (fun _ => none) 0 (some s0)) :: ((([] : va_W) ++ wS cA s0 f0 p0 r0 a0) ++ wS cA s1 f1 p1 r1 a1) : va_W) := hD
  refine va_astq (q0 := 1) (t0 := 1) (qk := 29) (ci := 6) hx hb hK hP hD hS rfl rfl rfl rfl (ti_in (k := 1) rfl (by decide)) dX3_init_45 (fun H locs hP hD hS => ?_)
  have hP : va_P D vwCl ((q, .inr (3, [.int 0, .int 0, .ref g])) :: wRing cA g (va_up (va_up (fun _ => none) 0 (some s0)) 1 (some s1)) :: ((([] : va_W) ++ wS cA s0 f0 p0 r0 a0) ++ wS cA s1 f1 p1 r1 a1) : va_W) _ := hP
  have hD : va_D A ((q, .inr (3, [.int 0, .int 0, .ref g])) :: wRing cA g (va_up (va_up (fun _ => none) 0 (some s0)) 1 (some s1)) :: ((([] : va_W) ++ wS cA s0 f0 p0 r0 a0) ++ wS cA s1 f1 p1 r1 a1) : va_W) := hD
  refine lv_iinc (v := 2) (lv' := [(1, .int 2), (0, .ref q)]) hx hb dX3_init_46 hl (k := 0) rfl (by decide) (by decide) rfl (fun ls hl => ?_)
  refine lv_goto (tgt := 24) hx hb dX3_init_49 (by decide) ?_
  have hls := hl.1
  refine lv_iload_n hx hb dX3_init_24 rfl (lv_at hl 0 rfl) ?_
  refine lv_aload_n hx hb dX3_init_25 rfl (lv_at hl 1 rfl) ?_
  refine cs_get hH (ci := 3) rfl hP 2 (by decide) (xw 153 (by decide +kernel) (by decide +kernel)) rfl dX3_init_26 ?_
  refine va_alen (q0 := 1) (t0 := 1) (v := 5) hx hb hK hP rfl rfl rfl dX3_init_29 ?_
  refine lv_icmp_ge (tgt := 52) hx hb dX3_init_30 (by decide) (fun cmp => ?_) (fun cmp => ?_)
  · exact absurd cmp (by decide)
  refine lv_aload_n hx hb dX3_init_33 rfl (lv_at hl 1 rfl) ?_
  refine cs_get hH (ci := 3) rfl hP 2 (by decide) (xw 153 (by decide +kernel) (by decide +kernel)) rfl dX3_init_34 ?_
  refine lv_iload_n hx hb dX3_init_37 rfl (lv_at hl 0 rfl) ?_
  refine cs_new hH (cj := 6) (fs1 := [.null, .null]) rfl tyX7 tyX7_ok (fun j hj => by rcases (show j = 0 ∨ j = 1 by omega) with rfl | rfl <;> rfl) (xw 148 (by decide +kernel) (by decide +kernel)) (xw 37 (by decide +kernel) (by decide +kernel)) (xw 17 (by decide +kernel) (by decide +kernel)) hP hD hS hA ⟨(Nat.le_of_ble_eq_true rfl), (Nat.le_of_ble_eq_true rfl)⟩ dX3_init_38 (fun s2 H hP hD hS => ?_)
  refine lv_dup hx hb dX3_init_41 rfl ?_
  refine cs_call hH (As := []) (rest := [.ref s2, .int 2, .ref g]) (cX7 l D cA) ccX3_init_42 hP hD hS hA hls (Nat.le_of_ble_eq_true rfl) ⟨(Nat.le_of_ble_eq_true rfl), (Nat.le_of_ble_eq_true rfl)⟩ ⟨(Nat.le_of_ble_eq_true rfl), (Nat.le_of_ble_eq_true rfl)⟩ dX3_init_42 (fun w H locs hw hP hD hS => ?_)
  obtain ⟨f2, p2, r2, a2, rfl⟩ := hw
  have hP : va_P D vwCl ((q, .inr (3, [.int 0, .int 0, .ref g])) :: wRing cA g (va_up (va_up (fun _ => none) 0 (some s0)) 1 (some s1)) :: (((([] : va_W) ++ wS cA s0 f0 p0 r0 a0) ++ wS cA s1 f1 p1 r1 a1) ++ wS cA s2 f2 p2 r2 a2) : va_W) _ := hP
  have hD : va_D A ((q, .inr (3, [.int 0, .int 0, .ref g])) :: wRing cA g (va_up (va_up (fun _ => none) 0 (some s0)) 1 (some s1)) :: (((([] : va_W) ++ wS cA s0 f0 p0 r0 a0) ++ wS cA s1 f1 p1 r1 a1) ++ wS cA s2 f2 p2 r2 a2) : va_W) := hD
  refine va_astq (q0 := 1) (t0 := 1) (qk := 56) (ci := 6) hx hb hK hP hD hS rfl rfl rfl rfl (ti_in (k := 2) rfl (by decide)) dX3_init_45 (fun H locs hP hD hS => ?_)
  have hP : va_P D vwCl ((q, .inr (3, [.int 0, .int 0, .ref g])) :: wRing cA g (va_up (va_up (va_up (fun _ => none) 0 (some s0)) 1 (some s1)) 2 (some s2)) :: (((([] : va_W) ++ wS cA s0 f0 p0 r0 a0) ++ wS cA s1 f1 p1 r1 a1) ++ wS cA s2 f2 p2 r2 a2) : va_W) _ := hP
  have hD : va_D A ((q, .inr (3, [.int 0, .int 0, .ref g])) :: wRing cA g (va_up (va_up (va_up (fun _ => none) 0 (some s0)) 1 (some s1)) 2 (some s2)) :: (((([] : va_W) ++ wS cA s0 f0 p0 r0 a0) ++ wS cA s1 f1 p1 r1 a1) ++ wS cA s2 f2 p2 r2 a2) : va_W) := hD
  refine lv_iinc (v := 3) (lv' := [(1, .int 3), (0, .ref q)]) hx hb dX3_init_46 hl (k := 0) rfl (by decide) (by decide) rfl (fun ls hl => ?_)
  refine lv_goto (tgt := 24) hx hb dX3_init_49 (by decide) ?_
  have hls := hl.1
  refine lv_iload_n hx hb dX3_init_24 rfl (lv_at hl 0 rfl) ?_
  refine lv_aload_n hx hb dX3_init_25 rfl (lv_at hl 1 rfl) ?_
  refine cs_get hH (ci := 3) rfl hP 2 (by decide) (xw 153 (by decide +kernel) (by decide +kernel)) rfl dX3_init_26 ?_
  refine va_alen (q0 := 1) (t0 := 1) (v := 5) hx hb hK hP rfl rfl rfl dX3_init_29 ?_
  refine lv_icmp_ge (tgt := 52) hx hb dX3_init_30 (by decide) (fun cmp => ?_) (fun cmp => ?_)
  · exact absurd cmp (by decide)
  refine lv_aload_n hx hb dX3_init_33 rfl (lv_at hl 1 rfl) ?_
  refine cs_get hH (ci := 3) rfl hP 2 (by decide) (xw 153 (by decide +kernel) (by decide +kernel)) rfl dX3_init_34 ?_
  refine lv_iload_n hx hb dX3_init_37 rfl (lv_at hl 0 rfl) ?_
  refine cs_new hH (cj := 6) (fs1 := [.null, .null]) rfl tyX7 tyX7_ok (fun j hj => by rcases (show j = 0 ∨ j = 1 by omega) with rfl | rfl <;> rfl) (xw 148 (by decide +kernel) (by decide +kernel)) (xw 37 (by decide +kernel) (by decide +kernel)) (xw 17 (by decide +kernel) (by decide +kernel)) hP hD hS hA ⟨(Nat.le_of_ble_eq_true rfl), (Nat.le_of_ble_eq_true rfl)⟩ dX3_init_38 (fun s3 H hP hD hS => ?_)
  refine lv_dup hx hb dX3_init_41 rfl ?_
  refine cs_call hH (As := []) (rest := [.ref s3, .int 3, .ref g]) (cX7 l D cA) ccX3_init_42 hP hD hS hA hls (Nat.le_of_ble_eq_true rfl) ⟨(Nat.le_of_ble_eq_true rfl), (Nat.le_of_ble_eq_true rfl)⟩ ⟨(Nat.le_of_ble_eq_true rfl), (Nat.le_of_ble_eq_true rfl)⟩ dX3_init_42 (fun w H locs hw hP hD hS => ?_)
  obtain ⟨f3, p3, r3, a3, rfl⟩ := hw
  have hP : va_P D vwCl ((q, .inr (3, [.int 0, .int 0, .ref g])) :: wRing cA g (va_up (va_up (va_up (fun _ => none) 0 (some s0)) 1 (some s1)) 2 (some s2)) :: ((((([] : va_W) ++ wS cA s0 f0 p0 r0 a0) ++ wS cA s1 f1 p1 r1 a1) ++ wS cA s2 f2 p2 r2 a2) ++ wS cA s3 f3 p3 r3 a3) : va_W) _ := hP
  have hD : va_D A ((q, .inr (3, [.int 0, .int 0, .ref g])) :: wRing cA g (va_up (va_up (va_up (fun _ => none) 0 (some s0)) 1 (some s1)) 2 (some s2)) :: ((((([] : va_W) ++ wS cA s0 f0 p0 r0 a0) ++ wS cA s1 f1 p1 r1 a1) ++ wS cA s2 f2 p2 r2 a2) ++ wS cA s3 f3 p3 r3 a3) : va_W) := hD
  refine va_astq (q0 := 1) (t0 := 1) (qk := 83) (ci := 6) hx hb hK hP hD hS rfl rfl rfl rfl (ti_in (k := 3) rfl (by decide)) dX3_init_45 (fun H locs hP hD hS => ?_)
  have hP : va_P D vwCl ((q, .inr (3, [.int 0, .int 0, .ref g])) :: wRing cA g (va_up (va_up (va_up (va_up (fun _ => none) 0 (some s0)) 1 (some s1)) 2 (some s2)) 3 (some s3)) :: ((((([] : va_W) ++ wS cA s0 f0 p0 r0 a0) ++ wS cA s1 f1 p1 r1 a1) ++ wS cA s2 f2 p2 r2 a2) ++ wS cA s3 f3 p3 r3 a3) : va_W) _ := hP
  have hD : va_D A ((q, .inr (3, [.int 0, .int 0, .ref g])) :: wRing cA g (va_up (va_up (va_up (va_up (fun _ => none) 0 (some s0)) 1 (some s1)) 2 (some s2)) 3 (some s3)) :: ((((([] : va_W) ++ wS cA s0 f0 p0 r0 a0) ++ wS cA s1 f1 p1 r1 a1) ++ wS cA s2 f2 p2 r2 a2) ++ wS cA s3 f3 p3 r3 a3) : va_W) := hD
  refine lv_iinc (v := 4) (lv' := [(1, .int 4), (0, .ref q)]) hx hb dX3_init_46 hl (k := 0) rfl (by decide) (by decide) rfl (fun ls hl => ?_)
  refine lv_goto (tgt := 24) hx hb dX3_init_49 (by decide) ?_
  have hls := hl.1
  refine lv_iload_n hx hb dX3_init_24 rfl (lv_at hl 0 rfl) ?_
  refine lv_aload_n hx hb dX3_init_25 rfl (lv_at hl 1 rfl) ?_
  refine cs_get hH (ci := 3) rfl hP 2 (by decide) (xw 153 (by decide +kernel) (by decide +kernel)) rfl dX3_init_26 ?_
  refine va_alen (q0 := 1) (t0 := 1) (v := 5) hx hb hK hP rfl rfl rfl dX3_init_29 ?_
  refine lv_icmp_ge (tgt := 52) hx hb dX3_init_30 (by decide) (fun cmp => ?_) (fun cmp => ?_)
  · exact absurd cmp (by decide)
  refine lv_aload_n hx hb dX3_init_33 rfl (lv_at hl 1 rfl) ?_
  refine cs_get hH (ci := 3) rfl hP 2 (by decide) (xw 153 (by decide +kernel) (by decide +kernel)) rfl dX3_init_34 ?_
  refine lv_iload_n hx hb dX3_init_37 rfl (lv_at hl 0 rfl) ?_
  refine cs_new hH (cj := 6) (fs1 := [.null, .null]) rfl tyX7 tyX7_ok (fun j hj => by rcases (show j = 0 ∨ j = 1 by omega) with rfl | rfl <;> rfl) (xw 148 (by decide +kernel) (by decide +kernel)) (xw 37 (by decide +kernel) (by decide +kernel)) (xw 17 (by decide +kernel) (by decide +kernel)) hP hD hS hA ⟨(Nat.le_of_ble_eq_true rfl), (Nat.le_of_ble_eq_true rfl)⟩ dX3_init_38 (fun s4 H hP hD hS => ?_)
  refine lv_dup hx hb dX3_init_41 rfl ?_
  refine cs_call hH (As := []) (rest := [.ref s4, .int 4, .ref g]) (cX7 l D cA) ccX3_init_42 hP hD hS hA hls (Nat.le_of_ble_eq_true rfl) ⟨(Nat.le_of_ble_eq_true rfl), (Nat.le_of_ble_eq_true rfl)⟩ ⟨(Nat.le_of_ble_eq_true rfl), (Nat.le_of_ble_eq_true rfl)⟩ dX3_init_42 (fun w H locs hw hP hD hS => ?_)
  obtain ⟨f4, p4, r4, a4, rfl⟩ := hw
  have hP : va_P D vwCl ((q, .inr (3, [.int 0, .int 0, .ref g])) :: wRing cA g (va_up (va_up (va_up (va_up (fun _ => none) 0 (some s0)) 1 (some s1)) 2 (some s2)) 3 (some s3)) :: (((((([] : va_W) ++ wS cA s0 f0 p0 r0 a0) ++ wS cA s1 f1 p1 r1 a1) ++ wS cA s2 f2 p2 r2 a2) ++ wS cA s3 f3 p3 r3 a3) ++ wS cA s4 f4 p4 r4 a4) : va_W) _ := hP
  have hD : va_D A ((q, .inr (3, [.int 0, .int 0, .ref g])) :: wRing cA g (va_up (va_up (va_up (va_up (fun _ => none) 0 (some s0)) 1 (some s1)) 2 (some s2)) 3 (some s3)) :: (((((([] : va_W) ++ wS cA s0 f0 p0 r0 a0) ++ wS cA s1 f1 p1 r1 a1) ++ wS cA s2 f2 p2 r2 a2) ++ wS cA s3 f3 p3 r3 a3) ++ wS cA s4 f4 p4 r4 a4) : va_W) := hD
  refine va_astq (q0 := 1) (t0 := 1) (qk := 110) (ci := 6) hx hb hK hP hD hS rfl rfl rfl rfl (ti_in (k := 4) rfl (by decide)) dX3_init_45 (fun H locs hP hD hS => ?_)
  have hP : va_P D vwCl ((q, .inr (3, [.int 0, .int 0, .ref g])) :: wRing cA g (va_up (va_up (va_up (va_up (va_up (fun _ => none) 0 (some s0)) 1 (some s1)) 2 (some s2)) 3 (some s3)) 4 (some s4)) :: (((((([] : va_W) ++ wS cA s0 f0 p0 r0 a0) ++ wS cA s1 f1 p1 r1 a1) ++ wS cA s2 f2 p2 r2 a2) ++ wS cA s3 f3 p3 r3 a3) ++ wS cA s4 f4 p4 r4 a4) : va_W) _ := hP
  have hD : va_D A ((q, .inr (3, [.int 0, .int 0, .ref g])) :: wRing cA g (va_up (va_up (va_up (va_up (va_up (fun _ => none) 0 (some s0)) 1 (some s1)) 2 (some s2)) 3 (some s3)) 4 (some s4)) :: (((((([] : va_W) ++ wS cA s0 f0 p0 r0 a0) ++ wS cA s1 f1 p1 r1 a1) ++ wS cA s2 f2 p2 r2 a2) ++ wS cA s3 f3 p3 r3 a3) ++ wS cA s4 f4 p4 r4 a4) : va_W) := hD
  refine lv_iinc (v := 5) (lv' := [(1, .int 5), (0, .ref q)]) hx hb dX3_init_46 hl (k := 0) rfl (by decide) (by decide) rfl (fun ls hl => ?_)
  refine lv_goto (tgt := 24) hx hb dX3_init_49 (by decide) ?_
  have hls := hl.1
  refine lv_iload_n hx hb dX3_init_24 rfl (lv_at hl 0 rfl) ?_
  refine lv_aload_n hx hb dX3_init_25 rfl (lv_at hl 1 rfl) ?_
  refine cs_get hH (ci := 3) rfl hP 2 (by decide) (xw 153 (by decide +kernel) (by decide +kernel)) rfl dX3_init_26 ?_
  refine va_alen (q0 := 1) (t0 := 1) (v := 5) hx hb hK hP rfl rfl rfl dX3_init_29 ?_
  refine lv_icmp_ge (tgt := 52) hx hb dX3_init_30 (by decide) (fun cmp => ?_) (fun cmp => ?_)
  · have hst : ∀ j, j < 5 → (va_up (va_up (va_up (va_up (va_up (fun _ => none) 0 (some s0)) 1 (some s1)) 2 (some s2)) 3 (some s3)) 4 (some s4)) j = (fun j => some ((fun j => if j = 0 then s0 else if j = 1 then s1 else if j = 2 then s2 else if j = 3 then s3 else s4) j)) j := by
      intro j hj
      rcases (show j = 0 ∨ j = 1 ∨ j = 2 ∨ j = 3 ∨ j = 4 by omega) with rfl | rfl | rfl | rfl | rfl <;> rfl
    have hP := ring_cg hst hP
    have hD := ring_cgD (f' := fun j => some ((fun j => if j = 0 then s0 else if j = 1 then s1 else if j = 2 then s2 else if j = 3 then s3 else s4) j)) hD
    refine W.widen (k := 136) (n := 3215) (Nat.le_of_ble_eq_true rfl) (Nat.le_of_ble_eq_true rfl) ?_
    exact fin 52 _ _ _ _ dX3_init_52 ⟨g, fun j => if j = 0 then s0 else if j = 1 then s1 else if j = 2 then s2 else if j = 3 then s3 else s4, fun j => if j = 0 then f0 else if j = 1 then f1 else if j = 2 then f2 else if j = 3 then f3 else f4, fun j => if j = 0 then p0 else if j = 1 then p1 else if j = 2 then p2 else if j = 3 then p3 else p4, fun j => if j = 0 then r0 else if j = 1 then r1 else if j = 2 then r2 else if j = 3 then r3 else r4, fun j => if j = 0 then a0 else if j = 1 then a1 else if j = 2 then a2 else if j = 3 then a3 else a4, rfl⟩ hP hD hS
  · exact absurd (by decide) cmp
theorem dX8_init_0 : decode cX8_init 0 = .ok (.aload_n 0, 1) := by decide +kernel
theorem dX8_init_1 : decode cX8_init 1 = .ok (.invokespecial 1, 3) := by decide +kernel
theorem dX8_init_4 : decode cX8_init 4 = .ok (.aload_n 0, 1) := by decide +kernel
theorem dX8_init_5 : decode cX8_init 5 = .ok (.new 7, 3) := by decide +kernel
theorem dX8_init_8 : decode cX8_init 8 = .ok (.dup, 1) := by decide +kernel
theorem dX8_init_9 : decode cX8_init 9 = .ok (.invokespecial 9, 3) := by decide +kernel
theorem dX8_init_12 : decode cX8_init 12 = .ok (.putfield 10, 3) := by decide +kernel
theorem dX8_init_15 : decode cX8_init 15 = .ok (.aload_n 0, 1) := by decide +kernel
theorem dX8_init_16 : decode cX8_init 16 = .ok (.new 7, 3) := by decide +kernel
theorem dX8_init_19 : decode cX8_init 19 = .ok (.dup, 1) := by decide +kernel
theorem dX8_init_20 : decode cX8_init 20 = .ok (.invokespecial 9, 3) := by decide +kernel
theorem dX8_init_23 : decode cX8_init 23 = .ok (.putfield 16, 3) := by decide +kernel
theorem dX8_init_26 : decode cX8_init 26 = .ok (.aload_n 0, 1) := by decide +kernel
theorem dX8_init_27 : decode cX8_init 27 = .ok (.new 19, 3) := by decide +kernel
theorem dX8_init_30 : decode cX8_init 30 = .ok (.dup, 1) := by decide +kernel
theorem dX8_init_31 : decode cX8_init 31 = .ok (.invokespecial 21, 3) := by decide +kernel
theorem dX8_init_34 : decode cX8_init 34 = .ok (.putfield 22, 3) := by decide +kernel
theorem dX8_init_37 : decode cX8_init 37 = .ok (.aload_n 0, 1) := by decide +kernel
theorem dX8_init_38 : decode cX8_init 38 = .ok (.new 26, 3) := by decide +kernel
theorem dX8_init_41 : decode cX8_init 41 = .ok (.dup, 1) := by decide +kernel
theorem dX8_init_42 : decode cX8_init 42 = .ok (.invokespecial 28, 3) := by decide +kernel
theorem dX8_init_45 : decode cX8_init 45 = .ok (.putfield 29, 3) := by decide +kernel
theorem dX8_init_48 : decode cX8_init 48 = .ok (.aload_n 0, 1) := by decide +kernel
theorem dX8_init_49 : decode cX8_init 49 = .ok (.new 33, 3) := by decide +kernel
theorem dX8_init_52 : decode cX8_init 52 = .ok (.dup, 1) := by decide +kernel
theorem dX8_init_53 : decode cX8_init 53 = .ok (.invokespecial 35, 3) := by decide +kernel
theorem dX8_init_56 : decode cX8_init 56 = .ok (.putfield 36, 3) := by decide +kernel
theorem dX8_init_59 : decode cX8_init 59 = .ok (.aload_n 0, 1) := by decide +kernel
theorem dX8_init_60 : decode cX8_init 60 = .ok (.new 40, 3) := by decide +kernel
theorem dX8_init_63 : decode cX8_init 63 = .ok (.dup, 1) := by decide +kernel
theorem dX8_init_64 : decode cX8_init 64 = .ok (.invokespecial 42, 3) := by decide +kernel
theorem dX8_init_67 : decode cX8_init 67 = .ok (.putfield 43, 3) := by decide +kernel
theorem dX8_init_70 : decode cX8_init 70 = .ok (.aload_n 0, 1) := by decide +kernel
theorem dX8_init_71 : decode cX8_init 71 = .ok (.new 47, 3) := by decide +kernel
theorem dX8_init_74 : decode cX8_init 74 = .ok (.dup, 1) := by decide +kernel
theorem dX8_init_75 : decode cX8_init 75 = .ok (.bipush 60, 2) := by decide +kernel
theorem dX8_init_77 : decode cX8_init 77 = .ok (.invokespecial 49, 3) := by decide +kernel
theorem dX8_init_80 : decode cX8_init 80 = .ok (.putfield 52, 3) := by decide +kernel
theorem dX8_init_83 : decode cX8_init 83 = .ok (.aload_n 0, 1) := by decide +kernel
theorem dX8_init_84 : decode cX8_init 84 = .ok (.new 47, 3) := by decide +kernel
theorem dX8_init_87 : decode cX8_init 87 = .ok (.dup, 1) := by decide +kernel
theorem dX8_init_88 : decode cX8_init 88 = .ok (.bipush 60, 2) := by decide +kernel
theorem dX8_init_90 : decode cX8_init 90 = .ok (.invokespecial 49, 3) := by decide +kernel
theorem dX8_init_93 : decode cX8_init 93 = .ok (.putfield 56, 3) := by decide +kernel
theorem dX8_init_96 : decode cX8_init 96 = .ok (.aload_n 0, 1) := by decide +kernel
theorem dX8_init_97 : decode cX8_init 97 = .ok (.iconst 0, 1) := by decide +kernel
theorem dX8_init_98 : decode cX8_init 98 = .ok (.putfield 59, 3) := by decide +kernel
theorem dX8_init_101 : decode cX8_init 101 = .ok (.return_, 1) := by decide +kernel
theorem ccX8_init_9 : cCall RX8 9 YX7 0 := ⟨xw 40 (by decide +kernel) (by decide +kernel), xw 17 (by decide +kernel) (by decide +kernel), Or.inr (by decide), xw 39 (by decide +kernel) (by decide +kernel), rfl, by decide, by decide, by decide +kernel⟩
theorem ccX8_init_20 : cCall RX8 9 YX7 0 := ⟨xw 40 (by decide +kernel) (by decide +kernel), xw 17 (by decide +kernel) (by decide +kernel), Or.inr (by decide), xw 39 (by decide +kernel) (by decide +kernel), rfl, by decide, by decide, by decide +kernel⟩
theorem ccX8_init_31 : cCall RX8 21 YX3 0 := ⟨xw 146 (by decide +kernel) (by decide +kernel), xw 22 (by decide +kernel) (by decide +kernel), Or.inl (xw 144 (by decide +kernel) (by decide +kernel)), xw 145 (by decide +kernel) (by decide +kernel), rfl, by decide, by decide, by decide +kernel⟩
theorem ccX8_init_42 : cCall RX8 28 YX0 0 := ⟨xw 165 (by decide +kernel) (by decide +kernel), xw 23 (by decide +kernel) (by decide +kernel), Or.inr (by decide), xw 164 (by decide +kernel) (by decide +kernel), rfl, by decide, by decide, by decide +kernel⟩
theorem ccX8_init_53 : cCall RX8 35 YX1 0 := ⟨xw 189 (by decide +kernel) (by decide +kernel), xw 24 (by decide +kernel) (by decide +kernel), Or.inr (by decide), xw 188 (by decide +kernel) (by decide +kernel), rfl, by decide, by decide, by decide +kernel⟩
theorem ccX8_init_64 : cCall RX8 42 YX2 0 := ⟨xw 46 (by decide +kernel) (by decide +kernel), xw 18 (by decide +kernel) (by decide +kernel), Or.inr (by decide), xw 45 (by decide +kernel) (by decide +kernel), rfl, by decide, by decide, by decide +kernel⟩
theorem ccX8_init_77 : cCall RX8 49 YX5 1 := ⟨xw 52 (by decide +kernel) (by decide +kernel), xw 19 (by decide +kernel) (by decide +kernel), Or.inl (xw 206 (by decide +kernel) (by decide +kernel)), xw 51 (by decide +kernel) (by decide +kernel), rfl, by decide, by decide, by decide +kernel⟩
theorem ccX8_init_90 : cCall RX8 49 YX5 1 := ⟨xw 52 (by decide +kernel) (by decide +kernel), xw 19 (by decide +kernel) (by decide +kernel), Or.inl (xw 206 (by decide +kernel) (by decide +kernel)), xw 51 (by decide +kernel) (by decide +kernel), rfl, by decide, by decide, by decide +kernel⟩
set_option maxRecDepth 20000 in
theorem cX8 (l : Launch) (D : va_G) (cA : Nat → ClassId) : CMet l D cA YX8 (5, 210, 5032, 200) [] (.inr (7, [.null, .null, .null, .null, .null, .null, .null, .null, .int 0])) (BX8 cA) := by
  refine CMet.of (idx := 1) (by decide +kernel) rfl ⟨xw 33 (by decide +kernel) (by decide +kernel), xw 34 (by decide +kernel) (by decide +kernel), xw 35 (by decide +kernel) (by decide +kernel)⟩ ⟨(Nat.le_of_ble_eq_true rfl), (Nat.le_of_ble_eq_true rfl)⟩ (fun _ => (Nat.le_of_ble_eq_true rfl)) dX8_init_0 dX8_init_1 ?_
  intro q p e s m args below meth c A ls Ts Qf hH hin hA hS hP hD hl fin
  have hx := hH.1
  have hb := hH.2.1
  have hls := hl.1
  have hl0 : ls[0]? = some (.val (.ref q)) := lv_at hl 0 rfl
  refine lv_aload_n hx hb dX8_init_4 rfl hl0 ?_
  refine cs_new hH (cj := 6) (fs1 := [.null, .null]) rfl tyX7 tyX7_ok (fun j hj => by rcases (show j = 0 ∨ j = 1 by omega) with rfl | rfl <;> rfl) (xw 36 (by decide +kernel) (by decide +kernel)) (xw 37 (by decide +kernel) (by decide +kernel)) (xw 17 (by decide +kernel) (by decide +kernel)) hP hD hS hA ⟨(Nat.le_of_ble_eq_true rfl), (Nat.le_of_ble_eq_true rfl)⟩ dX8_init_5 (fun q0 H hP hD hS => ?_)
  refine lv_dup hx hb dX8_init_8 rfl ?_
  refine cs_call hH (As := []) (rest := [.ref q0, .ref q]) (cX7 l D cA) ccX8_init_9 hP hD hS hA hls (Nat.le_of_ble_eq_true rfl) ⟨(Nat.le_of_ble_eq_true rfl), (Nat.le_of_ble_eq_true rfl)⟩ ⟨(Nat.le_of_ble_eq_true rfl), (Nat.le_of_ble_eq_true rfl)⟩ dX8_init_9 (fun w H locs hw hP hD hS => ?_)
  obtain ⟨f_0, p_0, r_0, a_0, rfl⟩ := hw
  have hP : va_P D vwCl ((q, .inr (7, [.null, .null, .null, .null, .null, .null, .null, .null, .int 0])) :: (([] : va_W) ++ wS cA q0 f_0 p_0 r_0 a_0) : va_W) _ := hP
  have hD : va_D A ((q, .inr (7, [.null, .null, .null, .null, .null, .null, .null, .null, .int 0])) :: (([] : va_W) ++ wS cA q0 f_0 p_0 r_0 a_0) : va_W) := hD
  refine cs_ref hH (ci := 7) rfl hP hD hS hin 0 (by decide) (Nat.le_of_ble_eq_true rfl) rfl rfl (xw 207 (by decide +kernel) (by decide +kernel)) (ty := .object "BoxedProofs$State") (by decide +kernel) rfl rfl dX8_init_12 (fun H locs hP hD hS => ?_)
  have hP : va_P D vwCl ((q, .inr (7, [.ref q0, .null, .null, .null, .null, .null, .null, .null, .int 0])) :: (([] : va_W) ++ wS cA q0 f_0 p_0 r_0 a_0) : va_W) _ := hP
  have hD : va_D A ((q, .inr (7, [.ref q0, .null, .null, .null, .null, .null, .null, .null, .int 0])) :: (([] : va_W) ++ wS cA q0 f_0 p_0 r_0 a_0) : va_W) := hD
  refine lv_aload_n hx hb dX8_init_15 rfl hl0 ?_
  refine cs_new hH (cj := 6) (fs1 := [.null, .null]) rfl tyX7 tyX7_ok (fun j hj => by rcases (show j = 0 ∨ j = 1 by omega) with rfl | rfl <;> rfl) (xw 36 (by decide +kernel) (by decide +kernel)) (xw 37 (by decide +kernel) (by decide +kernel)) (xw 17 (by decide +kernel) (by decide +kernel)) hP hD hS hA ⟨(Nat.le_of_ble_eq_true rfl), (Nat.le_of_ble_eq_true rfl)⟩ dX8_init_16 (fun q1 H hP hD hS => ?_)
  refine lv_dup hx hb dX8_init_19 rfl ?_
  refine cs_call hH (As := []) (rest := [.ref q1, .ref q]) (cX7 l D cA) ccX8_init_20 hP hD hS hA hls (Nat.le_of_ble_eq_true rfl) ⟨(Nat.le_of_ble_eq_true rfl), (Nat.le_of_ble_eq_true rfl)⟩ ⟨(Nat.le_of_ble_eq_true rfl), (Nat.le_of_ble_eq_true rfl)⟩ dX8_init_20 (fun w H locs hw hP hD hS => ?_)
  obtain ⟨f_1, p_1, r_1, a_1, rfl⟩ := hw
  have hP : va_P D vwCl ((q, .inr (7, [.ref q0, .null, .null, .null, .null, .null, .null, .null, .int 0])) :: ((([] : va_W) ++ wS cA q0 f_0 p_0 r_0 a_0) ++ wS cA q1 f_1 p_1 r_1 a_1) : va_W) _ := hP
  have hD : va_D A ((q, .inr (7, [.ref q0, .null, .null, .null, .null, .null, .null, .null, .int 0])) :: ((([] : va_W) ++ wS cA q0 f_0 p_0 r_0 a_0) ++ wS cA q1 f_1 p_1 r_1 a_1) : va_W) := hD
  refine cs_ref hH (ci := 7) rfl hP hD hS hin 1 (by decide) (Nat.le_of_ble_eq_true rfl) rfl rfl (xw 208 (by decide +kernel) (by decide +kernel)) (ty := .object "BoxedProofs$State") (by decide +kernel) rfl rfl dX8_init_23 (fun H locs hP hD hS => ?_)
  have hP : va_P D vwCl ((q, .inr (7, [.ref q0, .ref q1, .null, .null, .null, .null, .null, .null, .int 0])) :: ((([] : va_W) ++ wS cA q0 f_0 p_0 r_0 a_0) ++ wS cA q1 f_1 p_1 r_1 a_1) : va_W) _ := hP
  have hD : va_D A ((q, .inr (7, [.ref q0, .ref q1, .null, .null, .null, .null, .null, .null, .int 0])) :: ((([] : va_W) ++ wS cA q0 f_0 p_0 r_0 a_0) ++ wS cA q1 f_1 p_1 r_1 a_1) : va_W) := hD
  refine lv_aload_n hx hb dX8_init_26 rfl hl0 ?_
  refine cs_new hH (cj := 3) (fs1 := [.int 0, .int 0, .null]) rfl tyX3 tyX3_ok (fun j hj => by rcases (show j = 0 ∨ j = 1 ∨ j = 2 by omega) with rfl | rfl | rfl <;> rfl) (xw 142 (by decide +kernel) (by decide +kernel)) (xw 143 (by decide +kernel) (by decide +kernel)) (xw 22 (by decide +kernel) (by decide +kernel)) hP hD hS hA ⟨(Nat.le_of_ble_eq_true rfl), (Nat.le_of_ble_eq_true rfl)⟩ dX8_init_27 (fun q2 H hP hD hS => ?_)
  refine lv_dup hx hb dX8_init_30 rfl ?_
  refine cs_call hH (As := []) (rest := [.ref q2, .ref q]) (cX3 l D cA) ccX8_init_31 hP hD hS hA hls (Nat.le_of_ble_eq_true rfl) ⟨(Nat.le_of_ble_eq_true rfl), (Nat.le_of_ble_eq_true rfl)⟩ ⟨(Nat.le_of_ble_eq_true rfl), (Nat.le_of_ble_eq_true rfl)⟩ dX8_init_31 (fun w H locs hw hP hD hS => ?_)
  obtain ⟨g_2, st_2, f_2, p_2, r_2, a_2, rfl⟩ := hw
  have hP : va_P D vwCl ((q, .inr (7, [.ref q0, .ref q1, .null, .null, .null, .null, .null, .null, .int 0])) :: (((([] : va_W) ++ wS cA q0 f_0 p_0 r_0 a_0) ++ wS cA q1 f_1 p_1 r_1 a_1) ++ wH cA q2 g_2 st_2 f_2 p_2 r_2 a_2) : va_W) _ := hP
  have hD : va_D A ((q, .inr (7, [.ref q0, .ref q1, .null, .null, .null, .null, .null, .null, .int 0])) :: (((([] : va_W) ++ wS cA q0 f_0 p_0 r_0 a_0) ++ wS cA q1 f_1 p_1 r_1 a_1) ++ wH cA q2 g_2 st_2 f_2 p_2 r_2 a_2) : va_W) := hD
  refine cs_ref hH (ci := 7) rfl hP hD hS hin 2 (by decide) (Nat.le_of_ble_eq_true rfl) rfl rfl (xw 209 (by decide +kernel) (by decide +kernel)) (ty := .object "BoxedProofs$History") (by decide +kernel) rfl rfl dX8_init_34 (fun H locs hP hD hS => ?_)
  have hP : va_P D vwCl ((q, .inr (7, [.ref q0, .ref q1, .ref q2, .null, .null, .null, .null, .null, .int 0])) :: (((([] : va_W) ++ wS cA q0 f_0 p_0 r_0 a_0) ++ wS cA q1 f_1 p_1 r_1 a_1) ++ wH cA q2 g_2 st_2 f_2 p_2 r_2 a_2) : va_W) _ := hP
  have hD : va_D A ((q, .inr (7, [.ref q0, .ref q1, .ref q2, .null, .null, .null, .null, .null, .int 0])) :: (((([] : va_W) ++ wS cA q0 f_0 p_0 r_0 a_0) ++ wS cA q1 f_1 p_1 r_1 a_1) ++ wH cA q2 g_2 st_2 f_2 p_2 r_2 a_2) : va_W) := hD
  refine lv_aload_n hx hb dX8_init_37 rfl hl0 ?_
  refine cs_new hH (cj := 0) (fs1 := [.int 0, .null, .int 0, .int 0, .int 0]) rfl tyX0 tyX0_ok (fun j hj => by rcases (show j = 0 ∨ j = 1 ∨ j = 2 ∨ j = 3 ∨ j = 4 by omega) with rfl | rfl | rfl | rfl | rfl <;> rfl) (xw 161 (by decide +kernel) (by decide +kernel)) (xw 162 (by decide +kernel) (by decide +kernel)) (xw 23 (by decide +kernel) (by decide +kernel)) hP hD hS hA ⟨(Nat.le_of_ble_eq_true rfl), (Nat.le_of_ble_eq_true rfl)⟩ dX8_init_38 (fun q3 H hP hD hS => ?_)
  refine lv_dup hx hb dX8_init_41 rfl ?_
  refine cs_call hH (As := []) (rest := [.ref q3, .ref q]) (cX0 l D cA) ccX8_init_42 hP hD hS hA hls (Nat.le_of_ble_eq_true rfl) ⟨(Nat.le_of_ble_eq_true rfl), (Nat.le_of_ble_eq_true rfl)⟩ ⟨(Nat.le_of_ble_eq_true rfl), (Nat.le_of_ble_eq_true rfl)⟩ dX8_init_42 (fun w H locs hw hP hD hS => ?_)
  obtain ⟨r_3, a_3, rfl⟩ := hw
  have hP : va_P D vwCl ((q, .inr (7, [.ref q0, .ref q1, .ref q2, .null, .null, .null, .null, .null, .int 0])) :: ((((([] : va_W) ++ wS cA q0 f_0 p_0 r_0 a_0) ++ wS cA q1 f_1 p_1 r_1 a_1) ++ wH cA q2 g_2 st_2 f_2 p_2 r_2 a_2) ++ wB cA q3 r_3 a_3) : va_W) _ := hP
  have hD : va_D A ((q, .inr (7, [.ref q0, .ref q1, .ref q2, .null, .null, .null, .null, .null, .int 0])) :: ((((([] : va_W) ++ wS cA q0 f_0 p_0 r_0 a_0) ++ wS cA q1 f_1 p_1 r_1 a_1) ++ wH cA q2 g_2 st_2 f_2 p_2 r_2 a_2) ++ wB cA q3 r_3 a_3) : va_W) := hD
  refine cs_ref hH (ci := 7) rfl hP hD hS hin 3 (by decide) (Nat.le_of_ble_eq_true rfl) rfl rfl (xw 210 (by decide +kernel) (by decide +kernel)) (ty := .object "BoxedProofs$Buffer") (by decide +kernel) rfl rfl dX8_init_45 (fun H locs hP hD hS => ?_)
  have hP : va_P D vwCl ((q, .inr (7, [.ref q0, .ref q1, .ref q2, .ref q3, .null, .null, .null, .null, .int 0])) :: ((((([] : va_W) ++ wS cA q0 f_0 p_0 r_0 a_0) ++ wS cA q1 f_1 p_1 r_1 a_1) ++ wH cA q2 g_2 st_2 f_2 p_2 r_2 a_2) ++ wB cA q3 r_3 a_3) : va_W) _ := hP
  have hD : va_D A ((q, .inr (7, [.ref q0, .ref q1, .ref q2, .ref q3, .null, .null, .null, .null, .int 0])) :: ((((([] : va_W) ++ wS cA q0 f_0 p_0 r_0 a_0) ++ wS cA q1 f_1 p_1 r_1 a_1) ++ wH cA q2 g_2 st_2 f_2 p_2 r_2 a_2) ++ wB cA q3 r_3 a_3) : va_W) := hD
  refine lv_aload_n hx hb dX8_init_48 rfl hl0 ?_
  refine cs_new hH (cj := 1) (fs1 := [.int 0, .null, .null]) rfl tyX1 tyX1_ok (fun j hj => by rcases (show j = 0 ∨ j = 1 ∨ j = 2 by omega) with rfl | rfl | rfl <;> rfl) (xw 185 (by decide +kernel) (by decide +kernel)) (xw 186 (by decide +kernel) (by decide +kernel)) (xw 24 (by decide +kernel) (by decide +kernel)) hP hD hS hA ⟨(Nat.le_of_ble_eq_true rfl), (Nat.le_of_ble_eq_true rfl)⟩ dX8_init_49 (fun q4 H hP hD hS => ?_)
  refine lv_dup hx hb dX8_init_52 rfl ?_
  refine cs_call hH (As := []) (rest := [.ref q4, .ref q]) (cX1 l D cA) ccX8_init_53 hP hD hS hA hls (Nat.le_of_ble_eq_true rfl) ⟨(Nat.le_of_ble_eq_true rfl), (Nat.le_of_ble_eq_true rfl)⟩ ⟨(Nat.le_of_ble_eq_true rfl), (Nat.le_of_ble_eq_true rfl)⟩ dX8_init_53 (fun w H locs hw hP hD hS => ?_)
  obtain ⟨r_4, a_4, r2_4, a2_4, rfl⟩ := hw
  have hP : va_P D vwCl ((q, .inr (7, [.ref q0, .ref q1, .ref q2, .ref q3, .null, .null, .null, .null, .int 0])) :: (((((([] : va_W) ++ wS cA q0 f_0 p_0 r_0 a_0) ++ wS cA q1 f_1 p_1 r_1 a_1) ++ wH cA q2 g_2 st_2 f_2 p_2 r_2 a_2) ++ wB cA q3 r_3 a_3) ++ wBd cA q4 r_4 a_4 r2_4 a2_4) : va_W) _ := hP
  have hD : va_D A ((q, .inr (7, [.ref q0, .ref q1, .ref q2, .ref q3, .null, .null, .null, .null, .int 0])) :: (((((([] : va_W) ++ wS cA q0 f_0 p_0 r_0 a_0) ++ wS cA q1 f_1 p_1 r_1 a_1) ++ wH cA q2 g_2 st_2 f_2 p_2 r_2 a_2) ++ wB cA q3 r_3 a_3) ++ wBd cA q4 r_4 a_4 r2_4 a2_4) : va_W) := hD
  refine cs_ref hH (ci := 7) rfl hP hD hS hin 4 (by decide) (Nat.le_of_ble_eq_true rfl) rfl rfl (xw 211 (by decide +kernel) (by decide +kernel)) (ty := .object "BoxedProofs$Builder") (by decide +kernel) rfl rfl dX8_init_56 (fun H locs hP hD hS => ?_)
  have hP : va_P D vwCl ((q, .inr (7, [.ref q0, .ref q1, .ref q2, .ref q3, .ref q4, .null, .null, .null, .int 0])) :: (((((([] : va_W) ++ wS cA q0 f_0 p_0 r_0 a_0) ++ wS cA q1 f_1 p_1 r_1 a_1) ++ wH cA q2 g_2 st_2 f_2 p_2 r_2 a_2) ++ wB cA q3 r_3 a_3) ++ wBd cA q4 r_4 a_4 r2_4 a2_4) : va_W) _ := hP
  have hD : va_D A ((q, .inr (7, [.ref q0, .ref q1, .ref q2, .ref q3, .ref q4, .null, .null, .null, .int 0])) :: (((((([] : va_W) ++ wS cA q0 f_0 p_0 r_0 a_0) ++ wS cA q1 f_1 p_1 r_1 a_1) ++ wH cA q2 g_2 st_2 f_2 p_2 r_2 a_2) ++ wB cA q3 r_3 a_3) ++ wBd cA q4 r_4 a_4 r2_4 a2_4) : va_W) := hD
  refine lv_aload_n hx hb dX8_init_59 rfl hl0 ?_
  refine cs_new hH (cj := 2) (fs1 := [.int 0, .null, .null, .null]) rfl tyX2 tyX2_ok (fun j hj => by rcases (show j = 0 ∨ j = 1 ∨ j = 2 ∨ j = 3 by omega) with rfl | rfl | rfl | rfl <;> rfl) (xw 203 (by decide +kernel) (by decide +kernel)) (xw 43 (by decide +kernel) (by decide +kernel)) (xw 18 (by decide +kernel) (by decide +kernel)) hP hD hS hA ⟨(Nat.le_of_ble_eq_true rfl), (Nat.le_of_ble_eq_true rfl)⟩ dX8_init_60 (fun q5 H hP hD hS => ?_)
  refine lv_dup hx hb dX8_init_63 rfl ?_
  refine cs_call hH (As := []) (rest := [.ref q5, .ref q]) (cX2 l D cA) ccX8_init_64 hP hD hS hA hls (Nat.le_of_ble_eq_true rfl) ⟨(Nat.le_of_ble_eq_true rfl), (Nat.le_of_ble_eq_true rfl)⟩ ⟨(Nat.le_of_ble_eq_true rfl), (Nat.le_of_ble_eq_true rfl)⟩ dX8_init_64 (fun w H locs hw hP hD hS => ?_)
  obtain ⟨r_5, a_5, rfl⟩ := hw
  have hP : va_P D vwCl ((q, .inr (7, [.ref q0, .ref q1, .ref q2, .ref q3, .ref q4, .null, .null, .null, .int 0])) :: ((((((([] : va_W) ++ wS cA q0 f_0 p_0 r_0 a_0) ++ wS cA q1 f_1 p_1 r_1 a_1) ++ wH cA q2 g_2 st_2 f_2 p_2 r_2 a_2) ++ wB cA q3 r_3 a_3) ++ wBd cA q4 r_4 a_4 r2_4 a2_4) ++ wF cA q5 r_5 a_5) : va_W) _ := hP
  have hD : va_D A ((q, .inr (7, [.ref q0, .ref q1, .ref q2, .ref q3, .ref q4, .null, .null, .null, .int 0])) :: ((((((([] : va_W) ++ wS cA q0 f_0 p_0 r_0 a_0) ++ wS cA q1 f_1 p_1 r_1 a_1) ++ wH cA q2 g_2 st_2 f_2 p_2 r_2 a_2) ++ wB cA q3 r_3 a_3) ++ wBd cA q4 r_4 a_4 r2_4 a2_4) ++ wF cA q5 r_5 a_5) : va_W) := hD
  refine cs_ref hH (ci := 7) rfl hP hD hS hin 5 (by decide) (Nat.le_of_ble_eq_true rfl) rfl rfl (xw 212 (by decide +kernel) (by decide +kernel)) (ty := .object "BoxedProofs$Formulas") (by decide +kernel) rfl rfl dX8_init_67 (fun H locs hP hD hS => ?_)
  have hP : va_P D vwCl ((q, .inr (7, [.ref q0, .ref q1, .ref q2, .ref q3, .ref q4, .ref q5, .null, .null, .int 0])) :: ((((((([] : va_W) ++ wS cA q0 f_0 p_0 r_0 a_0) ++ wS cA q1 f_1 p_1 r_1 a_1) ++ wH cA q2 g_2 st_2 f_2 p_2 r_2 a_2) ++ wB cA q3 r_3 a_3) ++ wBd cA q4 r_4 a_4 r2_4 a2_4) ++ wF cA q5 r_5 a_5) : va_W) _ := hP
  have hD : va_D A ((q, .inr (7, [.ref q0, .ref q1, .ref q2, .ref q3, .ref q4, .ref q5, .null, .null, .int 0])) :: ((((((([] : va_W) ++ wS cA q0 f_0 p_0 r_0 a_0) ++ wS cA q1 f_1 p_1 r_1 a_1) ++ wH cA q2 g_2 st_2 f_2 p_2 r_2 a_2) ++ wB cA q3 r_3 a_3) ++ wBd cA q4 r_4 a_4 r2_4 a2_4) ++ wF cA q5 r_5 a_5) : va_W) := hD
  refine lv_aload_n hx hb dX8_init_70 rfl hl0 ?_
  refine cs_new hH (cj := 5) (fs1 := [.null]) rfl tyX5 tyX5_ok (fun j hj => by rcases (show j = 0 by omega) with rfl <;> rfl) (xw 205 (by decide +kernel) (by decide +kernel)) (xw 49 (by decide +kernel) (by decide +kernel)) (xw 19 (by decide +kernel) (by decide +kernel)) hP hD hS hA ⟨(Nat.le_of_ble_eq_true rfl), (Nat.le_of_ble_eq_true rfl)⟩ dX8_init_71 (fun q6 H hP hD hS => ?_)
  refine lv_dup hx hb dX8_init_74 rfl ?_
  refine lv_bipush (v := 60) hx hb dX8_init_75 (by decide) ?_
  refine cs_call hH (As := [.int 60]) (rest := [.ref q6, .ref q]) (cRow l D cA (x := 60) (N := 60) rfl (by decide)) ccX8_init_77 hP hD hS hA hls (Nat.le_of_ble_eq_true rfl) ⟨(Nat.le_of_ble_eq_true rfl), (Nat.le_of_ble_eq_true rfl)⟩ ⟨(Nat.le_of_ble_eq_true rfl), (Nat.le_of_ble_eq_true rfl)⟩ dX8_init_77 (fun w H locs hw hP hD hS => ?_)
  obtain ⟨a6, rfl⟩ := hw
  have hP : va_P D vwCl ((q, .inr (7, [.ref q0, .ref q1, .ref q2, .ref q3, .ref q4, .ref q5, .null, .null, .int 0])) :: (((((((([] : va_W) ++ wS cA q0 f_0 p_0 r_0 a_0) ++ wS cA q1 f_1 p_1 r_1 a_1) ++ wH cA q2 g_2 st_2 f_2 p_2 r_2 a_2) ++ wB cA q3 r_3 a_3) ++ wBd cA q4 r_4 a_4 r2_4 a2_4) ++ wF cA q5 r_5 a_5) ++ wRow cA 60 q6 a6) : va_W) _ := hP
  have hD : va_D A ((q, .inr (7, [.ref q0, .ref q1, .ref q2, .ref q3, .ref q4, .ref q5, .null, .null, .int 0])) :: (((((((([] : va_W) ++ wS cA q0 f_0 p_0 r_0 a_0) ++ wS cA q1 f_1 p_1 r_1 a_1) ++ wH cA q2 g_2 st_2 f_2 p_2 r_2 a_2) ++ wB cA q3 r_3 a_3) ++ wBd cA q4 r_4 a_4 r2_4 a2_4) ++ wF cA q5 r_5 a_5) ++ wRow cA 60 q6 a6) : va_W) := hD
  refine cs_ref hH (ci := 7) rfl hP hD hS hin 6 (by decide) (Nat.le_of_ble_eq_true rfl) rfl rfl (xw 213 (by decide +kernel) (by decide +kernel)) (ty := .object "BoxedProofs$Row") (by decide +kernel) rfl rfl dX8_init_80 (fun H locs hP hD hS => ?_)
  have hP : va_P D vwCl ((q, .inr (7, [.ref q0, .ref q1, .ref q2, .ref q3, .ref q4, .ref q5, .ref q6, .null, .int 0])) :: (((((((([] : va_W) ++ wS cA q0 f_0 p_0 r_0 a_0) ++ wS cA q1 f_1 p_1 r_1 a_1) ++ wH cA q2 g_2 st_2 f_2 p_2 r_2 a_2) ++ wB cA q3 r_3 a_3) ++ wBd cA q4 r_4 a_4 r2_4 a2_4) ++ wF cA q5 r_5 a_5) ++ wRow cA 60 q6 a6) : va_W) _ := hP
  have hD : va_D A ((q, .inr (7, [.ref q0, .ref q1, .ref q2, .ref q3, .ref q4, .ref q5, .ref q6, .null, .int 0])) :: (((((((([] : va_W) ++ wS cA q0 f_0 p_0 r_0 a_0) ++ wS cA q1 f_1 p_1 r_1 a_1) ++ wH cA q2 g_2 st_2 f_2 p_2 r_2 a_2) ++ wB cA q3 r_3 a_3) ++ wBd cA q4 r_4 a_4 r2_4 a2_4) ++ wF cA q5 r_5 a_5) ++ wRow cA 60 q6 a6) : va_W) := hD
  refine lv_aload_n hx hb dX8_init_83 rfl hl0 ?_
  refine cs_new hH (cj := 5) (fs1 := [.null]) rfl tyX5 tyX5_ok (fun j hj => by rcases (show j = 0 by omega) with rfl <;> rfl) (xw 205 (by decide +kernel) (by decide +kernel)) (xw 49 (by decide +kernel) (by decide +kernel)) (xw 19 (by decide +kernel) (by decide +kernel)) hP hD hS hA ⟨(Nat.le_of_ble_eq_true rfl), (Nat.le_of_ble_eq_true rfl)⟩ dX8_init_84 (fun q7 H hP hD hS => ?_)
  refine lv_dup hx hb dX8_init_87 rfl ?_
  refine lv_bipush (v := 60) hx hb dX8_init_88 (by decide) ?_
  refine cs_call hH (As := [.int 60]) (rest := [.ref q7, .ref q]) (cRow l D cA (x := 60) (N := 60) rfl (by decide)) ccX8_init_90 hP hD hS hA hls (Nat.le_of_ble_eq_true rfl) ⟨(Nat.le_of_ble_eq_true rfl), (Nat.le_of_ble_eq_true rfl)⟩ ⟨(Nat.le_of_ble_eq_true rfl), (Nat.le_of_ble_eq_true rfl)⟩ dX8_init_90 (fun w H locs hw hP hD hS => ?_)
  obtain ⟨a7, rfl⟩ := hw
  have hP : va_P D vwCl ((q, .inr (7, [.ref q0, .ref q1, .ref q2, .ref q3, .ref q4, .ref q5, .ref q6, .null, .int 0])) :: ((((((((([] : va_W) ++ wS cA q0 f_0 p_0 r_0 a_0) ++ wS cA q1 f_1 p_1 r_1 a_1) ++ wH cA q2 g_2 st_2 f_2 p_2 r_2 a_2) ++ wB cA q3 r_3 a_3) ++ wBd cA q4 r_4 a_4 r2_4 a2_4) ++ wF cA q5 r_5 a_5) ++ wRow cA 60 q6 a6) ++ wRow cA 60 q7 a7) : va_W) _ := hP
  have hD : va_D A ((q, .inr (7, [.ref q0, .ref q1, .ref q2, .ref q3, .ref q4, .ref q5, .ref q6, .null, .int 0])) :: ((((((((([] : va_W) ++ wS cA q0 f_0 p_0 r_0 a_0) ++ wS cA q1 f_1 p_1 r_1 a_1) ++ wH cA q2 g_2 st_2 f_2 p_2 r_2 a_2) ++ wB cA q3 r_3 a_3) ++ wBd cA q4 r_4 a_4 r2_4 a2_4) ++ wF cA q5 r_5 a_5) ++ wRow cA 60 q6 a6) ++ wRow cA 60 q7 a7) : va_W) := hD
  refine cs_ref hH (ci := 7) rfl hP hD hS hin 7 (by decide) (Nat.le_of_ble_eq_true rfl) rfl rfl (xw 214 (by decide +kernel) (by decide +kernel)) (ty := .object "BoxedProofs$Row") (by decide +kernel) rfl rfl dX8_init_93 (fun H locs hP hD hS => ?_)
  have hP : va_P D vwCl ((q, .inr (7, [.ref q0, .ref q1, .ref q2, .ref q3, .ref q4, .ref q5, .ref q6, .ref q7, .int 0])) :: ((((((((([] : va_W) ++ wS cA q0 f_0 p_0 r_0 a_0) ++ wS cA q1 f_1 p_1 r_1 a_1) ++ wH cA q2 g_2 st_2 f_2 p_2 r_2 a_2) ++ wB cA q3 r_3 a_3) ++ wBd cA q4 r_4 a_4 r2_4 a2_4) ++ wF cA q5 r_5 a_5) ++ wRow cA 60 q6 a6) ++ wRow cA 60 q7 a7) : va_W) _ := hP
  have hD : va_D A ((q, .inr (7, [.ref q0, .ref q1, .ref q2, .ref q3, .ref q4, .ref q5, .ref q6, .ref q7, .int 0])) :: ((((((((([] : va_W) ++ wS cA q0 f_0 p_0 r_0 a_0) ++ wS cA q1 f_1 p_1 r_1 a_1) ++ wH cA q2 g_2 st_2 f_2 p_2 r_2 a_2) ++ wB cA q3 r_3 a_3) ++ wBd cA q4 r_4 a_4 r2_4 a2_4) ++ wF cA q5 r_5 a_5) ++ wRow cA 60 q6 a6) ++ wRow cA 60 q7 a7) : va_W) := hD
  refine lv_aload_n hx hb dX8_init_96 rfl hl0 ?_
  refine lv_iconst (v := 0) hx hb dX8_init_97 (by decide) ?_
  refine cs_int hH (ci := 7) rfl hP hD hS 8 (by decide) (Nat.le_of_ble_eq_true rfl) rfl (xw 215 (by decide +kernel) (by decide +kernel)) (ty := .boolean) (by decide +kernel) rfl rfl dX8_init_98 (fun H locs hP hD hS => ?_)
  have hP : va_P D vwCl ((q, .inr (7, [.ref q0, .ref q1, .ref q2, .ref q3, .ref q4, .ref q5, .ref q6, .ref q7, .int 0])) :: ((((((((([] : va_W) ++ wS cA q0 f_0 p_0 r_0 a_0) ++ wS cA q1 f_1 p_1 r_1 a_1) ++ wH cA q2 g_2 st_2 f_2 p_2 r_2 a_2) ++ wB cA q3 r_3 a_3) ++ wBd cA q4 r_4 a_4 r2_4 a2_4) ++ wF cA q5 r_5 a_5) ++ wRow cA 60 q6 a6) ++ wRow cA 60 q7 a7) : va_W) _ := hP
  have hD : va_D A ((q, .inr (7, [.ref q0, .ref q1, .ref q2, .ref q3, .ref q4, .ref q5, .ref q6, .ref q7, .int 0])) :: ((((((((([] : va_W) ++ wS cA q0 f_0 p_0 r_0 a_0) ++ wS cA q1 f_1 p_1 r_1 a_1) ++ wH cA q2 g_2 st_2 f_2 p_2 r_2 a_2) ++ wB cA q3 r_3 a_3) ++ wBd cA q4 r_4 a_4 r2_4 a2_4) ++ wF cA q5 r_5 a_5) ++ wRow cA 60 q6 a6) ++ wRow cA 60 q7 a7) : va_W) := hD
  refine W.widen (k := 210) (n := 5032) (Nat.le_of_ble_eq_true rfl) (Nat.le_of_ble_eq_true rfl) ?_
  exact fin 101 _ _ _ _ dX8_init_101 (⟨q0, f_0, p_0, r_0, a_0, q1, f_1, p_1, r_1, a_1, q2, g_2, st_2, f_2, p_2, r_2, a_2, q3, r_3, a_3, q4, r_4, a_4, r2_4, a2_4, q5, r_5, a_5, q6, a6, q7, a7, rfl⟩) hP hD hS
