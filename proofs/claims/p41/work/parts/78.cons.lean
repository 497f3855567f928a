/-! constructors: a world as a list; a new object's own world joins the rest -/
theorem cj_join {A0 : Nat → Prop} {D : va_G} {cl : List vw_C} {R C W1 : va_W} {H H1 : Heap} (hP : va_P D cl (R ++ C) H) (hD : va_D A0 (R ++ C)) (hk : ∀ q : Nat, q < H.size → ¬ va_A C H.size q → H1[q]? = H[q]?) (hF : ∀ q, va_A C H.size q → A0 q) (hP1 : va_P D cl W1 H1) (hD1 : va_D (va_A C H.size) W1) : va_P D cl (R ++ W1) H1 ∧ va_D A0 (R ++ W1) := by
  have hR : ∀ (k : Nat) (q : Nat × va_E), R[k]? = some q → (R ++ C)[k]? = some q := fun k q hq => by
    rw [List.getElem?_append_left (List.getElem?_eq_some_iff.mp hq).1]
    exact hq
  have hC : ∀ (k : Nat) (q : Nat × va_E), C[k]? = some q → (R ++ C)[R.length + k]? = some q := fun k q hq => by
    rw [List.getElem?_append_right (by omega), show R.length + k - R.length = k by omega]
    exact hq
  have apart : ∀ (k : Nat) (q : Nat × va_E), R[k]? = some q → q.1 < H.size ∧ ¬ va_A C H.size q.1 := by
    intro k q hq
    have hlt := (hP k q (hR k q hq)).lt
    refine ⟨hlt, fun h => ?_⟩
    rcases h with ⟨k2, e, h⟩ | h
    · have := hD.1 k (R.length + k2) q (q.1, e) (hR k q hq) (hC k2 _ h) rfl
      have := (List.getElem?_eq_some_iff.mp hq).1
      omega
    · omega
  have hDR : va_D A0 R := ⟨fun i j x y hx hy e => hD.1 i j x y (hR i x hx) (hR j y hy) e, fun k q hq => hD.2 k q (hR k q hq)⟩
  refine ⟨va_P.app (fun k q hq => ?_) hP1, va_D.app hDR (hD1.weaken fun k q _ h => hF q.1 h) fun i j x y hx hy hxy => ?_⟩
  · obtain ⟨g1, g2⟩ := apart k q hq
    exact (hP k q (hR k q hq)).kept (hk q.1 g1 g2)
  · exact (apart i x hx).2 (by rw [hxy]; exact hD1.2 j y hy)
/-- calls of private constructors of nest mates; the class of rings -/
def cnL : List (String × Nat × MethodName) := [(RX7, 9, yX2_init), (RX7, 18, yX4_init), (RX8, 9, yX7_init), (RX8, 28, yX0_init), (RX8, 35, yX1_init), (RX8, 42, yX2_init), (RX3, 24, yX7_init)]
def cN (U : State) : Prop := (∀ x ∈ cnL, va_Nw (.methodLinkNest x.1 x.2.1 x.2.2 RX8) U) ∧ va_AO RX7 U
theorem cN.warm {s U : State} (hW : s.WarmedH U.vm) (h : cN s) : cN U := ⟨fun x hx => va_Nw.warmM hW (h.1 x hx), h.2.moved hW.alike⟩
theorem cN.calling {U : State} {g : JFrame} {mk : MethodId} {a : Array Value} (h : cN U) : cN (U.calling g mk a) := ⟨fun x hx => va_Nw.same rfl (u := U) rfl (h.1 x hx), h.2.moved (u := U) (Vm.Alike.refl U.vm)⟩
def cPre (D : va_G) (cA : Nat → ClassId) (sz q : Nat) (e : va_E) : State → Prop := fun U => U.heap.size = sz ∧ va_P D vwCl [(q, e)] U.heap ∧ va_K D vwCl (xtys cA) U ∧ va_D (fun _ => True) [(q, e)] ∧ cN U
def cPost (D : va_G) (cA : Nat → ClassId) (A : Nat → Prop) : va_W → State → Prop := fun w t => va_P D vwCl w t.heap ∧ va_K D vwCl (xtys cA) t ∧ va_D A w
/-- a constructor: method name, bytes, locals -/
abbrev cY : Type := MethodName × ByteArray × Nat
def cws (Y : cY) : List Cond := Cond.code Y.1 Y.2.1 Y.2.2 none :: xgw
/-- frames, cells, slots, locals -/
def crm (r : Nat × Nat × Nat × Nat) : Room := { frames := r.1, cells := r.2.1, slots := r.2.2.1, locals := r.2.2.2 }
def CMet (l : Launch) (D : va_G) (cA : Nat → ClassId) (Y : cY) (r : Nat × Nat × Nat × Nat) (As : List Value) (e : va_E) (B : Nat → va_W → Prop) : Prop :=
  ∀ q sz : Nat, Met l Y.1 (cws Y) (crm r) (va_Pc (.ref q :: As) (cPre D cA sz q e)) (va_Qv (B q) (cPost D cA (va_A [(q, e)] sz)) (va_A [(q, e)] sz)) r.2.1 r.2.2.1 (va_A [(q, e)] sz)
/-- a constructor's place -/
def cHost (p : Program) (s : State) (m : MethodId) (args : Array Value) (c : Code) (D : va_G) (cA : Nat → ClassId) (own : String) (cc : ByteArray) (nL : Nat) (Ts : List Cond) : Prop :=
  p.tables.exec = Jvm.exec ∧ c.code = cc ∧ c.maxLocals = nL ∧ s.vm.findClass own = some m.cls ∧ (∀ w ∈ Ts, w.before args s = true) ∧ (∀ w, xin w → w ∈ Ts) ∧ va_K D vwCl (xtys cA) s ∧ cN s
/-- what a call of a constructor wants of the words -/
def cCall (own : String) (idx : Nat) (Y : cY) (n : Nat) : Prop := xin (Cond.code Y.1 Y.2.1 Y.2.2 none) ∧ xin (Cond.initialized Y.1.cls) ∧ (xin (Cond.methodLink own idx Y.1) ∨ (own, idx, Y.1) ∈ cnL) ∧ xin (Cond.instanceMethod Y.1) ∧ Y.1.name = "<init>" ∧ (Y.1.cls ≠ "java/lang/invoke/MethodHandle" ∧ Y.1.cls ≠ "java/lang/invoke/VarHandle" ∧ (parseMethodDescriptor Y.1.desc).map (fun d => d.parameters.length) = some n)
section
variable {p : Program} {l : Launch} {e : Env} {R : Room} {s : State} {m : MethodId} {args : Array Value} {below : List Frame} {meth : Method} {c : Code} {H : Heap} {locs : List Loc} {cells slots : Nat} {Q : State → Prop}
variable {D : va_G} {cA : Nat → ClassId} {own : String} {cc : ByteArray} {nL : Nat} {Ts : List Cond} {A : Nat → Prop} {pc : Nat} {ls : Array Slot} {rest : List Value}
theorem cs_call (h : cHost p s m args c D cA own cc nL Ts) {Y : cY} {r : Nat × Nat × Nat × Nat} {As : List Value} {ev : va_E} {B : Nat → va_W → Prop} {idx : Nat} (hM : CMet l D cA Y r As ev B) (hC : cCall own idx Y As.length) {R0 : va_W} {q : Nat} (hP : va_P D vwCl (R0 ++ [(q, ev)]) H) (hD : va_D A (R0 ++ [(q, ev)])) (hS : va_S A s.heap H locs) (hA : ∀ q, s.heap.size ≤ q → A q) (hls : ls.size = nL) (hst : (rest.map fun v => v.category).sum ≤ 8) (hR : r.1 + 1 ≤ R.frames ∧ 8 + (Y.2.2 + 11) + r.2.2.2 ≤ R.locals) (hf : cells + r.2.1 ≤ R.cells ∧ slots + r.2.2.1 ≤ R.slots) (hdg : decode cc pc = .ok (.invokespecial idx, 3))
    (kk : ∀ (w : va_W) (H1 : Heap) (locs1 : List Loc), B q w → va_P D vwCl (R0 ++ w) H1 → va_D A (R0 ++ w) → va_S A s.heap H1 locs1 → W p l e R s m args below meth c H1 locs1 (cells + r.2.1) (slots + r.2.2.1) Q (F0 m (pc + 3) ls rest)) : W p l e R s m args below meth c H locs cells slots Q (F0 m pc ls (As.reverse ++ .ref q :: rest)) := by
  obtain ⟨hx, hb, hml, hown, hts, hin, hK, hNe⟩ := h
  obtain ⟨w1, w2, w3, w4, w5, w6⟩ := hC
  have hPc : va_P D vwCl [(q, ev)] H := fun k z hz => hP (R0.length + k) z (by rw [List.getElem?_append_right (by omega), show R0.length + k - R0.length = k by omega]; exact hz)
  have hAq : A q := hD.2 R0.length (q, ev) (by rw [List.getElem?_append_right (by omega), Nat.sub_self]; rfl)
  have one : ∀ (k : Nat) (z : Nat × va_E), ([(q, ev)] : va_W)[k]? = some z → k = 0 ∧ z = (q, ev) := by
    intro k z hz
    have : k < 1 := (List.getElem?_eq_some_iff.mp hz).1
    have : k = 0 := by omega
    subst this
    exact ⟨rfl, (Option.some.inj hz).symm⟩
  have hDc : va_D (fun _ => True) [(q, ev)] := ⟨fun i j x y hx hy _ => by rw [(one i x hx).1, (one j y hy).1], fun _ _ _ => trivial⟩
  have hFc : ∀ z, va_A [(q, ev)] H.size z → A z := by
    rintro z (⟨k, x, hz⟩ | hz)
    · have := (one k _ hz).2
      injection this with e1 _
      rw [e1]; exact hAq
    · exact hA z (Nat.le_trans hS.1 hz)
  have hgood : GoodIn Ts (cws Y) := by
    intro w hw
    rcases List.mem_cons.mp hw with rfl | hw
    · exact ⟨hin _ w1, xgood (xin_gw w1)⟩
    · exact ⟨hin _ (List.mem_filter.mp hw), xgood hw⟩
  have hpre : PreS s H (va_Pc (.ref q :: As) (cPre D cA H.size q ev)) (.ref q :: As) := ⟨fun a U g mk z => by obtain ⟨q0, q1, qP, qK, qD, qN⟩ := z; exact ⟨q0, q1, qP, va_K.moved (u := U) (U := U.calling g mk a) (Vm.Alike.refl U.vm) qK, qD, qN.calling⟩, fun U hU hW => ⟨rfl, by rw [hU], by rw [hU]; exact hPc, va_K.moved hW.alike hK, hDc, hNe.warm hW⟩⟩
  have hrun : va_Run p l e R s m args below meth c H locs cells slots r.2.1 r.2.2.1 (F0 m pc ls (As.reverse ++ .ref q :: rest)) rest (va_Qv (B q) (cPost D cA (va_A [(q, ev)] H.size)) (va_A [(q, ev)] H.size) (Value.ref q :: As).toArray) (va_A [(q, ev)] H.size) := by
    rcases w3 with w3 | w3
    · exact va_runI (As := As) (rest := rest) ⟨hx, hb, hml, hown, hts⟩ (hM q H.size) ⟨callB_of As.length hts hgood rfl rfl rfl (hts _ (hin _ w2)) (hts _ (hin _ w3)) w6 hR, w5, hts _ (hin _ w4)⟩ hpre rfl rfl hls rfl (lv_room hst) hdg hf
    · exact va_runIN (As := As) (rest := rest) ⟨hx, hb, hml, hown, hts⟩ (hM q H.size) ⟨va_cnB As.length hts hgood rfl rfl rfl (hNe.1 _ w3) (hts _ (hin _ w2)) w6 hR, w5, hts _ (hin _ w4)⟩ hpre rfl rfl hls rfl (lv_room hst) hdg hf
  refine va_callv hrun hS (fun z _ hz => hFc z hz) hFc (fun w t H1 locs1 ht hvm hw hB hz1 hk1 hS1 => ?_)
  obtain ⟨b1, b2, b3⟩ := hB
  rw [ht] at b1
  obtain ⟨g1, g2⟩ := cj_join hP hD hk1 hFc b1 b3
  exact kk w H1 locs1 hw g1 g2 hS1
/-- a field of numbers -/
theorem cs_int (h : cHost p s m args c D cA own cc nL Ts) {T0 : u_T} {N0 ci : Nat} (hci : vwCl[ci]? = some (own, T0, N0)) {h0 : Nat} {fs : List Value} {X : va_W} (hP : va_P D vwCl ((h0, .inr (ci, fs)) :: X) H) (hD : va_D A ((h0, .inr (ci, fs)) :: X)) (hS : va_S A s.heap H locs) (k : Nat) (hk : k < N0) (hkl : k < fs.length) (hfin : (T0 k).2.2.2 = false) {idx : Nat} (hlink : xin (Cond.fieldLink own idx (T0 k).1 (T0 k).2.1 (T0 k).2.2.1)) {ty : FieldType} {v : Int32} (hd : parseFieldDescriptor (T0 k).2.2.1 = some ty) (hn : narrow ty (.int v) = .int v) (hfit : fits ty (.int v) = true) (hdg : decode cc pc = .ok (.putfield idx, 3))
    (kk : ∀ (H1 : Heap) (locs1 : List Loc), va_P D vwCl ((h0, .inr (ci, fs.set k (.int v))) :: X) H1 → va_D A ((h0, .inr (ci, fs.set k (.int v))) :: X) → va_S A s.heap H1 locs1 → W p l e R s m args below meth c H1 locs1 cells slots Q (F0 m (pc + 3) ls rest)) : W p l e R s m args below meth c H locs cells slots Q (F0 m pc ls (.int v :: .ref h0 :: rest)) := by
  obtain ⟨hx, hb, hml, hown, hts, hin, hK, hNe⟩ := h
  obtain ⟨c1, ⟨ty0, c2⟩, c3⟩ := xcl_ok ci own T0 N0 hci
  exact va_put (q0 := 0) (Ts := Ts) hx hb hts (fun w hw => hin w (c1 w hw)) ty0 c2 c3 hown hK hP hD hS rfl hci k hk (hts _ (hin _ hlink)) (fun _ z => z) hfin hd hn hfit hkl hdg kk
/-- a final field of references -/
theorem cs_ref (h : cHost p s m args c D cA own cc nL Ts) {T0 : u_T} {N0 ci : Nat} (hci : vwCl[ci]? = some (own, T0, N0)) {h0 : Nat} {fs : List Value} {X : va_W} (hP : va_P D vwCl ((h0, .inr (ci, fs)) :: X) H) (hD : va_D A ((h0, .inr (ci, fs)) :: X)) (hS : va_S A s.heap H locs) (hin2 : meth.name = "<init>") (k : Nat) (hk : k < N0) (hkl : k < fs.length) (hfin : (T0 k).2.2.2 = true) (hdecl : (T0 k).1 = own) {idx : Nat} (hlink : xin (Cond.fieldLink own idx (T0 k).1 (T0 k).2.1 (T0 k).2.2.1)) {ty : FieldType} {v : Nat} (hd : parseFieldDescriptor (T0 k).2.2.1 = some ty) (hn : narrow ty (.ref v) = .ref v) (hfit : fits ty (.ref v) = true) (hdg : decode cc pc = .ok (.putfield idx, 3))
    (kk : ∀ (H1 : Heap) (locs1 : List Loc), va_P D vwCl ((h0, .inr (ci, fs.set k (.ref v))) :: X) H1 → va_D A ((h0, .inr (ci, fs.set k (.ref v))) :: X) → va_S A s.heap H1 locs1 → W p l e R s m args below meth c H1 locs1 cells slots Q (F0 m (pc + 3) ls rest)) : W p l e R s m args below meth c H locs cells slots Q (F0 m pc ls (.ref v :: .ref h0 :: rest)) := by
  obtain ⟨hx, hb, hml, hown, hts, hin, hK, hNe⟩ := h
  obtain ⟨c1, ⟨ty0, c2⟩, c3⟩ := xcl_ok ci own T0 N0 hci
  exact va_putF (q0 := 0) (Ts := Ts) hx hb hts (fun w hw => hin w (c1 w hw)) ty0 c2 c3 hown hK hP hD hS rfl hci k hk (hts _ (hin _ hlink)) (fun _ z => z) hfin hin2 hdecl hd hn hfit hkl hdg kk
/-- a new object -/
theorem cs_new (h : cHost p s m args c D cA own cc nL Ts) {C1 : String} {T1 : u_T} {N1 cj : Nat} (hcj : vwCl[cj]? = some (C1, T1, N1)) (ty1 : Nat → FieldType) (hty1 : ∀ k, k < N1 → parseFieldDescriptor (T1 k).2.2.1 = some (ty1 k)) {fs1 : List Value} (hfs1 : ∀ j, j < N1 → defaultValue (ty1 j) = vp_V fs1 j) {idx : Nat} (hl1 : xin (Cond.classLink own idx C1)) (hl2 : xin (Cond.instantiable C1 N1)) (hl3 : xin (Cond.initialized C1)) {X : va_W} (hP : va_P D vwCl X H) (hD : va_D A X) (hS : va_S A s.heap H locs) (hA : ∀ q, s.heap.size ≤ q → A q) (hf : cells + 1 ≤ R.cells ∧ slots + N1 ≤ R.slots) (hdg : decode cc pc = .ok (.new idx, 3))
    (kk : ∀ (q : Nat) (H1 : Heap), va_P D vwCl (X ++ [(q, .inr (cj, fs1))]) H1 → va_D A (X ++ [(q, .inr (cj, fs1))]) → va_S A s.heap H1 locs → W p l e R s m args below meth c H1 locs (cells + 1) (slots + N1) Q (F0 m (pc + 3) ls (.ref q :: rest))) : W p l e R s m args below meth c H locs cells slots Q (F0 m pc ls rest) := by
  obtain ⟨hx, hb, hml, hown, hts, hin, hK, hNe⟩ := h
  obtain ⟨c1, -, -⟩ := xcl_ok cj C1 T1 N1 hcj
  exact va_new (Ts := Ts) hx hb hts (fun w hw => hin w (c1 w hw)) ty1 hty1 hown (hts _ (hin _ hl1)) (hts _ (hin _ hl2)) (hts _ (hin _ hl3)) hK hP hD hS hA hcj hfs1 hf.1 hf.2 hdg kk
/-- a new array of numbers: its class is the one that is known -/
theorem cs_arr (h : cHost p s m args c D cA own cc nL Ts) {atype : ArrayType} {ty : FieldType} {t : Nat} (hty : newarray.typeOf atype = ty) (ht : (xtys cA)[t]? = some (cA t, ty)) (hT : ty = .int ∨ ty = .boolean ∨ ty = .char) (hw : xin (Cond.arrayClass (newarray.typeOf atype))) {X : va_W} (hP : va_P D vwCl X H) (hD : va_D A X) (hS : va_S A s.heap H locs) (hA : ∀ q, s.heap.size ≤ q → A q) {n : Int32} {N : Nat} (hn : ¬ n < 0) (hN : n.toNatClampNeg = N) (hbytes : N * componentBytes ty ≤ 536870912) (hf : cells + 1 ≤ R.cells ∧ slots + N ≤ R.slots) (hdg : decode cc pc = .ok (.newarray atype, 2))
    (kk : ∀ (q : Nat) (H1 : Heap), va_P D vwCl (X ++ [(q, .inl (cA t, N, .inl fun _ => 0))]) H1 → va_D A (X ++ [(q, .inl (cA t, N, .inl fun _ => 0))]) → va_S A s.heap H1 locs → W p l e R s m args below meth c H1 locs (cells + 1) (slots + N) Q (F0 m (pc + 2) ls (.ref q :: rest))) : W p l e R s m args below meth c H locs cells slots Q (F0 m pc ls (.int n :: rest)) := by
  obtain ⟨hx, hb, hml, hown, hts, hin, hK, hNe⟩ := h
  refine va_newa (atype := atype) (ty := ty) (a0 := (N, .inl fun _ => 0)) hx hb (hts _ (hin _ hw)) hty hK hP hD hS hA (fun cA1 => ?_) hn hN hbytes hf.1 hf.2 hdg (fun q cA1 H1 hK1 hP1 hD1 hS1 => ?_)
  · rcases hT with rfl | rfl | rfl <;> rfl
  · have e1 : s.vm.findClass ("[" ++ ty.toString) = some cA1 := by
      have := (hK1.2 (xtys cA).length (cA1, ty) (by rw [List.getElem?_append_right (Nat.le_refl _), Nat.sub_self]; rfl)).2
      rcases hT with rfl | rfl | rfl <;> exact this
    have e2 : s.vm.findClass ("[" ++ ty.toString) = some (cA t) := by
      have := (hK.2 t _ ht).2
      rcases hT with rfl | rfl | rfl <;> exact this
    have e3 : cA1 = cA t := Option.some.inj (e1.symm.trans e2)
    rw [e3] at hP1 hD1
    exact kk q H1 hP1 hD1 hS1
/-- a constructor's frame: from behind the call of Object's -/
theorem CMet.of {Y : cY} {r : Nat × Nat × Nat × Nat} {As : List Value} {ev : va_E} {B : Nat → va_W → Prop} {D : va_G} {cA : Nat → ClassId} {idx : Nat} (hpl : plainName Y.1.cls = true) (hname : Y.1.name = "<init>") (hw : xin (Cond.methodLink Y.1.cls idx objectInit) ∧ xin (Cond.instanceMethod objectInit) ∧ xin (Cond.code objectInit ⟨#[0xb1]⟩ 1 none)) (hr : 1 ≤ r.1 ∧ 12 ≤ r.2.2.2) (hn : ∀ q : Nat, (lg_sl (.ref q :: As)).length ≤ Y.2.2) (d0 : decode Y.2.1 0 = .ok (.aload_n 0, 1)) (d1 : decode Y.2.1 1 = .ok (.invokespecial idx, 3))
    (h : ∀ (q : Nat) (p : Program) (e : Env) (s : State) (m : MethodId) (args : Array Value) (below : List Frame) (meth : Method) (c : Code) (A : Nat → Prop) (ls : Array Slot) (Ts : List Cond) (Qf : State → Prop), cHost p s m args c D cA Y.1.cls Y.2.1 Y.2.2 Ts → meth.name = "<init>" → (∀ q, s.heap.size ≤ q → A q) → va_S A s.heap s.heap [] → va_P D vwCl [(q, ev)] s.heap → va_D A [(q, ev)] → lv_has ls Y.2.2 (lv_args 0 (.ref q :: As)) → (∀ (pc : Nat) (H : Heap) (locs : List Loc) (ls : Array Slot) (w : va_W), decode Y.2.1 pc = .ok (.return_, 1) → B q w → va_P D vwCl w H → va_D A w → va_S A s.heap H locs → W p l e (crm r) s m args below meth c H locs r.2.1 r.2.2.1 Qf (F0 m pc ls [])) → W p l e (crm r) s m args below meth c s.heap [] 0 0 Qf (F0 m 4 ls [])) : CMet l D cA Y r As ev B := by
  intro q sz
  refine Met.ofW (cc := Y.2.1) (maxL := Y.2.2) (ret := none) (ws' := xgw) hpl rfl ?_
  intro p e s m args' below meth c s₁ Bd hml hv
  obtain ⟨rfl, hsz, hP, hK, hD0, hN⟩ := hv
  have hx := Bd.exec
  have hb := Bd.bytes
  have hrr := Bd.returns
  have hts := atoms_spec (ws := cws Y) Bd.pre
  have hown : s.vm.findClass Y.1.cls = some m.cls := findClass_of_methodNamed Bd.named
  have hlocks := Bd.notSynchronized
  have hin : meth.name = "<init>" := (name_of_methodNamed Bd.named Bd.method).1.trans hname
  subst hsz
  have hD := hD0.self (sz := s.heap.size)
  have htw : ∀ w, xin w → w ∈ cws Y := fun w hw => List.mem_cons_of_mem _ (xin_gw hw)
  rw [lg_entry_eq]
  have hl := lv_entry (.ref q :: As) (n := Y.2.2) (hn q)
  generalize (lg_sl (.ref q :: As) ++ List.replicate (Y.2.2 - (lg_sl (.ref q :: As)).length) Slot.unset).toArray = ls at hl ⊢
  refine lv_aload_n hx hb d0 rfl (lv_at hl 0 rfl) ?_
  refine W.objInit hx hb hown (hts _ (htw _ hw.1)) (hts _ (htw _ hw.2.1)) (hts _ (htw _ hw.2.2)) rfl (by rw [hml]; exact hl.1) rfl d1 hr.1 (by show 2 * 0 + 0 + 12 ≤ r.2.2.2; exact hr.2) ?_
  refine W.eq (g2 := F0 m 4 ls []) rfl ?_
  refine h q p e s m _ below meth c (va_A [(q, ev)] s.heap.size) ls (cws Y) _ ⟨hx, hb, hml, hown, hts, htw, hK, hN⟩ hin (fun z hz => Or.inr hz) va_S.rf hP hD hl (fun pc H locs ls w hdg hw hP2 hD2 hS2 => ?_)
  exact W.vret hx hb hrr (fun t ht hW => ⟨⟨w, rfl, hw, by rw [ht]; exact hP2, va_K.moved hW.alike hK, hD2⟩, hS2.F ht⟩) hS2.2.2 hdg
end
