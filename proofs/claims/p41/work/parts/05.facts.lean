/-! THE SMALL MACHINE IS SOUND: a step of it is a step of the machine-/
def xin (w : Cond) : Prop := w ∈ lw_tbl ∧ goodWord w = true
theorem xin_gw {w : Cond} (h : xin w) : w ∈ xgw := List.mem_filter.mpr h
def xfF (o : Nat) (f : Nat × Nat × Nat × Nat) : Prop := ∃ (C : String) (T : u_T) (N : Nat), vwCl[f.2.1]? = some (C, T, N) ∧ f.2.2.1 < N ∧ xin (Cond.fieldLink (xcn o) f.1 (T f.2.2.1).1 (T f.2.2.1).2.1 (T f.2.2.1).2.2.1) ∧ (f.2.2.2 = 1 → (T f.2.2.1).2.2.2 = false ∧ (T f.2.2.1).2.2.1 = "I") ∧ (f.2.2.2 = 2 → (T f.2.2.1).2.2.2 = false ∧ (T f.2.2.1).2.2.1 = "Z")
def xmF (o : Nat) (idx : Nat) (D : xD) : Prop := xin (Cond.methodLink (xcn o) idx D.1) ∧ xin (Cond.code D.1 D.2.1 D.2.2.1 D.2.2.2.1) ∧ xin (Cond.initialized D.1.cls) ∧ D.1.cls ≠ "java/lang/invoke/MethodHandle" ∧ D.1.cls ≠ "java/lang/invoke/VarHandle" ∧ (parseMethodDescriptor D.1.desc).map (fun d => d.parameters.length) = some D.2.2.2.2 ∧ D.2.2.1 ≤ 26
def xvF (o : Nat) (q : Nat × Nat × xD) : Prop := (∃ (T : u_T) (N : Nat), vwCl[q.2.1]? = some (q.2.2.1.cls, T, N)) ∧ xmF o q.1 q.2.2 ∧ xin (Cond.instanceMethod q.2.2.1) ∧ xin (Cond.selects q.2.2.1.cls q.2.2.1 q.2.2.1)
def xsF (o : Nat) (q : Nat × Nat × xD) : Prop := xmF o q.1 q.2.2 ∧ xin (Cond.static q.2.2.1)
def xkF (o : Nat) (q : Nat × xV) : Prop := match q.2 with
  | .inl v => xin (Cond.constant (xcn o) q.1 v)
  | .inr (.inl v) => xin (Cond.constantLong (xcn o) q.1 v)
  | _ => False
def xnF (o : Nat) (q : Nat × Nat) : Prop := (q.2 = 1 → xin (Cond.methodLink (xcn o) q.1 Lib.Math.min.name) ∧ xin (Cond.static Lib.Math.min.name) ∧ xin (Cond.initialized "java/lang/Math") ∧ xin (Cond.code Lib.Math.min.name Lib.Math.min.code 2 (some .int))) ∧ (q.2 = 2 → xin (Cond.methodLink (xcn o) q.1 arraycopyName) ∧ xin (Cond.native arraycopyName) ∧ xin (Cond.static arraycopyName) ∧ xin (Cond.initialized "java/lang/System"))
def xCEok (o : Nat) (ce : xCE) : Prop := (∀ f ∈ ce.1, xfF o f) ∧ (∀ q ∈ ce.2.1, xvF o q) ∧ (∀ q ∈ ce.2.2.1, xsF o q) ∧ (∀ q ∈ ce.2.2.2.1, xkF o q) ∧ (∀ q ∈ ce.2.2.2.2, xnF o q)
def xtgt (tb : List xT) (pc : Nat) (off : Int) (t : Nat) : Bool := match tb.drop t with
  | e :: _ => decide ((pc : Int) + off = (e.1 : Int))
  | [] => false
theorem xtgt_ok {tb : List xT} {pc : Nat} {off : Int} {t : Nat} (h : xtgt tb pc off t = true) : ∃ e r, tb.drop t = e :: r ∧ (pc : Int) + off = (e.1 : Int) := by
  unfold xtgt at h
  split at h
  · rename_i e r he
    exact ⟨e, r, he, of_decide_eq_true h⟩
  · cases h
def xtgts (tb : List xT) (pc : Nat) : List Int → List Nat → Bool
  | [], [] => true
  | o :: os, t :: ts => xtgt tb pc o t && xtgts tb pc os ts
  | _, _ => false
def xkeys : List (Int × Int) → Bool
  | [] => true
  | (a, _) :: l => decide (-2147483648 ≤ a ∧ a ≤ 2147483647) && xkeys l
def xcI1 (c : xV) (x : Int32) : Bool := match c with | .inl v => decide (x = v) | _ => false
def xcL1 (c : xV) (x : Int64) : Bool := match c with | .inr (.inl v) => decide (x = v) | _ => false
def xisI (c : xV) : Bool := match c with | .inl _ => true | _ => false
def xme (l : List (Nat × Nat × xD)) (t : Nat) (idx ci : Nat) : Bool := match l.drop t with
  | q :: _ => decide (q.1 = idx) && decide (q.2.1 = ci)
  | [] => false
def xme0 (l : List (Nat × Nat × xD)) (t : Nat) (idx : Nat) : Bool := match l.drop t with
  | q :: _ => decide (q.1 = idx)
  | [] => false
def xchk (E : xE) (e : xT) : Bool :=
  match e.2.1 with
  | .aload_n n => decide (e.2.2.1 = 1 ∧ n.val = (xt0 e.2.2.2.1))
  | .iload_n n => decide (e.2.2.1 = 1 ∧ n.val = (xt0 e.2.2.2.1))
  | .lload_n n => decide (e.2.2.1 = 1 ∧ n.val = (xt0 e.2.2.2.1))
  | .aload n => decide (e.2.2.1 = 2 ∧ n = (xt0 e.2.2.2.1))
  | .iload n => decide (e.2.2.1 = 2 ∧ n = (xt0 e.2.2.2.1))
  | .lload n => decide (e.2.2.1 = 2 ∧ n = (xt0 e.2.2.2.1))
  | .istore_n n => decide (e.2.2.1 = 1 ∧ n.val = (xt0 e.2.2.2.1) ∧ (xt0 e.2.2.2.1) < E.2.1.2.2.1)
  | .astore_n n => decide (e.2.2.1 = 1 ∧ n.val = (xt0 e.2.2.2.1) ∧ (xt0 e.2.2.2.1) < E.2.1.2.2.1)
  | .istore n => decide (e.2.2.1 = 2 ∧ n = (xt0 e.2.2.2.1) ∧ (xt0 e.2.2.2.1) < E.2.1.2.2.1)
  | .astore n => decide (e.2.2.1 = 2 ∧ n = (xt0 e.2.2.2.1) ∧ (xt0 e.2.2.2.1) < E.2.1.2.2.1)
  | .lstore_n n => decide (e.2.2.1 = 1 ∧ n.val = (xt0 e.2.2.2.1) ∧ (xt0 e.2.2.2.1) + 1 < E.2.1.2.2.1)
  | .lstore n => decide (e.2.2.1 = 2 ∧ n = (xt0 e.2.2.2.1) ∧ (xt0 e.2.2.2.1) + 1 < E.2.1.2.2.1)
  | .iconst n => decide (e.2.2.1 = 1) && xcI1 e.2.2.2.2 (Int32.ofInt n)
  | .bipush n => decide (e.2.2.1 = 2) && xcI1 e.2.2.2.2 (Int8.ofInt n).toInt32
  | .sipush n => decide (e.2.2.1 = 3) && xcI1 e.2.2.2.2 (Int16.ofInt n).toInt32
  | .lconst n => decide (e.2.2.1 = 1) && xcL1 e.2.2.2.2 (Int64.ofNat n.val)
  | .ldc i => decide (e.2.2.1 = 2) && E.2.2.2.2.2.2.2.1.any (fun q => decide (q = (i, e.2.2.2.2)))
  | .ldc_w i => decide (e.2.2.1 = 3) && E.2.2.2.2.2.2.2.1.any (fun q => decide (q = (i, e.2.2.2.2)))
  | .ldc2_w i => decide (e.2.2.1 = 3) && E.2.2.2.2.2.2.2.1.any (fun q => decide (q = (i, e.2.2.2.2)))
  | .aconst_null => decide (e.2.2.1 = 1)
  | .iadd => decide (e.2.2.1 = 1)
  | .isub => decide (e.2.2.1 = 1)
  | .imul => decide (e.2.2.1 = 1)
  | .iand => decide (e.2.2.1 = 1)
  | .ior => decide (e.2.2.1 = 1)
  | .ixor => decide (e.2.2.1 = 1)
  | .idiv => decide (e.2.2.1 = 1)
  | .irem => decide (e.2.2.1 = 1)
  | .ineg => decide (e.2.2.1 = 1)
  | .ishl => decide (e.2.2.1 = 1)
  | .ishr => decide (e.2.2.1 = 1)
  | .iushr => decide (e.2.2.1 = 1)
  | .i2c => decide (e.2.2.1 = 1)
  | .i2l => decide (e.2.2.1 = 1)
  | .l2i => decide (e.2.2.1 = 1)
  | .ladd => decide (e.2.2.1 = 1)
  | .lsub => decide (e.2.2.1 = 1)
  | .lmul => decide (e.2.2.1 = 1)
  | .ldiv => decide (e.2.2.1 = 1)
  | .lrem => decide (e.2.2.1 = 1)
  | .land => decide (e.2.2.1 = 1)
  | .lor => decide (e.2.2.1 = 1)
  | .lshl => decide (e.2.2.1 = 1)
  | .lshr => decide (e.2.2.1 = 1)
  | .lushr => decide (e.2.2.1 = 1)
  | .lcmp => decide (e.2.2.1 = 1)
  | .dup => decide (e.2.2.1 = 1)
  | .dup2 => decide (e.2.2.1 = 1)
  | .pop => decide (e.2.2.1 = 1)
  | .arraylength => decide (e.2.2.1 = 1)
  | .iaload => decide (e.2.2.1 = 1)
  | .iastore => decide (e.2.2.1 = 1)
  | .aaload => decide (e.2.2.1 = 1)
  | .ireturn => decide (e.2.2.1 = 1)
  | .lreturn => decide (e.2.2.1 = 1)
  | .areturn => decide (e.2.2.1 = 1)
  | .return_ => decide (e.2.2.1 = 1)
  | .iinc i n => decide (e.2.2.1 = 3 ∧ i = (xt0 e.2.2.2.1) ∧ (xt0 e.2.2.2.1) < E.2.1.2.2.1) && xcI1 e.2.2.2.2 (Int32.ofInt n)
  | .ifCond _ o => decide (e.2.2.1 = 3) && xtgt E.2.2.1 e.1 o (xt0 e.2.2.2.1)
  | .if_icmp _ o => decide (e.2.2.1 = 3) && xtgt E.2.2.1 e.1 o (xt0 e.2.2.2.1)
  | .ifnull _ => decide (e.2.2.1 = 3)
  | .goto o => decide (e.2.2.1 = 3) && xtgt E.2.2.1 e.1 o (xt0 e.2.2.2.1)
  | .tableswitch d lo hi offs => (match e.2.2.2.1 with | t :: ts => xtgt E.2.2.1 e.1 d t && xtgts E.2.2.1 e.1 offs.toList ts && decide (hi - lo + 1 = (offs.size : Int) ∧ -2147483648 ≤ lo ∧ hi ≤ 2147483647) | [] => false)
  | .lookupswitch d ps => (match e.2.2.2.1 with | t :: ts => xtgt E.2.2.1 e.1 d t && xtgts E.2.2.1 e.1 (ps.toList.map (·.2)) ts && xkeys ps.toList && (ps.toList.zip (ps.toList.drop 1)).all (fun (a, next) => a.1 < next.1) | [] => false)
  | .getfield i => decide (e.2.2.1 = 3) && E.2.2.2.2.1.any (fun f => decide (f.1 = i ∧ f.2.1 = (xt0 e.2.2.2.1) ∧ f.2.2.1 = xt1 e.2.2.2.1))
  | .putfield i => decide (e.2.2.1 = 3) && E.2.2.2.2.1.any (fun f => decide (f.1 = i ∧ f.2.1 = (xt0 e.2.2.2.1) ∧ f.2.2.1 = xt1 e.2.2.2.1 ∧ f.2.2.2 = (if xisI e.2.2.2.2 = true then 2 else 1)))
  | .invokevirtual i => decide (e.2.2.1 = 3) && xme E.2.2.2.2.2.1 (xt0 e.2.2.2.1) i (xt1 e.2.2.2.1)
  | .invokestatic i => decide (e.2.2.1 = 3) && (match xt1 e.2.2.2.1 with | 0 => xme0 E.2.2.2.2.2.2.1 (xt0 e.2.2.2.1) i | 1 => E.2.2.2.2.2.2.2.2.any (fun q => decide (q = (i, 1))) | 2 => E.2.2.2.2.2.2.2.2.any (fun q => decide (q = (i, 2))) | _ => true)
  | _ => false
def xcont : List xT → Bool
  | [] => true
  | e :: l => (match l with
    | [] => true
    | e' :: _ => decide (e'.1 = e.1 + e.2.2.1)) && xcont l
def xEok (E : xE) : Prop := (∀ e ∈ E.2.2.1, decode E.2.1.2.1 e.1 = .ok (e.2.1, e.2.2.1)) ∧ E.2.2.1.all (xchk E) = true ∧ xcont E.2.2.1 = true ∧ xCEok E.1 E.2.2.2.2 ∧ E.2.1.1.cls = xcn E.1 ∧ plainName E.2.1.1.cls = true
-- what the conditions of a step say
theorem xpI_ex {st : List xV} {f : Int32 → List xV → Prop} (h : xpI st f) : ∃ x r, st = vI x :: r ∧ f x r := by
  rcases st with _ | ⟨x | x | _ | q, r⟩ <;> first | exact h.elim | exact ⟨_, _, rfl, h⟩
theorem xpL_ex {st : List xV} {f : Int64 → List xV → Prop} (h : xpL st f) : ∃ x r, st = vL x :: r ∧ f x r := by
  rcases st with _ | ⟨x | x | _ | q, r⟩ <;> first | exact h.elim | exact ⟨_, _, rfl, h⟩
theorem xpR_ex {st : List xV} {f : xI → List xV → Prop} (h : xpR st f) : ∃ q r, st = vR q :: r ∧ f q r := by
  rcases st with _ | ⟨x | x | _ | q, r⟩ <;> first | exact h.elim | exact ⟨_, _, rfl, h⟩
theorem xgI_ex {lv : List xV} {i : Nat} {f : Int32 → Prop} (h : xgI lv i f) : ∃ x, xnth lv i = vI x ∧ f x := by
  revert h
  unfold xgI
  rcases xnth lv i with x | x | _ | q <;> intro h <;> first | exact h.elim | exact ⟨_, rfl, h⟩
theorem xgL_ex {lv : List xV} {i : Nat} {f : Int64 → Prop} (h : xgL lv i f) : ∃ x, xnth lv i = vL x ∧ f x := by
  revert h
  unfold xgL
  rcases xnth lv i with x | x | _ | q <;> intro h <;> first | exact h.elim | exact ⟨_, rfl, h⟩
theorem xgR_ex {lv : List xV} {i : Nat} {f : xI → Prop} (h : xgR lv i f) : ∃ x, xnth lv i = vR x ∧ f x := by
  revert h
  unfold xgR
  rcases xnth lv i with x | x | _ | q <;> intro h <;> first | exact h.elim | exact ⟨_, rfl, h⟩
theorem xcI_ex {c : xV} {f : Int32 → Prop} (h : xcI c f) : ∃ x, c = vI x ∧ f x := by
  unfold xcI at h
  rcases c with x | x | _ | q <;> first | exact h.elim | exact ⟨_, rfl, h⟩
theorem xcL_ex {c : xV} {f : Int64 → Prop} (h : xcL c f) : ∃ x, c = vL x ∧ f x := by
  unfold xcL at h
  rcases c with x | x | _ | q <;> first | exact h.elim | exact ⟨_, rfl, h⟩
theorem xax_ex {q : xI} {t : Nat} {f : Nat → Prop} (h : xax q t f) : ∃ n, xarr q = some (t, n) ∧ f n := by
  unfold xax at h
  split at h
  · rename_i t' n e
    cases hb : Nat.beq t' t with
    | false => rw [hb] at h; exact h.elim
    | true => rw [hb] at h; exact ⟨n, by rw [e, Nat.eq_of_beq_eq_true hb], h⟩
  · exact h.elim
theorem xro_ex {q : xI} {t : Nat} {f : Prop} (h : xro q t f) : (∃ fs, xobj q = some (t, fs)) ∧ f := by
  unfold xro at h
  split at h
  · rename_i t' fs e
    cases hb : Nat.beq t' t with
    | false => rw [hb] at h; exact h.elim
    | true => rw [hb] at h; exact ⟨⟨fs, by rw [e, Nat.eq_of_beq_eq_true hb]⟩, h⟩
  · exact h.elim
theorem xif8_ex {l : List xV} {f : Prop} (h : xif8 l f) : xcats l ≤ 8 ∧ f := by
  unfold xif8 at h
  cases hb : Nat.ble (xcats l) 8 with
  | false => rw [hb] at h; exact h.elim
  | true => rw [hb] at h; exact ⟨Nat.le_of_ble_eq_true hb, h⟩
theorem xifv_ex {l : List xV} {D : xD} {f : Prop} (h : xifv l D f) : xcats l ≤ 8 ∧ D.2.2.1 ≤ 18 ∧ f := by
  unfold xifv at h
  cases hb : Nat.ble (xcats l) 8 with
  | false => rw [hb] at h; exact h.elim
  | true =>
    rw [hb] at h
    cases hc : Nat.ble D.2.2.1 18 with
    | false => simp only [hc] at h
    | true => simp only [hc] at h; exact ⟨Nat.le_of_ble_eq_true hb, Nat.le_of_ble_eq_true hc, h⟩
theorem xif26_ex {l : List xV} {D : xD} {f : Prop} (h : xif26 l D f) : xcats l + D.2.2.1 ≤ 26 ∧ f := by
  unfold xif26 at h
  cases hb : Nat.ble (xcats l + D.2.2.1) 26 with
  | false => rw [hb] at h; exact h.elim
  | true => rw [hb] at h; exact ⟨Nat.le_of_ble_eq_true hb, h⟩
theorem xcats_eq (ad : xI → Nat) (l : List xV) : ((l.map (xrv ad)).map fun v => v.category).sum = xcats l := by
  induction l with
  | nil => rfl
  | cons v l ih =>
    rw [List.map_cons, List.map_cons, List.sum_cons, ih]
    rcases v with x | x | _ | q <;> rfl
theorem xfind_ex {l : List (Nat × Nat × xD)} {i : Nat} {f : xD → Prop} (h : xfind l i f) : ∃ q r, l.drop i = q :: r ∧ f q.2.2 := by
  induction l generalizing i with
  | nil => unfold xfind at h; exact h.elim
  | cons a l ih =>
    cases i with
    | zero => exact ⟨a, l, rfl, h⟩
    | succ i => exact ih h
theorem xdrop_mem {α : Type} {l : List α} {i : Nat} {q : α} {r : List α} (h : l.drop i = q :: r) : q ∈ l := List.mem_of_mem_drop (by rw [h]; exact List.mem_cons_self)
theorem xargs_ex : ∀ (n : Nat) (st acc : List xV) (f : List xV → List xV → Prop), xargs n st acc f → ∃ B s', st = B.reverse ++ s' ∧ B.length = n ∧ f (B ++ acc) s'
  | 0, st, acc, f, h => ⟨[], st, rfl, rfl, h⟩
  | n + 1, [], acc, f, h => h.elim
  | n + 1, v :: r, acc, f, h => by
    obtain ⟨B, s', e1, e2, e3⟩ := xargs_ex n r (v :: acc) f h
    refine ⟨B ++ [v], s', ?_, by simp [e2], by simpa using e3⟩
    rw [e1]
    simp
theorem xoks_app {b0 : Bool} {a b : List xV} (h : xoks b0 (a ++ b)) : xoks b0 a ∧ xoks b0 b := by
  induction a with
  | nil => exact ⟨trivial, h⟩
  | cons v a ih => exact ⟨⟨h.1, (ih h.2).1⟩, (ih h.2).2⟩
theorem xoks_mem {b0 : Bool} {a : List xV} (h : xoks b0 a) : ∀ v ∈ a, xvok b0 v := by
  induction a with
  | nil => intro v hv; cases hv
  | cons w a ih =>
    intro v hv
    rcases List.mem_cons.mp hv with rfl | hv
    · exact h.1
    · exact ih h.2 v hv
