section
variable {p : Program} {l : Launch} {e : Env} {R : Room} {s : State} {m : MethodId} {args : Array Value} {below : List Frame} {meth : Method} {c : Code} {H : Heap} {locs : List Loc} {QS : State → Prop}
variable {pc : Nat} {ls : Array Slot} {rest st0 : List Value} {a : Array Value} {H0 : Heap}
theorem xroom {st : List Value} {W : Nat} (h : (st.map fun v => v.category).sum ≤ W) : 2 * (F0 m pc ls rest).monitorRoom + (st.map fun v => v.category).sum ≤ W := by
  show 2 * 0 + _ ≤ W
  omega
/-- a static call, with any stack below it for which there is room -/
theorem xrunS {y : MethodName} {bytes cc : ByteArray} {maxL nL n index W : Nat} {ret : Option FieldType} {ws ws' : List Cond} {rm : Room} {mc ms cells slots : Nat} {Pc : Array Value → State → Prop} {Qc : Array Value → State → Outcome → State → Prop} {free : Addr → Prop} {Ts : List Cond} {own : String} {As rest : List Value} {g : JFrame}
    (S : CallFix p m c cc nL s args Ts own) (hM : Met l y ws rm Pc Qc mc ms free) (ht : ∀ w ∈ Ts, w.before args s = true) (hGo : GoodIn Ts ws) (hws : ws = Cond.code y bytes maxL ret :: ws') (hrc : rm.cells = mc) (hrs : rm.slots = ms) (hini : (Cond.initialized y.cls).before args s = true) (hli : (Cond.methodLink own index y).before args s = true)
    (hd : y.cls ≠ "java/lang/invoke/MethodHandle" ∧ y.cls ≠ "java/lang/invoke/VarHandle" ∧ (parseMethodDescriptor y.desc).map (fun d => d.parameters.length) = some n) (hfr : rm.frames + 1 ≤ R.frames) (hlo : W + (maxL + 11) + rm.locals ≤ R.locals) (hstt : (Cond.static y).before args s = true) (hp : PreS s H Pc As)
    (hg : g.method = m) (hn : As.length = n) (hsize : g.locals.size = nL) (hstack : g.stack = As.reverse ++ rest) (hW : 2 * g.monitorRoom + (rest.map fun v => v.category).sum ≤ W) (hdg : decode cc g.pc = .ok (.invokestatic index, 3)) (hf : cells + mc ≤ R.cells ∧ slots + ms ≤ R.slots) :
    va_Run p l e R s m args below meth c H locs cells slots mc ms g rest (Qc As.toArray) (free) := by
  have hc : Cond.code y bytes maxL ret ∈ ws := by rw [hws]; exact List.mem_cons_self
  have hK : Back l R p e below s args y 3 W (PreOf R mc ms Pc) (PostOf Qc mc ms free) := back_of (bytes := bytes) (maxL := maxL) (ret := ret) hM hp.1 hrc hrs hfr hlo (pay_in ht hGo) hc (fun a' U hW => word_at hW (Or.inl (by first | rfl | simp [Cond.onTables, Cond.keeps, Cond.steady])) hini)
  obtain ⟨hx, hb, hml, ho, -⟩ := S
  intro T hT X
  obtain ⟨v, vm₁, ⟨U', l2, c2, s2⟩, hW₁, X', ⟨g', mk, t, L, e1, e2, hq, h1, hL, h2, h3⟩, st⟩ := callS X hx (bytes := bytes) (maxL := maxL) (ret := ret) ho hli hstt hini (ht _ (hGo _ hc).1) ⟨hd.1, hd.2.1⟩ hK hg (hsize.trans hml.symm) (argsL := As) (rest := rest) (fun sig h => by
    have h2 := hd.2.2
    rw [h] at h2
    have h2 : sig.parameters.length = n := by simpa using h2
    rw [hn, h2]) hstack hW (by rw [hb]; exact hdg)
    (fun vm₁ hW₁ => ⟨hf.1, hf.2, hp.2 (T.setVm vm₁) hT hW₁⟩)
  dsimp only [Pt.U, Pt.locs, Pt.cells, Pt.slots] at X' e1 e2 h1 h2 h3 st
  subst h1; subst h2; subst h3
  exact ⟨v, (T.setVm vm₁).calling g' mk As.toArray, t, U', L, hT, X', hL, e1, e2, hq, st⟩
/-- behind a call by a small contract -/
theorem xcall_go {G : xG} {Q : xP} {A : Nat → Prop} {nc ns : Nat} (hA : ∀ q, xA G q → A q) (hr : va_Run p l e R s m args below meth c H locs nc ns 0 0 (F0 m pc ls st0) rest (xQc G Q a) (xA G)) (hS : va_S A H0 H locs)
    (kk : ∀ (r : Option xV) (μ' : xM) (H1 : Heap) (locs1 : List Loc), Q r μ' → (∀ v, r = some v → xvok G.2.2.2.2 v) → va_P G.2.2.1 vwCl (xwld G.2.2.2.2 G.2.1 G.2.2.2.1 μ') H1 → va_S A H0 H1 locs1 → W p l e R s m args below meth c H1 locs1 nc ns QS (F0 m (pc + 3) ls ((r.map (xrv G.2.1)).toList ++ rest))) : W p l e R s m args below meth c H locs nc ns QS (F0 m pc ls st0) := by
  intro T hT X
  obtain ⟨v, st₀, t, T', L, h0, X', hL, e1, e2, ⟨⟨r, μ', hq, hv, hok, hP1, -⟩, hz, hk⟩, st⟩ := hr T hT X
  cases hv
  rw [h0] at hz hk
  rw [← e1] at hP1
  obtain ⟨t2, a1, b1⟩ := kk r μ' T'.heap (locs ++ L) hq hok hP1
    ⟨Nat.le_trans hS.1 (by rw [e1]; exact hz), fun q h1 h2 => by rw [e1, hk q (Nat.lt_of_lt_of_le h1 hS.1) fun z => h2 (hA q z)]; exact hS.2.1 q h1 h2, fun q hq => by
      rcases List.mem_append.mp hq with h | h
      · exact hS.2.2 q h
      · exact hA _ (hL q h)⟩ T' rfl X'
  exact ⟨t2, st t2 a1, b1⟩
theorem xblind (G : xG) (As : List Value) (μ : xM) : FrameBlind (va_Pc As (xB G μ)) := by
  intro a U g mk q
  obtain ⟨h1, qP, qK⟩ := q
  exact ⟨h1, qP, va_K.moved (u := U) (U := U.calling g mk a) (Vm.Alike.refl U.vm) qK⟩

theorem xw_istore_n (hexec : p.tables.exec = Jvm.exec) {cc : ByteArray} (hb : c.code = cc) {ad : xI → Nat} {n i : Nat} {k : Fin 4} {lv : List xV} {x : Int32} {cells slots : Nat} (hl : xLv ad ls n lv) (hi : i < n) (hdg : decode cc pc = .ok (.istore_n k, 1)) (hk : k.val = i)
    (kk : ∀ ls' : Array Slot, xLv ad ls' n (xs1 lv i (vI x)) → W p l e R s m args below meth c H locs cells slots QS (F0 m (pc + 1) ls' rest)) : W p l e R s m args below meth c H locs cells slots QS (F0 m pc ls (.int x :: rest)) := by
  subst hk
  obtain ⟨ls', e', -⟩ := lv_store1 (l := []) (v := .int x) ⟨hl.1, hl.2.1, fun q hq => by cases hq⟩ hi rfl
  intro T hT X
  obtain ⟨t, a, b⟩ := kk ls' (xLv_s1 hl hi rfl rfl e') T hT X
  refine ⟨t, ?_, b⟩
  jvm_step X.here [X.here.top, ↓top_set X.here.top, hexec, hb, hdg, e']
  exact a
theorem xw_istore (hexec : p.tables.exec = Jvm.exec) {cc : ByteArray} (hb : c.code = cc) {ad : xI → Nat} {n i : Nat} {lv : List xV} {x : Int32} {cells slots : Nat} (hl : xLv ad ls n lv) (hi : i < n) (hdg : decode cc pc = .ok (.istore i, 2))
    (kk : ∀ ls' : Array Slot, xLv ad ls' n (xs1 lv i (vI x)) → W p l e R s m args below meth c H locs cells slots QS (F0 m (pc + 2) ls' rest)) : W p l e R s m args below meth c H locs cells slots QS (F0 m pc ls (.int x :: rest)) := by
  obtain ⟨ls', e', -⟩ := lv_store1 (l := []) (v := .int x) ⟨hl.1, hl.2.1, fun q hq => by cases hq⟩ hi rfl
  intro T hT X
  obtain ⟨t, a, b⟩ := kk ls' (xLv_s1 hl hi rfl rfl e') T hT X
  refine ⟨t, ?_, b⟩
  jvm_step X.here [X.here.top, ↓top_set X.here.top, hexec, hb, hdg, e']
  exact a
theorem xw_lstore_n (hexec : p.tables.exec = Jvm.exec) {cc : ByteArray} (hb : c.code = cc) {ad : xI → Nat} {n i : Nat} {k : Fin 4} {lv : List xV} {x : Int64} {cells slots : Nat} (hl : xLv ad ls n lv) (hi : i + 1 < n) (hdg : decode cc pc = .ok (.lstore_n k, 1)) (hk : k.val = i)
    (kk : ∀ ls' : Array Slot, xLv ad ls' n (xs2 lv i (vL x)) → W p l e R s m args below meth c H locs cells slots QS (F0 m (pc + 1) ls' rest)) : W p l e R s m args below meth c H locs cells slots QS (F0 m pc ls (.long x :: rest)) := by
  subst hk
  obtain ⟨ls', e', -⟩ := lv_store2 (l := []) (v := .long x) ⟨hl.1, hl.2.1, fun q hq => by cases hq⟩ hi rfl
  intro T hT X
  obtain ⟨t, a, b⟩ := kk ls' (xLv_s2 hl hi rfl rfl e') T hT X
  refine ⟨t, ?_, b⟩
  jvm_step X.here [X.here.top, ↓top_set X.here.top, hexec, hb, hdg, e']
  exact a
theorem xw_lstore (hexec : p.tables.exec = Jvm.exec) {cc : ByteArray} (hb : c.code = cc) {ad : xI → Nat} {n i : Nat} {lv : List xV} {x : Int64} {cells slots : Nat} (hl : xLv ad ls n lv) (hi : i + 1 < n) (hdg : decode cc pc = .ok (.lstore i, 2))
    (kk : ∀ ls' : Array Slot, xLv ad ls' n (xs2 lv i (vL x)) → W p l e R s m args below meth c H locs cells slots QS (F0 m (pc + 2) ls' rest)) : W p l e R s m args below meth c H locs cells slots QS (F0 m pc ls (.long x :: rest)) := by
  obtain ⟨ls', e', -⟩ := lv_store2 (l := []) (v := .long x) ⟨hl.1, hl.2.1, fun q hq => by cases hq⟩ hi rfl
  intro T hT X
  obtain ⟨t, a, b⟩ := kk ls' (xLv_s2 hl hi rfl rfl e') T hT X
  refine ⟨t, ?_, b⟩
  jvm_step X.here [X.here.top, ↓top_set X.here.top, hexec, hb, hdg, e']
  exact a
theorem xw_astore_n (hexec : p.tables.exec = Jvm.exec) {cc : ByteArray} (hb : c.code = cc) {ad : xI → Nat} {n i : Nat} {k : Fin 4} {lv : List xV} {x : xI} {cells slots : Nat} (hl : xLv ad ls n lv) (hi : i < n) (hdg : decode cc pc = .ok (.astore_n k, 1)) (hk : k.val = i)
    (kk : ∀ ls' : Array Slot, xLv ad ls' n (xs1 lv i (vR x)) → W p l e R s m args below meth c H locs cells slots QS (F0 m (pc + 1) ls' rest)) : W p l e R s m args below meth c H locs cells slots QS (F0 m pc ls (.ref (ad x) :: rest)) := by
  subst hk
  obtain ⟨ls', e', -⟩ := lv_store1 (l := []) (v := .ref (ad x)) ⟨hl.1, hl.2.1, fun q hq => by cases hq⟩ hi rfl
  intro T hT X
  obtain ⟨t, a, b⟩ := kk ls' (xLv_s1 hl hi rfl rfl e') T hT X
  refine ⟨t, ?_, b⟩
  jvm_step X.here [X.here.top, ↓top_set X.here.top, hexec, hb, hdg, e', Value.isRef]
  exact a
theorem xw_astore (hexec : p.tables.exec = Jvm.exec) {cc : ByteArray} (hb : c.code = cc) {ad : xI → Nat} {n i : Nat} {lv : List xV} {x : xI} {cells slots : Nat} (hl : xLv ad ls n lv) (hi : i < n) (hdg : decode cc pc = .ok (.astore i, 2))
    (kk : ∀ ls' : Array Slot, xLv ad ls' n (xs1 lv i (vR x)) → W p l e R s m args below meth c H locs cells slots QS (F0 m (pc + 2) ls' rest)) : W p l e R s m args below meth c H locs cells slots QS (F0 m pc ls (.ref (ad x) :: rest)) := by
  obtain ⟨ls', e', -⟩ := lv_store1 (l := []) (v := .ref (ad x)) ⟨hl.1, hl.2.1, fun q hq => by cases hq⟩ hi rfl
  intro T hT X
  obtain ⟨t, a, b⟩ := kk ls' (xLv_s1 hl hi rfl rfl e') T hT X
  refine ⟨t, ?_, b⟩
  jvm_step X.here [X.here.top, ↓top_set X.here.top, hexec, hb, hdg, e', Value.isRef]
  exact a
theorem xw_iinc (hexec : p.tables.exec = Jvm.exec) {cc : ByteArray} (hb : c.code = cc) {ad : xI → Nat} {n i : Nat} {lv : List xV} {x v : Int32} {q : Int} {cells slots : Nat} (hl : xLv ad ls n lv) (hi : i < n) (hdg : decode cc pc = .ok (.iinc i q, 3)) (hx : xnth lv i = vI x) (hv : Int32.ofInt q = v)
    (kk : ∀ ls' : Array Slot, xLv ad ls' n (xs1 lv i (vI (x + v))) → W p l e R s m args below meth c H locs cells slots QS (F0 m (pc + 3) ls' rest)) : W p l e R s m args below meth c H locs cells slots QS (F0 m pc ls rest) := by
  subst hv
  have hg := hl.2.2 i (by rw [hx]; intro z; cases z)
  rw [hx] at hg
  have hg : ls[i]? = some (.val (.int x)) := hg
  obtain ⟨ls', e', -⟩ := lv_store1 (l := []) (v := .int (x + Int32.ofInt q)) ⟨hl.1, hl.2.1, fun q hq => by cases hq⟩ hi rfl
  intro T hT X
  obtain ⟨t, a, b⟩ := kk ls' (xLv_s1 hl hi rfl rfl e') T hT X
  refine ⟨t, ?_, b⟩
  jvm_step X.here [X.here.top, ↓top_set X.here.top, hexec, hb, hdg, hg, e']
  exact a
end
-- switches
theorem xnat_le : 0 + (nativeFrameWords "java/lang/System" "arraycopy" 5 + 11) ≤ 37 := by decide +kernel
theorem xtgts_get {tb : List xT} {pc : Nat} : ∀ (os : List Int) (ts : List Nat), xtgts tb pc os ts = true → os.length = ts.length ∧ ∀ (j t : Nat), ts[j]? = some t → ∃ o, os[j]? = some o ∧ xtgt tb pc o t = true
  | [], [], _ => ⟨rfl, fun j t h => by simp at h⟩
  | [], _ :: _, h => by simp [xtgts] at h
  | _ :: _, [], h => by simp [xtgts] at h
  | o :: os, t :: ts, h => by
    simp only [xtgts, Bool.and_eq_true] at h
    obtain ⟨e, f⟩ := xtgts_get os ts h.2
    refine ⟨by simp [e], fun j t' hj => ?_⟩
    cases j with
    | zero =>
      have : t = t' := by simpa using hj
      subst this
      exact ⟨o, rfl, h.1⟩
    | succ j => exact f j t' (by simpa using hj)
theorem xtsw_ex {x : Int32} {kt : Nat → Prop} {kd : Prop} : ∀ (ts : List Nat) (lo : Int), xtsw x lo ts kt kd → (∃ (j t : Nat), ts[j]? = some t ∧ x = Int32.ofInt (lo + (j : Int)) ∧ kt t) ∨ ((∀ j, j < ts.length → ¬ x = Int32.ofInt (lo + (j : Int))) ∧ kd)
  | [], lo, h => Or.inr ⟨fun j hj => by simp at hj, h⟩
  | t :: ts, lo, h => by
    by_cases hx : x = Int32.ofInt lo
    · exact Or.inl ⟨0, t, by simp, by simpa using hx, h.1 hx⟩
    · rcases xtsw_ex ts (lo + 1) (h.2 hx) with ⟨j, t', e1, e2, e3⟩ | ⟨e1, e2⟩
      · exact Or.inl ⟨j + 1, t', by simpa using e1, by rw [e2]; congr 1; omega, e3⟩
      · refine Or.inr ⟨fun j hj => ?_, e2⟩
        cases j with
        | zero => simpa using hx
        | succ j =>
          have := e1 j (by simpa using hj)
          rwa [show lo + 1 + (j : Int) = lo + ((j + 1 : Nat) : Int) by omega] at this
theorem xofI {x : Int32} {z : Int} (h : x = Int32.ofInt z) (h1 : -2147483648 ≤ z) (h2 : z ≤ 2147483647) : x.toInt = z := by
  subst h
  exact Int32.toInt_ofInt_of_le (by simpa using h1) (by simpa using (by omega : z < 2147483648))
theorem xlsw_ex {x : Int32} {tb : List xT} {pc : Nat} {d : Int} {kt : Nat → Prop} {kd : Prop} : ∀ (ps : List (Int × Int)) (ts : List Nat), xtgts tb pc (ps.map (·.2)) ts = true → xkeys ps = true → xlsw x ps ts kt kd → (∃ o t, Op.lookupswitch.offset ps d x.toInt = o ∧ xtgt tb pc o t = true ∧ kt t) ∨ (Op.lookupswitch.offset ps d x.toInt = d ∧ kd)
  | [], [], _, _, h => Or.inr ⟨by simp [Op.lookupswitch.offset], h⟩
  | [], _ :: _, h, _, _ => by simp [xtgts] at h
  | (a, o) :: ps, [], h, _, _ => by simp [xtgts] at h
  | (a, o) :: ps, t :: ts, hg, hk, h => by
    simp only [List.map_cons, xtgts, Bool.and_eq_true] at hg
    simp only [xkeys, Bool.and_eq_true, decide_eq_true_eq] at hk
    by_cases hx : x = Int32.ofInt a
    · refine Or.inl ⟨o, t, ?_, hg.1, h.1 hx⟩
      rw [xofI hx hk.1.1 hk.1.2]
      simp [Op.lookupswitch.offset]
    · have hne : ¬ x = Int32.ofInt a := hx
      have hka : (Int32.ofInt a).toInt = a := xofI rfl hk.1.1 hk.1.2
      rw [lv_osw hne hka]
      exact xlsw_ex ps ts hg.2 hk.2 (h.2 hx)
-- cells
theorem xfld_ex {q : xI} {ci k : Nat} {fi : Prop} {fr : xI → Prop} (h : xfld q ci k fi fr) : ∃ fs, xobj q = some (ci, fs) ∧ ((fs[k]? = some none ∧ fi) ∨ ∃ r, fs[k]? = some (some r) ∧ fr r) := by
  unfold xfld at h
  split at h
  · rename_i ci' fs e
    cases hb : Nat.beq ci' ci with
    | false => rw [hb] at h; exact h.elim
    | true =>
      rw [hb] at h
      refine ⟨fs, by rw [e, Nat.eq_of_beq_eq_true hb], ?_⟩
      simp only at h
      split at h
      · exact Or.inl ⟨by assumption, h⟩
      · rename_i r e2
        exact Or.inr ⟨r, e2, h⟩
      · exact h.elim
  · exact h.elim
theorem xcell_obj {ad : xI → Nat} {cA : Nat → ClassId} {μ : xM} {q : xI} {ci : Nat} {fs : List (Option xI)} (h : xobj q = some (ci, fs)) : xcell ad cA μ q = .inr (ci, xfs ad (μ q) 0 fs) := by
  unfold xcell
  rw [h]
theorem xarr_obj {q : xI} {t n : Nat} (h : xarr q = some (t, n)) : xobj q = none := by
  unfold xarr at h
  split at h
  · rfl
  · cases h
theorem xcell_arr {ad : xI → Nat} {cA : Nat → ClassId} {μ : xM} {q : xI} {t n : Nat} (h : xarr q = some (t, n)) : xcell ad cA μ q = .inl (cA t, n, .inl (μ q)) := by
  unfold xcell
  rw [xarr_obj h]
  simp only [h]
theorem xst_self (μ : xM) (q : xI) (k : Nat) (v : Int32) : xst μ q k v q = upd (μ q) k v := by simp [xst]
theorem xst_ne (μ : xM) {p q : xI} (k : Nat) (v : Int32) (h : p ≠ q) : xst μ q k v p = μ p := by simp [xst, h]
theorem xwld_put {b : Bool} {ad : xI → Nat} {cA : Nat → ClassId} {μ : xM} {n : Nat} {q : xI} {ci k : Nat} {fs : List (Option xI)} {x : Int32} (hn : (xids b)[n]? = some q) (h : xobj q = some (ci, fs)) (hk : fs[k]? = some none) : (xwld b ad cA μ).set n (ad q, .inr (ci, (xfs ad (μ q) 0 fs).set k (.int x))) = xwld b ad cA (xst μ q k x) := by
  have e : (.inr (ci, (xfs ad (μ q) 0 fs).set k (.int x)) : va_E) = xcell ad cA (xst μ q k x) q := by
    rw [xcell_obj h, xst_self, xfs_set fs 0 k hk, Nat.zero_add]
  rw [e]
  exact xwld_set hn (fun p hp => (xst_ne μ k x hp).symm)
theorem xwld_arr {b : Bool} {ad : xI → Nat} {cA : Nat → ClassId} {μ : xM} {n : Nat} {q : xI} {t z k : Nat} {x : Int32} (hn : (xids b)[n]? = some q) (h : xarr q = some (t, z)) : (xwld b ad cA μ).set n (ad q, .inl (cA t, z, .inl (upd (μ q) k x))) = xwld b ad cA (xst μ q k x) := by
  have e : (.inl (cA t, z, .inl (upd (μ q) k x)) : va_E) = xcell ad cA (xst μ q k x) q := by
    rw [xcell_arr h, xst_self]
  rw [e]
  exact xwld_set hn (fun p hp => (xst_ne μ k x hp).symm)
theorem xwld_cpy {b : Bool} {ad : xI → Nat} {cA : Nat → ClassId} {μ : xM} {n : Nat} {a q : xI} {t z sp dp k : Nat} (hn : (xids b)[n]? = some q) (h : xarr q = some (t, z)) : (xwld b ad cA μ).set n (ad q, .inl (cA t, z, .inl (va_cpy (μ a) (μ q) sp dp k))) = xwld b ad cA (xcp μ a q sp dp k) := by
  have e : (.inl (cA t, z, .inl (va_cpy (μ a) (μ q) sp dp k)) : va_E) = xcell ad cA (xcp μ a q sp dp k) q := by
    rw [xcell_arr h]
    simp [xcp]
  rw [e]
  exact xwld_set hn (fun p hp => by simp [xcp, hp])
theorem xal_ex {ad : xI → Nat} {cA : Nat → ClassId} {μ : xM} {q : xI} {f : Nat → Prop} (h : xal q f) : ∃ (t : Nat) (ty : FieldType) (x : vp_A), xcell ad cA μ q = .inl (cA t, x) ∧ (xtys cA)[t]? = some (cA t, ty) ∧ f x.1 := by
  unfold xal at h
  split at h
  · rename_i t n e
    have ht : t = 0 := by
      unfold xarr at e
      split at e <;> cases e <;> rfl
    subst ht
    exact ⟨0, .int, (n, .inl (μ q)), xcell_arr e, rfl, h⟩
  · split at h
    · exact ⟨1, .object "BoxedProofs$State", (5, _), rfl, rfl, h⟩
    · exact h.elim
theorem xret_ex {ad : xI → Nat} {rt : Option FieldType} {rest : List xV} {k : List xV → xM → Prop} {r : Option xV} {μ' : xM} (h : xret rt rest k r μ') : ∃ st', k st' μ' ∧ (r.map (xrv ad)).toList ++ rest.map (xrv ad) = st'.map (xrv ad) ∧ ∀ b : Bool, xoks b rest → (∀ v, r = some v → xvok b v) → xoks b st' := by
  unfold xret at h
  split at h
  · rcases r with _ | v
    · exact ⟨rest, h, rfl, fun _ a _ => a⟩
    · exact (show False from h).elim
  · rcases r with _ | x | x | _ | q <;> first | exact (show False from h).elim | exact ⟨_, h, rfl, fun _ a b => ⟨b _ rfl, a⟩⟩
  · rcases r with _ | x | x | _ | q <;> first | exact (show False from h).elim | exact ⟨_, h, rfl, fun _ a b => ⟨b _ rfl, a⟩⟩
  · rcases r with _ | x | x | _ | q <;> first | exact (show False from h).elim | exact ⟨_, h, rfl, fun _ a b => ⟨b _ rfl, a⟩⟩

