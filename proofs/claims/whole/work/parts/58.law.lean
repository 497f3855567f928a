/-! THE CLAIM OUT OF ONE WALK OF THE LAW'S BODY. Your part is whole_start (and what it stands on); all else here is the same for every law, but numbers. -/
def R_law : String := "BoxedProofsLaw"
def lw_P (b : Addr) (xs : List Int32) (args : Array Value) (s : State) : Prop := args = #[.ref b] ∧ s.IntsAt b xs ∧ xs.length ≤ 2048 ∧ (Jvm.Cond.and given_1 narrow_1).before args s = true
def lw_Q (_ : Array Value) (s : State) (o : Outcome) (t : State) : Prop := o = .returned (some (.int 1)) ∧ Framed s o t [] 600000 7302250
def lw_Z (below : List Frame) (a : Array Value) (s : State) : State → Prop := fun t => ∃ o, t.status = .running ∧ Ended t below o ∧ lw_Q a s o t
/-- the law's own end, with 1 on the stack, nothing written that was there before, its room as the claim has it -/
theorem lw_ret {p : Program} {l : Launch} {e : Env} {s : State} {m : MethodId} {below : List Frame} {meth : Method} {c : Code} {b : Nat} (hx : p.tables.exec = Jvm.exec) (hb : c.code = code) (hr : meth.sig.returnType = ret) (hlocks : meth.locks = false) {pc : Nat} {H : Heap} {ls : Array Slot} (hdg : decode code pc = .ok (.ireturn, 1)) : W p l e room_1 s m #[Value.ref b] below meth c H [] 600000 7302250 (lw_Z below #[Value.ref b] s) (F0 m pc ls [.int 1]) := by
  intro T hT X
  obtain ⟨fs, hret, hrun, hended, hW, hframe⟩ := X.leave (v := some (.int 1)) (hlocks := hlocks) (fun h => by rw [hr] at h; cases h)
  have hmeth' : T.vm.method? m = some meth := X.method'
  refine ⟨T.setFrames fs, ?_, .returned (some (.int 1)), hrun, hended, rfl, ⟨_, rfl⟩, hW, hframe⟩
  jvm_step X.here [X.here.top, hx, hb, hdg, hmeth', hr, ret, narrow_b1]
  (try refine ⟨rfl, ?_⟩); (try refine ⟨rfl, ?_⟩)
  first | (intro acts; rw [hret _ acts rfl rfl rfl]) | rw [hret _ _ rfl rfl rfl]
  exact Steps.refl _
/-- what holds at the law's entry: the machine, the code, the tables' words (any of lw_tbl by 'hts w (by decide +kernel)'), the script of L ints xs at the cell b, what the Statement gives of the start (any of its parts by flat_of_before) -/
def lw_At (p : Program) (s : State) (m : MethodId) (meth : Method) (c : Code) (b L : Nat) (xs : Nat → Int32) : Prop :=
  p.tables.exec = Jvm.exec ∧ c.code = code ∧ meth.sig.returnType = ret ∧ c.maxLocals = 4 ∧ s.vm.findClass R_law = some m.cls ∧ (∀ w ∈ lw_tbl, w.before #[Value.ref b] s = true) ∧ va_X b L xs s s.heap ∧ b < s.heap.size ∧ meth.locks = false ∧ (Jvm.Cond.and given_1 narrow_1).before #[Value.ref b] s = true
/-! the law's loop: a place of it, at a memory; calls of the two objects -/
def LW (p : Program) (l : Launch) (e : Env) (s : State) (m : MethodId) (below : List Frame) (meth : Method) (c : Code) (b : Nat) (ad : xI → Nat) (D : va_G) (cA : Nat → ClassId) (x : Int32) (pc : Nat) (st : List Value) (μ : xM) : Prop :=
  ∀ (H : Heap) (locs : List Loc) (ls : Array Slot), va_P D vwCl (xwld ad cA μ) H → va_S (fun q => s.heap.size ≤ q) s.heap H locs → lv_has ls 4 [(3, .int x), (2, .ref (ad (9, 0, 0))), (1, .ref (ad (8, 0, 0))), (0, .ref b)] →
    W p l e room_1 s m #[Value.ref b] below meth c H locs 600000 7302250 (lw_Z below #[Value.ref b] s) (F0 m pc ls st)
def LC (p : Program) (l : Launch) (s : State) (m : MethodId) (meth : Method) (c : Code) (b L : Nat) (xs : Nat → Int32) (ad : xI → Nat) (D : va_G) (cA : Nat → ClassId) : Prop :=
  lw_At p s m meth c b L xs ∧ L ≤ 2048 ∧ xGok (l, ad, D, cA) ∧ va_K D vwCl (xtys cA) s ∧ ∀ q, xA ad q → s.heap.size ≤ q
/-- the words of a call in the law -/
def LF (q : xI) (idx : Nat) (D : xD) (n : Nat) : Prop := xdF D ∧ D.2.2.2.2 = n ∧ xin (Cond.methodLink R_law idx D.1) ∧ xin (Cond.instanceMethod D.1) ∧ xin (Cond.selects D.1.cls D.1 D.1) ∧ ((q = (8, 0, 0) ∧ D.1.cls = RX8) ∨ (q = (9, 0, 0) ∧ D.1.cls = RX9))
section
variable {p : Program} {l : Launch} {e : Env} {s : State} {m : MethodId} {below : List Frame} {meth : Method} {c : Code} {b L : Nat} {xs : Nat → Int32} {ad : xI → Nat} {D : va_G} {cA : Nat → ClassId} {x : Int32} {pc : Nat} {st : List Value} {μ : xM}
theorem lw_go {R : Room} {args : Array Value} {H H0 : Heap} {locs : List Loc} {QS : State → Prop} {ls : Array Slot} {rest st0 : List Value} {a : Array Value} {cells slots : Nat} {G : xG} {Q : xP} {A : Nat → Prop} (hA : ∀ q, xA G.2.1 q → A q) (hr : va_Run p l e R s m args below meth c H locs cells slots 0 0 (F0 m pc ls st0) rest (xQc G Q a) (xA G.2.1)) (hS : va_S A H0 H locs)
    (kk : ∀ (r : Option xV) (μ' : xM) (H1 : Heap) (locs1 : List Loc), Q r μ' → va_P G.2.2.1 vwCl (xwld G.2.1 G.2.2.2 μ') H1 → va_S A H0 H1 locs1 → W p l e R s m args below meth c H1 locs1 cells slots QS (F0 m (pc + 3) ls ((r.map (xrv G.2.1)).toList ++ rest))) : W p l e R s m args below meth c H locs cells slots QS (F0 m pc ls st0) := by
  intro T hT X
  obtain ⟨v, st₀, t, T', L, h0, X', hL, e1, e2, ⟨⟨r, μ', hq, hv, hok, hP1, -⟩, hz, hk⟩, st⟩ := hr T hT X
  cases hv
  rw [h0] at hz hk
  rw [← e1] at hP1
  obtain ⟨t2, a1, b1⟩ := kk r μ' T'.heap (locs ++ L) hq hP1
    ⟨Nat.le_trans hS.1 (by rw [e1]; exact hz), fun q h1 h2 => by rw [e1, hk q (Nat.lt_of_lt_of_le h1 hS.1) fun z => h2 (hA q z)]; exact hS.2.1 q h1 h2, fun q hq => by
      rcases List.mem_append.mp hq with h | h
      · exact hS.2.2 q h
      · exact hA _ (hL q h)⟩ T' rfl X'
  exact ⟨t2, st t2 a1, b1⟩
theorem lw_inv (C0 : LC p l s m meth c b L xs ad D cA) {M : xD} {q : xI} {As : List xV} {Q : xP} {idx : Nat} (hF : LF q idx M As.length) (hM : MW (l, ad, D, cA) 8 M (vR q :: As) μ Q) (hv : ∀ v ∈ As, xvok v) (hst : (st.map fun v => v.category).sum ≤ 8) (hdec : decode code pc = .ok (.invokevirtual idx, 3))
    (kk : ∀ r μ', Q r μ' → LW p l e s m below meth c b ad D cA x (pc + 3) ((r.map (xrv ad)).toList ++ st) μ') : LW p l e s m below meth c b ad D cA x pc ((As.map (xrv ad)).reverse ++ .ref (ad q) :: st) μ := by
  intro H locs ls hP hS hl
  obtain ⟨⟨hx, hb, hr, hml, hown, hts, hX, hbl, hlocks, hgv⟩, hL, hG, hK, hA⟩ := C0
  obtain ⟨⟨f1, f2, f3, f4, f5, f6⟩, hn, w1, w2, w3, hq⟩ := hF
  have hok : xok q = true := by rcases hq with ⟨rfl, _⟩ | ⟨rfl, _⟩ <;> rfl
  obtain ⟨ci, fs, T, N, ho, hcl⟩ : ∃ ci fs T N, xobj q = some (ci, fs) ∧ vwCl[ci]? = some (M.1.cls, T, N) := by
    rcases hq with ⟨rfl, hc⟩ | ⟨rfl, hc⟩
    · exact ⟨_, _, _, _, rfl, by rw [hc]; rfl⟩
    · exact ⟨_, _, _, _, rfl, by rw [hc]; rfl⟩
  have hMet := hM hG (fun v hv' => by
    rcases List.mem_cons.mp hv' with rfl | hv'
    · exact hok
    · exact hv v hv')
  obtain ⟨n2, hn2, hw2⟩ := xwld_get (ad := ad) (cA := cA) μ hok
  rw [xcell_obj ho] at hw2
  have hgood : GoodIn lw_tbl (xws M) := by
    intro w hw
    rcases List.mem_cons.mp hw with rfl | hw
    · exact ⟨f1.1, xgood (xin_gw f1)⟩
    · exact ⟨(List.mem_filter.mp hw).1, xgood hw⟩
  refine lw_go (G := (l, ad, D, cA)) (Q := Q) hA (va_runV (As := As.map (xrv ad)) (rest := st) (b := ad q) ⟨hx, hb, hml, hown, hts⟩ hMet ⟨callB_of M.2.2.2.2 hts hgood rfl rfl rfl (hts _ f2.1) (hts _ w1.1) ⟨f3, f4, f5⟩ ⟨Nat.le_of_ble_eq_true rfl, by show 8 + (M.2.2.1 + 11) + 40 * 8 ≤ 368; omega⟩, hts _ w2.1, hts _ w3.1⟩ ⟨xblind (l, ad, D, cA) _ μ, va_recv hK hP (ci := ci) (q0 := n2) hcl hw2, fun U hU hW => ⟨rfl, by rw [hU]; exact hP, va_K.moved hW.alike hK⟩⟩ rfl (by rw [List.length_map]; exact hn.symm) hl.1 rfl (lv_room hst) hdec ⟨Nat.le_refl _, Nat.le_refl _⟩) hS (fun r1 μ' H1 locs1 hq1 hP1 hS1 => ?_)
  exact kk r1 μ' hq1 H1 locs1 ls hP1 hS1 hl
theorem lw_c (C0 : LC p l s m meth c b L xs ad D cA) (hd : decode code pc = .ok (.aload_n 1, 1)) (k : LW p l e s m below meth c b ad D cA x (pc + 1) (.ref (ad (8, 0, 0)) :: st) μ) : LW p l e s m below meth c b ad D cA x pc st μ :=
  fun H locs ls hP hS hl => lv_aload_n C0.1.1 C0.1.2.1 hd rfl (lv_at hl 2 rfl) (k H locs ls hP hS hl)
theorem lw_m (C0 : LC p l s m meth c b L xs ad D cA) (hd : decode code pc = .ok (.aload_n 2, 1)) (k : LW p l e s m below meth c b ad D cA x (pc + 1) (.ref (ad (9, 0, 0)) :: st) μ) : LW p l e s m below meth c b ad D cA x pc st μ :=
  fun H locs ls hP hS hl => lv_aload_n C0.1.1 C0.1.2.1 hd rfl (lv_at hl 1 rfl) (k H locs ls hP hS hl)
/-- the script's word at x + k -/
def lw_w (xs : Nat → Int32) (x : Int32) (k : Int32) : Int32 := xs (x + k).toNatClampNeg
theorem lw_arg (C0 : LC p l s m meth c b L xs ad D cA) (k : Int32) {n : Int} (hn : Int32.ofInt n = k) (hin : vp_in (x + k) L) (hd : decode code pc = .ok (.aload_n 0, 1) ∧ decode code (pc + 1) = .ok (.iload_n 3, 1) ∧ decode code (pc + 2) = .ok (.iconst n, 1) ∧ decode code (pc + 3) = .ok (.iadd, 1) ∧ decode code (pc + 4) = .ok (.iaload, 1))
    (kk : LW p l e s m below meth c b ad D cA x (pc + 5) (.int (lw_w xs x k) :: st) μ) : LW p l e s m below meth c b ad D cA x pc st μ := by
  intro H locs ls hP hS hl
  obtain ⟨hx, hb, hr, hml, hown, hts, hX, hbl, hlocks, hgv⟩ := C0.1
  obtain ⟨d0, d1, d2, d3, d4⟩ := hd
  refine lv_aload_n hx hb d0 rfl (lv_at hl 3 rfl) ?_
  refine lv_iload_n hx hb d1 rfl (lv_at hl 0 rfl) ?_
  refine lv_iconst (v := k) hx hb d2 hn ?_
  refine lv_iadd hx hb d3 ?_
  exact va_sld hx hb hX hbl (Nat.not_le.mpr hbl) hS hin d4 (kk H locs ls hP hS hl)
theorem lw_eq (C0 : LC p l s m meth c b L xs ad D cA) {y : Int32} {off : Int} (hd : decode code pc = .ok (.if_icmp .eq off, 3)) (ht : (pc : Int) + off = ((1095 : Nat) : Int)) (kk : LW p l e s m below meth c b ad D cA x 1095 st μ) : LW p l e s m below meth c b ad D cA x pc (.int y :: .int y :: st) μ :=
  fun H locs ls hP hS hl => lv_icmp_eq (tgt := 1095) C0.1.1 C0.1.2.1 hd ht (fun _ => kk H locs ls hP hS hl) (fun h => absurd rfl h)
theorem lw_eql (C0 : LC p l s m meth c b L xs ad D cA) {y : Int64} {off : Int} (hd : decode code pc = .ok (.lcmp, 1)) (hd2 : decode code (pc + 1) = .ok (.ifCond .eq off, 3)) (ht : ((pc + 1 : Nat) : Int) + off = ((1095 : Nat) : Int)) (kk : LW p l e s m below meth c b ad D cA x 1095 st μ) : LW p l e s m below meth c b ad D cA x pc (.long y :: .long y :: st) μ :=
  fun H locs ls hP hS hl => W.lcmp C0.1.1 C0.1.2.1 hd (lv_if_eq (tgt := 1095) C0.1.1 C0.1.2.1 hd2 ht (fun _ => kk H locs ls hP hS hl) (fun h => absurd (by unfold lg_cmp; simp) h))
/-- a call of both: they answer alike -/
theorem lw_case (C0 : LC p l s m meth c b L xs ad D cA) {M1 M2 : xD} {args : List xV} {i1 i2 : Nat} {off : Int} {pc1 pc2 : Nat} (h : simI (l, ad, D, cA) M1 M2 args) (hs : SIM μ) (hv : ∀ v ∈ args, xvok v)
    (f1 : LF (8, 0, 0) i1 M1 args.length) (f2 : LF (9, 0, 0) i2 M2 args.length) (d1 : decode code pc1 = .ok (.invokevirtual i1, 3)) (d2 : decode code pc2 = .ok (.invokevirtual i2, 3)) (d3 : decode code (pc2 + 3) = .ok (.if_icmp .eq off, 3)) (ht : ((pc2 + 3 : Nat) : Int) + off = ((1095 : Nat) : Int))
    (mid : ∀ (y : Int32) (μ : xM), LW p l e s m below meth c b ad D cA x pc2 ((args.map (xrv ad)).reverse ++ .ref (ad (9, 0, 0)) :: [.int y]) μ → LW p l e s m below meth c b ad D cA x (pc1 + 3) [.int y] μ)
    (kk : ∀ μ, SIM μ → LW p l e s m below meth c b ad D cA x 1095 [] μ) : LW p l e s m below meth c b ad D cA x pc1 ((args.map (xrv ad)).reverse ++ .ref (ad (8, 0, 0)) :: []) μ := by
  refine lw_inv C0 f1 (h μ hs) hv (Nat.zero_le _) d1 (fun r μ1 hr => ?_)
  obtain ⟨y, rfl, h2⟩ := hr
  refine mid y μ1 (lw_inv C0 f2 h2 hv (Nat.le_of_ble_eq_true rfl) d2 (fun r μ2 hr => ?_))
  obtain ⟨rfl, h3⟩ := hr
  exact lw_eq C0 d3 ht (kk μ2 h3)
theorem lw_caseL (C0 : LC p l s m meth c b L xs ad D cA) {M1 M2 : xD} {args : List xV} {i1 i2 : Nat} {off : Int} {pc1 pc2 : Nat} (h : simL (l, ad, D, cA) M1 M2 args) (hs : SIM μ) (hv : ∀ v ∈ args, xvok v)
    (f1 : LF (8, 0, 0) i1 M1 args.length) (f2 : LF (9, 0, 0) i2 M2 args.length) (d1 : decode code pc1 = .ok (.invokevirtual i1, 3)) (d2 : decode code pc2 = .ok (.invokevirtual i2, 3)) (d3 : decode code (pc2 + 3) = .ok (.lcmp, 1)) (d4 : decode code (pc2 + 3 + 1) = .ok (.ifCond .eq off, 3)) (ht : ((pc2 + 3 + 1 : Nat) : Int) + off = ((1095 : Nat) : Int))
    (mid : ∀ (y : Int64) (μ : xM), LW p l e s m below meth c b ad D cA x pc2 ((args.map (xrv ad)).reverse ++ .ref (ad (9, 0, 0)) :: [.long y]) μ → LW p l e s m below meth c b ad D cA x (pc1 + 3) [.long y] μ)
    (kk : ∀ μ, SIM μ → LW p l e s m below meth c b ad D cA x 1095 [] μ) : LW p l e s m below meth c b ad D cA x pc1 ((args.map (xrv ad)).reverse ++ .ref (ad (8, 0, 0)) :: []) μ := by
  refine lw_inv C0 f1 (h μ hs) hv (Nat.zero_le _) d1 (fun r μ1 hr => ?_)
  obtain ⟨y, rfl, h2⟩ := hr
  refine mid y μ1 (lw_inv C0 f2 h2 hv (Nat.le_of_ble_eq_true rfl) d2 (fun r μ2 hr => ?_))
  obtain ⟨rfl, h3⟩ := hr
  exact lw_eql C0 d3 d4 ht (kk μ2 h3)
end
