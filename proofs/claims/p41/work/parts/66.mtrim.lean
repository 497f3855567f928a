/-! the law's trim as a contract: it makes two rows, the world behind it is the old one, moved -/
def adT (ad : xI → Nat) (q1 q2 : Nat) : xI → Nat := fun q => if q = (1, 0, 33) then q1 else if q = (1, 0, 34) then q2 else ad q
theorem adT_o {ad : xI → Nat} {q1 q2 : Nat} {q : xI} (h1 : q ≠ (1, 0, 33)) (h2 : q ≠ (1, 0, 34)) : adT ad q1 q2 q = ad q := by unfold adT; rw [if_neg h1, if_neg h2]
/-- the world of a list of cells that has all -/
theorem wld_of {l : Launch} {D : va_G} {cA : Nat → ClassId} {ad : xI → Nat} {b : Bool} {μ : xM} {I : List xI} {A : Nat → Prop} {H : Heap} (hI : ∀ q, xok b q = true → q ∈ I) (hP : va_P D vwCl (I.map fun q => (ad q, xcell ad cA μ q)) H) (hD : va_D A (I.map fun q => (ad q, xcell ad cA μ q))) : xGok (l, ad, D, cA, b) ∧ va_P D vwCl (xwld b ad cA μ) H ∧ ∀ q, xA (l, ad, D, cA, b) q → A q := by
  have key : ∀ q, xok b q = true → ∃ i : Nat, I[i]? = some q ∧ (I.map fun q => (ad q, xcell ad cA μ q))[i]? = some (ad q, xcell ad cA μ q) := by
    intro q hq
    obtain ⟨i, hi⟩ := List.getElem?_of_mem (hI q hq)
    exact ⟨i, hi, by rw [List.getElem?_map, hi]; rfl⟩
  refine ⟨fun p q hp hq e => ?_, fun k x hx => ?_, fun q hq => ?_⟩
  · obtain ⟨i, h1, h2⟩ := key p hp
    obtain ⟨j, h3, h4⟩ := key q hq
    have := hD.1 i j _ _ h2 h4 e
    subst this
    exact Option.some.inj (h1.symm.trans h3)
  · rw [xwld, List.getElem?_map] at hx
    cases hy : (xids b)[k]? with
    | none => rw [hy] at hx; cases hx
    | some y =>
      rw [hy] at hx
      obtain ⟨i, h1, h2⟩ := key y (xids_ok (List.mem_of_getElem? hy))
      have : x = (ad y, xcell ad cA μ y) := (Option.some.inj hx).symm
      rw [this]
      exact hP i _ h2
  · obtain ⟨y, hy, rfl⟩ := hq
    obtain ⟨i, h1, h2⟩ := key y hy
    exact hD.2 i _ h2
theorem xok_tf {q : xI} (h : xok true q = true) : xok false q = true ∨ q = (1, 0, 33) ∨ q = (1, 0, 34) := by
  obtain ⟨k, j, c⟩ := q
  by_cases hk : k = 1
  · subst hk
    simp [xok] at h ⊢
    omega
  · left
    simp [xok, hk] at h ⊢
    exact h
theorem xok_ft {q : xI} (h : xok false q = true) : xok true q = true ∧ q ≠ (1, 0, 33) ∧ q ≠ (1, 0, 34) := by
  obtain ⟨k, j, c⟩ := q
  by_cases hk : k = 1
  · subst hk
    simp [xok] at h ⊢
    omega
  · simp [xok, hk] at h ⊢
    exact h
theorem xfs_ad {ad ad' : xI → Nat} {f : Nat → Int32} : ∀ (fs : List (Option xI)) (b : Nat), (∀ r, some r ∈ fs → ad' r = ad r) → xfs ad' f b fs = xfs ad f b fs
  | [], b, h => rfl
  | none :: l, b, h => by
    show _ :: _ = _ :: _
    rw [xfs_ad l (b + 1) fun r hr => h r (List.mem_cons_of_mem _ hr)]
  | some r :: l, b, h => by
    show _ :: _ = _ :: _
    rw [xfs_ad l (b + 1) fun r hr => h r (List.mem_cons_of_mem _ hr), h r List.mem_cons_self]
theorem xcell_ad {ad : xI → Nat} {q1 q2 : Nat} {cA : Nat → ClassId} {μ : xM} {q : xI} (h : xok false q = true) : xcell (adT ad q1 q2) cA μ q = xcell ad cA μ q := by
  unfold xcell
  split
  · rename_i ci fs e
    rw [xfs_ad fs 0 fun r hr => ?_]
    have := xok_ft (xobj_ok h e hr)
    exact adT_o this.2.1 this.2.2
  · split
    · rfl
    · have e : (fun i => some (adT ad q1 q2 (4, 2 + i, 0))) = fun i => some (ad (4, 2 + i, 0)) := by
        funext i
        rw [adT_o (by simp) (by simp)]
      rw [e]
def trm : Room := { frames := 1, cells := 2, slots := 96, locals := 37 }
def tFree (G : xG) (sz : Nat) : Nat → Prop := fun q => xA G q ∨ sz ≤ q
def tPre (G : xG) (μ : xM) (sz : Nat) : State → Prop := fun U => U.heap.size = sz ∧ xB G μ U
def tPost (G : xG) (Q : xM → Prop) (sz : Nat) : Array Value → State → Outcome → State → Prop := fun _ st oc t => (∃ μ' : xM, Q μ' ∧ oc = .returned none ∧ xB G μ' t) ∧ va_F (tFree G sz) st t
/-- the arguments of the law's trim -/
abbrev tArgs (y : Int64) : List xV := [vR (1, 0, 23), vR (1, 0, 24), vR (1, 0, 25), vR (1, 0, 26), vR (1, 0, 27), vR (1, 0, 28), vR (1, 0, 29), vR (1, 0, 30), vR (1, 0, 31), vR (1, 0, 32), vL y]
theorem dT_0 : decode cL_trim 0 = .ok (.bipush 48, 2) := by decide +kernel
theorem dT_2 : decode cL_trim 2 = .ok (.newarray .int, 2) := by decide +kernel
theorem dT_4 : decode cL_trim 4 = .ok (.astore 12, 2) := by decide +kernel
theorem dT_6 : decode cL_trim 6 = .ok (.bipush 48, 2) := by decide +kernel
theorem dT_8 : decode cL_trim 8 = .ok (.newarray .int, 2) := by decide +kernel
theorem dT_10 : decode cL_trim 10 = .ok (.astore 13, 2) := by decide +kernel
theorem dT_396 : decode cL_trim 396 = .ok (.return_, 1) := by decide +kernel
section
variable {p : Program} {l : Launch} {e : Env} {R : Room} {s : State} {m : MethodId} {args : Array Value} {below : List Frame} {meth : Method} {c : Code} {H : Heap} {locs : List Loc} {cells slots : Nat} {Q : State → Prop}
variable {D : va_G} {cA : Nat → ClassId} {cc : ByteArray} {A : Nat → Prop} {pc : Nat} {ls : Array Slot} {rest : List Value}
/-- a new row of numbers: its class is the one that is known -/
theorem t_arr (hx : p.tables.exec = Jvm.exec) (hb : c.code = cc) (hw : (Cond.arrayClass (newarray.typeOf .int)).before args s = true) (hK : va_K D vwCl (xtys cA) s) {X : va_W} (hP : va_P D vwCl X H) (hD : va_D A X) (hS : va_S A s.heap H locs) (hA : ∀ q, s.heap.size ≤ q → A q) {n : Int32} {N : Nat} (hn : ¬ n < 0) (hN : n.toNatClampNeg = N) (hbytes : N * componentBytes .int ≤ 536870912) (hf : cells + 1 ≤ R.cells ∧ slots + N ≤ R.slots) (hdg : decode cc pc = .ok (.newarray .int, 2))
    (kk : ∀ (q : Nat) (H1 : Heap), va_P D vwCl (X ++ [(q, .inl (cA 0, N, .inl fun _ => 0))]) H1 → va_D A (X ++ [(q, .inl (cA 0, N, .inl fun _ => 0))]) → va_S A s.heap H1 locs → W p l e R s m args below meth c H1 locs (cells + 1) (slots + N) Q (F0 m (pc + 2) ls (.ref q :: rest))) : W p l e R s m args below meth c H locs cells slots Q (F0 m pc ls (.int n :: rest)) := by
  refine va_newa (atype := .int) (ty := .int) (a0 := (N, .inl fun _ => 0)) hx hb hw rfl hK hP hD hS hA (fun cA1 => rfl) hn hN hbytes hf.1 hf.2 hdg (fun q cA1 H1 hK1 hP1 hD1 hS1 => ?_)
  have e1 : s.vm.findClass ("[" ++ (FieldType.int).toString) = some cA1 := (hK1.2 (xtys cA).length (cA1, .int) (by rw [List.getElem?_append_right (Nat.le_refl _), Nat.sub_self]; rfl)).2
  have e2 : s.vm.findClass ("[" ++ (FieldType.int).toString) = some (cA 0) := (hK.2 0 (cA 0, .int) rfl).2
  have e3 : cA1 = cA 0 := Option.some.inj (e1.symm.trans e2)
  rw [e3] at hP1 hD1
  exact kk q H1 hP1 hD1 hS1
end
set_option maxRecDepth 4000 in
theorem t_trim {l : Launch} {ad : xI → Nat} {D : va_G} {cA : Nat → ClassId} {μ : xM} {S : aS} {y : Int64} {X : Nat → Bool} {sz : Nat} (hG : xGok (l, ad, D, cA, false)) (hw : repW μ S) (hI : Inv S) (hc : clo S X) (hlk : ∀ b, b < S.nb → yB S X b = true → lastI (S.L 5) (S.B 2) X b S.nl = S.B 1 b) (hy : ∀ i, i < S.nl → hasb y i = X i) :
    Met l mL_trim.1 (xws mL_trim) trm (va_Pc ((tArgs y).map (xrv ad)) (tPre (l, ad, D, cA, false) μ sz)) (tPost (l, ad, D, cA, false) (fun μ' => frM μ μ' ∧ repW μ' (trimS S X)) sz) 2 96 (tFree (l, ad, D, cA, false) sz) := by
  refine Met.ofW (cc := cL_trim) (maxL := 19) (ret := none) (ws' := xgw) (by decide +kernel) rfl ?_
  intro p e s m args' below meth c s₁ B hml hv
  obtain ⟨rfl, hsz, hP0, hK⟩ := hv
  have hx := B.exec
  have hb := B.bytes
  have hown : s.vm.findClass (xcn 12) = some m.cls := findClass_of_methodNamed B.named
  have hts : ∀ w ∈ xgw, w.before ((tArgs y).map (xrv ad)).toArray s = true := fun w hw => atoms_spec (ws := xws mL_trim) B.pre w (List.mem_cons_of_mem _ hw)
  subst hsz
  have hS : va_S (tFree (l, ad, D, cA, false) s.heap.size) s.heap s.heap [] := va_S.rf
  have hA : ∀ q, s.heap.size ≤ q → tFree (l, ad, D, cA, false) s.heap.size q := fun q h => Or.inr h
  have hD0 := xD_wld hG (A := tFree (l, ad, D, cA, false) s.heap.size) (fun q h => Or.inl h) μ
  have hwi : (Cond.arrayClass (newarray.typeOf .int)).before ((tArgs y).map (xrv ad)).toArray s = true := hts _ (xin_gw (xw 61 (by decide +kernel) (by decide +kernel)))
  rw [lg_entry_eq]
  have hl := lv_entry ((tArgs y).map (xrv ad)) (n := 19) (Nat.le_of_ble_eq_true rfl)
  generalize (lg_sl ((tArgs y).map (xrv ad)) ++ List.replicate (19 - (lg_sl ((tArgs y).map (xrv ad))).length) Slot.unset).toArray = ls at hl ⊢
  have hl : lv_has ls 19 [(0, .ref (ad (1, 0, 23))), (1, .ref (ad (1, 0, 24))), (2, .ref (ad (1, 0, 25))), (3, .ref (ad (1, 0, 26))), (4, .ref (ad (1, 0, 27))), (5, .ref (ad (1, 0, 28))), (6, .ref (ad (1, 0, 29))), (7, .ref (ad (1, 0, 30))), (8, .ref (ad (1, 0, 31))), (9, .ref (ad (1, 0, 32))), (10, .long y)] := hl
  refine lv_bipush (v := 48) hx hb dT_0 (by decide) ?_
  refine t_arr (R := trm) hx hb hwi hK hP0 hD0 hS hA (N := 48) (by decide) rfl (by decide) ⟨by decide, by decide⟩ dT_2 (fun q1 H1 hP1 hD1 hS1 => ?_)
  refine lv_astore (lv' := [(12, .ref q1), (0, .ref (ad (1, 0, 23))), (1, .ref (ad (1, 0, 24))), (2, .ref (ad (1, 0, 25))), (3, .ref (ad (1, 0, 26))), (4, .ref (ad (1, 0, 27))), (5, .ref (ad (1, 0, 28))), (6, .ref (ad (1, 0, 29))), (7, .ref (ad (1, 0, 30))), (8, .ref (ad (1, 0, 31))), (9, .ref (ad (1, 0, 32))), (10, .long y)]) hx hb dT_4 hl (by decide) rfl (fun ls hl => ?_)
  refine lv_bipush (v := 48) hx hb dT_6 (by decide) ?_
  refine t_arr (R := trm) hx hb hwi hK hP1 hD1 hS1 hA (N := 48) (by decide) rfl (by decide) ⟨by decide, by decide⟩ dT_8 (fun q2 H2 hP2 hD2 hS2 => ?_)
  refine lv_astore (lv' := [(13, .ref q2), (12, .ref q1), (0, .ref (ad (1, 0, 23))), (1, .ref (ad (1, 0, 24))), (2, .ref (ad (1, 0, 25))), (3, .ref (ad (1, 0, 26))), (4, .ref (ad (1, 0, 27))), (5, .ref (ad (1, 0, 28))), (6, .ref (ad (1, 0, 29))), (7, .ref (ad (1, 0, 30))), (8, .ref (ad (1, 0, 31))), (9, .ref (ad (1, 0, 32))), (10, .long y)]) hx hb dT_10 hl (by decide) rfl (fun ls hl => ?_)
  -- the world with the two rows
  have hmu : ∀ q, xok false q = true → (if q = ((1, 0, 33) : xI) ∨ q = (1, 0, 34) then (fun _ => 0) else μ q) = μ q := fun q hq => if_neg (fun z => z.elim (xok_ft hq).2.1 (xok_ft hq).2.2)
  have hW : (xwld false ad cA μ ++ [(q1, .inl (cA 0, 48, .inl fun _ => 0))]) ++ [(q2, .inl (cA 0, 48, .inl fun _ => 0))] = ((xids false ++ [(1, 0, 33)]) ++ [(1, 0, 34)]).map fun q => (adT ad q1 q2 q, xcell (adT ad q1 q2) cA (fun q => if q = ((1, 0, 33) : xI) ∨ q = (1, 0, 34) then (fun _ => 0) else μ q) q) := by
    have e0 : xwld false ad cA μ = (xids false).map fun q => (adT ad q1 q2 q, xcell (adT ad q1 q2) cA (fun q => if q = ((1, 0, 33) : xI) ∨ q = (1, 0, 34) then (fun _ => 0) else μ q) q) := by
      unfold xwld
      refine List.map_congr_left fun q hq => ?_
      have hok := xids_ok hq
      have hft := xok_ft hok
      rw [adT_o hft.2.1 hft.2.2, xcell_ad hok]
      rw [xcell_cg (μ' := fun q => if q = ((1, 0, 33) : xI) ∨ q = (1, 0, 34) then (fun _ => 0) else μ q) (hmu q hok).symm]
    rw [e0, List.map_append, List.map_append]
    rfl
  rw [hW] at hP2 hD2
  obtain ⟨hG', hP', hA'⟩ := wld_of (l := l) (b := true) (fun q hq => by
    rcases xok_tf hq with z | z | z
    · exact List.mem_append_left _ (List.mem_append_left _ (xids_mem z))
    · rw [z]; exact List.mem_append_left _ (List.mem_append_right _ List.mem_cons_self)
    · rw [z]; exact List.mem_append_right _ List.mem_cons_self) hP2 hD2
  -- the end
  have hend : ∀ μ' : xM, frM μ μ' → repW μ' (trimS S X) → WS (l, adT ad q1 q2, D, cA, true) eL_trim (0 + 1) (p, e, s, m, ((tArgs y).map (xrv ad)).toArray, below, meth, c, trm, 2, 96, MQ below (tPost (l, ad, D, cA, false) (fun μ' => frM μ μ' ∧ repW μ' (trimS S X)) s.heap.size) ((tArgs y).map (xrv ad)).toArray s 2 96 (tFree (l, ad, D, cA, false) s.heap.size), tFree (l, ad, D, cA, false) s.heap.size) (fun _ _ => False) 396 lvN [] μ' := by
    intro μ' h1 h2 _ hC hY H locs ls hP hS _ _ _
    obtain ⟨hx, hb, hr, hml, hown, hts, hK, hlocks⟩ := hC
    refine W.vret hx hb hr (fun t ht hW => ⟨⟨μ', ⟨h1, h2⟩, rfl, ?_, va_K.moved hW.alike hK⟩, hS.F ht⟩) hS.2.2 dT_396 hlocks
    rw [ht]
    intro k x hk
    have hk : ((xids false).map fun q => (ad q, xcell ad cA μ' q))[k]? = some x := hk
    rw [List.getElem?_map] at hk
    cases hq : (xids false)[k]? with
    | none => rw [hq] at hk; cases hk
    | some q =>
      rw [hq] at hk
      have hok := xids_ok (List.mem_of_getElem? hq)
      have hft := xok_ft hok
      obtain ⟨n, -, hn⟩ := xwld_get (ad := adT ad q1 q2) (cA := cA) μ' hft.1
      have := hP n _ hn
      rw [adT_o hft.2.1 hft.2.2, xcell_ad hok] at this
      have hx : x = (ad q, xcell ad cA μ' q) := (Option.some.inj hk).symm
      rw [hx]; exact this
  -- the walk
  have hw' : repW (fun q => if q = ((1, 0, 33) : xI) ∨ q = (1, 0, 34) then (fun _ => 0) else μ q) S := hw.keep fun c h1 h2 => if_neg (by
    rintro (z | z)
    · injection z with _ z; injection z with _ z; omega
    · injection z with _ z; injection z with _ z; omega)
  have hbody := b_trim (G := (l, adT ad q1 q2, D, cA, true)) (d := 0) (Q := fun _ _ => False) (y := y) hw' hI hc hlk hy (fun μ' h1 h2 => hend μ' (fun q hq => (h1 q hq).trans (if_neg (by
    rintro (rfl | rfl)
    · exact nC (by omega) hq
    · exact nC (by omega) hq))) h2)
  refine hbody hG' ⟨hx, hb, B.returns, hml, hown, hts, hK, B.notSynchronized⟩ ⟨⟨Nat.le_refl _, Nat.le_refl _, Nat.le_refl _, Nat.le_refl _⟩, hA', Or.inl fun _ _ h => h⟩ H2 [] ls hP' hS2 ⟨hl.1, hl.2.1, fun i hi => ?_⟩ (fun i => ?_) trivial
  · match i, hi with
    | 0, _ => exact (hl.2.2 (0, .ref (ad (1, 0, 23))) (by simp)).trans (by rw [show xnth (lvT (vL y) vN vN vN) 0 = vR (1, 0, 23) from rfl]; show _ = some (Slot.val (Value.ref (adT ad q1 q2 (1, 0, 23)))); rw [adT_o (by decide) (by decide)])
    | 1, _ => exact (hl.2.2 (1, .ref (ad (1, 0, 24))) (by simp)).trans (by rw [show xnth (lvT (vL y) vN vN vN) 1 = vR (1, 0, 24) from rfl]; show _ = some (Slot.val (Value.ref (adT ad q1 q2 (1, 0, 24)))); rw [adT_o (by decide) (by decide)])
    | 2, _ => exact (hl.2.2 (2, .ref (ad (1, 0, 25))) (by simp)).trans (by rw [show xnth (lvT (vL y) vN vN vN) 2 = vR (1, 0, 25) from rfl]; show _ = some (Slot.val (Value.ref (adT ad q1 q2 (1, 0, 25)))); rw [adT_o (by decide) (by decide)])
    | 3, _ => exact (hl.2.2 (3, .ref (ad (1, 0, 26))) (by simp)).trans (by rw [show xnth (lvT (vL y) vN vN vN) 3 = vR (1, 0, 26) from rfl]; show _ = some (Slot.val (Value.ref (adT ad q1 q2 (1, 0, 26)))); rw [adT_o (by decide) (by decide)])
    | 4, _ => exact (hl.2.2 (4, .ref (ad (1, 0, 27))) (by simp)).trans (by rw [show xnth (lvT (vL y) vN vN vN) 4 = vR (1, 0, 27) from rfl]; show _ = some (Slot.val (Value.ref (adT ad q1 q2 (1, 0, 27)))); rw [adT_o (by decide) (by decide)])
    | 5, _ => exact (hl.2.2 (5, .ref (ad (1, 0, 28))) (by simp)).trans (by rw [show xnth (lvT (vL y) vN vN vN) 5 = vR (1, 0, 28) from rfl]; show _ = some (Slot.val (Value.ref (adT ad q1 q2 (1, 0, 28)))); rw [adT_o (by decide) (by decide)])
    | 6, _ => exact (hl.2.2 (6, .ref (ad (1, 0, 29))) (by simp)).trans (by rw [show xnth (lvT (vL y) vN vN vN) 6 = vR (1, 0, 29) from rfl]; show _ = some (Slot.val (Value.ref (adT ad q1 q2 (1, 0, 29)))); rw [adT_o (by decide) (by decide)])
    | 7, _ => exact (hl.2.2 (7, .ref (ad (1, 0, 30))) (by simp)).trans (by rw [show xnth (lvT (vL y) vN vN vN) 7 = vR (1, 0, 30) from rfl]; show _ = some (Slot.val (Value.ref (adT ad q1 q2 (1, 0, 30)))); rw [adT_o (by decide) (by decide)])
    | 8, _ => exact (hl.2.2 (8, .ref (ad (1, 0, 31))) (by simp)).trans (by rw [show xnth (lvT (vL y) vN vN vN) 8 = vR (1, 0, 31) from rfl]; show _ = some (Slot.val (Value.ref (adT ad q1 q2 (1, 0, 31)))); rw [adT_o (by decide) (by decide)])
    | 9, _ => exact (hl.2.2 (9, .ref (ad (1, 0, 32))) (by simp)).trans (by rw [show xnth (lvT (vL y) vN vN vN) 9 = vR (1, 0, 32) from rfl]; show _ = some (Slot.val (Value.ref (adT ad q1 q2 (1, 0, 32)))); rw [adT_o (by decide) (by decide)])
    | 10, _ => exact hl.2.2 (10, .long y) (by simp)
    | 11, hi => exact absurd rfl hi
    | 12, _ => exact hl.2.2 (12, .ref q1) (by simp)
    | 13, _ => exact hl.2.2 (13, .ref q2) (by simp)
    | 14, hi => exact absurd rfl hi
    | 15, hi => exact absurd rfl hi
    | 16, hi => exact absurd rfl hi
    | 17, hi => exact absurd rfl hi
    | 18, hi => exact absurd rfl hi
    | n + 19, hi => exact absurd (by cases n <;> rfl) hi
  · match i with
    | 0 => exact Or.inr (show xok true (1, 0, 23) = true by decide)
    | 1 => exact Or.inr (show xok true (1, 0, 24) = true by decide)
    | 2 => exact Or.inr (show xok true (1, 0, 25) = true by decide)
    | 3 => exact Or.inr (show xok true (1, 0, 26) = true by decide)
    | 4 => exact Or.inr (show xok true (1, 0, 27) = true by decide)
    | 5 => exact Or.inr (show xok true (1, 0, 28) = true by decide)
    | 6 => exact Or.inr (show xok true (1, 0, 29) = true by decide)
    | 7 => exact Or.inr (show xok true (1, 0, 30) = true by decide)
    | 8 => exact Or.inr (show xok true (1, 0, 31) = true by decide)
    | 9 => exact Or.inr (show xok true (1, 0, 32) = true by decide)
    | 10 => exact trivial
    | 11 => exact trivial
    | 12 => exact Or.inr (show xok true (1, 0, 33) = true by decide)
    | 13 => exact Or.inr (show xok true (1, 0, 34) = true by decide)
    | 14 => exact trivial
    | 15 => exact trivial
    | 16 => exact trivial
    | 17 => exact trivial
    | 18 => exact trivial
    | n + 19 =>
      rw [show xnth (lvT (vL y) vN vN vN) (n + 19) = vN by cases n <;> rfl]
      exact trivial
