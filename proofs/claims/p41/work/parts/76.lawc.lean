/-! the law as a place of the small machine: its two cells, its trim, its end -/
def lz (p : Program) (e : Env) (s : State) (m : MethodId) (below : List Frame) (meth : Method) (c : Code) (b nc ns : Nat) : xZ := (p, e, s, m, #[Value.ref b], below, meth, c, room_1, nc, ns, lw_Z below #[Value.ref b] s, fun q => s.heap.size ≤ q)
/-- nothing is asked of an end inside -/
abbrev nQ : xP := fun _ _ => False
def LC (p : Program) (l : Launch) (s : State) (m : MethodId) (meth : Method) (c : Code) (b L : Nat) (xs : Nat → Int32) (ad : xI → Nat) (D : va_G) (cA : Nat → ClassId) : Prop :=
  lw_At p s m meth c b L xs ∧ L ≤ 260 ∧ va_K D vwCl (xtys cA) s ∧ (∀ q, xA (l, ad, D, cA, false) q → s.heap.size ≤ q) ∧ ad (13, 0, 0) = b
theorem hts_gw {s : State} {args : Array Value} (h : ∀ w ∈ lw_tbl, w.before args s = true) : ∀ w ∈ xgw, w.before args s = true := fun w hw => h w (List.mem_filter.mp hw).1
section
variable {p : Program} {l : Launch} {e : Env} {s : State} {m : MethodId} {below : List Frame} {meth : Method} {c : Code} {b L : Nat} {xs : Nat → Int32} {ad : xI → Nat} {D : va_G} {cA : Nat → ClassId}
theorem lc_x (C0 : LC p l s m meth c b L xs ad D cA) : xCx (l, ad, D, cA, false) eL_law p s m #[Value.ref b] meth c := by
  obtain ⟨⟨hx, hb, hr, hml, hown, hts, hX, hbl, hlocks, hgv⟩, hL, hK, hA, hbe⟩ := C0
  exact ⟨hx, hb, hr, hml, hown, hts_gw hts, hK, hlocks⟩
theorem lc_y (C0 : LC p l s m meth c b L xs ad D cA) {nc ns : Nat} (hn : nc ≤ 600000 ∧ ns ≤ 7302250) : xCy (l, ad, D, cA, false) nQ (8 + 1) #[Value.ref b] below s room_1 nc ns (lw_Z below #[Value.ref b] s) (fun q => s.heap.size ≤ q) := by
  obtain ⟨-, hL, hK, hA, hbe⟩ := C0
  exact ⟨⟨Nat.le_of_ble_eq_true rfl, Nat.le_of_ble_eq_true rfl, hn.1, hn.2⟩, hA, Or.inl fun _ _ h => h⟩
theorem gin {M : xD} (hc : xin (Cond.code M.1 M.2.1 M.2.2.1 M.2.2.2.1)) : GoodIn xgw (xws M) := by
  intro w hw
  rcases List.mem_cons.mp hw with rfl | hw
  · exact ⟨xin_gw hc, xgood (xin_gw hc)⟩
  · exact ⟨hw, xgood hw⟩
/-- a cell of the script -/
theorem lz_cell (C0 : LC p l s m meth c b L xs ad D cA) {nc ns pc : Nat} {lv : List xV} {k : Int32} {μ : xM} (hdec : decode cL_law pc = .ok (.invokestatic 106, 3)) (hk : 0 ≤ k.toInt) (kk : ∀ r : Int32, WS (l, ad, D, cA, false) eL_law (8 + 1) (lz p e s m below meth c b nc ns) nQ (pc + 3) lv [vI r] μ) : WS (l, ad, D, cA, false) eL_law (8 + 1) (lz p e s m below meth c b nc ns) nQ pc lv [vI k, vR (13, 0, 0)] μ := by
  intro hG hC hY H locs ls hP hS hl hlo hso
  obtain ⟨hx, hb, hr, hml, hown, hts, hK, hlocks⟩ := id hC
  obtain ⟨⟨-, -, -, -, -, -, hX, hbl, -, -⟩, hL, -, -, hbe⟩ := C0
  obtain ⟨⟨⟨f1, f2, f3, f4, f5, f6, f7⟩, f8⟩, -⟩ : xsF 12 (106, 0, mL_cell) ∧ True := ⟨xsL_106, trivial⟩
  have htw : ∀ w, xin w → w.before #[Value.ref b] s = true := fun w hw => hts w (xin_gw hw)
  have hX' : va_X b L xs s H := hX.kept (hS.2.1 b hbl (Nat.not_le.mpr hbl))
  have hrun := xrunS (R := room_1) (e := e) (below := below) (meth := meth) (W := 0) (H := H) (locs := locs) (cells := nc) (slots := ns) (rest := []) (g := F0 m pc ls [.int k, .ref b]) ⟨hx, hb, hml, hown, hts⟩ (t_cell (l := l) (b := b) (xs := xs) hk hL) hts (gin f2) rfl rfl rfl (htw _ f3) (htw _ f1) ⟨f4, f5, f6⟩ (Nat.le_of_ble_eq_true rfl) (Nat.le_of_ble_eq_true rfl) (htw _ f8) ⟨fun a U g mk q => ⟨q.1, q.2.1, va_X.moved (u := U) (U := U.calling g mk a) (Vm.Alike.refl U.vm) q.2.2⟩, fun U hU hW => ⟨rfl, by rw [hU]; exact Nat.lt_of_lt_of_le hbl hS.1, by rw [hU]; exact va_X.moved hW.alike hX'⟩⟩ rfl rfl hl.1 rfl (Nat.le_refl _) hdec ⟨hY.1.2.2.1, hY.1.2.2.2⟩
  have e1 : [vI k, vR (13, 0, 0)].map (xrv ad) = [.int k, .ref b] := by
    show [Value.int k, Value.ref (ad (13, 0, 0))] = _
    rw [hbe]
  show W p l e room_1 s m #[Value.ref b] below meth c H locs nc ns (lw_Z below #[Value.ref b] s) (F0 m pc ls ([vI k, vR (13, 0, 0)].map (xrv ad)))
  rw [e1]
  refine va_calli hrun hS (fun q _ z => z.elim) (fun q z => z.elim) (fun r u t H1 locs1 e1 al _ _ hsz hkeep hS1 => ?_)
  exact kk r hG hC hY H1 locs1 ls (hP.kept fun k q hk => hkeep q.1 (hP k q hk).lt fun z => z) hS1 hl hlo ⟨trivial, trivial⟩
/-- the law's end -/
theorem lz_ret (C0 : LC p l s m meth c b L xs ad D cA) {nc ns : Nat} {lv : List xV} {μ : xM} (hn : nc ≤ 600000 ∧ ns ≤ 7302250) : WS (l, ad, D, cA, false) eL_law (8 + 1) (lz p e s m below meth c b nc ns) nQ 1802 lv [vI 1] μ := by
  intro hG hC hY H locs ls hP hS hl hlo hso
  obtain ⟨hx, hb, hr, hml, hown, hts, hX, hbl, hlocks, hgv⟩ := C0.1
  refine W.widen (k := 600000) (n := 7302250) hn.1 hn.2 ?_
  refine va_forget (fun q hq => hS.2.2 q hq) ?_
  exact lw_ret hx hb hr hlocks (by decide +kernel)
/-- behind the law's trim -/
theorem lz_join {R : Room} {args : Array Value} {locs : List Loc} {H H0 : Heap} {nc ns pc : Nat} {ls : Array Slot} {st0 : List Value} {a : Array Value} {QS : State → Prop} {G : xG} {Q' : xM → Prop} {sz : Nat} {A : Nat → Prop} (hA : ∀ q, xA G q → A q) (hA2 : ∀ q, sz ≤ q → A q) (hr : va_Run p l e R s m args below meth c H locs nc ns 2 96 (F0 m pc ls st0) [] (tPost G Q' sz a) (tFree G sz)) (hS : va_S A H0 H locs)
    (kk : ∀ (μ' : xM) (H1 : Heap) (locs1 : List Loc), Q' μ' → va_P G.2.2.1 vwCl (xwld G.2.2.2.2 G.2.1 G.2.2.2.1 μ') H1 → va_S A H0 H1 locs1 → W p l e R s m args below meth c H1 locs1 (nc + 2) (ns + 96) QS (F0 m (pc + 3) ls [])) : W p l e R s m args below meth c H locs nc ns QS (F0 m pc ls st0) := by
  have hF : ∀ q, tFree G sz q → A q := fun q h => h.elim (hA q) (hA2 q)
  intro T hT X
  obtain ⟨v, st₀, t, T', L, h0, X', hL, e1, e2, ⟨⟨μ', hq, hv, hP1, -⟩, hz, hk⟩, st⟩ := hr T hT X
  cases hv
  rw [h0] at hz hk
  rw [← e1] at hP1
  obtain ⟨t2, a1, b1⟩ := kk μ' T'.heap (locs ++ L) hq hP1
    ⟨Nat.le_trans hS.1 (by rw [e1]; exact hz), fun q h1 h2 => by rw [e1, hk q (Nat.lt_of_lt_of_le h1 hS.1) fun z => h2 (hF q z)]; exact hS.2.1 q h1 h2, fun q hq => by
      rcases List.mem_append.mp hq with h | h
      · exact hS.2.2 q h
      · exact hF _ (hL q h)⟩ T' rfl X'
  exact ⟨t2, st t2 a1, b1⟩
theorem lz_trim (C0 : LC p l s m meth c b L xs ad D cA) {nc ns : Nat} {lv : List xV} {μ : xM} {S : aS} {y : Int64} {X : Nat → Bool} (hn : nc + 2 ≤ 600000 ∧ ns + 96 ≤ 7302250) (hw : repW μ S) (hI : Inv S) (hc : clo S X) (hlk : ∀ b, b < S.nb → yB S X b = true → lastI (S.L 5) (S.B 2) X b S.nl = S.B 1 b) (hy : ∀ i, i < S.nl → hasb y i = X i)
    (kk : ∀ μ', frM μ μ' → repW μ' (trimS S X) → WS (l, ad, D, cA, false) eL_law (8 + 1) (lz p e s m below meth c b (nc + 2) (ns + 96)) nQ 895 lv [] μ') : WS (l, ad, D, cA, false) eL_law (8 + 1) (lz p e s m below meth c b nc ns) nQ 892 lv [vL y, vR (1, 0, 32), vR (1, 0, 31), vR (1, 0, 30), vR (1, 0, 29), vR (1, 0, 28), vR (1, 0, 27), vR (1, 0, 26), vR (1, 0, 25), vR (1, 0, 24), vR (1, 0, 23)] μ := by
  intro hG hC hY H locs ls hP hS hl hlo hso
  obtain ⟨hx, hb, hr, hml, hown, hts, hK, hlocks⟩ := id hC
  obtain ⟨⟨⟨f1, f2, f3, f4, f5, f6, f7⟩, f8⟩, -⟩ : xsF 12 (145, 0, mL_trim) ∧ True := ⟨xsL_145, trivial⟩
  have htw : ∀ w, xin w → w.before #[Value.ref b] s = true := fun w hw => hts w (xin_gw hw)
  have hdec : decode cL_law 892 = .ok (.invokestatic 145, 3) := by decide +kernel
  have hrun := xrunS (R := room_1) (e := e) (below := below) (meth := meth) (W := 0) (H := H) (locs := locs) (cells := nc) (slots := ns) (rest := []) (g := F0 m 892 ls ((tArgs y).map (xrv ad)).reverse) ⟨hx, hb, hml, hown, hts⟩ (t_trim (sz := H.size) hG hw hI hc hlk hy) hts (gin f2) rfl rfl rfl (htw _ f3) (htw _ f1) ⟨f4, f5, f6⟩ (Nat.le_of_ble_eq_true rfl) (Nat.le_of_ble_eq_true rfl) (htw _ f8) ⟨fun a U g mk q => ⟨q.1, q.2.1, q.2.2.1, va_K.moved (u := U) (U := U.calling g mk a) (Vm.Alike.refl U.vm) q.2.2.2⟩, fun U hU hW => ⟨rfl, by rw [hU], by rw [hU]; exact hP, va_K.moved hW.alike hK⟩⟩ rfl rfl hl.1 (List.append_nil _).symm (Nat.le_refl _) hdec ⟨hn.1, hn.2⟩
  refine lz_join (A := fun q => s.heap.size ≤ q) hY.2.1 (fun q h => Nat.le_trans hS.1 h) hrun hS (fun μ' H1 locs1 hq hP1 hS1 => ?_)
  exact kk μ' hq.1 hq.2 hG hC (lc_y C0 hn) H1 locs1 ls hP1 hS1 hl hlo trivial
end
