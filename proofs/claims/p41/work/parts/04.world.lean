/-! THE SMALL MACHINE'S WORLD in the heap; contracts (MW) and places (WS) as conditions over it -/
/-- the tables' words that a call takes along -/
def xgw : List Cond := lw_tbl.filter goodWord
theorem xgood {w : Cond} (h : w ∈ xgw) : (w.onTables && w.keeps) = true ∨ ∃ ty, w = .arrayClass ty := good_of_word (List.mem_filter.mp h).2
theorem xok_bd {b : Bool} {q : xI} (h : xok b q = true) : q.1 < 11 ∧ q.2.1 < 8 ∧ q.2.2 < 35 := by
  obtain ⟨k, j, c⟩ := q
  simp only [xok] at h ⊢
  repeat' split at h
  all_goals simp at h
  all_goals omega
theorem xids_mem {b : Bool} {q : xI} (h : xok b q = true) : q ∈ xids b := by
  obtain ⟨h1, h2, h3⟩ := xok_bd h
  obtain ⟨k, j, c⟩ := q
  simp only [xids, List.mem_filter, List.mem_flatMap, List.mem_map, List.mem_range]
  exact ⟨⟨k, h1, j, h2, c, h3, rfl⟩, h⟩
theorem xids_ok {b : Bool} {q : xI} (h : q ∈ xids b) : xok b q = true := by
  simp only [xids, List.mem_filter] at h
  exact h.2
set_option maxRecDepth 100000 in
theorem xids_nd (b : Bool) : (xids b).Nodup := by cases b <;> decide +kernel
theorem xids_inj {b : Bool} {i j : Nat} {q : xI} (h1 : (xids b)[i]? = some q) (h2 : (xids b)[j]? = some q) : i = j := by
  have hi := (List.getElem?_eq_some_iff.mp h1).1
  exact (List.getElem?_inj hi (xids_nd b)).mp (h1.trans h2.symm)
theorem xwld_get {b : Bool} {ad : xI → Nat} {cA : Nat → ClassId} {q : xI} (μ : xM) (h : xok b q = true) : ∃ n : Nat, (xids b)[n]? = some q ∧ (xwld b ad cA μ)[n]? = some (ad q, xcell ad cA μ q) := by
  obtain ⟨n, hn⟩ := List.getElem?_of_mem (xids_mem h)
  exact ⟨n, hn, by rw [xwld, List.getElem?_map, hn]; rfl⟩
theorem xcell_cg {ad : xI → Nat} {cA : Nat → ClassId} {μ μ' : xM} {q : xI} (h : μ q = μ' q) : xcell ad cA μ q = xcell ad cA μ' q := by
  unfold xcell
  rw [h]
theorem xwld_set {b : Bool} {ad : xI → Nat} {cA : Nat → ClassId} {μ μ' : xM} {n : Nat} {q : xI} (hn : (xids b)[n]? = some q) (h : ∀ p, p ≠ q → μ p = μ' p) : (xwld b ad cA μ).set n (ad q, xcell ad cA μ' q) = xwld b ad cA μ' := by
  have hl := (List.getElem?_eq_some_iff.mp hn).1
  apply List.ext_getElem?
  intro i
  by_cases hi : i = n
  · subst hi
    rw [List.getElem?_set_self (by simpa [xwld] using hl), xwld, List.getElem?_map, hn]
    rfl
  · rw [List.getElem?_set_ne (Ne.symm hi), xwld, xwld, List.getElem?_map, List.getElem?_map]
    cases hp : (xids b)[i]? with
    | none => rfl
    | some p =>
      have hne : p ≠ q := fun e => hi (xids_inj hp (by rw [e]; exact hn))
      simp only [Option.map_some, xcell_cg (h p hne)]
abbrev xG : Type := Launch × (xI → Nat) × va_G × (Nat → ClassId) × Bool
def xA (G : xG) : Nat → Prop := fun q => ∃ x : xI, xok G.2.2.2.2 x = true ∧ G.2.1 x = q
abbrev xZ : Type := Program × Env × State × MethodId × Array Value × List Frame × Method × Code × Room × Nat × Nat × (State → Prop) × (Nat → Prop)
def xws (D : xD) : List Cond := Cond.code D.1 D.2.1 D.2.2.1 D.2.2.2.1 :: xgw
def xrm (d : Nat) : Room := { frames := d, cells := 0, slots := 0, locals := 37 * d }
def xGok (G : xG) : Prop := ∀ p q, xok G.2.2.2.2 p = true → xok G.2.2.2.2 q = true → G.2.1 p = G.2.1 q → p = q
def xB (G : xG) (μ : xM) (U : State) : Prop := va_P G.2.2.1 vwCl (xwld G.2.2.2.2 G.2.1 G.2.2.2.1 μ) U.heap ∧ va_K G.2.2.1 vwCl (xtys G.2.2.2.1) U
def xQc (G : xG) (Q : xP) : Array Value → State → Outcome → State → Prop := fun _ st oc t => (∃ (r : Option xV) (μ' : xM), Q r μ' ∧ oc = .returned (r.map (xrv G.2.1)) ∧ (∀ v, r = some v → xvok G.2.2.2.2 v) ∧ xB G μ' t) ∧ va_F (xA G) st t
/-- the contract of a method at a memory: it returns, Q of what it returns and of the memory then -/
def MW (G : xG) (d : Nat) (D : xD) (args : List xV) (μ : xM) (Q : xP) : Prop :=
  xGok G → (∀ v ∈ args, xvok G.2.2.2.2 v) → Met G.1 D.1 (xws D) (xrm d) (va_Pc (args.map (xrv G.2.1)) (xB G μ)) (xQc G Q) 0 0 (xA G)
def xLv (ad : xI → Nat) (ls : Array Slot) (n : Nat) (lv : List xV) : Prop := ls.size = n ∧ lv_wf ls ∧ ∀ i, xnth lv i ≠ vN → ls[i]? = some (.val (xrv ad (xnth lv i)))
def xoks (b : Bool) : List xV → Prop
  | [] => True
  | v :: l => xvok b v ∧ xoks b l
def xlok (b : Bool) (lv : List xV) : Prop := ∀ i, xvok b (xnth lv i)
def xcn : Nat → String
  | 0 => RX0 | 1 => RX1 | 2 => RX2 | 3 => RX3 | 4 => RX4 | 5 => RX5 | 6 => RX6 | 7 => RX7 | 8 => RX8 | 9 => RX8 | 10 => RJ6 | 11 => RJ13 | _ => RL
def xCx (G : xG) (E : xE) (p : Program) (s : State) (m : MethodId) (args : Array Value) (meth : Method) (c : Code) : Prop :=
  p.tables.exec = Jvm.exec ∧ c.code = E.2.1.2.1 ∧ meth.sig.returnType = E.2.1.2.2.2.1 ∧ c.maxLocals = E.2.1.2.2.1 ∧ s.vm.findClass (xcn E.1) = some m.cls ∧ (∀ w ∈ xgw, w.before args s = true) ∧ va_K G.2.2.1 vwCl (xtys G.2.2.2.1) s ∧ meth.locks = false
/-- a place's room, its end, what it may write -/
def xCy (G : xG) (Q : xP) (d : Nat) (args : Array Value) (below : List Frame) (s : State) (R : Room) (nc ns : Nat) (QS : State → Prop) (A : Nat → Prop) : Prop :=
  (d ≤ R.frames ∧ 37 * d ≤ R.locals ∧ nc ≤ R.cells ∧ ns ≤ R.slots) ∧ (∀ q, xA G q → A q) ∧ ((∀ r μ, ¬ Q r μ) ∨ (R = xrm d ∧ nc = 0 ∧ ns = 0 ∧ QS = MQ below (xQc G Q) args s 0 0 (xA G) ∧ A = xA G))
/-- at a place of a method: it will return, with Q -/
def WS (G : xG) (E : xE) (d : Nat) (Z : xZ) (Q : xP) (pc : Nat) (lv st : List xV) (μ : xM) : Prop :=
  match Z with
  | (p, e, s, m, args, below, meth, c, R, nc, ns, QS, A) => xGok G → xCx G E p s m args meth c → xCy G Q d args below s R nc ns QS A → ∀ (H : Heap) (locs : List Loc) (ls : Array Slot), va_P G.2.2.1 vwCl (xwld G.2.2.2.2 G.2.1 G.2.2.2.1 μ) H → va_S A s.heap H locs → xLv G.2.1 ls E.2.1.2.2.1 lv → xlok G.2.2.2.2 lv → xoks G.2.2.2.2 st →
    W p G.1 e R s m args below meth c H locs nc ns QS (F0 m pc ls (st.map (xrv G.2.1)))
theorem xD_wld {G : xG} {A : Nat → Prop} (hG : xGok G) (hA : ∀ q, xA G q → A q) (μ : xM) : va_D A (xwld G.2.2.2.2 G.2.1 G.2.2.2.1 μ) := by
  have key : ∀ (i : Nat) (p : Nat × va_E), (xwld G.2.2.2.2 G.2.1 G.2.2.2.1 μ)[i]? = some p → ∃ q, (xids G.2.2.2.2)[i]? = some q ∧ G.2.1 q = p.1 := by
    intro i p hp
    rw [xwld, List.getElem?_map] at hp
    cases hq : (xids G.2.2.2.2)[i]? with
    | none => rw [hq] at hp; cases hp
    | some q => rw [hq] at hp; cases hp; exact ⟨q, rfl, rfl⟩
  refine ⟨fun i j p q hp hq hpq => ?_, fun k q hq => ?_⟩
  · obtain ⟨a, ha, ea⟩ := key i p hp
    obtain ⟨b, hb, eb⟩ := key j q hq
    have hab := hG a b (xids_ok (List.mem_of_getElem? ha)) (xids_ok (List.mem_of_getElem? hb)) (by rw [ea, eb, hpq])
    subst hab
    exact xids_inj ha hb
  · obtain ⟨a, ha, ea⟩ := key k q hq
    exact hA _ ⟨a, xids_ok (List.mem_of_getElem? ha), ea⟩
-- locals
theorem xnth_set (l : List xV) (i j : Nat) (v : xV) : xnth (xset l i v) j = if j = i ∧ i < l.length then v else xnth l j := by
  induction l generalizing i j with
  | nil => cases i <;> simp [xset, xnth]
  | cons a l ih =>
    cases i with
    | zero => cases j <;> simp [xset, xnth]
    | succ i =>
      cases j with
      | zero => simp [xset, xnth]
      | succ j => simp [xset, xnth, ih]
theorem xlok_set {b : Bool} {l : List xV} (h : xlok b l) (i : Nat) {v : xV} (hv : xvok b v) : xlok b (xset l i v) := by
  intro j
  rw [xnth_set]
  split
  · exact hv
  · exact h j
theorem xclr_s (lv : List xV) (i : Nat) : xclr lv (i + 1) = match xnth lv i with
    | .inr (.inl _) => xset lv i vN
    | _ => lv := rfl
theorem xlok_clr {b : Bool} {l : List xV} (h : xlok b l) (i : Nat) : xlok b (xclr l i) := by
  cases i with
  | zero => exact h
  | succ i =>
    rw [xclr_s]
    split
    · exact xlok_set h i (v := vN) trivial
    · exact h
theorem xnth_clr (l : List xV) (i j : Nat) : xnth (xclr l i) j = vN ∨ (xnth (xclr l i) j = xnth l j ∧ ∀ x, ¬ (j + 1 = i ∧ xnth l j = vL x)) := by
  cases i with
  | zero => exact Or.inr ⟨rfl, fun x h => by omega⟩
  | succ i =>
    rw [xclr_s]
    split
    · rename_i x hx
      rw [xnth_set]
      by_cases hj : j = i
      · subst hj
        split
        · exact Or.inl rfl
        · rename_i hn
          rw [show xnth l j = vN from by
            have : l.length ≤ j := by
              rcases Nat.lt_or_ge j l.length with q | q
              · exact absurd ⟨rfl, q⟩ hn
              · exact q
            clear hn hx
            induction l generalizing j with
            | nil => rfl
            | cons a l ih => cases j with
              | zero => simp at this
              | succ j => exact ih j (by simpa using this)] at hx
          cases hx
      · right
        rw [if_neg (fun h => hj h.1)]
        exact ⟨rfl, fun x h => hj (by omega)⟩
    · rename_i hx
      right
      refine ⟨rfl, fun x h => ?_⟩
      obtain ⟨h1, h2⟩ := h
      have : j = i := by omega
      subst this
      exact hx x h2
theorem xrv_cat2 {ad : xI → Nat} {v : xV} (h : (xrv ad v).category = 2) : ∃ x, v = vL x := by
  rcases v with x | x | _ | q
  · exact absurd h (by simp [xrv, Value.category])
  · exact ⟨x, rfl⟩
  · exact absurd h (by simp [xrv, Value.category])
  · exact absurd h (by simp [xrv, Value.category])
theorem xLv_s1 {ad : xI → Nat} {ls ls' : Array Slot} {n i : Nat} {lv : List xV} {v : xV} {V : Value} (h : xLv ad ls n lv) (hi : i < n) (hV : xrv ad v = V) (hc : V.category = 1) (hst : storeLocals ls i V = some ls') : xLv ad ls' n (xs1 lv i v) := by
  obtain ⟨h1, h2, h3⟩ := h
  have base : ∀ l : List (Nat × Value), (∀ q ∈ l, ls[q.1]? = some (.val q.2)) → lv_has ls' n ((i, V) :: l.filter (fun q => !(q.1 == i) && !(q.1 + 1 == i && q.2.category == 2))) := by
    intro l hl
    obtain ⟨ls2, e1, e2⟩ := lv_store1 (ls := ls) (nL := n) (l := l) ⟨h1, h2, hl⟩ hi hc
    rw [hst] at e1
    cases e1
    exact e2
  obtain ⟨b1, b2, b3⟩ := base [] (by simp)
  refine ⟨b1, b2, fun j hj => ?_⟩
  unfold xs1 at hj ⊢
  rw [xnth_set] at hj ⊢
  by_cases hji : j = i
  · subst hji
    by_cases hlt : j < (xclr lv j).length
    · rw [if_pos ⟨rfl, hlt⟩, hV]
      exact b3 (j, V) (by simp)
    · rw [if_neg (fun q => hlt q.2)] at hj
      exfalso
      apply hj
      generalize xclr lv j = l at hlt
      clear hj h3 hV hi hst base b3
      induction l generalizing j with
      | nil => rfl
      | cons a l ih => cases j with
        | zero => simp at hlt
        | succ j => exact ih j (by simpa using hlt)
  · rw [if_neg (fun q => hji q.1)] at hj ⊢
    rcases xnth_clr lv i j with e | ⟨e, hx⟩
    · exact absurd e hj
    · rw [e] at hj ⊢
      obtain ⟨-, -, c3⟩ := base [(j, xrv ad (xnth lv j))] (by simpa using h3 j hj)
      apply c3 (j, xrv ad (xnth lv j))
      simp only [List.mem_cons, List.mem_filter, List.not_mem_nil, or_false]
      right
      refine ⟨trivial, ?_⟩
      simp only [Bool.and_eq_true, Bool.not_eq_true', beq_eq_false_iff_ne, ne_eq, Bool.and_eq_false_iff]
      refine ⟨hji, ?_⟩
      by_cases h9 : j + 1 = i
      · right
        intro hcat
        obtain ⟨x, ex⟩ := xrv_cat2 hcat
        exact hx x ⟨h9, ex⟩
      · exact Or.inl h9
theorem xLv_s2 {ad : xI → Nat} {ls ls' : Array Slot} {n i : Nat} {lv : List xV} {v : xV} {V : Value} (h : xLv ad ls n lv) (hi : i + 1 < n) (hV : xrv ad v = V) (hc : V.category = 2) (hst : storeLocals ls i V = some ls') : xLv ad ls' n (xs2 lv i v) := by
  obtain ⟨h1, h2, h3⟩ := h
  have base : ∀ l : List (Nat × Value), (∀ q ∈ l, ls[q.1]? = some (.val q.2)) → lv_has ls' n ((i, V) :: l.filter (fun q => !(q.1 == i) && (!(q.1 == i + 1) && !(q.1 + 1 == i && q.2.category == 2)))) := by
    intro l hl
    obtain ⟨ls2, e1, e2⟩ := lv_store2 (ls := ls) (nL := n) (l := l) ⟨h1, h2, hl⟩ hi hc
    rw [hst] at e1
    cases e1
    exact e2
  obtain ⟨b1, b2, b3⟩ := base [] (by simp)
  have past : ∀ (l : List xV) (j : Nat), ¬ j < l.length → xnth l j = vN := by
    intro l
    induction l with
    | nil => intro j _; rfl
    | cons a l ih => intro j hj; cases j with
      | zero => simp at hj
      | succ j => exact ih j (by simpa using hj)
  refine ⟨b1, b2, fun j hj => ?_⟩
  unfold xs2 at hj ⊢
  rw [xnth_set] at hj ⊢
  by_cases hji : j = i
  · subst hji
    by_cases hlt : j < (xset (xclr lv j) (j + 1) vN).length
    · rw [if_pos ⟨rfl, hlt⟩, hV]
      exact b3 (j, V) (by simp)
    · rw [if_neg (fun q => hlt q.2)] at hj
      exact absurd (past _ j hlt) hj
  · rw [if_neg (fun q => hji q.1)] at hj ⊢
    rw [xnth_set] at hj ⊢
    by_cases hj1 : j = i + 1
    · subst hj1
      by_cases hlt : i + 1 < (xclr lv i).length
      · rw [if_pos ⟨rfl, hlt⟩] at hj
        exact absurd rfl hj
      · rw [if_neg (fun q => hlt q.2)] at hj
        exact absurd (past _ _ hlt) hj
    · rw [if_neg (fun q => hj1 q.1)] at hj ⊢
      rcases xnth_clr lv i j with e | ⟨e, hx⟩
      · exact absurd e hj
      · rw [e] at hj ⊢
        obtain ⟨-, -, c3⟩ := base [(j, xrv ad (xnth lv j))] (by simpa using h3 j hj)
        apply c3 (j, xrv ad (xnth lv j))
        simp only [List.mem_cons, List.mem_filter, List.not_mem_nil, or_false]
        right
        refine ⟨trivial, ?_⟩
        simp only [Bool.and_eq_true, Bool.not_eq_true', beq_eq_false_iff_ne, ne_eq, Bool.and_eq_false_iff]
        refine ⟨hji, hj1, ?_⟩
        by_cases h9 : j + 1 = i
        · right
          intro hcat
          obtain ⟨x, ex⟩ := xrv_cat2 hcat
          exact hx x ⟨h9, ex⟩
        · exact Or.inl h9
theorem xLv_mask {ad : xI → Nat} {ls : Array Slot} {n : Nat} {lv : List xV} (b : List Bool) (h : xLv ad ls n lv) : xLv ad ls n (xmask b lv) := by
  refine ⟨h.1, h.2.1, fun i hi => ?_⟩
  have key : ∀ (b : List Bool) (l : List xV) (i : Nat), xnth (xmask b l) i ≠ vN → xnth (xmask b l) i = xnth l i := by
    intro b
    induction b with
    | nil => intro l i h; exact absurd (by unfold xmask; rfl) h
    | cons a b ih =>
      intro l i h
      cases l with
      | nil => cases a <;> exact absurd rfl h
      | cons v l =>
        cases a with
        | true => cases i with
          | zero => rfl
          | succ i => exact ih l i h
        | false => cases i with
          | zero => exact absurd rfl h
          | succ i => exact ih l i h
  have e := key b lv i hi
  rw [e]
  exact h.2.2 i (fun z => hi (e.trans z))
theorem xlok_mask {b0 : Bool} {lv : List xV} (b : List Bool) (h : xlok b0 lv) : xlok b0 (xmask b lv) := by
  intro i
  have key : ∀ (b : List Bool) (l : List xV) (i : Nat), xnth (xmask b l) i = vN ∨ xnth (xmask b l) i = xnth l i := by
    intro b
    induction b with
    | nil => intro l i; exact Or.inl (by unfold xmask; rfl)
    | cons a b ih =>
      intro l i
      cases l with
      | nil => cases a <;> exact Or.inl rfl
      | cons v l =>
        cases a with
        | true => cases i with
          | zero => exact Or.inr rfl
          | succ i => exact ih l i
        | false => cases i with
          | zero => exact Or.inl rfl
          | succ i => exact ih l i
  rcases key b lv i with e | e
  · rw [e]; exact trivial
  · rw [e]; exact h i
-- shapes
theorem xfs_int {ad : xI → Nat} {f : Nat → Int32} : ∀ (fs : List (Option xI)) (b k : Nat), fs[k]? = some none → (xfs ad f b fs)[k]? = some (.int (f (b + k)))
  | [], b, k, h => by simp at h
  | none :: l, b, 0, h => rfl
  | some r :: l, b, 0, h => by simp at h
  | none :: l, b, k + 1, h => by
    rw [show b + (k + 1) = (b + 1) + k by omega]
    exact xfs_int l (b + 1) k (by simpa using h)
  | some r :: l, b, k + 1, h => by
    rw [show b + (k + 1) = (b + 1) + k by omega]
    exact xfs_int l (b + 1) k (by simpa using h)
theorem xfs_ref {ad : xI → Nat} {f : Nat → Int32} {r : xI} : ∀ (fs : List (Option xI)) (b k : Nat), fs[k]? = some (some r) → (xfs ad f b fs)[k]? = some (.ref (ad r))
  | [], b, k, h => by simp at h
  | none :: l, b, 0, h => by simp at h
  | some r' :: l, b, 0, h => by
    have : r' = r := by simpa using h
    subst this
    rfl
  | none :: l, b, k + 1, h => xfs_ref l (b + 1) k (by simpa using h)
  | some r :: l, b, k + 1, h => xfs_ref l (b + 1) k (by simpa using h)
theorem xfs_set {ad : xI → Nat} {f : Nat → Int32} {v : Int32} : ∀ (fs : List (Option xI)) (b k : Nat), fs[k]? = some none → (xfs ad f b fs).set k (.int v) = xfs ad (upd f (b + k) v) b fs
  | [], b, k, h => by simp at h
  | none :: l, b, 0, h => by
    have : ∀ (l : List (Option xI)) (c : Nat), b < c → xfs ad f c l = xfs ad (upd f b v) c l := by
      intro l
      induction l with
      | nil => intro c _; rfl
      | cons a l ih => intro c hc; cases a with
        | none => show _ :: _ = _ :: _; rw [ih (c + 1) (by omega), pk_un (show c ≠ b by omega)]
        | some r => show _ :: _ = _ :: _; rw [ih (c + 1) (by omega)]
    show _ :: _ = _ :: _
    simp only [Nat.add_zero]
    rw [this l (b + 1) (by omega), pk_us]
  | some r :: l, b, 0, h => by simp at h
  | none :: l, b, k + 1, h => by
    rw [show b + (k + 1) = (b + 1) + k by omega]
    show _ :: _ = _ :: _
    rw [xfs_set l (b + 1) k (by simpa using h), pk_un (show b ≠ b + 1 + k by omega)]
  | some r :: l, b, k + 1, h => by
    rw [show b + (k + 1) = (b + 1) + k by omega]
    show _ :: _ = _ :: _
    rw [xfs_set l (b + 1) k (by simpa using h)]
theorem xfs_len {ad : xI → Nat} {f : Nat → Int32} : ∀ (fs : List (Option xI)) (b : Nat), (xfs ad f b fs).length = fs.length
  | [], b => rfl
  | none :: l, b => by simp [xfs, xfs_len l]
  | some r :: l, b => by simp [xfs, xfs_len l]
theorem xobj_ok {b : Bool} {q r : xI} {ci : Nat} {fs : List (Option xI)} (h : xok b q = true) (hq : xobj q = some (ci, fs)) (hr : some r ∈ fs) : xok b r = true := by
  obtain ⟨k, j, c⟩ := q
  unfold xobj at hq
  split at hq <;> cases hq <;> rename_i heq <;> cases heq <;> simp at hr
  all_goals repeat' (refine Or.elim hr ?_ ?_ <;> clear hr <;> intro hr)
  all_goals (subst hr; simp [xok] at h ⊢; try omega)
theorem xvo_o {b : Bool} {q : xI} {x : Nat × List (Option xI)} (h : xvok b (vR q)) (ho : xobj q = some x) : xok b q = true := by
  rcases h with rfl | h
  · cases ho
  · exact h
theorem xvo_a {b : Bool} {q : xI} {x : Nat × Nat} (h : xvok b (vR q)) (ho : xarr q = some x) : xok b q = true := by
  rcases h with rfl | h
  · cases ho
  · exact h
theorem xvo_l {b : Bool} {q : xI} {f : Nat → Prop} (h : xvok b (vR q)) (ho : xal q f) : xok b q = true := by
  rcases h with rfl | h
  · exact ho.elim
  · exact h
theorem xvo_g {b : Bool} {q : xI} {f : Prop} (h : xvok b (vR q)) (ho : xrg q f) : xok b q = true := by
  rcases h with rfl | h
  · exact ho.elim
  · exact h
