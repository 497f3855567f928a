/-! many steps at once, up to the next heads; a method's contract from its first place -/
def wpC (G : xG) (E : xE) (d : Nat) (Z : xZ) (Q : xP) : Nat → xK
  | 0, _, _, _, _ => False
  | n + 1, rest, lv, st, μ => match rest with
    | [] => False
    | e :: r => match xlook E.2.2.2.1 e.1 with
      | some b => WS G E (d + 1) Z Q e.1 (xmask b lv) st μ
      | none => xstep (MW G d) E Q e r lv st μ (wpC G E d Z Q n)
def xfrom : List xT → Nat → List xT
  | [], _ => []
  | e :: l, n => match Nat.beq e.1 n with
    | true => e :: l
    | false => xfrom l n
def xgo (G : xG) (E : xE) (d : Nat) (Z : xZ) (Q : xP) (n pc : Nat) (lv st : List xV) (μ : xM) : Prop := match xfrom E.2.2.1 pc with
  | e :: r => xstep (MW G d) E Q e r lv st μ (wpC G E d Z Q n)
  | [] => False
theorem WS_mask {G : xG} {E : xE} {d : Nat} {Z : xZ} {Q : xP} {pc : Nat} {lv st : List xV} {μ : xM} (b : List Bool) (h : WS G E d Z Q pc (xmask b lv) st μ) : WS G E d Z Q pc lv st μ := by
  obtain ⟨p, e, s, m, args, below, meth, c, R, nc, ns, QS, A⟩ := Z
  intro hG hC hY H locs ls hP hS hl hlo hso
  exact h hG hC hY H locs ls hP hS (xLv_mask b hl) (xlok_mask b hlo) hso
theorem xcont_suf : ∀ (a l : List xT), xcont (a ++ l) = true → xcont l = true
  | [], l, h => h
  | e :: a, l, h => by
    have h : (_ && xcont (a ++ l)) = true := h
    rw [Bool.and_eq_true] at h
    exact xcont_suf a l h.2
theorem xcont_next {tb : List xT} (h : xcont tb = true) {e e' : xT} {r : List xT} (hs : e :: e' :: r <:+ tb) : e'.1 = e.1 + e.2.2.1 := by
  obtain ⟨a, rfl⟩ := hs
  have h1 := xcont_suf a _ h
  have h2 : (decide (e'.1 = e.1 + e.2.2.1) && xcont (e' :: r)) = true := h1
  rw [Bool.and_eq_true] at h2
  exact of_decide_eq_true h2.1
theorem wpC_nil {G : xG} {E : xE} {d : Nat} {Z : xZ} {Q : xP} {n : Nat} {lv st : List xV} {μ : xM} (h : wpC G E d Z Q n [] lv st μ) : False := by
  cases n <;> exact h
theorem wpC_sound {G : xG} {E : xE} {d : Nat} {Z : xZ} {Q : xP} (hE : xEok E) : ∀ (n : Nat) (e : xT) (r : List xT) (lv st : List xV) (μ : xM), e :: r <:+ E.2.2.1 → wpC G E d Z Q n (e :: r) lv st μ → WS G E (d + 1) Z Q e.1 lv st μ := by
  intro n
  induction n with
  | zero => intro e r lv st μ _ h; exact h.elim
  | succ n ih =>
    intro e r lv st μ hs h
    have h : (match xlook E.2.2.2.1 e.1 with
      | some b => WS G E (d + 1) Z Q e.1 (xmask b lv) st μ
      | none => xstep (MW G d) E Q e r lv st μ (wpC G E d Z Q n)) := h
    split at h
    · rename_i b hb
      exact WS_mask b h
    · obtain ⟨pc, i, len, tg, cst⟩ := e
      refine xstep_sound hE (hs.subset List.mem_cons_self) (fun lv st μ hk => ?_) (fun t e' r' hd lv st μ hk => ?_) h
      · cases r with
        | nil => exact (wpC_nil hk).elim
        | cons e' r' =>
          have h1 := xcont_next hE.2.2.1 hs
          have h2 := ih e' r' lv st μ ((List.suffix_cons _ _).trans hs) hk
          rw [h1] at h2
          exact h2
      · rw [hd] at hk
        exact ih e' r' lv st μ (by rw [← hd]; exact List.drop_suffix t _) hk
theorem xfrom_suf : ∀ (tb : List xT) (pc : Nat) (e : xT) (r : List xT), xfrom tb pc = e :: r → e :: r <:+ tb ∧ e.1 = pc
  | [], pc, e, r, h => by cases h
  | a :: l, pc, e, r, h => by
    cases hb : Nat.beq a.1 pc with
    | true =>
      have h : (match Nat.beq a.1 pc with | true => a :: l | false => xfrom l pc) = e :: r := h
      rw [hb] at h
      cases h
      exact ⟨List.suffix_refl _, Nat.eq_of_beq_eq_true hb⟩
    | false =>
      have h : (match Nat.beq a.1 pc with | true => a :: l | false => xfrom l pc) = e :: r := h
      rw [hb] at h
      obtain ⟨h1, h2⟩ := xfrom_suf l pc e r h
      exact ⟨h1.trans (List.suffix_cons _ _), h2⟩
/-- a stretch of a method, computed -/
theorem WS.go {G : xG} {E : xE} {d : Nat} {Z : xZ} {Q : xP} {pc : Nat} {lv st : List xV} {μ : xM} (hE : xEok E) (n : Nat) (h : xgo G E d Z Q n pc lv st μ) : WS G E (d + 1) Z Q pc lv st μ := by
  unfold xgo at h
  split at h
  · rename_i e r he
    obtain ⟨hs, hp⟩ := xfrom_suf _ _ _ _ he
    obtain ⟨pc', i, len, tg, cst⟩ := e
    have hp : pc' = pc := hp
    subst hp
    refine xstep_sound hE (hs.subset List.mem_cons_self) (fun lv st μ hk => ?_) (fun t e' r' hd lv st μ hk => ?_) h
    · cases r with
      | nil => exact (wpC_nil hk).elim
      | cons e' r' =>
        have h1 := xcont_next hE.2.2.1 hs
        have h2 := wpC_sound hE n e' r' lv st μ ((List.suffix_cons _ _).trans hs) hk
        rw [h1] at h2
        exact h2
    · rw [hd] at hk
      exact wpC_sound hE n e' r' lv st μ (by rw [← hd]; exact List.drop_suffix t _) hk
  · exact h.elim
-- the entry
def xent : List xV → List xV
  | [] => []
  | .inr (.inl x) :: l => vL x :: vN :: xent l
  | v :: l => v :: xent l
def xpad : Nat → List xV → List xV
  | 0, _ => []
  | n + 1, v :: l => v :: xpad n l
  | n + 1, [] => vN :: xpad n []
theorem xnth_pad : ∀ (n : Nat) (l : List xV) (i : Nat), xnth (xpad n l) i ≠ vN → xnth (xpad n l) i = xnth l i
  | 0, l, i, h => absurd (by cases i <;> rfl) h
  | n + 1, v :: l, 0, h => rfl
  | n + 1, v :: l, i + 1, h => xnth_pad n l i h
  | n + 1, [], 0, h => rfl
  | n + 1, [], i + 1, h => by
    have := xnth_pad n [] i h
    show xnth (xpad n []) i = vN
    rw [this]
    cases i <;> rfl
theorem xent_args (ad : xI → Nat) : ∀ (args : List xV) (b i : Nat), xnth (xent args) i ≠ vN → (b + i, xrv ad (xnth (xent args) i)) ∈ lv_args b (args.map (xrv ad))
  | [], b, i, h => absurd (by cases i <;> rfl) h
  | .inr (.inl x) :: l, b, 0, h => List.mem_cons_self
  | .inr (.inl x) :: l, b, 1, h => absurd rfl h
  | .inr (.inl x) :: l, b, i + 2, h => by
    have h1 := xent_args ad l (b + 2) i h
    rw [show b + (i + 2) = b + 2 + i by omega]
    exact List.mem_cons_of_mem _ h1
  | .inl x :: l, b, 0, h => List.mem_cons_self
  | .inl x :: l, b, i + 1, h => by
    have h1 := xent_args ad l (b + 1) i h
    rw [show b + (i + 1) = b + 1 + i by omega]
    exact List.mem_cons_of_mem _ h1
  | .inr (.inr none) :: l, b, 0, h => absurd rfl h
  | .inr (.inr none) :: l, b, i + 1, h => by
    have h1 := xent_args ad l (b + 1) i h
    rw [show b + (i + 1) = b + 1 + i by omega]
    exact List.mem_cons_of_mem _ h1
  | .inr (.inr (some q)) :: l, b, 0, h => List.mem_cons_self
  | .inr (.inr (some q)) :: l, b, i + 1, h => by
    have h1 := xent_args ad l (b + 1) i h
    rw [show b + (i + 1) = b + 1 + i by omega]
    exact List.mem_cons_of_mem _ h1
theorem xent_ok {b : Bool} : ∀ (args : List xV), (∀ v ∈ args, xvok b v) → ∀ i, xvok b (xnth (xent args) i)
  | [], h, i => by cases i <;> exact trivial
  | .inr (.inl x) :: l, h, 0 => trivial
  | .inr (.inl x) :: l, h, 1 => trivial
  | .inr (.inl x) :: l, h, i + 2 => xent_ok l (fun v hv => h v (List.mem_cons_of_mem _ hv)) i
  | .inl x :: l, h, 0 => trivial
  | .inl x :: l, h, i + 1 => xent_ok l (fun v hv => h v (List.mem_cons_of_mem _ hv)) i
  | .inr (.inr none) :: l, h, 0 => trivial
  | .inr (.inr none) :: l, h, i + 1 => xent_ok l (fun v hv => h v (List.mem_cons_of_mem _ hv)) i
  | .inr (.inr (some q)) :: l, h, 0 => h _ List.mem_cons_self
  | .inr (.inr (some q)) :: l, h, i + 1 => xent_ok l (fun v hv => h v (List.mem_cons_of_mem _ hv)) i
theorem xent_len (ad : xI → Nat) : ∀ (args : List xV), (lg_sl (args.map (xrv ad))).length = (xent args).length
  | [] => rfl
  | .inr (.inl x) :: l => by
    have := xent_len ad l
    simp only [lg_sl, List.map_cons, List.flatMap_cons, List.length_append] at this ⊢
    rw [this]
    simp [xent, xrv, Value.category]
    omega
  | .inl x :: l => by
    have := xent_len ad l
    simp only [lg_sl, List.map_cons, List.flatMap_cons, List.length_append] at this ⊢
    rw [this]
    simp [xent, xrv, Value.category]
    omega
  | .inr (.inr none) :: l => by
    have := xent_len ad l
    simp only [lg_sl, List.map_cons, List.flatMap_cons, List.length_append] at this ⊢
    rw [this]
    simp [xent, xrv, Value.category]
    omega
  | .inr (.inr (some q)) :: l => by
    have := xent_len ad l
    simp only [lg_sl, List.map_cons, List.flatMap_cons, List.length_append] at this ⊢
    rw [this]
    simp [xent, xrv, Value.category]
    omega
/-- a method's contract, from its first place -/
theorem MW.of {G : xG} {E : xE} {d : Nat} {args : List xV} {μ : xM} {Q : xP} (hE : xEok E) (hn : (xent args).length ≤ E.2.1.2.2.1) (h : ∀ Z, WS G E d Z Q 0 (xpad E.2.1.2.2.1 (xent args)) [] μ) : MW G d E.2.1 args μ Q := by
  intro hG hok
  refine Met.ofW (cc := E.2.1.2.1) (maxL := E.2.1.2.2.1) (ret := E.2.1.2.2.2.1) (ws' := xgw) hE.2.2.2.2.2 rfl ?_
  intro p e s m args' below meth c s₁ B hml hv
  obtain ⟨rfl, hP, hK⟩ := hv
  have hown : s.vm.findClass (xcn E.1) = some m.cls := by
    rw [← hE.2.2.2.2.1]
    exact findClass_of_methodNamed B.named
  rw [lg_entry_eq]
  have hl := lv_entry (args.map (xrv G.2.1)) (n := E.2.1.2.2.1) (by rw [xent_len]; exact hn)
  refine h (p, e, s, m, _, below, meth, c, xrm d, 0, 0, MQ below (xQc G Q) _ s 0 0 (xA G), xA G) hG ⟨B.exec, B.bytes, B.returns, hml, hown, fun w hw => atoms_spec (ws := xws E.2.1) B.pre w (List.mem_cons_of_mem _ hw), hK, B.notSynchronized⟩ ⟨⟨Nat.le_refl _, Nat.le_refl _, Nat.le_refl _, Nat.le_refl _⟩, fun q h => h, Or.inr ⟨rfl, rfl, rfl, rfl, rfl⟩⟩ s.heap [] _ hP va_S.rf ⟨hl.1, hl.2.1, fun i hi => ?_⟩ (fun i => ?_) trivial
  · have h1 := xnth_pad _ _ i hi
    rw [h1] at hi ⊢
    have h2 := xent_args G.2.1 args 0 i hi
    rw [Nat.zero_add] at h2
    exact hl.2.2 _ h2
  · by_cases hi : xnth (xpad E.2.1.2.2.1 (xent args)) i = vN
    · rw [hi]; exact trivial
    · rw [xnth_pad _ _ i hi]
      exact xent_ok args hok i
