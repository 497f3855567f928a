/-! tables from the front; scratch cells; length and character: both sides -/
def tab {α : Type} (g : (Nat → α) → Nat → α) (z : α) : Nat → Nat → α
  | 0 => fun _ => z
  | n + 1 => fun f => if f = n then g (tab g z n) n else tab g z n f
theorem tab_new {α : Type} (g : (Nat → α) → Nat → α) (z : α) (n : Nat) : tab g z (n + 1) n = g (tab g z n) n := if_pos rfl
theorem tab_old {α : Type} (g : (Nat → α) → Nat → α) (z : α) {n f : Nat} (h : f ≠ n) : tab g z (n + 1) f = tab g z n f := if_neg h
theorem tab_st {α : Type} (g : (Nat → α) → Nat → α) (z : α) {f : Nat} : ∀ m n, f < n → tab g z (n + m) f = tab g z n f
  | 0, n, h => rfl
  | m + 1, n, h => by
    rw [← Nat.add_assoc, tab_old g z (by omega), tab_st g z m n h]
theorem tab_rec {α : Type} (g : (Nat → α) → Nat → α) (z : α) {N : Nat} (hg : ∀ (A B : Nat → α) (f : Nat), f < N → (∀ x, x < f → A x = B x) → g A f = g B f) {f : Nat} (h : f < N) : tab g z N f = g (tab g z N) f := by
  obtain ⟨m, rfl⟩ : ∃ m, N = f + 1 + m := ⟨N - (f + 1), by omega⟩
  rw [tab_st g z m (f + 1) (by omega), tab_new]
  refine hg _ _ f h fun x hx => ?_
  rw [show f + 1 + m = f + (1 + m) by omega, tab_st g z (1 + m) f hx]
theorem cS.scr {μ μ' : xM} {S : aS} {H : List aS} {K : Option aS} {T : aT} (h : cS μ S H K T) (e : ∀ q, ownS 0 q ∨ ownS 1 q ∨ ownH q ∨ q = (8, 0, 0) ∨ q = (1, 0, 14) → μ' q = μ q) (e6 : μ' (6, 0, 0) 0 = μ (6, 0, 0) 0) : cS μ' S H K T := by
  obtain ⟨h1, h2, h3, h4, h5⟩ := h
  have e8 := e (8, 0, 0) (Or.inr (Or.inr (Or.inr (Or.inl rfl))))
  have e14 := e (1, 0, 14) (Or.inr (Or.inr (Or.inr (Or.inr rfl))))
  refine ⟨h1.keep fun q hq => e q (Or.inl hq), h2.keep fun q hq => e q (Or.inr (Or.inr (Or.inl hq))), ?_, by rw [e6]; exact h4, by rw [e14]; exact h5⟩
  cases K with
  | none => show μ' _ _ = _; rw [e8]; exact h3
  | some k => exact ⟨by rw [e8]; exact h3.1, h3.2.keep fun q hq => e q (Or.inr (Or.inl hq))⟩
theorem mS.scr {μ μ' : xM} {S : aS} {H : List aS} {K : Option aS} {T : aT} (h : mS μ S H K T) (e : ∀ q, q = (1, 0, 20) ∨ q = (1, 0, 21) ∨ q = (1, 0, 22) ∨ q = (11, 0, 0) → μ' q = μ q) (e2 : μ' (9, 0, 0) 2 = μ (9, 0, 0) 2) (e4 : μ' (9, 0, 0) 4 = μ (9, 0, 0) 4) (e6 : μ' (9, 0, 0) 6 = μ (9, 0, 0) 6) : mS μ' S H K T := by
  obtain ⟨h1, h2, h3, h4, h5⟩ := h
  unfold mS repHM at *
  rw [e (1, 0, 20) (Or.inl rfl), e (1, 0, 21) (Or.inr (Or.inl rfl)), e (1, 0, 22) (Or.inr (Or.inr (Or.inl rfl))), e (11, 0, 0) (Or.inr (Or.inr (Or.inr rfl))), e2, e4, e6]
  exact ⟨h1, h2, h3, h4, h5⟩
/-- which cells are no part of a state -/
theorem scr12 {c : Nat} (hc : c = 12 ∨ c = 13 ∨ c = 15 ∨ c = 16) {q : xI} (h : ownS 0 q ∨ ownS 1 q ∨ ownH q ∨ q = (8, 0, 0) ∨ q = (1, 0, 14)) : q ≠ (1, 0, c) := by
  have ns : ∀ j, ¬ ownS j (1, 0, c) := by
    intro j z
    rcases z with (z | z) | (z | z) <;> simp at z <;> omega
  rintro rfl
  rcases h with z | z | z | z | z
  · exact ns _ z
  · exact ns _ z
  · rcases z with z | ⟨j, -, -, z⟩
    · cases z
    · exact ns _ z
  · cases z
  · simp at z; omega
theorem isC_row {j c : Nat} (hc : c < 20) : isC (1, j, c) := ⟨by simp, by simp, by simp, by simp; omega⟩
def mn6 (x : Int) : Int := if x ≤ 1000000 then x else 1000000
def gL (S : aS) (A : Nat → Int) (f : Nat) : Int := if S.F 0 f < 2 then 1 else if S.F 0 f = 2 then mn6 (1 + A (S.F 1 f).toNat) else mn6 (3 + A (S.F 1 f).toNat + A (S.F 2 f).toNat)
def lenS (S : aS) : Nat → Int := tab (gL S) 1 S.nf
theorem gL_cg {S : aS} (hI : Inv S) (A B : Nat → Int) (f : Nat) (hf : f < S.nf) (h : ∀ x, x < f → A x = B x) : gL S A f = gL S B f := by
  unfold gL
  by_cases c : S.F 0 f < 2
  · rw [if_pos c, if_pos c]
  · rw [if_neg c, if_neg c]
    obtain ⟨x, hx, hx2⟩ := hI.fl hf (by omega)
    by_cases c2 : S.F 0 f = 2
    · rw [if_pos c2, if_pos c2, hx, Int.toNat_natCast, h x hx2]
    · rw [if_neg c2, if_neg c2]
      obtain ⟨y, hy, hy2⟩ := hI.fr hf (by omega)
      rw [hx, hy, Int.toNat_natCast, Int.toNat_natCast, h x hx2, h y hy2]
theorem mn6_bd {x : Int} (h : 1 ≤ x) : 1 ≤ mn6 x ∧ mn6 x ≤ 1000000 ∧ mn6 x ≤ x := by
  unfold mn6
  split <;> omega
theorem tabL_bd (S : aS) : ∀ n f, 1 ≤ tab (gL S) 1 n f ∧ tab (gL S) 1 n f ≤ 1000000
  | 0, f => by show (1 : Int) ≤ 1 ∧ (1 : Int) ≤ 1000000; omega
  | n + 1, f => by
    by_cases c : f = n
    · subst c
      rw [tab_new, gL]
      have h1 := tabL_bd S f (S.F 1 f).toNat
      have h2 := tabL_bd S f (S.F 2 f).toNat
      by_cases c : S.F 0 f < 2
      · rw [if_pos c]; omega
      · rw [if_neg c]
        by_cases c2 : S.F 0 f = 2
        · rw [if_pos c2]
          have := mn6_bd (x := 1 + tab (gL S) 1 f (S.F 1 f).toNat) (by omega)
          omega
        · rw [if_neg c2]
          have := mn6_bd (x := 3 + tab (gL S) 1 f (S.F 1 f).toNat + tab (gL S) 1 f (S.F 2 f).toNat) (by omega)
          omega
    · rw [tab_old _ _ c]
      exact tabL_bd S n f
def first (S : aS) (f : Nat) : Int := if S.F 0 f = 0 then 97 + S.F 1 f else if S.F 0 f = 1 then 35 else if S.F 0 f = 2 then 126 else 40
def signK (k : Int) : Int := if k = 3 then 38 else if k = 4 then 124 else 62
def chr (S : aS) : Nat → Nat → Int → Int
  | 0, _, _ => 0
  | n + 1, f, r => if r ≤ 0 then first S f else if S.F 0 f = 2 then chr S n (S.F 1 f).toNat (r - 1) else if r ≤ lenS S (S.F 1 f).toNat then chr S n (S.F 1 f).toNat (r - 1) else if r - (1 + lenS S (S.F 1 f).toNat) = 0 then signK (S.F 0 f) else if r - (2 + lenS S (S.F 1 f).toNat) = lenS S (S.F 2 f).toNat then 41 else chr S n (S.F 2 f).toNat (r - (2 + lenS S (S.F 1 f).toNat))
section
variable {G : xG} {d : Nat} {μ : xM} {Q : xP} {S : aS} {H : List aS} {K : Option aS} {T : aT}
theorem c_F0 {c : Nat} {x : Int32} {k : Nat} (hr : repF μ 0 S) (hb : S.nf ≤ 60) (hc : c < 3) (hx : x.toInt = k) (hk : k < S.nf) (h : ∀ y : Int32, y.toInt = S.F c k → Q (some (vI y)) μ) : MW G (d + 1) mX5_get [vR (0, 0, c), vI x] μ Q := c_F hr hb hc hx hk h
theorem Inv.kind {S : aS} (h : Inv S) {f : Nat} (hf : f < S.nf) : 0 ≤ S.F 0 f ∧ S.F 0 f ≤ 5 := by
  rcases h.2.2.2.2.1 f hf with z | z | z | z <;> omega
set_option maxHeartbeats 1000000 in
theorem measure_ok (hr : repF μ 0 S) (hI : Inv S) (h : ∀ μ' : xM, (∀ q, q ≠ (1, 0, 12) → μ' q = μ q) → (∀ f, f < S.nf → (μ' (1, 0, 12) f).toInt = lenS S f) → Q none μ') : MW G (d + 2) mX2_measure [vR (2, 0, 0), vR (0, 0, 12)] μ Q := by
  have h60 := hI.1
  have e2 : (2 : Int32).toInt = 2 := rfl
  have e3 : (3 : Int32).toInt = 3 := rfl
  have e6 : (1000000 : Int32).toInt = 1000000 := rfl
  refine wX2_measure fun Z => ?_
  refine up_loop (fun i μ1 => WS G eX2_measure (d + 2) Z Q 2 [vR (2, 0, 0), vR (0, 0, 12), vI (nI i), vN] [] μ1) (fun i μ1 => (∀ q, q ≠ (1, 0, 12) → μ1 q = μ q) ∧ ∀ f, f < i → (μ1 (1, 0, 12) f).toInt = tab (gL S) 1 i f) S.nf ?_ ?_ 0 μ (by omega) ⟨fun _ _ => rfl, fun f hf => by omega⟩
  · intro i μ1 hi ⟨i1, i2⟩ ih
    have ei : (nI i).toInt = i := nI_t (by omega)
    have hr1 : repF μ1 0 S := hr.keep fun q hq => i1 q (by
      rintro rfl
      rcases hq with z | z
      · cases z
      · simp at z)
    have hk := hI.kind hi
    have nxt : ∀ v : Int32, v.toInt = gL S (tab (gL S) 1 i) i → WS G eX2_measure (d + 2) Z Q 2 [vR (2, 0, 0), vR (0, 0, 12), vI (nI i + 1), vN] [] (xst μ1 (1, 0, 12) i v) := by
      intro v hv
      rw [nI_1]
      refine ih _ ⟨fun q hq => ?_, fun f hf => ?_⟩
      · funext x
        rw [xst_rd, if_neg (fun z => hq z.1), i1 q hq]
      · rw [xst_rd]
        by_cases hfi : f = i
        · subst hfi
          rw [if_pos ⟨rfl, rfl⟩, tab_new, hv]
        · rw [if_neg (fun z => hfi z.2), tab_old _ _ hfi, i2 f (by omega)]
    have lrd : ∀ {x : Int32} {k : Nat} {Q' : xP}, x.toInt = k → k < i → (∀ y : Int32, y.toInt = tab (gL S) 1 i k → Q' (some (vI y)) μ1) → MW G (d + 1) mX5_get [vR (0, 0, 12), vI x] μ1 Q' := by
      intro x k Q' hx hk hq
      exact get_in hx (by simp [xlenc]; omega) (hq _ (i2 k hk))
    refine wX2_measure_2 (xif_f (by rw [ti_le, hr1.1, ei]; omega) (c_F hr1 h60 (by omega) ei hi fun x hx => xif_c (fun c => ?_) (fun c => ?_)))
    · rw [ti_lt, hx, e2] at c
      refine c_F hr1 h60 (by omega) ei hi fun y hy => xif_t (by rw [ti_lt, hy, e3]; omega) (set_in ei (by simp [xlenc]; omega) (nxt _ ?_))
      rw [gL, if_pos c, if_neg (by decide)]
      rfl
    · rw [ti_lt, hx, e2] at c
      obtain ⟨a, ha, ha2⟩ := hI.fl hi (by omega)
      have ba := tabL_bd S i a
      refine c_F hr1 h60 (by omega) ei hi fun y hy => lrd (hy.trans ha) ha2 fun z hz => c_F hr1 h60 (by omega) ei hi fun w hw => xif_c (fun c2 => ?_) (fun c2 => ?_)
      · rw [ti_lt, hw, e3] at c2
        refine set_in ei (by simp [xlenc]; omega) (nxt _ ?_)
        have e : ((1 : Int32) + z).toInt = 1 + tab (gL S) 1 i a := by
          rw [ti_add (by rw [hz, ti_lit1]; omega) (by rw [hz, ti_lit1]; omega), hz, ti_lit1]
        have g : gL S (tab (gL S) 1 i) i = mn6 (1 + tab (gL S) 1 i a) := by rw [gL, if_neg c, if_pos (by omega), ha, Int.toNat_natCast]
        rw [g, mn6]
        by_cases cm : (1000000 : Int32) < (1 + z)
        · rw [if_pos cm]
          rw [ti_lt, e, e6] at cm
          rw [if_neg (by omega)]; rfl
        · rw [if_neg cm]
          rw [ti_lt, e, e6] at cm
          rw [if_pos (by omega), e]
      · rw [ti_lt, hw, e3] at c2
        obtain ⟨b, hb, hb2⟩ := hI.fr hi (by omega)
        have bb := tabL_bd S i b
        refine c_F hr1 h60 (by omega) ei hi fun u hu => lrd (hu.trans hb) hb2 fun v hv => set_in ei (by simp [xlenc]; omega) (nxt _ ?_)
        have e : ((1 : Int32) + z).toInt = 1 + tab (gL S) 1 i a := by
          rw [ti_add (by rw [hz, ti_lit1]; omega) (by rw [hz, ti_lit1]; omega), hz, ti_lit1]
        have e' : ((2 : Int32) + v).toInt = 2 + tab (gL S) 1 i b := by
          rw [ti_add (by rw [hv, e2]; omega) (by rw [hv, e2]; omega), hv, e2]
        have e'' : (((1 : Int32) + z) + ((2 : Int32) + v)).toInt = 3 + tab (gL S) 1 i a + tab (gL S) 1 i b := by
          rw [ti_add (by rw [e, e']; omega) (by rw [e, e']; omega), e, e']
          omega
        have g : gL S (tab (gL S) 1 i) i = mn6 (3 + tab (gL S) 1 i a + tab (gL S) 1 i b) := by rw [gL, if_neg c, if_neg (by omega), ha, hb, Int.toNat_natCast, Int.toNat_natCast]
        rw [g, mn6]
        by_cases cm : (1000000 : Int32) < (((1 : Int32) + z) + ((2 : Int32) + v))
        · rw [if_pos cm]
          rw [ti_lt, e'', e6] at cm
          rw [if_neg (by omega)]; rfl
        · rw [if_neg cm]
          rw [ti_lt, e'', e6] at cm
          rw [if_pos (by omega), e'']
  · intro μ1 ⟨i1, i2⟩
    have ei : (nI S.nf).toInt = S.nf := nI_t (by omega)
    refine wX2_measure_2 (xif_t ?_ (h μ1 i1 i2))
    rw [i1 _ (by decide), ti_le, hr.1, ei]
    omega
set_option maxHeartbeats 1000000 in
theorem m_measure (hr : repR (μ (1, 0, 20)) S) (hI : Inv S) (h : ∀ μ' : xM, (∀ q, q ≠ (1, 0, 23) → μ' q = μ q) → (∀ f, f < S.nf → (μ' (1, 0, 23) f).toInt = lenS S f) → Q none μ') : MW G (d + 2) mX9_measure [vR (9, 0, 0)] μ Q := by
  have h60 := hI.1
  have e2 : (2 : Int32).toInt = 2 := rfl
  have e3 : (3 : Int32).toInt = 3 := rfl
  have e6 : (1000000 : Int32).toInt = 1000000 := rfl
  refine wX9_measure fun Z => ?_
  refine up_loop (fun i μ1 => WS G eX9_measure (d + 2) Z Q 2 [vR (9, 0, 0), vI (nI i), vN] [] μ1) (fun i μ1 => (∀ q, q ≠ (1, 0, 23) → μ1 q = μ q) ∧ ∀ f, f < i → (μ1 (1, 0, 23) f).toInt = tab (gL S) 1 i f) S.nf ?_ ?_ 0 μ (by omega) ⟨fun _ _ => rfl, fun f hf => by omega⟩
  · intro i μ1 hi ⟨i1, i2⟩ ih
    have ei : (nI i).toInt = i := nI_t (by omega)
    have hr1 : repR (μ1 (1, 0, 20)) S := by rw [i1 _ (by decide)]; exact hr
    have hk := hI.kind hi
    have nxt : ∀ v : Int32, v.toInt = gL S (tab (gL S) 1 i) i → vp_in (nI i) 60 ∧ WS G eX9_measure (d + 2) Z Q 2 [vR (9, 0, 0), vI (nI i + 1), vN] [] (xst μ1 (1, 0, 23) (nI i).toNatClampNeg v) := by
      intro v hv
      rw [nI_1, ti_cl' ei]
      refine ⟨ti_in ei (by omega), ih _ ⟨fun q hq => ?_, fun f hf => ?_⟩⟩
      · funext x
        rw [xst_rd, if_neg (fun z => hq z.1), i1 q hq]
      · rw [xst_rd]
        by_cases hfi : f = i
        · subst hfi
          rw [if_pos ⟨rfl, rfl⟩, tab_new, hv]
        · rw [if_neg (fun z => hfi z.2), tab_old _ _ hfi, i2 f (by omega)]
    refine wX9_measure_2 ⟨ti_in l0 (by omega), xif_f (by rw [ti_le, ti_cl' l0, hr1.1, ei]; omega) (m_kind hr1 h60 ei hi fun x hx => xif_c (fun c => ?_) (fun c => ?_))⟩
    · rw [ti_le, hx, e2] at c
      obtain ⟨a, ha, ha2⟩ := hI.fl hi (by omega)
      have ba := tabL_bd S i a
      refine m_kind hr1 h60 ei hi fun w hw => xif_c (fun c2 => ?_) (fun c2 => ?_)
      · rw [ti_eq, hw, e2] at c2
        refine m_left hr1 h60 ei hi fun y hy => ⟨ti_in (hy.trans ha) (by omega), ?_⟩
        rw [ti_cl' (hy.trans ha)]
        have hz := i2 a ha2
        have e : ((1 : Int32) + μ1 (1, 0, 23) a).toInt = 1 + tab (gL S) 1 i a := by
          rw [ti_add (by rw [hz, ti_lit1]; omega) (by rw [hz, ti_lit1]; omega), hz, ti_lit1]
        refine xif_c (fun cm => nxt _ ?_) (fun cm => nxt _ ?_)
        all_goals rw [ti_le, e, e6] at cm
        all_goals rw [gL, if_neg (by omega), if_pos c2, ha, Int.toNat_natCast, mn6]
        · rw [if_pos cm, e]
        · rw [if_neg cm]; rfl
      · rw [ti_eq, hw, e2] at c2
        obtain ⟨b, hb, hb2⟩ := hI.fr hi (by omega)
        have bb := tabL_bd S i b
        refine m_left hr1 h60 ei hi fun y hy => ⟨ti_in (hy.trans ha) (by omega), m_right hr1 h60 ei hi fun u hu => ⟨ti_in (hu.trans hb) (by omega), ?_⟩⟩
        rw [ti_cl' (hy.trans ha), ti_cl' (hu.trans hb)]
        have hz := i2 a ha2
        have hv := i2 b hb2
        have e : ((3 : Int32) + μ1 (1, 0, 23) a).toInt = 3 + tab (gL S) 1 i a := by
          rw [ti_add (by rw [hz, e3]; omega) (by rw [hz, e3]; omega), hz, e3]
        have e'' : (((3 : Int32) + μ1 (1, 0, 23) a) + μ1 (1, 0, 23) b).toInt = 3 + tab (gL S) 1 i a + tab (gL S) 1 i b := by
          rw [ti_add (by rw [e, hv]; omega) (by rw [e, hv]; omega), e, hv]
        refine xif_c (fun cm => nxt _ ?_) (fun cm => nxt _ ?_)
        all_goals rw [ti_le, e'', e6] at cm
        all_goals rw [gL, if_neg (by omega), if_neg c2, ha, hb, Int.toNat_natCast, Int.toNat_natCast, mn6]
        · rw [if_pos cm, e'']
        · rw [if_neg cm]; rfl
    · rw [ti_le, hx, e2] at c
      refine xif_t (by decide) (nxt _ ?_)
      rw [gL, if_pos (by omega)]
      rfl
  · intro μ1 ⟨i1, i2⟩
    have ei : (nI S.nf).toInt = S.nf := nI_t (by omega)
    refine wX9_measure_2 ⟨ti_in l0 (by omega), xif_t ?_ (h μ1 i1 i2)⟩
    rw [i1 _ (by decide), ti_le, ti_cl' l0, hr.1, ei]
    omega
theorem op_length (a : Int32) (ok : okO ((0 : Int), S, H, K, T)) : ∃ o : aO, cOp G mX8_length [vI a] S H K T o ∧ mOp G mX9_length [vI a] S H K T o ∧ okO o := by
  have hI : Inv S := ok.1
  have h60 := hI.1
  refine ⟨(cif (vF S a.toInt) (lenS S a.toInt.toNat) (-1), S, H, K, T), ?_, ?_, ok⟩
  · intro μ Q hc h
    refine wX8_length (has_ok hc.1.1 (fun k h1 h2 => xif_f (by decide) (measure_ok hc.1.1 hI fun μ' e1 e2 => get_in h1 (by simp [xlenc]; omega) (h _ μ' ?_ (fun q hq => e1 q ?_) (hc.scr (fun q hq => e1 q (scr12 (by omega) hq)) ?_)))) fun z => xif_t rfl (h _ _ (by rw [cif_f z]; rfl) frC.rf hc))
    · have hk : a.toInt.toNat = k := by omega
      rw [cif_t ⟨by omega, by omega⟩, hk]
      exact e2 k h2
    · rintro rfl
      exact hq (isC_row (by omega))
    · rw [e1 _ (by decide)]
  · intro μ Q hc h
    refine wX9_length (m_isF hc.1 (fun k h1 h2 => xif_f (by decide) (m_measure hc.1 hI fun μ' e1 e2 => ⟨ti_in h1 (by omega), h _ μ' ?_ (fun q hq => e1 q ?_) (hc.scr (fun q hq => e1 q ?_) ?_ ?_ ?_)⟩)) fun z => xif_t rfl (h _ _ (by rw [cif_f z]; rfl) frM.rf hc))
    · have hk : a.toInt.toNat = k := by omega
      rw [cif_t ⟨by omega, by omega⟩, hk, ti_cl' h1]
      exact e2 k h2
    · rintro rfl
      exact hq.2.2.2 ⟨rfl, by simp⟩
    · rintro rfl
      simp at hq
    · rw [e1 _ (by decide)]
    · rw [e1 _ (by decide)]
    · rw [e1 _ (by decide)]
theorem first_ok {x : Int32} {k : Nat} (hr : repF μ 0 S) (hI : Inv S) (hx : x.toInt = k) (hk : k < S.nf) (h : ∀ y : Int32, y.toInt = first S k → Q (some (vI y)) μ) : MW G (d + 2) mX2_firstCode [vR (2, 0, 0), vI x] μ Q := by
  have e97 : (97 : Int32).toInt = 97 := rfl
  have e1 : (1 : Int32).toInt = 1 := rfl
  have e2 : (2 : Int32).toInt = 2 := rfl
  refine wX2_firstCode (c_F hr hI.1 (by omega) hx hk fun y hy => ⟨fun c => c_F hr hI.1 (by omega) hx hk fun z hz => h _ ?_, fun c => ⟨fun c1 => h _ ?_, fun c1 => ⟨fun c2 => h _ ?_, fun c2 => h _ ?_⟩⟩⟩)
  · rw [ti_eq, hy, ti_lit0] at c
    have b : 0 ≤ S.F 1 k ∧ S.F 1 k ≤ 7 := by rcases hI.2.2.2.2.1 k hk with q | q | q | q <;> omega
    rw [first, if_pos c, ti_add (by rw [hz, e97]; omega) (by rw [hz, e97]; omega), hz, e97]
  · rw [ti_eq, hy, ti_lit0] at c
    rw [ti_eq, hy, e1] at c1
    rw [first, if_neg c, if_pos c1]; rfl
  · rw [ti_eq, hy, ti_lit0] at c
    rw [ti_eq, hy, e1] at c1
    rw [ti_eq, hy, e2] at c2
    rw [first, if_neg c, if_neg c1, if_pos c2]; rfl
  · rw [ti_eq, hy, ti_lit0] at c
    rw [ti_eq, hy, e1] at c1
    rw [ti_eq, hy, e2] at c2
    rw [first, if_neg c, if_neg c1, if_neg c2]; rfl
theorem sign_ok {x : Int32} (h : ∀ y : Int32, y.toInt = signK x.toInt → Q (some (vI y)) μ) : MW G (d + 1) mX6_ofKind [vI x] μ Q := by
  have e3 : (3 : Int32).toInt = 3 := rfl
  have e4 : (4 : Int32).toInt = 4 := rfl
  refine wX6_ofKind ⟨fun c => h _ ?_, fun c => ⟨fun c1 => h _ ?_, fun c1 => h _ ?_⟩⟩
  · rw [ti_eq, e3] at c
    rw [signK, if_pos c]; rfl
  · rw [ti_eq, e3] at c
    rw [ti_eq, e4] at c1
    rw [signK, if_neg c, if_pos c1]; rfl
  · rw [ti_eq, e3] at c
    rw [ti_eq, e4] at c1
    rw [signK, if_neg c, if_neg c1]; rfl
theorem lenS_rec (hI : Inv S) {f : Nat} (hf : f < S.nf) : lenS S f = gL S (lenS S) f := tab_rec (gL S) 1 (gL_cg hI) hf
theorem lenS_bd (S : aS) (f : Nat) : 1 ≤ lenS S f ∧ lenS S f ≤ 1000000 := tabL_bd S S.nf f
/-- what lengths say of an index -/
theorem len_at (hI : Inv S) {f : Nat} (hf : f < S.nf) {r : Int} (h0 : 0 < r) (hr : r < lenS S f) : (S.F 0 f = 2 ∧ r ≤ lenS S (S.F 1 f).toNat ∧ (S.F 1 f).toNat < f ∧ 0 ≤ S.F 1 f) ∨ (3 ≤ S.F 0 f ∧ r < 3 + lenS S (S.F 1 f).toNat + lenS S (S.F 2 f).toNat ∧ (S.F 1 f).toNat < f ∧ 0 ≤ S.F 1 f ∧ (S.F 2 f).toNat < f ∧ 0 ≤ S.F 2 f) := by
  rw [lenS_rec hI hf, gL] at hr
  have ba := lenS_bd S (S.F 1 f).toNat
  have bb := lenS_bd S (S.F 2 f).toNat
  by_cases c : S.F 0 f < 2
  · rw [if_pos c] at hr; omega
  · rw [if_neg c] at hr
    obtain ⟨a, ha, ha2⟩ := hI.fl hf (by omega)
    by_cases c2 : S.F 0 f = 2
    · rw [if_pos c2] at hr
      have := (mn6_bd (x := 1 + lenS S (S.F 1 f).toNat) (by omega)).2.2
      exact Or.inl ⟨c2, by omega, by omega, by omega⟩
    · rw [if_neg c2] at hr
      obtain ⟨b, hb, hb2⟩ := hI.fr hf (by omega)
      have := (mn6_bd (x := 3 + lenS S (S.F 1 f).toNat + lenS S (S.F 2 f).toNat) (by omega)).2.2
      exact Or.inr ⟨by omega, by omega, by omega, by omega, by omega, by omega⟩
set_option maxHeartbeats 1000000 in
theorem code_ok {x y : Int32} {k : Nat} (hr : repF μ 0 S) (hl : ∀ f, f < S.nf → (μ (1, 0, 12) f).toInt = lenS S f) (hI : Inv S) (hx : x.toInt = k) (hk : k < S.nf) (hy0 : 0 ≤ y.toInt) (hy : y.toInt < lenS S k) (h : ∀ z : Int32, z.toInt = chr S 60 k y.toInt → Q (some (vI z)) μ) : MW G (d + 3) mX2_codeAt [vR (2, 0, 0), vI x, vI y, vR (0, 0, 12)] μ Q := by
  have h60 := hI.1
  have e60 : (60 : Int32).toInt = 60 := rfl
  have e2 : (2 : Int32).toInt = 2 := rfl
  generalize hT : chr S 60 k y.toInt = t at h
  refine wX2_codeAt fun Z => ?_
  have lp : ∀ (n m : Nat) (a r : Int32) (f : Nat), n + m = 60 → a.toInt = f → f < S.nf → f < n → 0 ≤ r.toInt → r.toInt < lenS S f → chr S n f r.toInt = t → WS G eX2_codeAt (d + 3) Z Q 9 [vR (2, 0, 0), vN, vN, vR (0, 0, 12), vI a, vI r, vI (nI m), vN] [] μ := by
    intro n
    induction n with
    | zero => intro m a r f h1 h2 h3 h4; omega
    | succ n ih =>
      intro m a r f h1 h2 h3 h4 h5 h6 h7
      have em : (nI m).toInt = m := nI_t (by omega)
      unfold chr at h7
      refine wX2_codeAt_9 (xif_f (by rw [ti_le, e60, em]; omega) (xif_c (fun c => ?_) (fun c => ?_)))
      · rw [ti_eq, ti_lit0] at c
        rw [if_pos (by omega)] at h7
        exact first_ok hr hI h2 h3 fun z hz => h z (hz.trans h7)
      · rw [ti_eq, ti_lit0] at c
        rw [if_neg (by omega)] at h7
        have rl : ∀ {u : Int32} {g : Nat} {Q' : xP}, u.toInt = g → g < S.nf → (∀ v : Int32, v.toInt = lenS S g → Q' (some (vI v)) μ) → MW G (d + 2) mX5_get [vR (0, 0, 12), vI u] μ Q' := by
          intro u g Q' hu hg hq
          exact get_in hu (by simp [xlenc]; omega) (hq _ (hl g hg))
        rcases len_at hI h3 (by omega) h6 with ⟨k1, k2, k3, k4⟩ | ⟨k1, k2, k3, k4, k5, k6⟩
        · rw [if_pos k1] at h7
          have hb := lenS_bd S (S.F 1 f).toNat
          refine c_F hr h60 (by omega) h2 h3 fun u hu => rl (show u.toInt = ((S.F 1 f).toNat : Nat) by rw [hu]; omega) (by omega) fun v hv => ?_
          show xif (r = v + 1) _ _
          have ev : (v + 1).toInt = lenS S (S.F 1 f).toNat + 1 := by rw [ti_add (by rw [hv, ti_lit1]; omega) (by rw [hv, ti_lit1]; omega), hv, ti_lit1]
          generalize v + 1 = V at ev ⊢
          have er : (r + (-1 : Int32)).toInt = r.toInt - 1 := by rw [ti_add (by rw [tm1]; omega) (by rw [tm1]; omega), tm1]; omega
          generalize r + (-1 : Int32) = R at er ⊢
          refine xif_f (by rw [ti_eq, ev]; omega) (xif_f (by rw [ti_lt, hv]; omega) (c_F hr h60 (by omega) h2 h3 fun w hw => ?_))
          rw [nI_1]
          refine ih (m + 1) w _ (S.F 1 f).toNat (by omega) (by rw [hw]; omega) (by omega) (by omega) (by rw [er]; omega) (by rw [er]; omega) ?_
          rw [er]; exact h7
        · rw [if_neg (by omega)] at h7
          have hb := lenS_bd S (S.F 1 f).toNat
          have hb2 := lenS_bd S (S.F 2 f).toNat
          refine c_F hr h60 (by omega) h2 h3 fun u hu => rl (show u.toInt = ((S.F 1 f).toNat : Nat) by rw [hu]; omega) (by omega) fun v hv => ?_
          show xif (r = v + 1) _ _
          have ev2 : (v + 2).toInt = lenS S (S.F 1 f).toNat + 2 := by rw [ti_add (by rw [hv, e2]; omega) (by rw [hv, e2]; omega), hv, e2]
          have er2 : (r - (v + 2)).toInt = r.toInt - (2 + lenS S (S.F 1 f).toNat) := by rw [ti_sub (by rw [ev2]; omega) (by rw [ev2]; omega), ev2]; omega
          generalize r - (v + 2) = R2 at er2 ⊢
          clear ev2
          have ev : (v + 1).toInt = lenS S (S.F 1 f).toNat + 1 := by rw [ti_add (by rw [hv, ti_lit1]; omega) (by rw [hv, ti_lit1]; omega), hv, ti_lit1]
          generalize v + 1 = V at ev ⊢
          have er : (r + (-1 : Int32)).toInt = r.toInt - 1 := by rw [ti_add (by rw [tm1]; omega) (by rw [tm1]; omega), tm1]; omega
          generalize r + (-1 : Int32) = R at er ⊢
          refine xif_c (fun c1 => ?_) (fun c1 => xif_c (fun c2 => ?_) (fun c2 => ?_))
          · rw [ti_eq, ev] at c1
            rw [if_neg (by omega), if_pos (by omega)] at h7
            refine c_F hr h60 (by omega) h2 h3 fun w hw => sign_ok fun z hz => h z ?_
            rw [hz, hw]; exact h7
          · rw [ti_eq, ev] at c1
            rw [ti_lt, hv] at c2
            rw [if_neg (by omega), if_neg (by omega)] at h7
            refine c_F hr h60 (by omega) h2 h3 fun w hw => rl (show w.toInt = ((S.F 2 f).toNat : Nat) by rw [hw]; omega) (by omega) fun t ht => xif_c (fun c3 => ?_) (fun c3 => ?_)
            · rw [ti_eq, er2, ht] at c3
              rw [if_pos c3] at h7
              exact h 41 ((show (41 : Int32).toInt = 41 from rfl).trans h7)
            · rw [ti_eq, er2, ht] at c3
              rw [if_neg c3] at h7
              rw [nI_1]
              refine ih (m + 1) w _ (S.F 2 f).toNat (by omega) (by rw [hw]; omega) (by omega) (by omega) (by rw [er2]; omega) (by rw [er2]; omega) ?_
              rw [er2]; exact h7
          · rw [ti_eq, ev] at c1
            rw [ti_lt, hv] at c2
            rw [if_pos (by omega)] at h7
            refine c_F hr h60 (by omega) h2 h3 fun w hw => ?_
            rw [nI_1]
            refine ih (m + 1) w _ (S.F 1 f).toNat (by omega) (by rw [hw]; omega) (by omega) (by omega) (by rw [er]; omega) (by rw [er]; omega) ?_
            rw [er]; exact h7
  exact lp 60 0 x y k rfl hx hk (by omega) hy0 hy hT
set_option maxHeartbeats 1000000 in
theorem m_code {Z : xZ} {x y : Int32} {k : Nat} (hr : repR (μ (1, 0, 20)) S) (hl : ∀ f, f < S.nf → (μ (1, 0, 23) f).toInt = lenS S f) (hI : Inv S) (hx : x.toInt = k) (hk : k < S.nf) (hy0 : 0 ≤ y.toInt) (hy : y.toInt < lenS S k) (h : ∀ z : Int32, z.toInt = chr S 60 k y.toInt → Q (some (vI z)) μ) : WS G eX9_character (d + 2) Z Q 37 [vR (9, 0, 0), vN, vN, vI x, vI y] [] μ := by
  have h60 := hI.1
  have e2 : (2 : Int32).toInt = 2 := rfl
  have e1 : (1 : Int32).toInt = 1 := rfl
  have e3 : (3 : Int32).toInt = 3 := rfl
  have e4 : (4 : Int32).toInt = 4 := rfl
  have e97 : (97 : Int32).toInt = 97 := rfl
  generalize hT : chr S 60 k y.toInt = t at h
  have lp : ∀ (n : Nat) (a r : Int32) (f : Nat), a.toInt = f → f < S.nf → f < n → 0 ≤ r.toInt → r.toInt < lenS S f → chr S n f r.toInt = t → WS G eX9_character (d + 2) Z Q 37 [vR (9, 0, 0), vN, vN, vI a, vI r] [] μ := by
    intro n
    induction n with
    | zero => intro a r f h2 h3 h4; omega
    | succ n ih =>
      intro a r f h2 h3 h4 h5 h6 h7
      unfold chr at h7
      refine wX9_character_37 (xif_c (fun c => ?_) (fun c => ?_))
      · rw [ti_le, ti_lit0] at c
        rw [if_pos (by omega), first] at h7
        refine m_kind hr h60 h2 h3 fun u hu => xif_c (fun c1 => m_left hr h60 h2 h3 fun v hv => h _ ?_) (fun c1 => m_kind hr h60 h2 h3 fun u2 hu2 => xif_c (fun c2 => h _ ?_) (fun c2 => m_kind hr h60 h2 h3 fun u3 hu3 => xif_c (fun c3 => h _ ?_) (fun c3 => h _ ?_)))
        · rw [ti_eq, hu, ti_lit0] at c1
          have b : 0 ≤ S.F 1 f ∧ S.F 1 f ≤ 7 := by rcases hI.2.2.2.2.1 f h3 with q | q | q | q <;> omega
          rw [if_pos c1] at h7
          rw [ti_add (by rw [hv, e97]; omega) (by rw [hv, e97]; omega), hv, e97, ← h7]
        · rw [ti_eq, hu, ti_lit0] at c1
          rw [ti_eq, hu2, e1] at c2
          rw [if_neg c1, if_pos c2] at h7
          exact h7
        · rw [ti_eq, hu, ti_lit0] at c1
          rw [ti_eq, hu2, e1] at c2
          rw [ti_eq, hu3, e2] at c3
          rw [if_neg c1, if_neg c2, if_pos c3] at h7
          exact h7
        · rw [ti_eq, hu, ti_lit0] at c1
          rw [ti_eq, hu2, e1] at c2
          rw [ti_eq, hu3, e2] at c3
          rw [if_neg c1, if_neg c2, if_neg c3] at h7
          exact h7
      · rw [ti_le, ti_lit0] at c
        rw [if_neg (by omega)] at h7
        have hbf := lenS_bd S f
        have er : (r + (-1 : Int32)).toInt = r.toInt - 1 := by rw [ti_add (by rw [tm1]; omega) (by rw [tm1]; omega), tm1]; omega
        generalize r + (-1 : Int32) = R at er ⊢
        refine m_kind hr h60 h2 h3 fun u hu => xif_c (fun c1 => ?_) (fun c1 => ?_)
        · rw [ti_eq, hu, e2] at c1
          rw [if_pos c1] at h7
          rcases len_at hI h3 (by omega) h6 with ⟨k1, k2, k3, k4⟩ | ⟨k1, k2, k3, k4, k5, k6⟩
          · refine m_left hr h60 h2 h3 fun w hw => ih w _ (S.F 1 f).toNat (by rw [hw]; omega) (by omega) (by omega) (by rw [er]; omega) (by rw [er]; omega) ?_
            rw [er]; exact h7
          · omega
        · rw [ti_eq, hu, e2] at c1
          rw [if_neg c1] at h7
          rcases len_at hI h3 (by omega) h6 with ⟨k1, k2, k3, k4⟩ | ⟨k1, k2, k3, k4, k5, k6⟩
          · omega
          · have hb := lenS_bd S (S.F 1 f).toNat
            have hb2 := lenS_bd S (S.F 2 f).toNat
            have hv := hl (S.F 1 f).toNat (by omega)
            have ht := hl (S.F 2 f).toNat (by omega)
            have lk : ∀ w : Int32, w.toInt = S.F 1 f → w.toInt = ((S.F 1 f).toNat : Nat) := fun w hw => by rw [hw]; omega
            have rk : ∀ w : Int32, w.toInt = S.F 2 f → w.toInt = ((S.F 2 f).toNat : Nat) := fun w hw => by rw [hw]; omega
            refine m_left hr h60 h2 h3 fun w hw => ⟨ti_in (lk w hw) (by omega), ?_⟩
            rw [ti_cl' (lk w hw)]
            refine xif_c (fun c2 => ?_) (fun c2 => ?_)
            · rw [ti_lt, hv] at c2
              rw [if_neg (by omega)] at h7
              refine m_left hr h60 h2 h3 fun w2 hw2 => ⟨ti_in (lk w2 hw2) (by omega), ?_⟩
              rw [ti_cl' (lk w2 hw2)]
              have ev : ((1 : Int32) + μ (1, 0, 23) (S.F 1 f).toNat).toInt = 1 + lenS S (S.F 1 f).toNat := by rw [ti_add (by rw [hv, ti_lit1]; omega) (by rw [hv, ti_lit1]; omega), hv, ti_lit1]
              have er2 : (r - ((1 : Int32) + μ (1, 0, 23) (S.F 1 f).toNat)).toInt = r.toInt - (1 + lenS S (S.F 1 f).toNat) := by rw [ti_sub (by rw [ev]; omega) (by rw [ev]; omega), ev]
              generalize r - ((1 : Int32) + μ (1, 0, 23) (S.F 1 f).toNat) = R2 at er2 ⊢
              clear ev
              have er3 : (R2 + (-1 : Int32)).toInt = r.toInt - (2 + lenS S (S.F 1 f).toNat) := by rw [ti_add (by rw [er2, tm1]; omega) (by rw [er2, tm1]; omega), er2, tm1]; omega
              generalize R2 + (-1 : Int32) = R3 at er3 ⊢
              refine xif_c (fun c3 => ?_) (fun c3 => ?_)
              · rw [ti_eq, er2, ti_lit0] at c3
                rw [if_pos c3, signK] at h7
                refine m_kind hr h60 h2 h3 fun u1 hu1 => xif_c (fun c4 => h _ ?_) (fun c4 => m_kind hr h60 h2 h3 fun u2 hu2 => xif_c (fun c5 => h _ ?_) (fun c5 => h _ ?_))
                · rw [ti_eq, hu1, e3] at c4
                  rw [if_pos c4] at h7; exact h7
                · rw [ti_eq, hu1, e3] at c4
                  rw [ti_eq, hu2, e4] at c5
                  rw [if_neg c4, if_pos c5] at h7; exact h7
                · rw [ti_eq, hu1, e3] at c4
                  rw [ti_eq, hu2, e4] at c5
                  rw [if_neg c4, if_neg c5] at h7; exact h7
              · rw [ti_eq, er2, ti_lit0] at c3
                rw [if_neg c3] at h7
                refine m_right hr h60 h2 h3 fun w3 hw3 => ⟨ti_in (rk w3 hw3) (by omega), ?_⟩
                rw [ti_cl' (rk w3 hw3)]
                refine xif_c (fun c4 => ?_) (fun c4 => ?_)
                · rw [ti_eq, er3, ht] at c4
                  rw [if_pos c4] at h7
                  exact h 41 ((show (41 : Int32).toInt = 41 from rfl).trans h7)
                · rw [ti_eq, er3, ht] at c4
                  rw [if_neg c4] at h7
                  refine m_right hr h60 h2 h3 fun w4 hw4 => ih w4 _ (S.F 2 f).toNat (rk w4 hw4) (by omega) (by omega) (by rw [er3]; omega) (by rw [er3]; omega) ?_
                  rw [er3]; exact h7
            · rw [ti_lt, hv] at c2
              rw [if_pos (by omega)] at h7
              refine m_left hr h60 h2 h3 fun w2 hw2 => ih w2 _ (S.F 1 f).toNat (lk w2 hw2) (by omega) (by omega) (by rw [er]; omega) (by rw [er]; omega) ?_
              rw [er]; exact h7
  exact lp 60 x y k hx hk (by omega) hy0 hy hT
theorem op_character (a p : Int32) (ok : okO ((0 : Int), S, H, K, T)) : ∃ o : aO, cOp G mX8_character [vI a, vI p] S H K T o ∧ mOp G mX9_character [vI a, vI p] S H K T o ∧ okO o := by
  have hI : Inv S := ok.1
  have h60 := hI.1
  refine ⟨(cif (vF S a.toInt) (cif (0 ≤ p.toInt ∧ p.toInt < lenS S a.toInt.toNat) (chr S 60 a.toInt.toNat p.toInt) (-1)) (-1), S, H, K, T), ?_, ?_, ok⟩
  · intro μ Q hc h
    refine wX8_character (has_ok hc.1.1 (fun k h1 h2 => xif_f (by decide) (measure_ok hc.1.1 hI fun μ' e1 e2 => ?_)) fun z => xif_t rfl (h _ _ (by rw [cif_f z]; rfl) frC.rf hc))
    have hk : a.toInt.toNat = k := by omega
    rw [cif_t ⟨by omega, by omega⟩, hk] at h
    have f1 : frC μ μ' := fun q hq => e1 q (by
      rintro rfl
      exact hq (isC_row (by omega)))
    have f2 : cS μ' S H K T := hc.scr (fun q hq => e1 q (scr12 (by omega) hq)) (by rw [e1 _ (by decide)])
    have hl := e2 k h2
    refine xif_c (fun c => h _ μ' ?_ f1 f2) (fun c => get_in h1 (by simp [xlenc]; omega) (xif_c (fun c2 => ?_) (fun c2 => h _ μ' ?_ f1 f2)))
    · rw [ti_lt, ti_lit0] at c
      rw [cif_f (by omega)]; rfl
    · rw [ti_lt, ti_lit0] at c
      rw [ti_lt, hl] at c2
      rw [cif_t ⟨by omega, c2⟩] at h
      exact code_ok f2.1.1 e2 hI h1 h2 (by omega) c2 fun z hz => h z μ' hz f1 f2
    · rw [ti_lt, ti_lit0] at c
      rw [ti_lt, hl] at c2
      rw [cif_f (fun q => c2 q.2)]; rfl
  · intro μ Q hc h
    refine wX9_character fun Z => m_isF hc.1 (fun k h1 h2 => xif_f (by decide) (m_measure hc.1 hI fun μ' e1 e2 => ⟨ti_in h1 (by omega), ?_⟩)) fun z => xif_t rfl (h _ _ (by rw [cif_f z]; rfl) frM.rf hc)
    have hk : a.toInt.toNat = k := by omega
    rw [cif_t ⟨by omega, by omega⟩, hk] at h
    have f1 : frM μ μ' := fun q hq => e1 q (by
      rintro rfl
      exact hq.2.2.2 ⟨rfl, by simp⟩)
    have f2 : mS μ' S H K T := hc.scr (fun q hq => e1 q (by
      rintro rfl
      simp at hq)) (by rw [e1 _ (by decide)]) (by rw [e1 _ (by decide)]) (by rw [e1 _ (by decide)])
    have hl := e2 k h2
    have hb := lenS_bd S k
    have el : (μ' (1, 0, 23) a.toNatClampNeg - 1).toInt = lenS S k - 1 := by
      rw [ti_cl' h1, ti_sub (by rw [hl, ti_lit1]; omega) (by rw [hl, ti_lit1]; omega), hl, ti_lit1]
    refine in_ok (fun z1 z2 => xif_f (by decide) ?_) (fun z => xif_t rfl (h _ μ' ?_ f1 f2))
    · rw [ti_lit0] at z1
      rw [el] at z2
      rw [cif_t ⟨z1, by omega⟩] at h
      exact m_code f2.1 e2 hI h1 h2 z1 (by omega) fun z hz => h z μ' hz f1 f2
    · rw [ti_lit0, el] at z
      rw [cif_f (by omega)]; rfl
end
