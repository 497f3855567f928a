/-! texts: the reader's steps, and the class's check -/
abbrev pL : Type := List (Int × Int × Nat)
abbrev pS : Type := Bool × Nat × pL
def sgn (c : Int) : Int := if c = 38 then 3 else if c = 124 then 4 else if c = 62 then 5 else -6
/-- one character: wants a formula or not, negations that wait, open parentheses (sign, left part, negations ahead) -/
def stepA (w : Nat) (L : pL) (c : Int) : Option pS := if c = 126 then some (true, w + 1, L) else if c = 40 then (if L.length < 10 then some (true, 0, (-6, 0, w) :: L) else none) else if c = 35 ∨ (97 ≤ c ∧ c ≤ 104) then some (false, 0, L) else none
def stepB (w : Nat) (L : pL) (v c : Int) : Option pS := match L with
  | [] => none
  | (s, a, w') :: r => if s = -6 then (if sgn c = -6 then none else some (true, w, (sgn c, v, w') :: r)) else if c = 41 then some (false, 0, r) else none
def step (p : pS) (v c : Int) : Option pS := if p.1 = true then stepA p.2.1 p.2.2 c else stepB p.2.1 p.2.2 v c
def eP (T : aT) : Nat → Nat → pS → Int
  | 0, _, p => if p.1 = false ∧ p.2.2.length = 0 then -6 else (T.1 : Int)
  | n + 1, i, p => match step p 0 (T.2 i) with
    | none => (i : Int)
    | some p' => eP T n (i + 1) p'
def p00 : pS := (true, 0, [])
def errP (T : aT) : Int := eP T T.1 0 p00
theorem stepA_len {w : Nat} {L : pL} {c : Int} {p' : pS} (h : stepA w L c = some p') (hl : L.length ≤ 10) : p'.2.2.length ≤ 10 := by
  unfold stepA at h
  by_cases h1 : c = 126
  · rw [if_pos h1] at h
    injection h with h
    rw [← h]; exact hl
  · rw [if_neg h1] at h
    by_cases h2 : c = 40
    · rw [if_pos h2] at h
      by_cases h3 : L.length < 10
      · rw [if_pos h3] at h
        injection h with h
        rw [← h]
        show L.length + 1 ≤ 10
        omega
      · rw [if_neg h3] at h; cases h
    · rw [if_neg h2] at h
      by_cases h3 : c = 35 ∨ (97 ≤ c ∧ c ≤ 104)
      · rw [if_pos h3] at h
        injection h with h
        rw [← h]; exact hl
      · rw [if_neg h3] at h; cases h
theorem stepB_len {w : Nat} {L : pL} {v c : Int} {p' : pS} (h : stepB w L v c = some p') (hl : L.length ≤ 10) : p'.2.2.length ≤ 10 := by
  match L, hl, h with
  | [], _, h => cases h
  | (s, a, w') :: r, hl, h =>
    have hl : r.length + 1 ≤ 10 := hl
    unfold stepB at h
    dsimp only at h
    by_cases h1 : s = -6
    · rw [if_pos h1] at h
      by_cases h2 : sgn c = -6
      · rw [if_pos h2] at h; cases h
      · rw [if_neg h2] at h
        injection h with h
        rw [← h]
        exact hl
    · rw [if_neg h1] at h
      by_cases h2 : c = 41
      · rw [if_pos h2] at h
        injection h with h
        rw [← h]
        show r.length ≤ 10
        omega
      · rw [if_neg h2] at h; cases h
theorem step_len {p p' : pS} {v c : Int} (h : step p v c = some p') (hl : p.2.2.length ≤ 10) : p'.2.2.length ≤ 10 := by
  unfold step at h
  by_cases h1 : p.1 = true
  · rw [if_pos h1] at h; exact stepA_len h hl
  · rw [if_neg h1] at h; exact stepB_len h hl
/-- the class's bits for the parentheses that have their sign -/
def bitsOk (x : Int32) : pL → Prop
  | [] => True
  | (s, _, _) :: r => bt x (r.length + 1) = decide (s ≠ -6) ∧ bitsOk x r
theorem bitsOk.cg {x y : Int32} : ∀ {L : pL}, bitsOk x L → (∀ k, k ≤ L.length → bt y k = bt x k) → bitsOk y L
  | [], _, _ => trivial
  | (s, a, w) :: r, h, e => ⟨(e (r.length + 1) (Nat.le_refl _)).trans h.1, bitsOk.cg h.2 fun k hk => e k (by show k ≤ r.length + 1; omega)⟩
def cPs (μ : xM) (p : pS) : Prop := (μ (6, 0, 0) 2).toInt = p.2.2.length ∧ μ (6, 0, 0) 4 = (if p.1 = true then 0 else 1) ∧ bitsOk (μ (6, 0, 0) 3) p.2.2
theorem and31 : ∀ k, k < 32 → (nI k &&& (31 : Int32)) = nI k := by decide +kernel
section
variable {G : xG} {d : Nat} {μ : xM} {Q : xP} {S : aS} {H : List aS} {K : Option aS} {T : aT}
theorem kind_of {c : Int32} (h : ∀ x : Int32, x.toInt = sgn c.toInt → Q (some (vI x)) μ) : MW G (d + 1) mX6_kindOf [vI c] μ Q := by
  have e38 : (38 : Int32).toInt = 38 := rfl
  have e62 : (62 : Int32).toInt = 62 := rfl
  have e124 : (124 : Int32).toInt = 124 := rfl
  refine wX6_kindOf ⟨fun z => h _ ?_, fun n1 => ⟨fun z => h _ ?_, fun n2 => ⟨fun z => h _ ?_, fun n3 => h _ ?_⟩⟩⟩
  all_goals unfold sgn
  all_goals rw [ti_eq] at *
  · rw [z]; rfl
  · rw [z]; rfl
  · rw [z]; rfl
  · rw [e38] at n1
    rw [e62] at n2
    rw [e124] at n3
    rw [if_neg n1, if_neg n3, if_neg n2]; rfl
set_option maxHeartbeats 1000000 in
theorem c_begins {c : Int32} {w : Nat} {L : pL} (hp : cPs μ (true, w, L)) (hl : L.length ≤ 10) (ht : ∀ (p' : pS) (μ' : xM), stepA w L c.toInt = some p' → (∀ q, q ≠ (6, 0, 0) → μ' q = μ q) → μ' (6, 0, 0) 0 = μ (6, 0, 0) 0 → cPs μ' p' → Q (some (vI 1)) μ') (hf : ∀ μ' : xM, stepA w L c.toInt = none → (∀ q, q ≠ (6, 0, 0) → μ' q = μ q) → μ' (6, 0, 0) 0 = μ (6, 0, 0) 0 → Q (some (vI 0)) μ') : MW G (d + 1) mX0_beginsPart [vR (6, 0, 0), vI c] μ Q := by
  have e126 : (126 : Int32).toInt = 126 := rfl
  have e40 : (40 : Int32).toInt = 40 := rfl
  have e35 : (35 : Int32).toInt = 35 := rfl
  have e97 : (97 : Int32).toInt = 97 := rfl
  have e105 : (105 : Int32).toInt = 105 := rfl
  have e10 : (10 : Int32).toInt = 10 := rfl
  obtain ⟨p1, p2', p3⟩ := hp
  have p1 : (μ (6, 0, 0) 2).toInt = (L.length : Nat) := p1
  have p2' : μ (6, 0, 0) 4 = 0 := p2'
  have p3 : bitsOk (μ (6, 0, 0) 3) L := p3
  unfold stepA at ht hf
  have at1 : ∀ v : Int32, (xst μ (6, 0, 0) 4 v (6, 0, 0) 4) = v := fun v => by rw [xst_rd, if_pos ⟨rfl, rfl⟩]
  refine wX0_beginsPart (xif_c (fun c1 => ⟨z11, ?_⟩) fun c1 => xif_c (fun c2 => ?_) fun c2 => xif_c (fun c3 => ?_) fun c3 => xif_c (fun c4 => ?_) fun c4 => xif_c (fun c5 => ?_) fun c5 => ?_)
  · rw [ti_eq, e126] at c1
    exact ht _ μ (if_pos c1) (fun _ _ => rfl) rfl ⟨p1, p2', p3⟩
  · rw [ti_eq, e126] at c1
    rw [ti_eq, e40] at c2
    simp only [if_neg c1, if_pos c2] at ht hf
    have v2 : (μ (6, 0, 0) 2 + 1).toInt = (L.length + 1 : Nat) := by
      rw [ti_add (by rw [p1, ti_lit1]; omega) (by rw [p1, ti_lit1]; omega), p1, ti_lit1]
      omega
    have e1 : xst μ (6, 0, 0) 2 (μ (6, 0, 0) 2 + 1) (6, 0, 0) 2 = μ (6, 0, 0) 2 + 1 := by rw [xst_rd, if_pos ⟨rfl, rfl⟩]
    have e2 : xst μ (6, 0, 0) 2 (μ (6, 0, 0) 2 + 1) (6, 0, 0) 3 = μ (6, 0, 0) 3 := by rw [xst_rd, if_neg (fun q => by have := q.2; omega)]
    rw [e1, e2]
    generalize hN : μ (6, 0, 0) 2 + 1 = N at v2
    generalize hB : (μ (6, 0, 0) 3 &&& (((1 : Int32) <<< (N &&& 31)) ^^^ (-1 : Int32))) = B
    have e3 : xst (xst μ (6, 0, 0) 2 N) (6, 0, 0) 3 B (6, 0, 0) 2 = N := by rw [xst_rd, if_neg (fun q => by have := q.2; omega), xst_rd, if_pos ⟨rfl, rfl⟩]
    have e4 : xst (xst μ (6, 0, 0) 2 N) (6, 0, 0) 3 B (6, 0, 0) 3 = B := by rw [xst_rd, if_pos ⟨rfl, rfl⟩]
    have e5 : ∀ i, i ≠ 2 → i ≠ 3 → xst (xst μ (6, 0, 0) 2 N) (6, 0, 0) 3 B (6, 0, 0) i = μ (6, 0, 0) i := fun i h2 h3 => by
      rw [xst_rd, if_neg (fun q => h3 q.2), xst_rd, if_neg (fun q => h2 q.2)]
    have fr : ∀ q, q ≠ (6, 0, 0) → xst (xst μ (6, 0, 0) 2 N) (6, 0, 0) 3 B q = μ q := fun q hq => by rw [xst_ot hq, xst_ot hq]
    rw [e3]
    have hNk : N = nI (L.length + 1) := of_ti v2 (by omega)
    have hBb : ∀ k, k < 32 → bt B k = (bt (μ (6, 0, 0) 3) k && !decide (k = L.length + 1)) := by
      intro k hk
      rw [← hB, hNk, and31 _ (by omega)]
      show bt (μ (6, 0, 0) 3 &&& (p2 (L.length + 1) ^^^ (-1 : Int32))) k = _
      rw [bt_and, bt_not _ hk, p2_bt _ (by omega) _ hk]
    refine xif_c (fun c6 => ⟨z01, ?_⟩) (fun c6 => ⟨z11, ?_⟩)
    · rw [ti_lt, e10, v2] at c6
      exact hf _ (if_neg (by omega)) fr (e5 0 (by omega) (by omega))
    · rw [ti_lt, e10, v2] at c6
      refine ht _ _ (if_pos (by omega)) fr (e5 0 (by omega) (by omega)) ⟨by rw [e3]; exact v2, by rw [e5 4 (by omega) (by omega)]; exact p2', ?_⟩
      rw [e4]
      refine ⟨?_, p3.cg fun k hk => ?_⟩
      · rw [hBb _ (by omega)]
        simp
      · rw [hBb k (by omega)]
        have : ¬ k = L.length + 1 := by omega
        simp [this]
  all_goals rw [ti_eq, e126] at c1
  all_goals rw [ti_eq, e40] at c2
  all_goals rw [ti_eq, e35] at c3
  all_goals simp only [if_neg c1, if_neg c2] at ht hf
  all_goals rw [at1]
  · refine ⟨z11, z11, ht _ _ (if_pos (Or.inl c3)) (fun q hq => xst_ot hq) ?_ ⟨?_, ?_, ?_⟩⟩
    · rw [xst_rd, if_neg (fun q => by have := q.2; omega)]
    · rw [xst_rd, if_neg (fun q => by have := q.2; omega)]; exact p1
    · rw [at1]; rfl
    · rw [xst_rd, if_neg (fun q => by have := q.2; omega)]; exact p3
  · rw [ti_lt, e97] at c4
    refine ⟨z01, z01, hf _ (if_neg (by omega)) (fun q hq => xst_ot hq) ?_⟩
    rw [xst_rd, if_neg (fun q => by have := q.2; omega)]
  · rw [ti_lt, e97] at c4
    rw [ti_le, e105] at c5
    refine ⟨z01, z01, hf _ (if_neg (by omega)) (fun q hq => xst_ot hq) ?_⟩
    rw [xst_rd, if_neg (fun q => by have := q.2; omega)]
  · rw [ti_lt, e97] at c4
    rw [ti_le, e105] at c5
    refine ⟨z11, z11, ht _ _ (if_pos (by omega)) (fun q hq => xst_ot hq) ?_ ⟨?_, ?_, ?_⟩⟩
    · rw [xst_rd, if_neg (fun q => by have := q.2; omega)]
    · rw [xst_rd, if_neg (fun q => by have := q.2; omega)]; exact p1
    · rw [at1]; rfl
    · rw [xst_rd, if_neg (fun q => by have := q.2; omega)]; exact p3
theorem c_cont {c : Int32} {v : Int} {w : Nat} {L : pL} (hp : cPs μ (false, w, L)) (hl : L.length ≤ 10) (ht : ∀ (p' : pS) (μ' : xM), stepB w L v c.toInt = some p' → (∀ q, q ≠ (6, 0, 0) → μ' q = μ q) → μ' (6, 0, 0) 0 = μ (6, 0, 0) 0 → cPs μ' p' → Q (some (vI 1)) μ') (hf : ∀ μ' : xM, stepB w L v c.toInt = none → (∀ q, q ≠ (6, 0, 0) → μ' q = μ q) → μ' (6, 0, 0) 0 = μ (6, 0, 0) 0 → Q (some (vI 0)) μ') : MW G (d + 2) mX0_continuesPart [vR (6, 0, 0), vI c] μ Q := by
  have e41 : (41 : Int32).toInt = 41 := rfl
  obtain ⟨p1, p2', p3⟩ := hp
  have p1 : (μ (6, 0, 0) 2).toInt = (L.length : Nat) := p1
  have p2' : μ (6, 0, 0) 4 = 1 := p2'
  have p3 : bitsOk (μ (6, 0, 0) 3) L := p3
  match L, hl, p1, p3, ht, hf with
  | [], hl, p1, p3, ht, hf => exact wX0_continuesPart (xif_t (by rw [ti_eq, p1]; rfl) ⟨z01, hf μ rfl (fun _ _ => rfl) rfl⟩)
  | (s, a, w') :: r, hl, p1, p3, ht, hf =>
    have hl : r.length + 1 ≤ 10 := hl
    have p1 : (μ (6, 0, 0) 2).toInt = (r.length + 1 : Nat) := p1
    have hN : μ (6, 0, 0) 2 = nI (r.length + 1) := of_ti p1 (by omega)
    obtain ⟨b1, b2⟩ := p3
    unfold stepB at ht hf
    dsimp only at ht hf
    refine wX0_continuesPart (xif_f (by rw [ti_eq, p1, ti_lit0]; omega) ?_)
    have hz : ((μ (6, 0, 0) 3) &&& ((1 : Int32) <<< ((μ (6, 0, 0) 2) &&& 31))) = 0 ↔ bt (μ (6, 0, 0) 3) (r.length + 1) = false := by
      rw [hN, and31 _ (by omega)]
      show (μ (6, 0, 0) 3 &&& p2 (r.length + 1)) = 0 ↔ _
      constructor
      · intro h
        have := congrArg (fun y => bt y (r.length + 1)) h
        simp only [bt_and, bt_0, p2_bt (r.length + 1) (by omega) (r.length + 1) (by omega)] at this
        simpa using this
      · intro h
        refine bt_ext fun k hk => ?_
        rw [bt_and, p2_bt _ (by omega) k hk, bt_0]
        by_cases e : k = r.length + 1
        · rw [e, h]; rfl
        · simp [e]
    rw [b1] at hz
    by_cases hs : s = -6
    · rw [if_pos hs] at ht hf
      refine xif_t (hz.mpr (by simp [hs])) ⟨z01, kind_of fun x hx => ?_⟩
      have fr : ∀ q, q ≠ (6, 0, 0) → xst (xst μ (6, 0, 0) 3 ((μ (6, 0, 0) 3) ||| ((1 : Int32) <<< ((μ (6, 0, 0) 2) &&& 31)))) (6, 0, 0) 4 0 q = μ q := fun q hq => by rw [xst_ot hq, xst_ot hq]
      have of : ∀ i, i ≠ 3 → i ≠ 4 → xst (xst μ (6, 0, 0) 3 ((μ (6, 0, 0) 3) ||| ((1 : Int32) <<< ((μ (6, 0, 0) 2) &&& 31)))) (6, 0, 0) 4 0 (6, 0, 0) i = μ (6, 0, 0) i := fun i h3 h4 => by
        rw [xst_rd, if_neg (fun q => h4 q.2), xst_rd, if_neg (fun q => h3 q.2)]
      refine xif_c (fun cc => ⟨z01, ?_⟩) (fun cc => ⟨z11, ?_⟩)
      · rw [ti_eq, hx, ti_litm6] at cc
        exact hf _ (if_pos cc) fr (of 0 (by omega) (by omega))
      · rw [ti_eq, hx, ti_litm6] at cc
        refine ht _ _ (if_neg cc) fr (of 0 (by omega) (by omega)) ⟨by rw [of 2 (by omega) (by omega)]; exact p1, ?_, ?_⟩
        · rw [xst_rd, if_pos ⟨rfl, rfl⟩]; rfl
        · rw [xst_rd, if_neg (fun q => by have := q.2; omega), xst_rd, if_pos ⟨rfl, rfl⟩, hN, and31 _ (by omega)]
          have bb : ∀ k, k < 32 → bt (μ (6, 0, 0) 3 ||| (1 : Int32) <<< nI (r.length + 1)) k = (bt (μ (6, 0, 0) 3) k || decide (k = r.length + 1)) := by
            intro k hk
            show bt (μ (6, 0, 0) 3 ||| p2 (r.length + 1)) k = _
            rw [bt_or, p2_bt _ (by omega) k hk]
          refine ⟨?_, b2.cg fun k hk => ?_⟩
          · rw [bb _ (by omega)]
            simp [cc]
          · rw [bb k (by omega)]
            have : ¬ k = r.length + 1 := by omega
            simp [this]
    · rw [if_neg hs] at ht hf
      refine xif_f (fun q => by have := hz.mp q; simp [hs] at this) ?_
      have v2 : (μ (6, 0, 0) 2 - 1).toInt = (r.length : Nat) := by
        rw [ti_sub (by rw [p1, ti_lit1]; omega) (by rw [p1, ti_lit1]; omega), p1, ti_lit1]
        omega
      have of : ∀ i, i ≠ 2 → xst μ (6, 0, 0) 2 (μ (6, 0, 0) 2 - 1) (6, 0, 0) i = μ (6, 0, 0) i := fun i h3 => by
        rw [xst_rd, if_neg (fun q => h3 q.2)]
      refine xif_c (fun cc => ⟨z11, ?_⟩) (fun cc => ⟨z01, ?_⟩)
      · rw [ti_eq, e41] at cc
        refine ht _ _ (if_pos cc) (fun q hq => xst_ot hq) (of 0 (by omega)) ⟨by rw [xst_rd, if_pos ⟨rfl, rfl⟩]; exact v2, by rw [of 4 (by omega)]; exact p2', by rw [of 3 (by omega)]; exact b2⟩
      · rw [ti_eq, e41] at cc
        exact hf _ (if_neg cc) (fun q hq => xst_ot hq) (of 0 (by omega))
theorem c_err (h6 : (μ (6, 0, 0) 0).toInt = T.1) (h14 : ∀ i, i < T.1 → (μ (1, 0, 14) i).toInt = T.2 i) (hT : okT T) (h : ∀ (x : Int32) (μ' : xM), x.toInt = errP T → (∀ q, q ≠ (6, 0, 0) → μ' q = μ q) → μ' (6, 0, 0) 0 = μ (6, 0, 0) 0 → Q (some (vI x)) μ') : MW G (d + 3) mX0_firstError [vR (6, 0, 0)] μ Q := by
  have hT70 := hT.1
  refine wX0_firstError fun Z => ⟨z01, ?_⟩
  have lp : ∀ (n i : Nat) (p : pS) (μ1 : xM), i + n = T.1 → p.2.2.length ≤ 10 → cPs μ1 p → (∀ q, q ≠ (6, 0, 0) → μ1 q = μ q) → μ1 (6, 0, 0) 0 = μ (6, 0, 0) 0 → eP T n i p = errP T → WS G eX0_firstError (d + 3) Z Q 17 [vR (6, 0, 0), vI (nI i), vN, vN] [] μ1 := by
    intro n
    induction n with
    | zero =>
      intro i p μ1 hi hl hp e e0 he
      have ei : (nI i).toInt = i := nI_t (by omega)
      obtain ⟨p1, p2', p3⟩ := hp
      unfold eP at he
      refine wX0_firstError_17 (xif_t (by rw [ti_le, e0, h6, ei]; omega) ?_)
      rw [e0]
      by_cases hw : p.1 = true
      · rw [if_pos hw] at p2'
        rw [if_neg (fun q => by rw [hw] at q; cases q.1)] at he
        exact xif_t p2' (h _ μ1 (h6.trans he) e e0)
      · rw [if_neg hw] at p2'
        refine xif_f (by rw [p2']; decide) (xif_c (fun c => ?_) (fun c => ?_))
        · rw [ti_eq, p1, ti_lit0] at c
          rw [if_pos ⟨by simpa using hw, by omega⟩] at he
          exact h _ μ1 he e e0
        · rw [ti_eq, p1, ti_lit0] at c
          rw [if_neg (fun q => c (by have := q.2; omega))] at he
          exact h _ μ1 (h6.trans he) e e0
    | succ n ih =>
      intro i p μ1 hi hl hp e e0 he
      have ei : (nI i).toInt = i := nI_t (by omega)
      obtain ⟨w1, w2, L⟩ := p
      have p2' := hp.2.1
      have hx : (μ1 (1, 0, 14) i).toInt = T.2 i := by rw [e _ (by decide)]; exact h14 i (by omega)
      refine wX0_firstError_17 (xif_f (by rw [ti_le, e0, h6, ei]; omega) (get_in ei (by simp [xlenc]; omega) ?_))
      unfold eP step at he
      dsimp only at he
      cases w1 with
      | true =>
        rw [if_pos rfl] at he
        refine xif_t p2' (c_begins hp hl (fun p' μ2 hs e2 e20 hp2 => xif_f (by decide) ?_) (fun μ2 hs e2 e20 => xif_t rfl ?_))
        · rw [hx] at hs
          rw [hs] at he
          rw [nI_1]
          exact ih (i + 1) p' μ2 (by omega) (stepA_len hs hl) hp2 (fun q hq => (e2 q hq).trans (e q hq)) (e20.trans e0) he
        · rw [hx] at hs
          rw [hs] at he
          exact h _ μ2 (ei.trans he) (fun q hq => (e2 q hq).trans (e q hq)) (e20.trans e0)
      | false =>
        rw [if_neg (by decide)] at he
        have p2' : μ1 (6, 0, 0) 4 = 1 := p2'
        refine xif_f (by rw [p2']; decide) (c_cont (v := 0) hp hl (fun p' μ2 hs e2 e20 hp2 => xif_f (by decide) ?_) (fun μ2 hs e2 e20 => xif_t rfl ?_))
        · rw [hx] at hs
          rw [hs] at he
          rw [nI_1]
          exact ih (i + 1) p' μ2 (by omega) (stepB_len hs hl) hp2 (fun q hq => (e2 q hq).trans (e q hq)) (e20.trans e0) he
        · rw [hx] at hs
          rw [hs] at he
          exact h _ μ2 (ei.trans he) (fun q hq => (e2 q hq).trans (e q hq)) (e20.trans e0)
  have e5 : ∀ i, i ≠ 2 → i ≠ 3 → i ≠ 4 → xst (xst (xst μ (6, 0, 0) 2 0) (6, 0, 0) 3 0) (6, 0, 0) 4 0 (6, 0, 0) i = μ (6, 0, 0) i := fun i h2 h3 h4 => by
    rw [xst_rd, if_neg (fun q => h4 q.2), xst_rd, if_neg (fun q => h3 q.2), xst_rd, if_neg (fun q => h2 q.2)]
  refine lp T.1 0 p00 _ (by omega) (Nat.zero_le _) ⟨?_, ?_, trivial⟩ (fun q hq => by rw [xst_ot hq, xst_ot hq, xst_ot hq]) (e5 0 (by omega) (by omega) (by omega)) rfl
  · rw [xst_rd, if_neg (fun q => by have := q.2; omega), xst_rd, if_neg (fun q => by have := q.2; omega), xst_rd, if_pos ⟨rfl, rfl⟩]
    rfl
  · rw [xst_rd, if_pos ⟨rfl, rfl⟩]
    rfl
end
