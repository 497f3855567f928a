/-! what both sides stand for; frames; how formulas are found and made -/
/-- the cells of the class -/
def isC (q : xI) : Prop := q.1 ≠ 9 ∧ q.1 ≠ 11 ∧ q.1 ≠ 12 ∧ ¬ (q.1 = 1 ∧ 20 ≤ q.2.2)
def frC (μ μ' : xM) : Prop := ∀ q, ¬ isC q → μ' q = μ q
theorem frC.rf {μ : xM} : frC μ μ := fun _ _ => rfl
theorem frC.tr {a b c : xM} (h1 : frC a b) (h2 : frC b c) : frC a c := fun q hq => (h2 q hq).trans (h1 q hq)
theorem ownS_isC {j : Nat} {q : xI} (h : ownS j q) : isC q := by
  rcases h with (rfl | h) | (rfl | h) <;> refine ⟨?_, ?_, ?_, ?_⟩ <;> simp <;> omega
theorem ownH_isC {q : xI} (h : ownH q) : isC q := by
  rcases h with rfl | ⟨j, _, _, h⟩
  · refine ⟨?_, ?_, ?_, ?_⟩ <;> simp
  · exact ownS_isC h
/-- the buffer's characters, on both sides -/
abbrev aT : Type := Nat × (Nat → Int)
def okT (T : aT) : Prop := T.1 ≤ 70 ∧ ∀ i, i < T.1 → 33 ≤ T.2 i ∧ T.2 i ≤ 126
/-- the class's objects stand for: now, history, saved state, buffer -/
def cS (μ : xM) (S : aS) (H : List aS) (K : Option aS) (T : aT) : Prop :=
  repC μ 0 S ∧ repH μ H ∧ (match K with | none => μ (8, 0, 0) 8 = 0 | some k => μ (8, 0, 0) 8 = 1 ∧ repC μ 1 k) ∧ (μ (6, 0, 0) 0).toInt = T.1 ∧ ∀ i, i < T.1 → (μ (1, 0, 14) i).toInt = T.2 i
theorem cS.keep {μ μ' : xM} {S : aS} {H : List aS} {K : Option aS} {T : aT} (h : cS μ S H K T) (e : ∀ q, isC q → μ' q = μ q) : cS μ' S H K T := by
  obtain ⟨h1, h2, h3, h4, h5⟩ := h
  have e6 := e (6, 0, 0) (by refine ⟨?_, ?_, ?_, ?_⟩ <;> simp)
  have e8 := e (8, 0, 0) (by refine ⟨?_, ?_, ?_, ?_⟩ <;> simp)
  have e14 := e (1, 0, 14) (by refine ⟨?_, ?_, ?_, ?_⟩ <;> simp)
  refine ⟨h1.keep fun q hq => e q (ownS_isC hq), h2.keep fun q hq => e q (ownH_isC hq), ?_, by rw [e6]; exact h4, by rw [e14]; exact h5⟩
  cases K with
  | none => show μ' _ _ = _; rw [e8]; exact h3
  | some k => exact ⟨by rw [e8]; exact h3.1, h3.2.keep fun q hq => e q (ownS_isC hq)⟩
/-- a formula's place in order -/
def okF (S : aS) (f : Nat) : Prop :=
  (S.F 0 f = 0 ∧ 0 ≤ S.F 1 f ∧ S.F 1 f ≤ 7 ∧ S.F 2 f = -6) ∨ (S.F 0 f = 1 ∧ S.F 1 f = -6 ∧ S.F 2 f = -6) ∨ (S.F 0 f = 2 ∧ 0 ≤ S.F 1 f ∧ S.F 1 f < f ∧ S.F 2 f = -6) ∨ (3 ≤ S.F 0 f ∧ S.F 0 f ≤ 5 ∧ 0 ≤ S.F 1 f ∧ S.F 1 f < f ∧ 0 ≤ S.F 2 f ∧ S.F 2 f < f)
/-- a box to which line l refers: closed, ahead of the line -/
def okBR (S : aS) (l : Nat) (x : Int) : Prop := 0 ≤ x ∧ x < S.nb ∧ 0 ≤ S.B 1 x.toNat ∧ S.B 1 x.toNat < l
def okLR (l : Nat) (x : Int) : Prop := 0 ≤ x ∧ x < l
def okRef (S : aS) (l : Nat) : Prop :=
  ((S.L 1 l = 0 ∨ S.L 1 l = 1) ∧ S.L 2 l = -6 ∧ S.L 3 l = -6 ∧ S.L 4 l = -6) ∨
  ((S.L 1 l = 3 ∨ S.L 1 l = 9 ∨ S.L 1 l = 11) ∧ okLR l (S.L 2 l) ∧ okLR l (S.L 3 l) ∧ S.L 4 l = -6) ∨
  ((S.L 1 l = 2 ∨ S.L 1 l = 4 ∨ S.L 1 l = 5 ∨ S.L 1 l = 6 ∨ S.L 1 l = 12 ∨ S.L 1 l = 13) ∧ okLR l (S.L 2 l) ∧ S.L 3 l = -6 ∧ S.L 4 l = -6) ∨
  (S.L 1 l = 7 ∧ okLR l (S.L 2 l) ∧ okBR S l (S.L 3 l) ∧ okBR S l (S.L 4 l)) ∨
  ((S.L 1 l = 8 ∨ S.L 1 l = 10) ∧ okBR S l (S.L 2 l) ∧ S.L 3 l = -6 ∧ S.L 4 l = -6)
/-- the latest open box below n -/
def latO (S : aS) : Nat → Int
  | 0 => -6
  | n + 1 => if S.B 1 n = -6 then (n : Int) else latO S n
def okL (S : aS) (l : Nat) : Prop := 0 ≤ S.L 0 l ∧ S.L 0 l < S.nf ∧ okRef S l ∧ (S.L 5 l = -6 ∨ (0 ≤ S.L 5 l ∧ S.L 5 l < S.nb ∧ S.B 0 (S.L 5 l).toNat ≤ l ∧ (S.B 1 (S.L 5 l).toNat = -6 ∨ (l : Int) ≤ S.B 1 (S.L 5 l).toNat)))
def okB (S : aS) (dp : Nat → Nat) (b : Nat) : Prop :=
  0 ≤ S.B 0 b ∧ S.B 0 b < S.nl ∧ S.L 5 (S.B 0 b).toNat = b ∧ (S.B 1 b = -6 ∨ (S.B 0 b ≤ S.B 1 b ∧ S.B 1 b < S.nl)) ∧
  (S.B 1 b = -6 → S.B 2 b = latO S b) ∧ 1 ≤ dp b ∧ dp b ≤ 5 ∧
  ((S.B 2 b = -6 ∧ dp b = 1) ∨ (0 ≤ S.B 2 b ∧ S.B 2 b < b ∧ dp b = dp (S.B 2 b).toNat + 1 ∧ (S.B 1 (S.B 2 b).toNat = -6 ∨ (0 ≤ S.B 1 b ∧ S.B 1 b ≤ S.B 1 (S.B 2 b).toNat))))
def Inv (S : aS) : Prop :=
  S.nf ≤ 60 ∧ S.nl ≤ 48 ∧ S.nb ≤ S.nl ∧ S.inn = latO S S.nb ∧ (∀ f, f < S.nf → okF S f) ∧ (∀ l, l < S.nl → okL S l) ∧ (∃ dp : Nat → Nat, ∀ b, b < S.nb → okB S dp b) ∧ ∀ b b', b < b' → b' < S.nb → S.B 0 b < S.B 0 b'
theorem Inv.bd {S : aS} (h : Inv S) : bdS S := ⟨h.1, h.2.1, by have := h.2.1; have := h.2.2.1; omega⟩
-- formulas
def fmt (S : aS) (k l r : Int) (f : Nat) : Prop := S.F 0 f = k ∧ S.F 1 f = l ∧ S.F 2 f = r
def fnd (S : aS) (k l r : Int) : Nat → Nat → Int
  | 0, _ => -6
  | n + 1, i => if S.F 0 i = k ∧ S.F 1 i = l ∧ S.F 2 i = r then (i : Int) else fnd S k l r n (i + 1)
def findS (S : aS) (k l r : Int) : Int := fnd S k l r S.nf 0
theorem fnd_ok (S : aS) (k l r : Int) : ∀ n i, fnd S k l r n i = -6 ∨ ∃ f : Nat, fnd S k l r n i = f ∧ i ≤ f ∧ f < i + n ∧ fmt S k l r f
  | 0, i => Or.inl rfl
  | n + 1, i => by
    unfold fnd
    split
    · rename_i h
      exact Or.inr ⟨i, rfl, by omega, by omega, h⟩
    · rcases fnd_ok S k l r n (i + 1) with h | ⟨f, h1, h2, h3, h4⟩
      · exact Or.inl h
      · exact Or.inr ⟨f, h1, by omega, by omega, h4⟩
theorem findS_ok (S : aS) (k l r : Int) : findS S k l r = -6 ∨ ∃ f : Nat, findS S k l r = f ∧ f < S.nf ∧ fmt S k l r f := by
  rcases fnd_ok S k l r S.nf 0 with h | ⟨f, h1, h2, h3, h4⟩
  · exact Or.inl h
  · exact Or.inr ⟨f, h1, by omega, h4⟩
def roomS (S : aS) (k l r : Int) : Prop := S.nf < 60 ∨ findS S k l r ≠ -6
def addF (S : aS) (k l r : Int) : aS := ((S.nf + 1, S.nl, S.nb, S.inn), fun c f => if f = S.nf then (if c = 0 then k else if c = 1 then l else r) else S.F c f, S.L, S.B)
theorem addF_nf (S : aS) (k l r : Int) : (addF S k l r).nf = S.nf + 1 := rfl
theorem addF_F (S : aS) (k l r : Int) (c f : Nat) : (addF S k l r).F c f = if f = S.nf then (if c = 0 then k else if c = 1 then l else r) else S.F c f := rfl
def mkS (S : aS) (k l r : Int) : Int × aS := if findS S k l r = -6 then ((S.nf : Int), addF S k l r) else (findS S k l r, S)
section
variable {G : xG} {d j : Nat} {μ : xM} {Q : xP} {S : aS}
theorem has_ok {f : Int32} (hr : repF μ j S) (ht : ∀ k : Nat, f.toInt = k → k < S.nf → Q (some (vI 1)) μ) (hf : ¬ (0 ≤ f.toInt ∧ f.toInt < S.nf) → Q (some (vI 0)) μ) : MW G (d + 1) mX2_has [vR (2, j, 0), vI f] μ Q := by
  refine wX2_has (xif_c (fun c1 => ⟨z01, hf ?_⟩) fun c1 => xif_c (fun c2 => ⟨z01, hf ?_⟩) fun c2 => ⟨z11, ht f.toInt.toNat ?_ ?_⟩)
  all_goals simp only [ti_lt, ti_le, hr.1, ti_lit0] at *
  all_goals omega
set_option maxHeartbeats 1000000 in
theorem find_ok {k l r : Int32} (hr : repF μ j S) (hb : S.nf ≤ 60) (h : ∀ x : Int32, x.toInt = findS S k.toInt l.toInt r.toInt → Q (some (vI x)) μ) : MW G (d + 2) mX2_find [vR (2, j, 0), vI k, vI l, vI r] μ Q := by
  refine wX2_find fun Z => ?_
  refine up_loop (σ := Unit) (fun i _ => WS G eX2_find (d + 2) Z Q 3 [vR (2, j, 0), vI k, vI l, vI r, vI (nI i)] [] μ) (fun i _ => fnd S k.toInt l.toInt r.toInt (S.nf - i) i = findS S k.toInt l.toInt r.toInt) S.nf ?_ ?_ 0 () (by omega) rfl
  · intro i _ hi h1 ih
    have ei : (nI i).toInt = i := nI_t (by omega)
    rw [show S.nf - i = (S.nf - (i + 1)) + 1 by omega] at h1
    unfold fnd at h1
    have nxt : ¬ (S.F 0 i = k.toInt ∧ S.F 1 i = l.toInt ∧ S.F 2 i = r.toInt) → WS G eX2_find (d + 2) Z Q 3 [vR (2, j, 0), vI k, vI l, vI r, vI (nI i + 1)] [] μ := by
      intro hn
      rw [if_neg hn] at h1
      rw [nI_1]
      exact ih () h1
    refine wX2_find_3 (xif_f (by rw [ti_le, hr.1, ei]; omega) ?_)
    refine get_in ei (by simp [xlenc]; omega) (xif_c (fun c1 => ?_) (fun c1 => nxt fun z => c1 ?_))
    · refine get_in ei (by simp [xlenc]; omega) (xif_c (fun c2 => ?_) (fun c2 => nxt fun z => c2 ?_))
      · refine get_in ei (by simp [xlenc]; omega) (xif_c (fun c3 => ?_) (fun c3 => nxt fun z => c3 ?_))
        · rw [ti_eq, hr.2 _ (by omega) i hi] at c1 c2 c3
          rw [if_pos ⟨c1, c2, c3⟩] at h1
          exact h _ (by rw [ei, ← h1])
        · rw [ti_eq, hr.2 _ (by omega) i hi]; exact z.2.2
      · rw [ti_eq, hr.2 _ (by omega) i hi]; exact z.2.1
    · rw [ti_eq, hr.2 _ (by omega) i hi]; exact z.1
  · intro _ h1
    rw [Nat.sub_self] at h1
    have ei : (nI S.nf).toInt = S.nf := nI_t (by omega)
    exact wX2_find_3 (xif_t (by rw [ti_le, hr.1, ei]; omega) (h _ (by rw [← h1]; rfl)))
theorem room_ok {k l r : Int32} (hr : repF μ j S) (hb : S.nf ≤ 60) (ht : roomS S k.toInt l.toInt r.toInt → Q (some (vI 1)) μ) (hf : ¬ roomS S k.toInt l.toInt r.toInt → Q (some (vI 0)) μ) : MW G (d + 3) mX2_hasRoomFor [vR (2, j, 0), vI k, vI l, vI r] μ Q := by
  have e60 : (60 : Int32).toInt = 60 := rfl
  refine wX2_hasRoomFor (xif_c (fun c1 => ⟨z11, ht (Or.inl ?_)⟩) fun c1 => find_ok hr hb fun x hx => ?_)
  · rw [ti_lt, hr.1, e60] at c1; omega
  · rw [ti_lt, hr.1, e60] at c1
    refine xif_c (fun c2 => ⟨z01, hf ?_⟩) (fun c2 => ⟨z11, ht (Or.inr ?_)⟩)
    · rw [ti_eq, hx, ti_litm6] at c2
      rintro (z | z)
      · omega
      · exact z c2
    · rw [ti_eq, hx, ti_litm6] at c2; exact c2
theorem make_ok {k l r : Int32} (hr : repF μ j S) (hb : S.nf ≤ 60) (hroom : roomS S k.toInt l.toInt r.toInt) (h : ∀ (x : Int32) (μ' : xM), x.toInt = (mkS S k.toInt l.toInt r.toInt).1 → (∀ q, ¬ ownF j q → μ' q = μ q) → repF μ' j (mkS S k.toInt l.toInt r.toInt).2 → Q (some (vI x)) μ') : MW G (d + 3) mX2_make [vR (2, j, 0), vI k, vI l, vI r] μ Q := by
  have e60 : (60 : Int32).toInt = 60 := rfl
  unfold mkS at h
  refine wX2_make (find_ok hr hb fun x hx => xif_c (fun c1 => ?_) (fun c1 => ?_))
  · rw [ti_eq, hx, ti_litm6] at c1
    have hlt : S.nf < 60 := by
      rcases hroom with z | z
      · exact z
      · exact absurd c1 z
    rw [if_pos c1] at h
    refine xif_t (by rw [ti_lt, hr.1, e60]; omega) ?_
    refine set_in hr.1 (by simp [xlenc]; omega) (set_in hr.1 (by simp [xlenc]; omega) (set_in hr.1 (by simp [xlenc]; omega) (h _ _ hr.1 (fun q hq => ?_) ⟨?_, fun c hc f hf => ?_⟩)))
    · funext i
      have n1 : ∀ c, c < 3 → ¬ q = (1, j, c) := fun c hc e => hq (Or.inr (by rw [e]; exact ⟨rfl, rfl, hc⟩))
      have n2 : ¬ q = (2, j, 0) := fun e => hq (Or.inl e)
      simp [xst_rd, n1 0 (by omega), n1 1 (by omega), n1 2 (by omega), n2]
    · have e1 : (μ (2, j, 0) 0 + 1).toInt = (S.nf : Int) + 1 := by
        rw [ti_add (by rw [hr.1, ti_lit1]; omega) (by rw [hr.1, ti_lit1]; omega), hr.1, ti_lit1]
      show _ = ((addF S k.toInt l.toInt r.toInt).nf : Int)
      rw [addF_nf]
      simp [xst_rd, e1]
    · have hf' : f < S.nf + 1 := hf
      show _ = (addF S k.toInt l.toInt r.toInt).F c f
      rw [addF_F]
      by_cases hfn : f = S.nf
      · subst hfn
        rcases (show c = 0 ∨ c = 1 ∨ c = 2 by omega) with rfl | rfl | rfl <;> simp [xst_rd]
      · have hx := hr.2 c hc f (by omega)
        rcases (show c = 0 ∨ c = 1 ∨ c = 2 by omega) with rfl | rfl | rfl <;> simpa [xst_rd, hfn] using hx
  · rw [ti_eq, hx, ti_litm6] at c1
    rw [if_neg c1] at h
    exact h x μ hx (fun _ _ => rfl) hr
theorem make_lim {k l r : Int32} (hr : repF μ j S) (hb : S.nf ≤ 60) (hroom : ¬ roomS S k.toInt l.toInt r.toInt) (h : Q (some (vI (-4))) μ) : MW G (d + 3) mX2_make [vR (2, j, 0), vI k, vI l, vI r] μ Q := by
  have e60 : (60 : Int32).toInt = 60 := rfl
  have h1 : ¬ S.nf < 60 := fun z => hroom (Or.inl z)
  have h2 : findS S k.toInt l.toInt r.toInt = -6 := Classical.not_not.mp fun z => hroom (Or.inr z)
  refine wX2_make (find_ok hr hb fun x hx => xif_t (by rw [ti_eq, hx, ti_litm6]; exact h2) (xif_f (by rw [ti_lt, hr.1, e60]; omega) h))
end
