/-! shorten: both sides -/
def fol (S : aS) : Nat → Int → Int
  | 0, x => x
  | n + 1, x => if byp S x.toNat = -6 then x else fol S n (byp S x.toNat)
theorem fol_ok {S : aS} {l : Nat} (h : ∀ k, k < l → okRef S k) : ∀ (n : Nat) (x : Int), okLR l x → okLR l (fol S n x)
  | 0, _, hx => hx
  | n + 1, x, hx => by
    unfold fol
    split
    · exact hx
    · rename_i c
      have h1 := hx.1
      have h2 := hx.2
      rcases byp_ok (l := x.toNat) (fun k hk => h k (by omega)) with z | z
      · exact absurd z c
      · have z1 := z.1
        have z2 := z.2
        exact fol_ok h n _ ⟨z1, by omega⟩
def setR (S : aS) (l c : Nat) (v : Int) : aS := (S.1, S.F, fun k x => if k = 2 + c ∧ x = l then v else S.L k x, S.B)
theorem setR_L (S : aS) (l c : Nat) (v : Int) (k x : Nat) : (setR S l c v).L k x = if k = 2 + c ∧ x = l then v else S.L k x := rfl
theorem Inv_setR {S : aS} {l c : Nat} {v : Int} (h : Inv S) (hl : l < S.nl) (hc : c < tl S l) (hv : okLR l v) : Inv (setR S l c v) := by
  obtain ⟨h1, h2, h3, h4, h5, h6, ⟨dp, h7⟩, h8⟩ := h
  have L0 : ∀ x, (setR S l c v).L 0 x = S.L 0 x := fun x => if_neg (fun q => by omega)
  have L1 : ∀ x, (setR S l c v).L 1 x = S.L 1 x := fun x => if_neg (fun q => by omega)
  have hc2 : c < 2 := by unfold tl at hc; split at hc <;> (try split at hc) <;> omega
  have L5 : ∀ x, (setR S l c v).L 5 x = S.L 5 x := fun x => if_neg (fun q => by omega)
  have Lo : ∀ k x, x ≠ l → (setR S l c v).L k x = S.L k x := fun k x hx => if_neg (fun q => hx q.2)
  have Ln : (setR S l c v).L (2 + c) l = v := if_pos ⟨rfl, rfl⟩
  have Lk : ∀ k, k ≠ 2 + c → (setR S l c v).L k l = S.L k l := fun k hk => if_neg (fun q => hk q.1)
  refine ⟨h1, h2, h3, ?_, h5, fun x hx => ?_, ⟨dp, fun b hb => ?_⟩, h8⟩
  · show S.inn = latO (setR S l c v) S.nb
    rw [h4]
    exact latO_lt _ fun b hb => Iff.rfl
  · obtain ⟨a1, a2, a3, a4⟩ := h6 x hx
    refine ⟨by rw [L0]; exact a1, by rw [L0]; exact a2, ?_, by rw [L5]; exact a4⟩
    by_cases hxl : x = l
    · subst hxl
      have e1 := L1 x
      unfold okRef at a3 ⊢
      rcases (show c = 0 ∨ c = 1 by omega) with rfl | rfl
      · have e3 := Lk 3 (by omega)
        have e4 := Lk 4 (by omega)
        have e2 : (setR S x 0 v).L 2 x = v := Ln
        rw [e1, e2, e3, e4]
        rcases a3 with ⟨p1, p2, p3, p4⟩ | ⟨p1, p2, p3, p4⟩ | ⟨p1, p2, p3, p4⟩ | ⟨p1, p2, p3, p4⟩ | ⟨p1, p2, p3, p4⟩
        · unfold tl at hc
          rcases p1 with e | e <;> simp [e] at hc
        · exact Or.inr (Or.inl ⟨p1, hv, p3, p4⟩)
        · exact Or.inr (Or.inr (Or.inl ⟨p1, hv, p3, p4⟩))
        · exact Or.inr (Or.inr (Or.inr (Or.inl ⟨p1, hv, p3, p4⟩)))
        · unfold tl at hc
          rcases p1 with e | e <;> simp [e] at hc
      · have e3 : (setR S x 1 v).L 3 x = v := Ln
        have e4 := Lk 4 (by omega)
        have e2 := Lk 2 (by omega)
        rw [e1, e2, e3, e4]
        rcases a3 with ⟨p1, p2, p3, p4⟩ | ⟨p1, p2, p3, p4⟩ | ⟨p1, p2, p3, p4⟩ | ⟨p1, p2, p3, p4⟩ | ⟨p1, p2, p3, p4⟩
        · unfold tl at hc
          rcases p1 with e | e <;> simp [e] at hc
        · exact Or.inr (Or.inl ⟨p1, p2, hv, p4⟩)
        · unfold tl at hc
          rcases p1 with e | e | e | e | e | e <;> simp [e] at hc
        · unfold tl at hc
          simp [p1] at hc
        · unfold tl at hc
          rcases p1 with e | e <;> simp [e] at hc
    · unfold okRef at a3 ⊢
      rw [Lo 1 x hxl, Lo 2 x hxl, Lo 3 x hxl, Lo 4 x hxl]
      exact a3
  · obtain ⟨a1, a2, a3, a4, a5, a6, a7, a8⟩ := h7 b hb
    refine ⟨a1, a2, by rw [L5]; exact a3, ?_, ?_, a6, a7, a8⟩
    · exact a4
    · intro z
      have := a5 z
      show S.B 2 b = _
      rw [this]
      exact latO_lt _ fun b hb => Iff.rfl
abbrev aN : Type := aS × Nat
def shK (p : aN) (l c : Nat) : aN := if c < tl p.1 l then (setR p.1 l c (fol p.1 48 (p.1.L (2 + c) l)), p.2 + (if fol p.1 48 (p.1.L (2 + c) l) = p.1.L (2 + c) l then 0 else 1)) else p
def shA (p : aN) : Nat → aN
  | 0 => p
  | l + 1 => shK (shK (shA p l) l 0) l 1
def okN (S : aS) (p : aN) (n : Nat) : Prop := Inv p.1 ∧ p.1.1 = S.1 ∧ p.1.2.1 = S.2.1 ∧ p.2 ≤ n
theorem shK_ok {S : aS} {p : aN} {l c n : Nat} (h : okN S p n) (hl : l < S.nl) (hc : c < 3) : okN S (shK p l c) (n + 1) := by
  obtain ⟨h1, h2, h3, h4⟩ := h
  have hl' : l < p.1.nl := by show l < p.1.1.2.1; rw [h2]; exact hl
  unfold shK
  split
  · rename_i hlt
    have hok := h1.2.2.2.2.2.1
    rcases refcase (hok l hl').2.2.1 hc with ⟨c1, c2, c3⟩ | ⟨c1, c2⟩ | ⟨c1, c2⟩
    · refine ⟨Inv_setR h1 hl' hlt (fol_ok (fun k hk => (hok k (by omega)).2.2.1) _ _ c2), h2, h3, ?_⟩
      show _ + _ ≤ _
      split <;> omega
    · exact absurd hlt c1
    · exact absurd hlt c1
  · exact ⟨h1, h2, h3, by omega⟩
theorem shA_ok {S : aS} (h : Inv S) : ∀ l, l ≤ S.nl → okN S (shA (S, 0) l) (2 * l)
  | 0, _ => ⟨h, rfl, rfl, Nat.le_refl _⟩
  | l + 1, hl => shK_ok (shK_ok (shA_ok h l (by omega)) (by omega) (by omega)) (by omega) (by omega)
theorem tl_set {S : aS} {l c : Nat} {v : Int} (x : Nat) : tl (setR S l c v) x = tl S x := by
  have e : (setR S l c v).L 1 x = S.L 1 x := if_neg (fun q => by omega)
  unfold tl
  rw [e]
theorem tl_shK {p : aN} {l c : Nat} (x : Nat) : tl (shK p l c).1 x = tl p.1 x := by
  unfold shK
  split
  · exact tl_set x
  · rfl
theorem tl_le (S : aS) (l : Nat) : tl S l ≤ 2 := by
  unfold tl
  split <;> (try split) <;> omega
theorem shK_2 {p : aN} {l : Nat} : shK p l 2 = p := by
  have := tl_le p.1 l
  unfold shK
  exact if_neg (by omega)
theorem repF.cg {μ : xM} {j : Nat} {S S' : aS} (h : repF μ j S) (e1 : S'.1 = S.1) (e2 : S'.2.1 = S.2.1) : repF μ j S' := by
  unfold repF aS.nf aS.F at *
  rw [e1, e2]
  exact h
section
variable {G : xG} {d : Nat} {μ : xM} {Q : xP} {S : aS} {H : List aS} {K : Option aS} {T : aT}
theorem repP_setR {k c : Nat} {v : Int32} (hr : repP μ 0 S) (hc : c < 2) : repP (xst μ (1, 0, 6 + c) k v) 0 (setR S k c v.toInt) := by
  obtain ⟨r1, r2, r3, r4, r5⟩ := hr
  have n3 : ¬ ((3, 0, 0) : xI) = (1, 0, 6 + c) := fun e => by cases e
  refine ⟨by rw [xst_rd, if_neg (fun q => n3 q.1)]; exact r1, by rw [xst_rd, if_neg (fun q => n3 q.1)]; exact r2, by rw [xst_rd, if_neg (fun q => n3 q.1)]; exact r3, fun i hi x hx => ?_, fun i hi x hx => ?_⟩
  · rw [setR_L, xst_rd]
    have hx := r4 i hi x hx
    rcases (show c = 0 ∨ c = 1 by omega) with rfl | rfl
    · rcases (show i = 0 ∨ i = 1 ∨ i = 2 ∨ i = 3 ∨ i = 4 ∨ i = 5 by omega) with rfl | rfl | rfl | rfl | rfl | rfl
      all_goals simp only [lcol] at *
      all_goals by_cases hk : x = k
      all_goals (try subst hk)
      all_goals simp [*]
    · rcases (show i = 0 ∨ i = 1 ∨ i = 2 ∨ i = 3 ∨ i = 4 ∨ i = 5 by omega) with rfl | rfl | rfl | rfl | rfl | rfl
      all_goals simp only [lcol] at *
      all_goals by_cases hk : x = k
      all_goals (try subst hk)
      all_goals simp [*]
  · have hn : ¬ ((1, 0, 9 + i) : xI) = (1, 0, 6 + c) := fun e => by
      have := congrArg (fun q : xI => q.2.2) e
      simp at this
      omega
    rw [xst_rd, if_neg (fun q => hn q.1)]
    exact r5 i hi x hx
theorem c_rc {l : Int32} {k c : Nat} (hr : repP μ 0 S) (hb : S.nl ≤ 48) (hl : l.toInt = k) (hk : k < S.nl) (hc : c < 2) (h : ∀ x : Int32, x.toInt = S.L (2 + c) k → Q (some (vI x)) μ) : MW G (d + 1) mX5_get [vR (0, 0, 6 + c), vI l] μ Q := by
  rcases (show c = 0 ∨ c = 1 by omega) with rfl | rfl
  · exact c_r0 hr hb hl hk h
  · exact c_r1 hr hb hl hk h
theorem bin_ok {l : Int32} {k c : Nat} (hr : repP μ 0 S) (hI : Inv S) (hl : l.toInt = k) (hk : k < S.nl) (hc : c < 2) (ht : c < tl S k) (h : ∀ (x : Int32) (μ' : xM), x.toInt = (if fol S 48 (S.L (2 + c) k) = S.L (2 + c) k then 0 else 1 : Nat) → (∀ q, q ≠ (1, 0, 6 + c) → μ' q = μ q) → repP μ' 0 (setR S k c (fol S 48 (S.L (2 + c) k))) → Q (some (vI x)) μ') : MW G (d + 3) mX4_bypassIn [vR (3, 0, 0), vR (0, 0, 6 + c), vI l] μ Q := by
  have h48 := hI.2.1
  have e48 : (48 : Int32).toInt = 48 := rfl
  have hok := hI.2.2.2.2.2.1
  have hlr : okLR k (S.L (2 + c) k) := by
    rcases refcase (hok k hk).2.2.1 (k := c) (by omega) with ⟨c1, c2, c3⟩ | ⟨c1, c2⟩ | ⟨c1, c2⟩
    · exact c2
    · exact absurd ht c1
    · exact absurd ht c1
  have hxl : k < xlenc (6 + c) := by
    rcases (show c = 0 ∨ c = 1 by omega) with rfl | rfl <;> simp [xlenc] <;> omega
  refine wX4_bypassIn fun Z => c_rc hr h48 hl hk hc fun v hv => ?_
  have fin : ∀ (w : Int32), w.toInt = fol S 48 (S.L (2 + c) k) → MW G (d + 2) mX5_set [vR (0, 0, 6 + c), vI l, vI w] μ (xrV fun μ1 => xif (w = v) (Q (some (vI (0 : Int32))) μ1) (Q (some (vI (1 : Int32))) μ1)) := by
    intro w hw
    refine set_in hl hxl (xif_c (fun z => h _ _ ?_ (fun q hq => ?_) ?_) (fun z => h _ _ ?_ (fun q hq => ?_) ?_))
    · rw [ti_eq, hw, hv] at z
      rw [if_pos z]; rfl
    · funext i
      rw [xst_rd, if_neg (fun z => hq z.1)]
    · rw [← hw]
      exact repP_setR hr hc
    · rw [ti_eq, hw, hv] at z
      rw [if_neg z]; rfl
    · funext i
      rw [xst_rd, if_neg (fun z => hq z.1)]
    · rw [← hw]
      exact repP_setR hr hc
  have lp : ∀ (m i : Nat) (w : Int32), i + m = 48 → okLR k w.toInt → fol S m w.toInt = fol S 48 (S.L (2 + c) k) → WS G eX4_bypassIn (d + 3) Z Q 12 [vR (3, 0, 0), vR (0, 0, 6 + c), vI l, vI v, vI w, vI (nI i)] [] μ := by
    intro m
    induction m with
    | zero =>
      intro i w hi hw hf
      have ei : (nI i).toInt = i := nI_t (by omega)
      exact wX4_bypassIn_12 (xif_t (by rw [ti_le, ei, e48]; omega) (fin w hf))
    | succ m ih =>
      intro i w hi hw hf
      have ei : (nI i).toInt = i := nI_t (by omega)
      have hw1 := hw.1
      have hw2 := hw.2
      have hwk : w.toInt = (w.toInt.toNat : Nat) := by omega
      have hby := byp_ok (S := S) (l := w.toInt.toNat) (fun k' hk' => (hok k' (by omega)).2.2.1)
      have okw := (hok w.toInt.toNat (by omega)).2.2.1
      unfold fol at hf
      refine wX4_bypassIn_12 (xif_f (by rw [ti_le, ei, e48]; omega) (by_ok hr h48 okw hwk (by omega) fun x hx => xif_c (fun z => ?_) (fun z => ?_)))
      · rw [ti_eq, hx, ti_litm6] at z
        rw [if_pos z] at hf
        exact fin w hf
      · rw [ti_eq, hx, ti_litm6] at z
        rw [if_neg z] at hf
        refine by_ok hr h48 okw hwk (by omega) fun y hy => ?_
        rw [nI_1]
        rcases hby with q | q
        · exact absurd q z
        · have q1 := q.1
          have q2 := q.2
          exact ih (i + 1) y (by omega) ⟨by rw [hy]; exact q1, by rw [hy]; omega⟩ (by rw [hy]; exact hf)
  exact lp 48 0 v rfl (by rw [hv]; exact hlr) (by rw [hv])
theorem shN_ok {l x : Int32} {k c : Nat} {p : aN} (hr : repP μ 0 p.1) (hI : Inv p.1) (hl : l.toInt = k) (hk : k < p.1.nl) (hc : c < 2) (ht : c < tl p.1 k) (hx : x.toInt = p.2) (hp : p.2 < 1000) (h : ∀ (y : Int32) (μ' : xM), (x + y).toInt = (shK p k c).2 → (∀ q, q ≠ (1, 0, 6 + c) → μ' q = μ q) → repP μ' 0 (shK p k c).1 → Q (some (vI y)) μ') : MW G (d + 3) mX4_bypassIn [vR (3, 0, 0), vR (0, 0, 6 + c), vI l] μ Q := by
  refine bin_ok hr hI hl hk hc ht fun y μ' hy e r => h y μ' ?_ e ?_
  · unfold shK
    rw [if_pos ht]
    show _ = ((p.2 + _ : Nat) : Int)
    have hb : (if fol p.1 48 (p.1.L (2 + c) k) = p.1.L (2 + c) k then 0 else 1 : Nat) ≤ 1 := by split <;> omega
    rw [ti_add (by rw [hx, hy]; omega) (by rw [hx, hy]; omega), hx, hy]
    omega
  · unfold shK
    rw [if_pos ht]
    exact r
theorem bd_ok (hr : repP μ 0 S) (hI : Inv S) (h : ∀ (x : Int32) (μ' : xM), x.toInt = (shA (S, 0) S.nl).2 → (∀ q, ¬ ownP 0 q → μ' q = μ q) → repP μ' 0 (shA (S, 0) S.nl).1 → Q (some (vI x)) μ') : MW G (d + 4) mX4_bypassDetours [vR (3, 0, 0)] μ Q := by
  have h48 := hI.2.1
  refine wX4_bypassDetours fun Z => ?_
  have own : ∀ c, c < 2 → ownP 0 (1, 0, 6 + c) := fun c hc => Or.inr ⟨rfl, rfl, (show 3 ≤ 6 + c by omega), (show 6 + c < 12 by omega)⟩
  refine up_loop (σ := Int32 × xM) (fun i s => WS G eX4_bypassDetours (d + 4) Z Q 4 [vR (3, 0, 0), vI s.1, vI (nI i), vN] [] s.2) (fun i s => s.1.toInt = (shA (S, 0) i).2 ∧ (∀ q, ¬ ownP 0 q → s.2 q = μ q) ∧ repP s.2 0 (shA (S, 0) i).1) S.nl ?_ ?_ 0 ((0 : Int32), μ) (by omega) ⟨rfl, fun _ _ => rfl, hr⟩
  · rintro i ⟨x, μ1⟩ hi ⟨hx, e, r⟩ ih
    have ei : (nI i).toInt = i := nI_t (by omega)
    have ok := shA_ok hI i (by omega)
    have n1 : (shA (S, 0) i).1.nl = S.nl := by show (shA (S, 0) i).1.1.2.1 = _; rw [ok.2.1]
    have ok0 := shK_ok ok hi (c := 0) (by omega)
    have n2 : (shK (shA (S, 0) i) i 0).1.nl = S.nl := by show (shK (shA (S, 0) i) i 0).1.1.2.1 = _; rw [ok0.2.1]
    have p1 := ok.2.2.2
    have p2 := ok0.2.2.2
    refine wX4_bypassDetours_4 (xif_f (by rw [ti_le, r.1, ei, n1]; omega) (clr_ok r ok.1 ei (by omega) fun t ht => xif_c (fun c => ?_) (fun c => ?_)))
    · rw [ti_le, ht, ti_lit0] at c
      refine xif_t (by rw [ti_le, ht, ti_lit1]; omega) ?_
      rw [nI_1]
      have s0 : shK (shA (S, 0) i) i 0 = shA (S, 0) i := if_neg (by omega)
      have s1 : shA (S, 0) (i + 1) = shA (S, 0) i := by
        show shK (shK (shA (S, 0) i) i 0) i 1 = _
        rw [s0]
        exact if_neg (by omega)
      exact ih (x, μ1) ⟨by rw [s1]; exact hx, e, by rw [s1]; exact r⟩
    · rw [ti_le, ht, ti_lit0] at c
      refine shN_ok (c := 0) r ok.1 ei (by omega) (by omega) (by omega) hx (by omega) fun y μ2 hy e2 r2 => xif_c (fun c2 => ?_) (fun c2 => ?_)
      · rw [ti_le, ht, ti_lit1] at c2
        rw [nI_1]
        have s1 : shA (S, 0) (i + 1) = shK (shA (S, 0) i) i 0 := by
          show shK (shK (shA (S, 0) i) i 0) i 1 = _
          exact if_neg (by rw [tl_shK]; omega)
        exact ih (x + y, μ2) ⟨by rw [s1]; exact hy, fun q hq => (e2 q (fun z => hq (by rw [z]; exact own 0 (by omega)))).trans (e q hq), by rw [s1]; exact r2⟩
      · rw [ti_le, ht, ti_lit1] at c2
        refine shN_ok (c := 1) r2 ok0.1 ei (by omega) (by omega) (by rw [tl_shK]; omega) hy (by omega) fun w μ3 hw e3 r3 => ?_
        rw [nI_1]
        exact ih (x + y + w, μ3) ⟨hw, fun q hq => (e3 q (fun z => hq (by rw [z]; exact own 1 (by omega)))).trans ((e2 q (fun z => hq (by rw [z]; exact own 0 (by omega)))).trans (e q hq)), r3⟩
  · rintro ⟨x, μ1⟩ ⟨hx, e, r⟩
    have ei : (nI S.nl).toInt = S.nl := nI_t (by omega)
    have ok := shA_ok hI S.nl (by omega)
    have n1 : (shA (S, 0) S.nl).1.nl = S.nl := by show (shA (S, 0) S.nl).1.1.2.1 = _; rw [ok.2.1]
    exact wX4_bypassDetours_4 (xif_t (by rw [ti_le, r.1, ei, n1]; omega) (h x μ1 hx e r))
end
