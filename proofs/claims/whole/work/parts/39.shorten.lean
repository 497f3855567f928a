/-! shorten: both sides -/
def fol (S : aS) : Nat → Int → Int
  | 0, x => x
  | n + 1, x => if byp S x.toNat = -6 then x else fol S n (byp S x.toNat)
theorem fol_ok {S : aS} {l : Nat} (h : ∀ k, k < l → okRef S k) : ∀ (n : Nat) (x : Int), okLR l x → okLR l (fol S n x)
  | 0, _, hx => hx
  | n + 1, x, hx => by
    unfold fol
    split
    · exact hx
    · rename_i c
      have h1 := hx.1
      have h2 := hx.2
      rcases byp_ok (l := x.toNat) (fun k hk => h k (by omega)) with z | z
      · exact absurd z c
      · have z1 := z.1
        have z2 := z.2
        exact fol_ok h n _ ⟨z1, by omega⟩
def setR (S : aS) (l c : Nat) (v : Int) : aS := (S.1, S.F, fun k x => if k = 2 + c ∧ x = l then v else S.L k x, S.B)
theorem setR_L (S : aS) (l c : Nat) (v : Int) (k x : Nat) : (setR S l c v).L k x = if k = 2 + c ∧ x = l then v else S.L k x := rfl
theorem Inv_setR {S : aS} {l c : Nat} {v : Int} (h : Inv S) (hl : l < S.nl) (hc : c < tl S l) (hv : okLR l v) : Inv (setR S l c v) := by
  obtain ⟨h1, h2, h3, h4, h5, h6, ⟨dp, h7⟩, h8⟩ := h
  have L0 : ∀ x, (setR S l c v).L 0 x = S.L 0 x := fun x => if_neg (fun q => by omega)
  have L1 : ∀ x, (setR S l c v).L 1 x = S.L 1 x := fun x => if_neg (fun q => by omega)
  have hc2 : c < 2 := by unfold tl at hc; split at hc <;> (try split at hc) <;> omega
  have L5 : ∀ x, (setR S l c v).L 5 x = S.L 5 x := fun x => if_neg (fun q => by omega)
  have Lo : ∀ k x, x ≠ l → (setR S l c v).L k x = S.L k x := fun k x hx => if_neg (fun q => hx q.2)
  have Ln : (setR S l c v).L (2 + c) l = v := if_pos ⟨rfl, rfl⟩
  have Lk : ∀ k, k ≠ 2 + c → (setR S l c v).L k l = S.L k l := fun k hk => if_neg (fun q => hk q.1)
  refine ⟨h1, h2, h3, ?_, h5, fun x hx => ?_, ⟨dp, fun b hb => ?_⟩, h8⟩
  · show S.inn = latO (setR S l c v) S.nb
    rw [h4]
    exact latO_lt _ fun b hb => Iff.rfl
  · obtain ⟨a1, a2, a3, a4⟩ := h6 x hx
    refine ⟨by rw [L0]; exact a1, by rw [L0]; exact a2, ?_, by rw [L5]; exact a4⟩
    by_cases hxl : x = l
    · subst hxl
      have e1 := L1 x
      unfold okRef at a3 ⊢
      rcases (show c = 0 ∨ c = 1 by omega) with rfl | rfl
      · have e3 := Lk 3 (by omega)
        have e4 := Lk 4 (by omega)
        have e2 : (setR S x 0 v).L 2 x = v := Ln
        rw [e1, e2, e3, e4]
        rcases a3 with ⟨p1, p2, p3, p4⟩ | ⟨p1, p2, p3, p4⟩ | ⟨p1, p2, p3, p4⟩ | ⟨p1, p2, p3, p4⟩ | ⟨p1, p2, p3, p4⟩
        · unfold tl at hc
          rcases p1 with e | e <;> simp [e] at hc
        · exact Or.inr (Or.inl ⟨p1, hv, p3, p4⟩)
        · exact Or.inr (Or.inr (Or.inl ⟨p1, hv, p3, p4⟩))
        · exact Or.inr (Or.inr (Or.inr (Or.inl ⟨p1, hv, p3, p4⟩)))
        · unfold tl at hc
          rcases p1 with e | e <;> simp [e] at hc
      · have e3 : (setR S x 1 v).L 3 x = v := Ln
        have e4 := Lk 4 (by omega)
        have e2 := Lk 2 (by omega)
        rw [e1, e2, e3, e4]
        rcases a3 with ⟨p1, p2, p3, p4⟩ | ⟨p1, p2, p3, p4⟩ | ⟨p1, p2, p3, p4⟩ | ⟨p1, p2, p3, p4⟩ | ⟨p1, p2, p3, p4⟩
        · unfold tl at hc
          rcases p1 with e | e <;> simp [e] at hc
        · exact Or.inr (Or.inl ⟨p1, p2, hv, p4⟩)
        · unfold tl at hc
          rcases p1 with e | e | e | e | e | e <;> simp [e] at hc
        · unfold tl at hc
          simp [p1] at hc
        · unfold tl at hc
          rcases p1 with e | e <;> simp [e] at hc
    · unfold okRef at a3 ⊢
      rw [Lo 1 x hxl, Lo 2 x hxl, Lo 3 x hxl, Lo 4 x hxl]
      exact a3
  · obtain ⟨a1, a2, a3, a4, a5, a6, a7, a8⟩ := h7 b hb
    refine ⟨a1, a2, by rw [L5]; exact a3, ?_, ?_, a6, a7, a8⟩
    · exact a4
    · intro z
      have := a5 z
      show S.B 2 b = _
      rw [this]
      exact latO_lt _ fun b hb => Iff.rfl
abbrev aN : Type := aS × Nat
def shK (p : aN) (l c : Nat) : aN := if c < tl p.1 l then (setR p.1 l c (fol p.1 48 (p.1.L (2 + c) l)), p.2 + (if fol p.1 48 (p.1.L (2 + c) l) = p.1.L (2 + c) l then 0 else 1)) else p
def shA (p : aN) : Nat → aN
  | 0 => p
  | l + 1 => shK (shK (shA p l) l 0) l 1
def okN (S : aS) (p : aN) (n : Nat) : Prop := Inv p.1 ∧ p.1.1 = S.1 ∧ p.1.2.1 = S.2.1 ∧ p.2 ≤ n
theorem shK_ok {S : aS} {p : aN} {l c n : Nat} (h : okN S p n) (hl : l < S.nl) (hc : c < 3) : okN S (shK p l c) (n + 1) := by
  obtain ⟨h1, h2, h3, h4⟩ := h
  have hl' : l < p.1.nl := by show l < p.1.1.2.1; rw [h2]; exact hl
  unfold shK
  split
  · rename_i hlt
    have hok := h1.2.2.2.2.2.1
    rcases refcase (hok l hl').2.2.1 hc with ⟨c1, c2, c3⟩ | ⟨c1, c2⟩ | ⟨c1, c2⟩
    · refine ⟨Inv_setR h1 hl' hlt (fol_ok (fun k hk => (hok k (by omega)).2.2.1) _ _ c2), h2, h3, ?_⟩
      show _ + _ ≤ _
      split <;> omega
    · exact absurd hlt c1
    · exact absurd hlt c1
  · exact ⟨h1, h2, h3, by omega⟩
theorem shA_ok {S : aS} (h : Inv S) : ∀ l, l ≤ S.nl → okN S (shA (S, 0) l) (2 * l)
  | 0, _ => ⟨h, rfl, rfl, Nat.le_refl _⟩
  | l + 1, hl => shK_ok (shK_ok (shA_ok h l (by omega)) (by omega) (by omega)) (by omega) (by omega)
theorem tl_set {S : aS} {l c : Nat} {v : Int} (x : Nat) : tl (setR S l c v) x = tl S x := by
  have e : (setR S l c v).L 1 x = S.L 1 x := if_neg (fun q => by omega)
  unfold tl
  rw [e]
theorem tl_shK {p : aN} {l c : Nat} (x : Nat) : tl (shK p l c).1 x = tl p.1 x := by
  unfold shK
  split
  · exact tl_set x
  · rfl
theorem tl_le (S : aS) (l : Nat) : tl S l ≤ 2 := by
  unfold tl
  split <;> (try split) <;> omega
theorem shK_2 {p : aN} {l : Nat} : shK p l 2 = p := by
  have := tl_le p.1 l
  unfold shK
  exact if_neg (by omega)
theorem repF.cg {μ : xM} {j : Nat} {S S' : aS} (h : repF μ j S) (e1 : S'.1 = S.1) (e2 : S'.2.1 = S.2.1) : repF μ j S' := by
  unfold repF aS.nf aS.F at *
  rw [e1, e2]
  exact h
section
variable {G : xG} {d : Nat} {μ : xM} {Q : xP} {S : aS} {H : List aS} {K : Option aS} {T : aT}
theorem repP_setR {k c : Nat} {v : Int32} (hr : repP μ 0 S) (hc : c < 2) : repP (xst μ (1, 0, 6 + c) k v) 0 (setR S k c v.toInt) := by
  obtain ⟨r1, r2, r3, r4, r5⟩ := hr
  have n3 : ¬ ((3, 0, 0) : xI) = (1, 0, 6 + c) := fun e => by cases e
  refine ⟨by rw [xst_rd, if_neg (fun q => n3 q.1)]; exact r1, by rw [xst_rd, if_neg (fun q => n3 q.1)]; exact r2, by rw [xst_rd, if_neg (fun q => n3 q.1)]; exact r3, fun i hi x hx => ?_, fun i hi x hx => ?_⟩
  · rw [setR_L, xst_rd]
    have hx := r4 i hi x hx
    rcases (show c = 0 ∨ c = 1 by omega) with rfl | rfl
    · rcases (show i = 0 ∨ i = 1 ∨ i = 2 ∨ i = 3 ∨ i = 4 ∨ i = 5 by omega) with rfl | rfl | rfl | rfl | rfl | rfl
      all_goals simp only [lcol] at *
      all_goals by_cases hk : x = k
      all_goals (try subst hk)
      all_goals simp [*]
    · rcases (show i = 0 ∨ i = 1 ∨ i = 2 ∨ i = 3 ∨ i = 4 ∨ i = 5 by omega) with rfl | rfl | rfl | rfl | rfl | rfl
      all_goals simp only [lcol] at *
      all_goals by_cases hk : x = k
      all_goals (try subst hk)
      all_goals simp [*]
  · have hn : ¬ ((1, 0, 9 + i) : xI) = (1, 0, 6 + c) := fun e => by
      have := congrArg (fun q : xI => q.2.2) e
      simp at this
      omega
    rw [xst_rd, if_neg (fun q => hn q.1)]
    exact r5 i hi x hx
theorem repR_setR {k c : Nat} {v : Int32} (hr : repR (μ (1, 0, 20)) S) (hb : bdS S) (hk : k < S.nl) (hc : c < 3) : repR (xst μ (1, 0, 20) (183 + 6 * k + 2 + c) v (1, 0, 20)) (setR S k c v.toInt) := by
  obtain ⟨b1, b2, b3⟩ := hb
  obtain ⟨r1, r2, r3, r4, r5, r6⟩ := hr
  have off : ∀ i, i ≠ 183 + 6 * k + 2 + c → xst μ (1, 0, 20) (183 + 6 * k + 2 + c) v (1, 0, 20) i = μ (1, 0, 20) i := fun i hi => by
    rw [xst_rd, if_neg (fun q => hi q.2)]
  refine ⟨by rw [off _ (by omega)]; exact r1, by rw [off _ (by omega)]; exact r2, by rw [off _ (by omega)]; exact r3, fun i hi x hx => ?_, fun i hi x hx => ?_, fun i hi x hx => ?_⟩
  · have hx : x < S.nf := hx
    rw [off _ (by omega)]
    exact r4 i hi x hx
  · have hx : x < S.nl := hx
    rw [setR_L]
    by_cases hh : i = 2 + c ∧ x = k
    · obtain ⟨rfl, rfl⟩ := hh
      rw [if_pos ⟨rfl, rfl⟩, show 183 + 6 * x + (2 + c) = 183 + 6 * x + 2 + c by omega, xst_rd, if_pos ⟨rfl, rfl⟩]
    · rw [if_neg hh, off _ (by omega)]
      exact r5 i hi x hx
  · have hx : x < S.nb := hx
    rw [off _ (by omega)]
    exact r6 i hi x hx
theorem c_rc {l : Int32} {k c : Nat} (hr : repP μ 0 S) (hb : S.nl ≤ 48) (hl : l.toInt = k) (hk : k < S.nl) (hc : c < 2) (h : ∀ x : Int32, x.toInt = S.L (2 + c) k → Q (some (vI x)) μ) : MW G (d + 1) mX5_get [vR (0, 0, 6 + c), vI l] μ Q := by
  rcases (show c = 0 ∨ c = 1 by omega) with rfl | rfl
  · exact c_r0 hr hb hl hk h
  · exact c_r1 hr hb hl hk h
theorem bin_ok {l : Int32} {k c : Nat} (hr : repP μ 0 S) (hI : Inv S) (hl : l.toInt = k) (hk : k < S.nl) (hc : c < 2) (ht : c < tl S k) (h : ∀ (x : Int32) (μ' : xM), x.toInt = (if fol S 48 (S.L (2 + c) k) = S.L (2 + c) k then 0 else 1 : Nat) → (∀ q, q ≠ (1, 0, 6 + c) → μ' q = μ q) → repP μ' 0 (setR S k c (fol S 48 (S.L (2 + c) k))) → Q (some (vI x)) μ') : MW G (d + 3) mX4_bypassIn [vR (3, 0, 0), vR (0, 0, 6 + c), vI l] μ Q := by
  have h48 := hI.2.1
  have e48 : (48 : Int32).toInt = 48 := rfl
  have hok := hI.2.2.2.2.2.1
  have hlr : okLR k (S.L (2 + c) k) := by
    rcases refcase (hok k hk).2.2.1 (k := c) (by omega) with ⟨c1, c2, c3⟩ | ⟨c1, c2⟩ | ⟨c1, c2⟩
    · exact c2
    · exact absurd ht c1
    · exact absurd ht c1
  have hxl : k < xlenc (6 + c) := by
    rcases (show c = 0 ∨ c = 1 by omega) with rfl | rfl <;> simp [xlenc] <;> omega
  refine wX4_bypassIn fun Z => c_rc hr h48 hl hk hc fun v hv => ?_
  have fin : ∀ (w : Int32), w.toInt = fol S 48 (S.L (2 + c) k) → MW G (d + 2) mX5_set [vR (0, 0, 6 + c), vI l, vI w] μ (xrV fun μ1 => xif (w = v) (Q (some (vI (0 : Int32))) μ1) (Q (some (vI (1 : Int32))) μ1)) := by
    intro w hw
    refine set_in hl hxl (xif_c (fun z => h _ _ ?_ (fun q hq => ?_) ?_) (fun z => h _ _ ?_ (fun q hq => ?_) ?_))
    · rw [ti_eq, hw, hv] at z
      rw [if_pos z]; rfl
    · funext i
      rw [xst_rd, if_neg (fun z => hq z.1)]
    · rw [← hw]
      exact repP_setR hr hc
    · rw [ti_eq, hw, hv] at z
      rw [if_neg z]; rfl
    · funext i
      rw [xst_rd, if_neg (fun z => hq z.1)]
    · rw [← hw]
      exact repP_setR hr hc
  have lp : ∀ (m i : Nat) (w : Int32), i + m = 48 → okLR k w.toInt → fol S m w.toInt = fol S 48 (S.L (2 + c) k) → WS G eX4_bypassIn (d + 3) Z Q 12 [vR (3, 0, 0), vR (0, 0, 6 + c), vI l, vI v, vI w, vI (nI i)] [] μ := by
    intro m
    induction m with
    | zero =>
      intro i w hi hw hf
      have ei : (nI i).toInt = i := nI_t (by omega)
      exact wX4_bypassIn_12 (xif_t (by rw [ti_le, ei, e48]; omega) (fin w hf))
    | succ m ih =>
      intro i w hi hw hf
      have ei : (nI i).toInt = i := nI_t (by omega)
      have hw1 := hw.1
      have hw2 := hw.2
      have hwk : w.toInt = (w.toInt.toNat : Nat) := by omega
      have hby := byp_ok (S := S) (l := w.toInt.toNat) (fun k' hk' => (hok k' (by omega)).2.2.1)
      have okw := (hok w.toInt.toNat (by omega)).2.2.1
      unfold fol at hf
      refine wX4_bypassIn_12 (xif_f (by rw [ti_le, ei, e48]; omega) (by_ok hr h48 okw hwk (by omega) fun x hx => xif_c (fun z => ?_) (fun z => ?_)))
      · rw [ti_eq, hx, ti_litm6] at z
        rw [if_pos z] at hf
        exact fin w hf
      · rw [ti_eq, hx, ti_litm6] at z
        rw [if_neg z] at hf
        refine by_ok hr h48 okw hwk (by omega) fun y hy => ?_
        rw [nI_1]
        rcases hby with q | q
        · exact absurd q z
        · have q1 := q.1
          have q2 := q.2
          exact ih (i + 1) y (by omega) ⟨by rw [hy]; exact q1, by rw [hy]; omega⟩ (by rw [hy]; exact hf)
  exact lp 48 0 v rfl (by rw [hv]; exact hlr) (by rw [hv])
theorem shN_ok {l x : Int32} {k c : Nat} {p : aN} (hr : repP μ 0 p.1) (hI : Inv p.1) (hl : l.toInt = k) (hk : k < p.1.nl) (hc : c < 2) (ht : c < tl p.1 k) (hx : x.toInt = p.2) (hp : p.2 < 1000) (h : ∀ (y : Int32) (μ' : xM), (x + y).toInt = (shK p k c).2 → (∀ q, q ≠ (1, 0, 6 + c) → μ' q = μ q) → repP μ' 0 (shK p k c).1 → Q (some (vI y)) μ') : MW G (d + 3) mX4_bypassIn [vR (3, 0, 0), vR (0, 0, 6 + c), vI l] μ Q := by
  refine bin_ok hr hI hl hk hc ht fun y μ' hy e r => h y μ' ?_ e ?_
  · unfold shK
    rw [if_pos ht]
    show _ = ((p.2 + _ : Nat) : Int)
    have hb : (if fol p.1 48 (p.1.L (2 + c) k) = p.1.L (2 + c) k then 0 else 1 : Nat) ≤ 1 := by split <;> omega
    rw [ti_add (by rw [hx, hy]; omega) (by rw [hx, hy]; omega), hx, hy]
    omega
  · unfold shK
    rw [if_pos ht]
    exact r
theorem bd_ok (hr : repP μ 0 S) (hI : Inv S) (h : ∀ (x : Int32) (μ' : xM), x.toInt = (shA (S, 0) S.nl).2 → (∀ q, ¬ ownP 0 q → μ' q = μ q) → repP μ' 0 (shA (S, 0) S.nl).1 → Q (some (vI x)) μ') : MW G (d + 4) mX4_bypassDetours [vR (3, 0, 0)] μ Q := by
  have h48 := hI.2.1
  refine wX4_bypassDetours fun Z => ?_
  have own : ∀ c, c < 2 → ownP 0 (1, 0, 6 + c) := fun c hc => Or.inr ⟨rfl, rfl, (show 3 ≤ 6 + c by omega), (show 6 + c < 12 by omega)⟩
  refine up_loop (σ := Int32 × xM) (fun i s => WS G eX4_bypassDetours (d + 4) Z Q 4 [vR (3, 0, 0), vI s.1, vI (nI i), vN] [] s.2) (fun i s => s.1.toInt = (shA (S, 0) i).2 ∧ (∀ q, ¬ ownP 0 q → s.2 q = μ q) ∧ repP s.2 0 (shA (S, 0) i).1) S.nl ?_ ?_ 0 ((0 : Int32), μ) (by omega) ⟨rfl, fun _ _ => rfl, hr⟩
  · rintro i ⟨x, μ1⟩ hi ⟨hx, e, r⟩ ih
    have ei : (nI i).toInt = i := nI_t (by omega)
    have ok := shA_ok hI i (by omega)
    have n1 : (shA (S, 0) i).1.nl = S.nl := by show (shA (S, 0) i).1.1.2.1 = _; rw [ok.2.1]
    have ok0 := shK_ok ok hi (c := 0) (by omega)
    have n2 : (shK (shA (S, 0) i) i 0).1.nl = S.nl := by show (shK (shA (S, 0) i) i 0).1.1.2.1 = _; rw [ok0.2.1]
    have p1 := ok.2.2.2
    have p2 := ok0.2.2.2
    refine wX4_bypassDetours_4 (xif_f (by rw [ti_le, r.1, ei, n1]; omega) (clr_ok r ok.1 ei (by omega) fun t ht => xif_c (fun c => ?_) (fun c => ?_)))
    · rw [ti_le, ht, ti_lit0] at c
      refine xif_t (by rw [ti_le, ht, ti_lit1]; omega) ?_
      rw [nI_1]
      have s0 : shK (shA (S, 0) i) i 0 = shA (S, 0) i := if_neg (by omega)
      have s1 : shA (S, 0) (i + 1) = shA (S, 0) i := by
        show shK (shK (shA (S, 0) i) i 0) i 1 = _
        rw [s0]
        exact if_neg (by omega)
      exact ih (x, μ1) ⟨by rw [s1]; exact hx, e, by rw [s1]; exact r⟩
    · rw [ti_le, ht, ti_lit0] at c
      refine shN_ok (c := 0) r ok.1 ei (by omega) (by omega) (by omega) hx (by omega) fun y μ2 hy e2 r2 => xif_c (fun c2 => ?_) (fun c2 => ?_)
      · rw [ti_le, ht, ti_lit1] at c2
        rw [nI_1]
        have s1 : shA (S, 0) (i + 1) = shK (shA (S, 0) i) i 0 := by
          show shK (shK (shA (S, 0) i) i 0) i 1 = _
          exact if_neg (by rw [tl_shK]; omega)
        exact ih (x + y, μ2) ⟨by rw [s1]; exact hy, fun q hq => (e2 q (fun z => hq (by rw [z]; exact own 0 (by omega)))).trans (e q hq), by rw [s1]; exact r2⟩
      · rw [ti_le, ht, ti_lit1] at c2
        refine shN_ok (c := 1) r2 ok0.1 ei (by omega) (by omega) (by rw [tl_shK]; omega) hy (by omega) fun w μ3 hw e3 r3 => ?_
        rw [nI_1]
        exact ih (x + y + w, μ3) ⟨hw, fun q hq => (e3 q (fun z => hq (by rw [z]; exact own 1 (by omega)))).trans ((e2 q (fun z => hq (by rw [z]; exact own 0 (by omega)))).trans (e q hq)), r3⟩
  · rintro ⟨x, μ1⟩ ⟨hx, e, r⟩
    have ei : (nI S.nl).toInt = S.nl := nI_t (by omega)
    have ok := shA_ok hI S.nl (by omega)
    have n1 : (shA (S, 0) S.nl).1.nl = S.nl := by show (shA (S, 0) S.nl).1.1.2.1 = _; rw [ok.2.1]
    exact wX4_bypassDetours_4 (xif_t (by rw [ti_le, r.1, ei, n1]; omega) (h x μ1 hx e r))
theorem m_sh (hr : repR (μ (1, 0, 20)) S) (hI : Inv S) {Z : xZ} (h : ∀ (x : Int32) (μ' : xM), x.toInt = (shA (S, 0) S.nl).2 → (∀ q, q ≠ (1, 0, 20) → μ' q = μ q) → repR (μ' (1, 0, 20)) (shA (S, 0) S.nl).1 → Q (some (vI x)) μ') : WS G eX9_shorten (d + 4) Z Q 8 [vR (9, 0, 0), vI (0 : Int32), vI (0 : Int32), vN, vN, vN] [] μ := by
  have h48 := hI.2.1
  have e3 : (3 : Int32).toInt = 3 := rfl
  have st : ∀ (p : aN) (i c : Nat) (x : Int32) (μ1 : xM), Inv p.1 → i < p.1.nl → c < 3 → x.toInt = p.2 → p.2 < 1000 → repR (μ1 (1, 0, 20)) p.1 → (∀ (y : Int32) (μ2 : xM), y.toInt = (shK p i c).2 → (∀ q, q ≠ (1, 0, 20) → μ2 q = μ1 q) → repR (μ2 (1, 0, 20)) (shK p i c).1 → WS G eX9_shorten (d + 4) Z Q 20 [vR (9, 0, 0), vI y, vI (nI i), vI (nI (c + 1)), vN, vN] [] μ2) → WS G eX9_shorten (d + 4) Z Q 20 [vR (9, 0, 0), vI x, vI (nI i), vI (nI c), vN, vN] [] μ1 := by
    intro p i c x μ1 hI hi hc hx hp r hh
    have h48 := hI.2.1
    have ei : (nI i).toInt = i := nI_t (by omega)
    have ec : (nI c).toInt = c := nI_t (by omega)
    have hok := hI.2.2.2.2.2.1
    refine wX9_shorten_20 (xif_f (by rw [ti_le, ec, e3]; omega) (m_ref r h48 ei hi ec hc fun v hv => ?_))
    rw [nI_1]
    rcases refcase (hok i hi).2.2.1 hc with ⟨c1, c2, c3⟩ | ⟨c1, c2⟩ | ⟨c1, c2, c3⟩
    · have c21 := c2.1
      have c22 := c2.2
      refine xif_f (by rw [ti_eq, hv, ti_litm6]; omega) (m_toBox r hI ei hi ec (fun z => by rw [c3] at z; cases z) fun _ => xif_t rfl ?_)
      have lp : ∀ (n : Nat) (w : Int32), okLR i w.toInt → w.toInt.toNat < n → fol p.1 n w.toInt = fol p.1 48 (p.1.L (2 + c) i) → WS G eX9_shorten (d + 4) Z Q 53 [vR (9, 0, 0), vI x, vI (nI i), vI (nI c), vI v, vI w] [] μ1 := by
        intro n
        induction n with
        | zero => intro w h1 h2 h3; omega
        | succ n ih =>
          intro w hw h2 hf
          have hw1 := hw.1
          have hw2 := hw.2
          have hwk : w.toInt = (w.toInt.toNat : Nat) := by omega
          have hby := byp_ok (S := p.1) (l := w.toInt.toNat) (fun k' hk' => (hok k' (by omega)).2.2.1)
          have okw := (hok w.toInt.toNat (by omega)).2.2.1
          have hf : (if byp p.1 w.toInt.toNat = -6 then w.toInt else fol p.1 n (byp p.1 w.toInt.toNat)) = fol p.1 48 (p.1.L (2 + c) i) := hf
          refine wX9_shorten_53 (m_by r h48 okw hwk (by omega) fun y hy => xif_c (fun z => ?_) (fun z => ?_))
          · rw [ti_eq, hy, ti_litm6] at z
            rw [if_pos z] at hf
            have ix := lin1 (lin1 (lin l183 l6 ei (by omega)) l2 (by omega)) ec (by omega)
            rw [nI_1, ti_cl' ix]
            have rr := repR_setR (v := w) r hI.bd hi hc
            rw [hf] at rr
            have fr : ∀ q, q ≠ (1, 0, 20) → xst μ1 (1, 0, 20) (183 + 6 * i + 2 + c) w q = μ1 q := fun q hq => by
              funext i
              rw [xst_rd, if_neg (fun z => hq z.1)]
            refine xif_c (fun q => ⟨ti_in ix (by omega), hh _ _ ?_ fr (by unfold shK; rw [if_pos c1]; exact rr)⟩) (fun q => ⟨ti_in ix (by omega), hh _ _ ?_ fr (by unfold shK; rw [if_pos c1]; exact rr)⟩)
            · rw [ti_eq, hf, hv] at q
              rw [ti_add (by rw [hx, ti_lit0]; omega) (by rw [hx, ti_lit0]; omega), hx, ti_lit0]
              unfold shK
              rw [if_pos c1, if_pos q]
              rfl
            · rw [ti_eq, hf, hv] at q
              rw [ti_add (by rw [hx, ti_lit1]; omega) (by rw [hx, ti_lit1]; omega), hx, ti_lit1]
              unfold shK
              rw [if_pos c1, if_neg q]
              rfl
          · rw [ti_eq, hy, ti_litm6] at z
            rw [if_neg z] at hf
            refine m_by r h48 okw hwk (by omega) fun u hu => ?_
            rcases hby with q | q
            · exact absurd q z
            · have q1 := q.1
              have q2 := q.2
              exact ih u ⟨by rw [hu]; exact q1, by rw [hu]; omega⟩ (by rw [hu]; omega) (by rw [hu]; exact hf)
      exact lp 48 v ⟨by rw [hv]; exact c21, by rw [hv]; exact c22⟩ (by rw [hv]; omega) (by rw [hv])
    · have s0 : shK p i c = p := if_neg c1
      refine xif_t (by rw [ti_eq, hv, c2]; rfl) (hh x μ1 (by rw [s0]; exact hx) (fun _ _ => rfl) (by rw [s0]; exact r))
    · have s0 : shK p i c = p := if_neg c1
      have c21 := c2.1
      refine xif_f (by rw [ti_eq, hv, ti_litm6]; omega) (m_toBox r hI ei hi ec (fun _ => xif_f (by decide) ?_) (fun z => by rw [c3] at z; cases z))
      exact hh x μ1 (by rw [s0]; exact hx) (fun _ _ => rfl) (by rw [s0]; exact r)
  refine up_loop (σ := Int32 × xM) (fun i s => WS G eX9_shorten (d + 4) Z Q 8 [vR (9, 0, 0), vI s.1, vI (nI i), vN, vN, vN] [] s.2) (fun i s => s.1.toInt = (shA (S, 0) i).2 ∧ (∀ q, q ≠ (1, 0, 20) → s.2 q = μ q) ∧ repR (s.2 (1, 0, 20)) (shA (S, 0) i).1) S.nl ?_ ?_ 0 ((0 : Int32), μ) (by omega) ⟨rfl, fun _ _ => rfl, hr⟩
  · rintro i ⟨x, μ1⟩ hi ⟨hx, e, r⟩ ih
    have ei : (nI i).toInt = i := nI_t (by omega)
    have ok := shA_ok hI i (by omega)
    have n1 : (shA (S, 0) i).1.nl = S.nl := by show (shA (S, 0) i).1.1.2.1 = _; rw [ok.2.1]
    have ok0 := shK_ok ok hi (c := 0) (by omega)
    have n2 : (shK (shA (S, 0) i) i 0).1.nl = S.nl := by show (shK (shA (S, 0) i) i 0).1.1.2.1 = _; rw [ok0.2.1]
    have ok1 := shK_ok ok0 hi (c := 1) (by omega)
    have n3 : (shK (shK (shA (S, 0) i) i 0) i 1).1.nl = S.nl := by show (shK (shK (shA (S, 0) i) i 0) i 1).1.1.2.1 = _; rw [ok1.2.1]
    have p1 := ok.2.2.2
    have p2 := ok0.2.2.2
    have p3 := ok1.2.2.2
    refine wX9_shorten_8 ⟨ti_in l1 (by omega), xif_f (by rw [ti_le, ti_cl' l1, r.2.1, ei, n1]; omega) ?_⟩
    refine st _ i 0 x μ1 ok.1 (by omega) (by omega) hx (by omega) r fun y μ2 hy e2 r2 => ?_
    refine st _ i 1 y μ2 ok0.1 (by omega) (by omega) hy (by omega) r2 fun w μ3 hw e3' r3 => ?_
    refine st _ i 2 w μ3 ok1.1 (by omega) (by omega) hw (by omega) r3 fun u μ4 hu e4 r4 => ?_
    rw [shK_2] at hu r4
    refine wX9_shorten_20 (xif_t (by rw [ti_le, nI_t (by omega), e3]; omega) ?_)
    rw [nI_1]
    exact ih (u, μ4) ⟨hu, fun q hq => (e4 q hq).trans ((e3' q hq).trans ((e2 q hq).trans (e q hq))), r4⟩
  · rintro ⟨x, μ1⟩ ⟨hx, e, r⟩
    have ei : (nI S.nl).toInt = S.nl := nI_t (by omega)
    have ok := shA_ok hI S.nl (by omega)
    have n1 : (shA (S, 0) S.nl).1.nl = S.nl := by show (shA (S, 0) S.nl).1.1.2.1 = _; rw [ok.2.1]
    exact wX9_shorten_8 ⟨ti_in l1 (by omega), xif_t (by rw [ti_le, ti_cl' l1, r.2.1, ei, n1]; omega) (h x μ1 hx e r)⟩
theorem op_shorten (ok : okO ((0 : Int), S, H, K, T)) : ∃ o : aO, cOp G mX8_shorten [] S H K T o ∧ mOp G mX9_shorten [] S H K T o ∧ okO o := by
  have hI : Inv S := ok.1
  have okA := shA_ok hI S.nl (Nat.le_refl _)
  refine ⟨((shA (S, 0) S.nl).2, (shA (S, 0) S.nl).1, (S :: H).take 5, K, T), ?_, ?_, okA.1, okO_take ok.1 ok.2.1, ok.2.2⟩
  · intro μ Q hc h
    refine wX8_shorten (record_ok hI.bd hc.1 hc.2.1 fun μ1 e1 r1 => ?_)
    have hP1 : repP μ1 0 S := hc.1.2.keep fun q hq => e1 q (ownH_not0 (Or.inr hq))
    refine bd_ok hP1 hI fun x μ2 hx e2 r2 => ?_
    obtain ⟨f1, f2⟩ := hc.updP (S' := (shA (S, 0) S.nl).1) e1 r1 e2 (hc.1.1.cg okA.2.1 okA.2.2.1) r2
    exact h x μ2 hx f1 f2
  · intro μ Q hc h
    refine wX9_shorten fun Z => mrecord_ok hI.bd hc.1 hc.2.1 fun μ1 e1 f1 r1 => ?_
    have hR1 : repR (μ1 (1, 0, 20)) S := by rw [e1 _ (by decide) (by decide)]; exact hc.1
    refine m_sh hR1 hI fun x μ2 hx e2 r2 => ?_
    obtain ⟨g1, g2⟩ := hc.updP (S' := (shA (S, 0) S.nl).1) e1 f1 r1 e2 r2
    exact h x μ2 hx g1 g2
end
