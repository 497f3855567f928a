/-! tables from the front; scratch cells; length and character: both sides -/
def tab {α : Type} (g : (Nat → α) → Nat → α) (z : α) : Nat → Nat → α
  | 0 => fun _ => z
  | n + 1 => fun f => if f = n then g (tab g z n) n else tab g z n f
theorem tab_new {α : Type} (g : (Nat → α) → Nat → α) (z : α) (n : Nat) : tab g z (n + 1) n = g (tab g z n) n := if_pos rfl
theorem tab_old {α : Type} (g : (Nat → α) → Nat → α) (z : α) {n f : Nat} (h : f ≠ n) : tab g z (n + 1) f = tab g z n f := if_neg h
theorem tab_st {α : Type} (g : (Nat → α) → Nat → α) (z : α) {f : Nat} : ∀ m n, f < n → tab g z (n + m) f = tab g z n f
  | 0, n, h => rfl
  | m + 1, n, h => by
    rw [← Nat.add_assoc, tab_old g z (by omega), tab_st g z m n h]
theorem tab_rec {α : Type} (g : (Nat → α) → Nat → α) (z : α) {N : Nat} (hg : ∀ (A B : Nat → α) (f : Nat), f < N → (∀ x, x < f → A x = B x) → g A f = g B f) {f : Nat} (h : f < N) : tab g z N f = g (tab g z N) f := by
  obtain ⟨m, rfl⟩ : ∃ m, N = f + 1 + m := ⟨N - (f + 1), by omega⟩
  rw [tab_st g z m (f + 1) (by omega), tab_new]
  refine hg _ _ f h fun x hx => ?_
  rw [show f + 1 + m = f + (1 + m) by omega, tab_st g z (1 + m) f hx]
theorem cS.scr {μ μ' : xM} {S : aS} {H : List aS} {K : Option aS} {T : aT} (h : cS μ S H K T) (e : ∀ q, ownS 0 q ∨ ownS 1 q ∨ ownH q ∨ q = (8, 0, 0) ∨ q = (1, 0, 14) → μ' q = μ q) (e6 : μ' (6, 0, 0) 0 = μ (6, 0, 0) 0) : cS μ' S H K T := by
  obtain ⟨h1, h2, h3, h4, h5⟩ := h
  have e8 := e (8, 0, 0) (Or.inr (Or.inr (Or.inr (Or.inl rfl))))
  have e14 := e (1, 0, 14) (Or.inr (Or.inr (Or.inr (Or.inr rfl))))
  refine ⟨h1.keep fun q hq => e q (Or.inl hq), h2.keep fun q hq => e q (Or.inr (Or.inr (Or.inl hq))), ?_, by rw [e6]; exact h4, by rw [e14]; exact h5⟩
  cases K with
  | none => show μ' _ _ = _; rw [e8]; exact h3
  | some k => exact ⟨by rw [e8]; exact h3.1, h3.2.keep fun q hq => e q (Or.inr (Or.inl hq))⟩
/-- which cells are no part of a state -/
theorem scr12 {c : Nat} (hc : c = 12 ∨ c = 13 ∨ c = 15 ∨ c = 16) {q : xI} (h : ownS 0 q ∨ ownS 1 q ∨ ownH q ∨ q = (8, 0, 0) ∨ q = (1, 0, 14)) : q ≠ (1, 0, c) := by
  have ns : ∀ j, ¬ ownS j (1, 0, c) := by
    intro j z
    rcases z with (z | z) | (z | z) <;> simp at z <;> omega
  rintro rfl
  rcases h with z | z | z | z | z
  · exact ns _ z
  · exact ns _ z
  · rcases z with z | ⟨j, -, -, z⟩
    · cases z
    · exact ns _ z
  · cases z
  · simp at z; omega
theorem isC_row {j c : Nat} (hc : c < 20) : isC (1, j, c) := ⟨by simp, by simp, by simp, by simp; omega⟩
def mn6 (x : Int) : Int := if x ≤ 1000000 then x else 1000000
def gL (S : aS) (A : Nat → Int) (f : Nat) : Int := if S.F 0 f < 2 then 1 else if S.F 0 f = 2 then mn6 (1 + A (S.F 1 f).toNat) else mn6 (3 + A (S.F 1 f).toNat + A (S.F 2 f).toNat)
def lenS (S : aS) : Nat → Int := tab (gL S) 1 S.nf
theorem gL_cg {S : aS} (hI : Inv S) (A B : Nat → Int) (f : Nat) (hf : f < S.nf) (h : ∀ x, x < f → A x = B x) : gL S A f = gL S B f := by
  unfold gL
  by_cases c : S.F 0 f < 2
  · rw [if_pos c, if_pos c]
  · rw [if_neg c, if_neg c]
    obtain ⟨x, hx, hx2⟩ := hI.fl hf (by omega)
    by_cases c2 : S.F 0 f = 2
    · rw [if_pos c2, if_pos c2, hx, Int.toNat_natCast, h x hx2]
    · rw [if_neg c2, if_neg c2]
      obtain ⟨y, hy, hy2⟩ := hI.fr hf (by omega)
      rw [hx, hy, Int.toNat_natCast, Int.toNat_natCast, h x hx2, h y hy2]
theorem mn6_bd {x : Int} (h : 1 ≤ x) : 1 ≤ mn6 x ∧ mn6 x ≤ 1000000 ∧ mn6 x ≤ x := by
  unfold mn6
  split <;> omega
theorem tabL_bd (S : aS) : ∀ n f, 1 ≤ tab (gL S) 1 n f ∧ tab (gL S) 1 n f ≤ 1000000
  | 0, f => by show (1 : Int) ≤ 1 ∧ (1 : Int) ≤ 1000000; omega
  | n + 1, f => by
    by_cases c : f = n
    · subst c
      rw [tab_new, gL]
      have h1 := tabL_bd S f (S.F 1 f).toNat
      have h2 := tabL_bd S f (S.F 2 f).toNat
      by_cases c : S.F 0 f < 2
      · rw [if_pos c]; omega
      · rw [if_neg c]
        by_cases c2 : S.F 0 f = 2
        · rw [if_pos c2]
          have := mn6_bd (x := 1 + tab (gL S) 1 f (S.F 1 f).toNat) (by omega)
          omega
        · rw [if_neg c2]
          have := mn6_bd (x := 3 + tab (gL S) 1 f (S.F 1 f).toNat + tab (gL S) 1 f (S.F 2 f).toNat) (by omega)
          omega
    · rw [tab_old _ _ c]
      exact tabL_bd S n f
def first (S : aS) (f : Nat) : Int := if S.F 0 f = 0 then 97 + S.F 1 f else if S.F 0 f = 1 then 35 else if S.F 0 f = 2 then 126 else 40
def signK (k : Int) : Int := if k = 3 then 38 else if k = 4 then 124 else 62
def chr (S : aS) : Nat → Nat → Int → Int
  | 0, _, _ => 0
  | n + 1, f, r => if r ≤ 0 then first S f else if S.F 0 f = 2 then chr S n (S.F 1 f).toNat (r - 1) else if r ≤ lenS S (S.F 1 f).toNat then chr S n (S.F 1 f).toNat (r - 1) else if r - (1 + lenS S (S.F 1 f).toNat) = 0 then signK (S.F 0 f) else if r - (2 + lenS S (S.F 1 f).toNat) = lenS S (S.F 2 f).toNat then 41 else chr S n (S.F 2 f).toNat (r - (2 + lenS S (S.F 1 f).toNat))
section
variable {G : xG} {d : Nat} {μ : xM} {Q : xP} {S : aS} {H : List aS} {K : Option aS} {T : aT}
theorem c_F0 {c : Nat} {x : Int32} {k : Nat} (hr : repF μ 0 S) (hb : S.nf ≤ 60) (hc : c < 3) (hx : x.toInt = k) (hk : k < S.nf) (h : ∀ y : Int32, y.toInt = S.F c k → Q (some (vI y)) μ) : MW G (d + 1) mX5_get [vR (0, 0, c), vI x] μ Q := c_F hr hb hc hx hk h
theorem Inv.kind {S : aS} (h : Inv S) {f : Nat} (hf : f < S.nf) : 0 ≤ S.F 0 f ∧ S.F 0 f ≤ 5 := by
  rcases h.2.2.2.2.1 f hf with z | z | z | z <;> omega
theorem lenS_rec (hI : Inv S) {f : Nat} (hf : f < S.nf) : lenS S f = gL S (lenS S) f := tab_rec (gL S) 1 (gL_cg hI) hf
theorem lenS_bd (S : aS) (f : Nat) : 1 ≤ lenS S f ∧ lenS S f ≤ 1000000 := tabL_bd S S.nf f
/-- what lengths say of an index -/
theorem len_at (hI : Inv S) {f : Nat} (hf : f < S.nf) {r : Int} (h0 : 0 < r) (hr : r < lenS S f) : (S.F 0 f = 2 ∧ r ≤ lenS S (S.F 1 f).toNat ∧ (S.F 1 f).toNat < f ∧ 0 ≤ S.F 1 f) ∨ (3 ≤ S.F 0 f ∧ r < 3 + lenS S (S.F 1 f).toNat + lenS S (S.F 2 f).toNat ∧ (S.F 1 f).toNat < f ∧ 0 ≤ S.F 1 f ∧ (S.F 2 f).toNat < f ∧ 0 ≤ S.F 2 f) := by
  rw [lenS_rec hI hf, gL] at hr
  have ba := lenS_bd S (S.F 1 f).toNat
  have bb := lenS_bd S (S.F 2 f).toNat
  by_cases c : S.F 0 f < 2
  · rw [if_pos c] at hr; omega
  · rw [if_neg c] at hr
    obtain ⟨a, ha, ha2⟩ := hI.fl hf (by omega)
    by_cases c2 : S.F 0 f = 2
    · rw [if_pos c2] at hr
      have := (mn6_bd (x := 1 + lenS S (S.F 1 f).toNat) (by omega)).2.2
      exact Or.inl ⟨c2, by omega, by omega, by omega⟩
    · rw [if_neg c2] at hr
      obtain ⟨b, hb, hb2⟩ := hI.fr hf (by omega)
      have := (mn6_bd (x := 3 + lenS S (S.F 1 f).toNat + lenS S (S.F 2 f).toNat) (by omega)).2.2
      exact Or.inr ⟨by omega, by omega, by omega, by omega, by omega, by omega⟩
end
