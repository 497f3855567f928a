/-! THE PURE PART: numbers, rows, states -/
theorem xif_t {c a b : Prop} (h : c) (ha : a) : xif c a b := ⟨fun _ => ha, fun n => absurd h n⟩
theorem xif_f {c a b : Prop} (h : ¬ c) (hb : b) : xif c a b := ⟨fun n => absurd n h, fun _ => hb⟩
theorem xif_c {c a b : Prop} (ha : c → a) (hb : ¬ c → b) : xif c a b := ⟨ha, hb⟩
theorem z01 : (0 : Int32) = 0 ∨ (0 : Int32) = 1 := Or.inl rfl
theorem z11 : (1 : Int32) = 0 ∨ (1 : Int32) = 1 := Or.inr rfl
theorem ti_lt {x y : Int32} : x < y ↔ x.toInt < y.toInt := Int32.lt_iff_toInt_lt
theorem ti_le {x y : Int32} : x ≤ y ↔ x.toInt ≤ y.toInt := Int32.le_iff_toInt_le
theorem ti_eq {x y : Int32} : x = y ↔ x.toInt = y.toInt := Int32.toInt_inj.symm
theorem ti_bd (x : Int32) : -2147483648 ≤ x.toInt ∧ x.toInt ≤ 2147483647 := by
  have h1 := Int32.le_toInt x
  have h2 := Int32.toInt_lt x
  omega
theorem ti_add {x y : Int32} (h1 : -2147483648 ≤ x.toInt + y.toInt) (h2 : x.toInt + y.toInt ≤ 2147483647) : (x + y).toInt = x.toInt + y.toInt := by
  rw [Int32.toInt_add]
  exact Int.bmod_eq_of_le (by omega) (by omega)
theorem ti_sub {x y : Int32} (h1 : -2147483648 ≤ x.toInt - y.toInt) (h2 : x.toInt - y.toInt ≤ 2147483647) : (x - y).toInt = x.toInt - y.toInt := by
  rw [Int32.toInt_sub]
  exact Int.bmod_eq_of_le (by omega) (by omega)
theorem ti_mul {x y : Int32} (h1 : -2147483648 ≤ x.toInt * y.toInt) (h2 : x.toInt * y.toInt ≤ 2147483647) : (x * y).toInt = x.toInt * y.toInt := by
  rw [Int32.toInt_mul]
  exact Int.bmod_eq_of_le (by omega) (by omega)
theorem ti_cl (x : Int32) : x.toNatClampNeg = x.toInt.toNat := rfl
theorem ti_cl' {x : Int32} {k : Nat} (h : x.toInt = k) : x.toNatClampNeg = k := by
  rw [ti_cl, h]
  rfl
theorem ti_of {k : Nat} (h : k < 2147483648) : (Int32.ofNat k).toInt = k := nI_toInt h
theorem ti_in {x : Int32} {k n : Nat} (h : x.toInt = k) (hk : k < n) : vp_in x n := vp_in_iff.mpr (by omega)
theorem ti_lit0 : (0 : Int32).toInt = 0 := rfl
theorem ti_lit1 : (1 : Int32).toInt = 1 := rfl
theorem ti_litm6 : (-6 : Int32).toInt = -6 := rfl
theorem xlenc_bd (c : Nat) : xlenc c < 4000 := by
  unfold xlenc
  split <;> omega
theorem xst_rd (μ : xM) (p q : xI) (k i : Nat) (v : Int32) : xst μ q k v p i = if p = q ∧ i = k then v else μ p i := by
  unfold xst
  by_cases h : p = q
  · subst h
    by_cases hi : i = k
    · subst hi; simp [pk_us]
    · simp [hi, pk_un hi]
  · simp [h]
section
variable {G : xG} {d j c : Nat} {μ : xM} {Q : xP}
theorem get_in {i : Int32} {k : Nat} (hi : i.toInt = k) (hk : k < xlenc c) (h : Q (some (vI (μ (1, j, c) k))) μ) : MW G (d + 1) mX5_get [vR (0, j, c), vI i] μ Q := by
  have hb := xlenc_bd c
  refine wX5_get (xif_f ?_ (xif_f ?_ ⟨ti_in hi hk, ?_⟩))
  · rw [ti_lt, ti_lit0]; omega
  · rw [ti_le, ti_of (by omega)]; omega
  · rw [ti_cl' hi]; exact h
theorem get_out {i : Int32} (hi : i.toInt < 0 ∨ (xlenc c : Int) ≤ i.toInt) (h : Q (some (vI (-6))) μ) : MW G (d + 1) mX5_get [vR (0, j, c), vI i] μ Q := by
  have hb := xlenc_bd c
  refine wX5_get (xif_c (fun _ => h) fun h1 => xif_t ?_ h)
  rw [ti_lt, ti_lit0] at h1
  rw [ti_le, ti_of (by omega)]; omega
theorem set_in {i v : Int32} {k : Nat} (hi : i.toInt = k) (hk : k < xlenc c) (h : Q none (xst μ (1, j, c) k v)) : MW G (d + 1) mX5_set [vR (0, j, c), vI i, vI v] μ Q := by
  have hb := xlenc_bd c
  refine wX5_set (xif_f ?_ (xif_f ?_ ⟨ti_in hi hk, ?_⟩))
  · rw [ti_lt, ti_lit0]; omega
  · rw [ti_le, ti_of (by omega)]; omega
  · rw [ti_cl' hi]; exact h
theorem set_out {i v : Int32} (hi : i.toInt < 0 ∨ (xlenc c : Int) ≤ i.toInt) (h : Q none μ) : MW G (d + 1) mX5_set [vR (0, j, c), vI i, vI v] μ Q := by
  have hb := xlenc_bd c
  refine wX5_set (xif_c (fun _ => h) fun h1 => xif_t ?_ h)
  rw [ti_lt, ti_lit0] at h1
  rw [ti_le, ti_of (by omega)]; omega
/-- a row copied from another one of the same length -/
theorem copy_row {j0 : Nat} (h : Q none (xcp μ (1, j0, c) (1, j, c) 0 0 (xlenc c))) : MW G (d + 1) mX5_copyFrom [vR (0, j, c), vR (0, j0, c)] μ Q := by
  have hb := xlenc_bd c
  refine wX5_copyFrom ?_
  rw [if_neg (by rw [ti_lt]; omega)]
  have e : (Int32.ofNat (xlenc c)).toInt = xlenc c := ti_of (by omega)
  have e0 : (0 : Int32).toNatClampNeg = 0 := rfl
  rw [ti_cl' e, e0]
  refine ⟨by rw [ti_lt]; omega, by rw [ti_lt]; omega, by rw [ti_lt, e, ti_lit0]; omega, by omega, by omega, h⟩
end
theorem xcp_rd (μ : xM) (a b p : xI) (n i : Nat) : xcp μ a b 0 0 n p i = if p = b ∧ i < n then μ a i else μ p i := by
  unfold xcp
  by_cases h : p = b
  · subst h
    by_cases hi : i < n
    · rw [if_pos rfl, if_pos ⟨rfl, hi⟩, pk_cpy_in (Nat.zero_le i) (by omega)]
      simp
    · rw [if_pos rfl, if_neg (fun q => hi q.2), pk_cpy_out (Or.inr (by omega))]
  · rw [if_neg h, if_neg (fun q => h q.1)]
/-! the state that both sides stand for: how many formulas, lines, boxes, the innermost open box; formulas (kind, left, right), lines (formula, rule, three references, home), boxes (start, end, parent) -/
abbrev aS : Type := (Nat × Nat × Nat × Int) × (Nat → Nat → Int) × (Nat → Nat → Int) × (Nat → Nat → Int)
abbrev aS.nf (S : aS) : Nat := S.1.1
abbrev aS.nl (S : aS) : Nat := S.1.2.1
abbrev aS.nb (S : aS) : Nat := S.1.2.2.1
abbrev aS.inn (S : aS) : Int := S.1.2.2.2
abbrev aS.F (S : aS) : Nat → Nat → Int := S.2.1
abbrev aS.L (S : aS) : Nat → Nat → Int := S.2.2.1
abbrev aS.B (S : aS) : Nat → Nat → Int := S.2.2.2
/-- the column of the class's rows for a line's part -/
def lcol : Nat → Nat
  | 0 => 3 | 1 => 4 | 2 => 6 | 3 => 7 | 4 => 8 | _ => 5
def repF (μ : xM) (j : Nat) (S : aS) : Prop := (μ (2, j, 0) 0).toInt = S.nf ∧ ∀ c, c < 3 → ∀ f, f < S.nf → (μ (1, j, c) f).toInt = S.F c f
def repP (μ : xM) (j : Nat) (S : aS) : Prop := (μ (3, j, 0) 0).toInt = S.nl ∧ (μ (3, j, 0) 1).toInt = S.nb ∧ (μ (3, j, 0) 2).toInt = S.inn ∧ (∀ c, c < 6 → ∀ l, l < S.nl → (μ (1, j, lcol c) l).toInt = S.L c l) ∧ ∀ c, c < 3 → ∀ b, b < S.nb → (μ (1, j, 9 + c) b).toInt = S.B c b
/-- state j of the class stands for S -/
def repC (μ : xM) (j : Nat) (S : aS) : Prop := repF μ j S ∧ repP μ j S
/-- the cells of state j -/
def ownF (j : Nat) (q : xI) : Prop := q = (2, j, 0) ∨ (q.1 = 1 ∧ q.2.1 = j ∧ q.2.2 < 3)
def ownP (j : Nat) (q : xI) : Prop := q = (3, j, 0) ∨ (q.1 = 1 ∧ q.2.1 = j ∧ 3 ≤ q.2.2 ∧ q.2.2 < 12)
def ownS (j : Nat) (q : xI) : Prop := ownF j q ∨ ownP j q
theorem repF.keep {μ μ' : xM} {j : Nat} {S : aS} (h : repF μ j S) (e : ∀ q, ownF j q → μ' q = μ q) : repF μ' j S := by
  refine ⟨by rw [e _ (Or.inl rfl)]; exact h.1, fun c hc f hf => ?_⟩
  rw [e (1, j, c) (Or.inr ⟨rfl, rfl, hc⟩)]
  exact h.2 c hc f hf
theorem lcol_bd (c : Nat) : 3 ≤ lcol c ∧ lcol c < 9 := by
  unfold lcol
  split <;> omega
theorem repP.keep {μ μ' : xM} {j : Nat} {S : aS} (h : repP μ j S) (e : ∀ q, ownP j q → μ' q = μ q) : repP μ' j S := by
  obtain ⟨h1, h2, h3, h4, h5⟩ := h
  have e0 := e (3, j, 0) (Or.inl rfl)
  refine ⟨by rw [e0]; exact h1, by rw [e0]; exact h2, by rw [e0]; exact h3, fun c hc l hl => ?_, fun c hc b hb => ?_⟩
  · have := lcol_bd c
    rw [e (1, j, lcol c) (Or.inr ⟨rfl, rfl, (show 3 ≤ lcol c by omega), (show lcol c < 12 by omega)⟩)]
    exact h4 c hc l hl
  · rw [e (1, j, 9 + c) (Or.inr ⟨rfl, rfl, (show 3 ≤ 9 + c by omega), (show 9 + c < 12 by omega)⟩)]
    exact h5 c hc b hb
theorem repC.keep {μ μ' : xM} {j : Nat} {S : aS} (h : repC μ j S) (e : ∀ q, ownS j q → μ' q = μ q) : repC μ' j S := ⟨h.1.keep fun q hq => e q (Or.inl hq), h.2.keep fun q hq => e q (Or.inr hq)⟩
/-- how many there can be -/
def bdS (S : aS) : Prop := S.nf ≤ 60 ∧ S.nl ≤ 48 ∧ S.nb ≤ 48
section
variable {G : xG} {d j j0 : Nat} {μ : xM} {Q : xP}
theorem copyF (hj : j ≠ j0) (h : ∀ μ', (∀ q, ¬ ownF j q → μ' q = μ q) → (∀ S : aS, S.nf ≤ 60 → repF μ j0 S → repF μ' j S) → Q none μ') : MW G (d + 2) mX2_copyFrom [vR (2, j, 0), vR (2, j0, 0)] μ Q := by
  refine wX2_copyFrom (copy_row (copy_row (copy_row (h _ (fun q hq => ?_) (fun S hS hr => ?_)))))
  · funext i
    have n1 : ∀ c, c < 3 → ¬ q = (1, j, c) := fun c hc e => hq (Or.inr (by rw [e]; exact ⟨rfl, rfl, hc⟩))
    have n2 : ¬ q = (2, j, 0) := fun e => hq (Or.inl e)
    simp [xcp_rd, xst_rd, n1 0 (by omega), n1 1 (by omega), n1 2 (by omega), n2]
  · have hj' : ¬ j0 = j := fun e => hj e.symm
    obtain ⟨h1, h2⟩ := hr
    refine ⟨by simp [xcp_rd, xst_rd, h1], fun c hc f hf => ?_⟩
    have hx : f < 60 := by omega
    rcases (show c = 0 ∨ c = 1 ∨ c = 2 by omega) with rfl | rfl | rfl
    · simpa [xcp_rd, xst_rd, hj', xlenc, hx] using h2 0 (by omega) f hf
    · simpa [xcp_rd, xst_rd, hj', xlenc, hx] using h2 1 (by omega) f hf
    · simpa [xcp_rd, xst_rd, hj', xlenc, hx] using h2 2 (by omega) f hf
set_option maxHeartbeats 4000000 in
theorem copyP (hj : j ≠ j0) (h : ∀ μ', (∀ q, ¬ ownP j q → μ' q = μ q) → (∀ S : aS, S.nl ≤ 48 → S.nb ≤ 48 → repP μ j0 S → repP μ' j S) → Q none μ') : MW G (d + 2) mX4_copyFrom [vR (3, j, 0), vR (3, j0, 0)] μ Q := by
  refine wX4_copyFrom (copy_row (copy_row (copy_row (copy_row (copy_row (copy_row (copy_row (copy_row (copy_row (h _ (fun q hq => ?_) (fun S hS hS2 hr => ?_)))))))))))
  · funext i
    have n1 : ∀ c, 3 ≤ c → c < 12 → ¬ q = (1, j, c) := fun c hc hc2 e => hq (Or.inr (by rw [e]; exact ⟨rfl, rfl, hc, hc2⟩))
    have n2 : ¬ q = (3, j, 0) := fun e => hq (Or.inl e)
    simp [xcp_rd, xst_rd, n1 3 (by omega) (by omega), n1 4 (by omega) (by omega), n1 5 (by omega) (by omega), n1 6 (by omega) (by omega), n1 7 (by omega) (by omega), n1 8 (by omega) (by omega), n1 9 (by omega) (by omega), n1 10 (by omega) (by omega), n1 11 (by omega) (by omega), n2]
  · have hj' : ¬ j0 = j := fun e => hj e.symm
    obtain ⟨h1, h2, h3, h4, h5⟩ := hr
    refine ⟨by simp [xcp_rd, xst_rd, h1], by simp [xcp_rd, xst_rd, hj', h2], by simp [xcp_rd, xst_rd, hj', h3], fun c hc l hl => ?_, fun c hc b hb => ?_⟩
    · have hx : l < 48 := by omega
      have := h4 c hc l hl
      rcases (show c = 0 ∨ c = 1 ∨ c = 2 ∨ c = 3 ∨ c = 4 ∨ c = 5 by omega) with rfl | rfl | rfl | rfl | rfl | rfl <;> simpa [xcp_rd, xst_rd, hj', xlenc, lcol, hx] using this
    · have hx : b < 48 := by omega
      have := h5 c hc b hb
      rcases (show c = 0 ∨ c = 1 ∨ c = 2 by omega) with rfl | rfl | rfl <;> simpa [xcp_rd, xst_rd, hj', xlenc, hx] using this
theorem copyS (hj : j ≠ j0) (h : ∀ μ', (∀ q, ¬ ownS j q → μ' q = μ q) → (∀ S : aS, bdS S → repC μ j0 S → repC μ' j S) → Q none μ') : MW G (d + 3) mX7_copyFrom [vR (4, j, 0), vR (4, j0, 0)] μ Q := by
  refine wX7_copyFrom (copyF hj fun μ1 e1 r1 => copyP hj fun μ2 e2 r2 => h _ (fun q hq => ?_) (fun S hS hr => ?_))
  · rw [e2 q (fun z => hq (Or.inr z)), e1 q (fun z => hq (Or.inl z))]
  · have k1 := r1 S hS.1 hr.1
    refine ⟨k1.keep fun q hq => e2 q ?_, r2 S hS.2.1 hS.2.2 (hr.2.keep fun q hq => e1 q ?_)⟩
    · rcases hq with rfl | ⟨a, b, c⟩
      · rintro (z | z)
        · cases z
        · exact absurd z.1 (show ¬ (2 : Nat) = 1 by decide)
      · rintro (z | z)
        · rw [z] at a; exact absurd a (show ¬ (3 : Nat) = 1 by decide)
        · omega
    · rcases hq with rfl | ⟨a, b, c, c2⟩
      · rintro (z | z)
        · cases z
        · exact absurd z.1 (show ¬ (3 : Nat) = 1 by decide)
      · rintro (z | z)
        · rw [z] at a; exact absurd a (show ¬ (2 : Nat) = 1 by decide)
        · omega
end
