/-! the lowest valuation in which a line fails: both sides -/
def bcn (a0 : Int32) : Int32 := ((((((((a0 - ((xiu a0 (1 : Int32)) &&& (1431655765 : Int32))) &&& (858993459 : Int32)) + ((xiu ((a0 - ((xiu a0 (1 : Int32)) &&& (1431655765 : Int32)))) (2 : Int32)) &&& (858993459 : Int32))) + (xiu ((((a0 - ((xiu a0 (1 : Int32)) &&& (1431655765 : Int32))) &&& (858993459 : Int32)) + ((xiu ((a0 - ((xiu a0 (1 : Int32)) &&& (1431655765 : Int32)))) (2 : Int32)) &&& (858993459 : Int32)))) (4 : Int32))) &&& (252645135 : Int32)) + (xiu ((((((a0 - ((xiu a0 (1 : Int32)) &&& (1431655765 : Int32))) &&& (858993459 : Int32)) + ((xiu ((a0 - ((xiu a0 (1 : Int32)) &&& (1431655765 : Int32)))) (2 : Int32)) &&& (858993459 : Int32))) + (xiu ((((a0 - ((xiu a0 (1 : Int32)) &&& (1431655765 : Int32))) &&& (858993459 : Int32)) + ((xiu ((a0 - ((xiu a0 (1 : Int32)) &&& (1431655765 : Int32)))) (2 : Int32)) &&& (858993459 : Int32)))) (4 : Int32))) &&& (252645135 : Int32))) (8 : Int32))) + (xiu (((((((a0 - ((xiu a0 (1 : Int32)) &&& (1431655765 : Int32))) &&& (858993459 : Int32)) + ((xiu ((a0 - ((xiu a0 (1 : Int32)) &&& (1431655765 : Int32)))) (2 : Int32)) &&& (858993459 : Int32))) + (xiu ((((a0 - ((xiu a0 (1 : Int32)) &&& (1431655765 : Int32))) &&& (858993459 : Int32)) + ((xiu ((a0 - ((xiu a0 (1 : Int32)) &&& (1431655765 : Int32)))) (2 : Int32)) &&& (858993459 : Int32)))) (4 : Int32))) &&& (252645135 : Int32)) + (xiu ((((((a0 - ((xiu a0 (1 : Int32)) &&& (1431655765 : Int32))) &&& (858993459 : Int32)) + ((xiu ((a0 - ((xiu a0 (1 : Int32)) &&& (1431655765 : Int32)))) (2 : Int32)) &&& (858993459 : Int32))) + (xiu ((((a0 - ((xiu a0 (1 : Int32)) &&& (1431655765 : Int32))) &&& (858993459 : Int32)) + ((xiu ((a0 - ((xiu a0 (1 : Int32)) &&& (1431655765 : Int32)))) (2 : Int32)) &&& (858993459 : Int32)))) (4 : Int32))) &&& (252645135 : Int32))) (8 : Int32)))) (16 : Int32))) &&& (63 : Int32))
def p2 (k : Nat) : Int32 := (1 : Int32) <<< nI k
theorem p2_bt : ∀ k, k < 32 → ∀ i, i < 32 → bt (p2 k) i = decide (i = k) := by decide +kernel
theorem p2_cnt : ∀ k, k < 32 → bcn (p2 k - 1) = nI k := by decide +kernel
theorem low_min (x : Int32) : ∀ n, (∀ j, j < n → bt x j = false) ∨ ∃ k, k < n ∧ bt x k = true ∧ ∀ j, j < k → bt x j = false
  | 0 => Or.inl fun j hj => by omega
  | n + 1 => by
    rcases low_min x n with h | ⟨k, h1, h2, h3⟩
    · by_cases c : bt x n = true
      · exact Or.inr ⟨n, by omega, c, h⟩
      · refine Or.inl fun j hj => ?_
        by_cases hjn : j = n
        · subst hjn; simpa using c
        · exact h j (by omega)
    · exact Or.inr ⟨k, by omega, h2, h3⟩
theorem low_ex {x : Int32} (h : ¬ x = 0) : ∃ k, k < 32 ∧ bt x k = true ∧ ∀ j, j < k → bt x j = false := by
  rcases low_min x 32 with z | z
  · exact absurd (bt_ext fun k hk => by rw [z k hk, bt_0]) h
  · exact z
theorem low_p2 {x : Int32} {k : Nat} (hk : k < 32) (h1 : bt x k = true) (h2 : ∀ j, j < k → bt x j = false) : x &&& -x = p2 k := by
  refine bt_ext fun i hi => ?_
  rw [bt_and, p2_bt k hk i hi]
  have e : bt (-x) i = (bt x i ^^ decide (i < 32) && decide (∃ j, j < i ∧ bt x j = true)) := by
    unfold bt
    rw [Int32.toBitVec_neg, BitVec.getLsbD_neg]
  rw [e]
  rcases Nat.lt_trichotomy i k with c | c | c
  · rw [h2 i c]
    simp
    omega
  · subst c
    have n : ¬ ∃ j, j < i ∧ bt x j = true := by
      rintro ⟨j, a, b⟩
      rw [h2 j a] at b; cases b
    rw [h1, decide_eq_false n]
    simp
  · have y : ∃ j, j < i ∧ bt x j = true := ⟨k, c, h1⟩
    have : ¬ i = k := by omega
    rw [decide_eq_true y, decide_eq_true hi, decide_eq_false this]
    cases bt x i <;> rfl
def aV (S : aS) (X : Nat → Bool) (v : Nat) : Nat → Bool
  | 0 => true
  | n + 1 => aV S X v n && (!X n || evS S v (S.L 0 n).toNat)
def flt (S : aS) (X : Nat → Bool) (F : Nat) (v : Nat) : Bool := !evS S v F && aV S X v S.nl
def fv (P : Nat → Bool) : Nat → Nat → Int
  | 0, _ => -6
  | n + 1, i => if P i = true then (i : Int) else fv P n (i + 1)
theorem fv_skip (P : Nat → Bool) (n : Nat) : ∀ (m i : Nat), (∀ j, j < m → P (i + j) = false) → fv P (m + n) i = fv P n (i + m)
  | 0, i, _ => by rw [Nat.zero_add, Nat.add_zero]
  | m + 1, i, h => by
    have h0 := h 0 (by omega)
    rw [Nat.add_zero] at h0
    rw [show m + 1 + n = (m + n) + 1 by omega, fv, if_neg (by rw [h0]; simp), fv_skip P n m (i + 1) fun j hj => by
      rw [show i + 1 + j = i + (j + 1) by omega]
      exact h (j + 1) (by omega), show i + 1 + m = i + (m + 1) by omega]
theorem fv_hit (P : Nat → Bool) {n k i : Nat} (h : ∀ j, j < k → P (i + j) = false) (hk : P (i + k) = true) (hn : k < n) : fv P n i = ((i + k : Nat) : Int) := by
  rw [show n = k + ((n - k - 1) + 1) by omega, fv_skip P _ k i h, fv, if_pos hk]
theorem aV_cg {S : aS} {X Y : Nat → Bool} {v : Nat} : ∀ n, (∀ l, l < n → X l = Y l) → aV S X v n = aV S Y v n
  | 0, _ => rfl
  | n + 1, h => by
    rw [aV, aV, aV_cg n fun l hl => h l (by omega), h n (by omega)]
def opn (S : aS) : Nat → Nat → Bool
  | 0, _ => false
  | n + 1, i => opn S n i || (decide (S.B 1 n = -6) && decide ((i : Int) = S.B 0 n))
theorem opn_ach {S : aS} {dp : Nat → Nat} (h7 : ∀ b, b < S.nb → okB S dp b) (i : Nat) : ∀ n, n ≤ S.nb → opn S n i = ach S 5 (latO S n) i
  | 0, _ => by simp [opn, latO, ach]
  | n + 1, hn => by
    unfold opn latO
    by_cases h : S.B 1 n = -6
    · rw [if_pos h, opn_ach h7 i n (by omega)]
      obtain ⟨-, -, -, -, a5, -⟩ := h7 n (by omega)
      obtain ⟨b1, b2, b3, b4⟩ := dp_step h7 (x := (n : Int)) (by omega)
      rw [Int.toNat_natCast] at b3 b4
      conv => rhs; unfold ach
      rw [if_neg (by omega), Int.toNat_natCast, ach_up h7 4 5 _ i b4 (by omega) (by omega), a5 h]
      simp [h, Bool.or_comm]
    · rw [if_neg h, opn_ach h7 i n (by omega)]
      simp [h]
abbrev prm (S : aS) (l : Nat) : Bool := decide (S.L 1 l = 0)
section
variable {G : xG} {d : Nat} {μ : xM} {Q : xP} {S : aS} {H : List aS} {K : Option aS} {T : aT}
theorem low_ok {x : Int32} (hx : ¬ x = 0) (h : ∀ k, k < 32 → bt x k = true → (∀ j, j < k → bt x j = false) → Q (some (vI (nI k))) μ) : MW G (d + 2) mX8_lowestBit [vI x] μ Q := by
  obtain ⟨k, h1, h2, h3⟩ := low_ex hx
  refine wX8_lowestBit (wJ6_bitCount_0f7a4 ?_)
  show Q (some (vI (bcn ((x &&& -x) - 1)))) μ
  rw [low_p2 h1 h2 h3, p2_cnt k h1]
  exact h k h1 h2 h3
theorem allow_ok {bx : Int32} {B : Nat} (hr : repP μ 0 S) (hI : Inv S) (hb : okX S bx.toInt) (ht : ∀ f, f < S.nf → ∀ k, k < 32 → bt (μ (1, 0, 13) f) k = evS S (32 * B + k) f) (h : ∀ y : Int32, (∀ k, k < 32 → bt y k = aV S (fun l => prm S l || ach S 5 bx.toInt l) (32 * B + k) S.nl) → Q (some (vI y)) μ) : MW G (d + 3) mX4_allowedValuations [vR (3, 0, 0), vI bx, vR (0, 0, 13)] μ Q := by
  have h48 := hI.2.1
  have h60 := hI.1
  refine wX4_allowedValuations fun Z => from_ok hr hI hb fun as has => ?_
  refine up_loop (σ := Int32) (fun i x => WS G eX4_allowedValuations (d + 3) Z Q 12 [vR (3, 0, 0), vN, vR (0, 0, 13), vL as, vN, vI x, vI (nI i)] [] μ) (fun i x => ∀ k, k < 32 → bt x k = aV S (fun l => prm S l || ach S 5 bx.toInt l) (32 * B + k) i) S.nl ?_ ?_ 0 _ (by omega) (fun k hk => bt_m1 k hk)
  · intro i x hi hx ih
    have ei : (nI i).toInt = i := nI_t (by omega)
    obtain ⟨A, hA, hA2⟩ := hI.lf hi
    have tr : ∀ {w : Int32} {Q' : xP}, w.toInt = S.L 0 i → (∀ y : Int32, (∀ k, k < 32 → bt y k = evS S (32 * B + k) A) → Q' (some (vI y)) μ) → MW G (d + 2) mX5_get [vR (0, 0, 13), vI w] μ Q' := by
      intro w Q' hw hq
      exact get_in (hw.trans hA) (by simp [xlenc]; omega) (hq _ (ht A hA2))
    have key : (prm S i || ach S 5 bx.toInt i) = true → ∀ y : Int32, (∀ k, k < 32 → bt y k = evS S (32 * B + k) A) → WS G eX4_allowedValuations (d + 3) Z Q 12 [vR (3, 0, 0), vN, vR (0, 0, 13), vL as, vN, vI (x &&& y), vI (nI i + (1 : Int32))] [] μ := by
      intro hp y hy
      rw [nI_1]
      refine ih _ fun k hk => ?_
      rw [bt_and, hx k hk, hy k hk, aV, hp, hA]
      simp
    refine wX4_allowedValuations_12 (xif_f (by rw [ti_le, hr.1, ei]; omega) (c_ru hr h48 ei hi fun r hr' => xif_c (fun c => ?_) (fun c => ?_)))
    · rw [ti_eq, hr', ti_lit0] at c
      exact c_lf hr h48 ei hi fun w hw => tr hw fun y hy => key (by simp [c]) y hy
    · rw [ti_eq, hr', ti_lit0] at c
      refine contains_ok ei (by omega) (fun c2 => xif_f (by decide) (c_lf hr h48 ei hi fun w hw => tr hw fun y hy => key ?_ y hy)) (fun c2 => xif_t rfl ?_)
      · rw [has] at c2
        rw [c2]; simp
      · rw [nI_1]
        refine ih x fun k hk => ?_
        rw [has] at c2
        have : (prm S i || ach S 5 bx.toInt i) = false := by
          rw [Bool.not_eq_true] at c2
          simp [c, c2]
        rw [hx k hk, aV, this]
        simp
  · intro x hx
    have ei : (nI S.nl).toInt = S.nl := nI_t (by omega)
    exact wX4_allowedValuations_12 (xif_t (by rw [ti_le, hr.1, ei]; omega) (h x hx))
theorem lowest_ok {bx F : Int32} {f : Nat} (hr : repC μ 0 S) (hI : Inv S) (hb : okX S bx.toInt) (hF : F.toInt = f) (hf : f < S.nf) (h : ∀ (x : Int32) (μ' : xM), x.toInt = fv (flt S (fun l => prm S l || ach S 5 bx.toInt l) f) 256 0 → (∀ q, q ≠ (1, 0, 13) → μ' q = μ q) → Q (some (vI x)) μ') : MW G (d + 4) mX8_lowestFailure [vR (8, 0, 0), vI bx, vI F] μ Q := by
  have h60 := hI.1
  have e8 : (8 : Int32).toInt = 8 := rfl
  have e32 : (32 : Int32).toInt = (32 : Nat) := rfl
  generalize hX : (fun l => prm S l || ach S 5 bx.toInt l) = X at h
  refine wX8_lowestFailure fun Z => ?_
  refine up_loop (fun i μ1 => WS G eX8_lowestFailure (d + 4) Z Q 2 [vR (8, 0, 0), vI bx, vI F, vI (nI i), vN] [] μ1) (fun i μ1 => (∀ q, q ≠ (1, 0, 13) → μ1 q = μ q) ∧ fv (flt S X f) (256 - 32 * i) (32 * i) = fv (flt S X f) 256 0) 8 ?_ ?_ 0 μ (by omega) ⟨fun _ _ => rfl, rfl⟩
  · intro i μ1 hi ⟨i1, i2⟩ ih
    have ei : (nI i).toInt = i := nI_t (by omega)
    have ns : ∀ j, ¬ ownS j (1, 0, 13) := by
      intro j z
      rcases z with (z | z) | (z | z) <;> simp at z
    have hr1 : repC μ1 0 S := hr.keep fun q hq => i1 q (by
      rintro rfl
      exact ns _ hq)
    refine wX8_lowestFailure_2 (xif_f (by rw [ti_le, e8, ei]; omega) (eval_ok hr1.1 hI ei hi fun μ2 j1 j2 => ?_))
    have hr2 : repC μ2 0 S := hr1.keep fun q hq => j1 q (by
      rintro rfl
      exact ns _ hq)
    have k1 : ∀ q, q ≠ (1, 0, 13) → μ2 q = μ q := fun q hq => (j1 q hq).trans (i1 q hq)
    refine allow_ok hr2.2 hI hb j2 fun y hy => get_in hF (by simp [xlenc]; omega) ?_
    rw [hX] at hy
    have hbit : ∀ k, k < 32 → bt (y &&& (μ2 (1, 0, 13) f ^^^ (-1 : Int32))) k = flt S X f (32 * i + k) := by
      intro k hk
      rw [bt_and, bt_not _ hk, hy k hk, j2 f hf k hk, flt, Bool.and_comm]
    show xif ((y &&& (μ2 (1, 0, 13) f ^^^ (-1 : Int32))) = 0) _ _
    refine xif_c (fun c => ?_) (fun c => ?_)
    · rw [nI_1]
      refine ih μ2 ⟨k1, ?_⟩
      rw [← i2, show 256 - 32 * i = 32 + (256 - 32 * (i + 1)) by omega, fv_skip _ _ 32 (32 * i) fun j hj => by rw [← hbit j hj, c, bt_0], show 32 * i + 32 = 32 * (i + 1) by omega]
    · refine low_ok c fun k hk b1 b2 => h _ μ2 ?_ k1
      have em : (nI i * 32).toInt = (i * 32 : Nat) := by
        rw [ti_mul (by rw [ei, e32]; omega) (by rw [ei, e32]; omega), ei, e32]
        omega
      have ek : (nI k).toInt = k := nI_t (by omega)
      rw [ti_add (by rw [em, ek]; omega) (by rw [em, ek]; omega), em, ek, ← i2, fv_hit (k := k) _ (fun j hj => by rw [← hbit j (by omega)]; exact b2 j hj) (by rw [← hbit k hk]; exact b1) (by omega)]
      omega
  · intro μ1 ⟨i1, i2⟩
    refine wX8_lowestFailure_2 (xif_t (by rw [ti_le, e8, nI_t (by omega)]; omega) (h _ μ1 ?_ i1))
    rw [← i2]
    rfl
-- the model
theorem flt_cg {X Y : Nat → Bool} {f : Nat} (h : ∀ l, l < S.nl → X l = Y l) : flt S X f = flt S Y f := by
  funext v
  rw [flt, flt, aV_cg S.nl h]
end
