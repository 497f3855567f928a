/-! the law's direct, needs -/
theorem hb_oneI {x : Int32} {k : Nat} (hx : x.toInt = k) (hk : k < 64) (i : Nat) : hasb (xls 1 x) i = decide ((i : Int) = (k : Int)) := by
  rw [hb_one hx hk]
  exact decide_eq_decide.mpr (by omega)
theorem rbit_n {S : aS} {l k i : Nat} (h : S.L (2 + k) l = -6) : rbit S l k i = false := by simp [rbit, h]
theorem rbit_l {S : aS} {l k i : Nat} {r : Nat} (h : S.L (2 + k) l = r) (hb : isBx S l k = false) : rbit S l k i = decide ((i : Int) = (r : Int)) := by
  have : ¬ ((r : Int) = -6) := by omega
  simp [rbit, h, hb, this]
theorem rbit_b {S : aS} {l k i : Nat} {r s e : Nat} (h : S.L (2 + k) l = r) (hb : isBx S l k = true) (hs : S.B 0 r = s) (he : S.B 1 r = e) : rbit S l k i = (decide ((i : Int) = (s : Int)) || decide ((i : Int) = (e : Int))) := by
  have : ¬ ((r : Int) = -6) := by omega
  simp [rbit, h, hb, this, hs, he]
section
variable {G : xG} {d : Nat} {μ : xM} {Q : xP} {S : aS}
theorem w_direct {a : Int32} {l : Nat} (hw : repW μ S) (hI : Inv S) (ha : a.toInt = l) (hl : l < S.nl) (h : ∀ y : Int64, (∀ i, hasb y i = drt S l i) → Q (some (vL y)) μ) : MW G (d + 1) mL_direct [vR (1, 0, 24), vR (1, 0, 25), vR (1, 0, 26), vR (1, 0, 27), vR (1, 0, 29), vR (1, 0, 30), vI a] μ Q := by
  have h48 := hI.2.1
  have hb48 := hI.bd.2.2
  have e7 : (7 : Int32).toInt = 7 := rfl
  have e8 : (8 : Int32).toInt = 8 := rfl
  have e10 : (10 : Int32).toInt = 10 := rfl
  have vin : vp_in a 48 := ti_in ha (by omega)
  have u := rL1 hw hI ha hl
  have wa := ra hw ha hl
  have wb := rb hw ha hl
  have wc := rc hw ha hl
  have hok := hI.ref hl
  have c0 := refcase hok (k := 0) (by omega)
  have c1 := refcase hok (k := 1) (by omega)
  have c2 := refcase hok (k := 2) (by omega)
  -- a box's words
  have bx : ∀ {x : Int}, okBR S l x → ∃ r s e : Nat, x = r ∧ r < S.nb ∧ S.B 0 r = s ∧ S.B 1 r = e ∧ s < S.nl ∧ e < l := by
    intro x hx
    obtain ⟨x1, x2, x3, x4⟩ := hx
    have hr : x.toNat < S.nb := by omega
    obtain ⟨s, hs, hs2⟩ := hI.bs hr
    exact ⟨x.toNat, s, (S.B 1 x.toNat).toNat, by omega, hr, hs, by omega, hs2, by omega⟩
  have key : ∀ {r : Int32} {k n : Nat}, r.toInt = (k : Int) → k < S.nb → (∃ e : Nat, S.B 1 k = e ∧ e < l) → ∀ i, (hasb (xls 1 (μ (1, 0, 29) r.toNatClampNeg)) i = decide ((i : Int) = S.B 0 k)) ∧ hasb (xls 1 (μ (1, 0, 30) r.toNatClampNeg)) i = decide ((i : Int) = S.B 1 k) := by
    intro r k n hr hk ⟨e, he, he2⟩ i
    obtain ⟨s, hs, hs2⟩ := hI.bs hk
    have w0 := rB0 hw hI hr hk
    have w1 := (rq hw hr hk).nn (by omega)
    rw [hs] at w0 ⊢
    rw [he] at w1 ⊢
    exact ⟨hb_oneI w0 (by omega) i, hb_oneI w1 (by omega) i⟩
  refine wL_direct ⟨vin, xif_c (fun q7 => ?_) (fun q7 => ⟨vin, xif_c (fun q8 => ?_) (fun q8 => ⟨vin, xif_c (fun q10 => ?_) (fun q10 => ?_)⟩)⟩)⟩
  · rw [ti_eq, u, e7] at q7
    have b1 : isBx S l 1 = true := by unfold isBx; simp [q7]
    have b2 : isBx S l 2 = true := by unfold isBx; simp [q7]
    have b0 : isBx S l 0 = false := by unfold isBx; simp [q7]
    rcases hok with ⟨h1, h2, h3, h4⟩ | ⟨h1, h2, h3, h4⟩ | ⟨h1, h2, h3, h4⟩ | ⟨h1, h2, h3, h4⟩ | ⟨h1, h2, h3, h4⟩
    · omega
    · omega
    · omega
    · obtain ⟨r1, s1, f1, x1, x2, x3, x4, x5, x6⟩ := bx h3
      obtain ⟨r2, s2, f2, y1, y2, y3, y4, y5, y6⟩ := bx h4
      obtain ⟨m, m1, m2⟩ : ∃ m : Nat, S.L 2 l = m ∧ m < l := ⟨(S.L 2 l).toNat, by have := h2.1; omega, by have := h2.1; have := h2.2; omega⟩
      have va : (μ (1, 0, 25) a.toNatClampNeg).toInt = m := by rw [wa.nn (by omega)]; exact m1
      have vb : (μ (1, 0, 26) a.toNatClampNeg).toInt = r1 := by rw [wb.nn (by omega)]; exact x1
      have vc : (μ (1, 0, 27) a.toNatClampNeg).toInt = r2 := by rw [wc.nn (by omega)]; exact y1
      have ib : vp_in (μ (1, 0, 26) a.toNatClampNeg) 48 := ti_in vb (by omega)
      have ic : vp_in (μ (1, 0, 27) a.toNatClampNeg) 48 := ti_in vc (by omega)
      refine ⟨vin, vin, ib, vin, ib, vin, ic, vin, ic, h _ fun i => ?_⟩
      have k1 := key (n := 0) vb x2 ⟨f1, x4, x6⟩ i
      have k2 := key (n := 0) vc y2 ⟨f2, y4, y6⟩ i
      rw [hb_or, hb_or, hb_or, hb_or, hb_oneI va (by omega), k1.1, k1.2, k2.1, k2.2, drt, rbit_l (k := 0) m1 b0, rbit_b (k := 1) x1 b1 x3 x4, rbit_b (k := 2) y1 b2 y3 y4, x3, x4, y3, y4]
      simp [Bool.or_assoc]
    · omega
  · rw [ti_eq, u, e8] at q8
    rcases hok with ⟨h1, h2, h3, h4⟩ | ⟨h1, h2, h3, h4⟩ | ⟨h1, h2, h3, h4⟩ | ⟨h1, h2, h3, h4⟩ | ⟨h1, h2, h3, h4⟩
    · omega
    · omega
    · omega
    · omega
    · obtain ⟨r1, s1, f1, x1, x2, x3, x4, x5, x6⟩ := bx h2
      have va : (μ (1, 0, 25) a.toNatClampNeg).toInt = r1 := by rw [wa.nn (by omega)]; exact x1
      have ib : vp_in (μ (1, 0, 25) a.toNatClampNeg) 48 := ti_in va (by omega)
      refine ⟨vin, ib, vin, ib, h _ fun i => ?_⟩
      have k1 := key (n := 0) va x2 ⟨f1, x4, x6⟩ i
      rw [hb_or, k1.1, k1.2, drt, rbit_b (k := 0) x1 (by unfold isBx; simp [q8]) x3 x4, rbit_n (k := 1) h3, rbit_n (k := 2) h4, x3, x4]
      simp
  · rw [ti_eq, u, e10] at q10
    rcases hok with ⟨h1, h2, h3, h4⟩ | ⟨h1, h2, h3, h4⟩ | ⟨h1, h2, h3, h4⟩ | ⟨h1, h2, h3, h4⟩ | ⟨h1, h2, h3, h4⟩
    · omega
    · omega
    · omega
    · omega
    · obtain ⟨r1, s1, f1, x1, x2, x3, x4, x5, x6⟩ := bx h2
      have va : (μ (1, 0, 25) a.toNatClampNeg).toInt = r1 := by rw [wa.nn (by omega)]; exact x1
      have ib : vp_in (μ (1, 0, 25) a.toNatClampNeg) 48 := ti_in va (by omega)
      refine ⟨vin, ib, vin, ib, h _ fun i => ?_⟩
      have k1 := key (n := 0) va x2 ⟨f1, x4, x6⟩ i
      rw [hb_or, k1.1, k1.2, drt, rbit_b (k := 0) x1 (by unfold isBx; simp [q10]) x3 x4, rbit_n (k := 1) h3, rbit_n (k := 2) h4, x3, x4]
      simp
  · rw [ti_eq, u, e7] at q7
    rw [ti_eq, u, e8] at q8
    rw [ti_eq, u, e10] at q10
    have nb : ∀ k, isBx S l k = false := fun k => by unfold isBx; simp [q7, q8, q10]
    rcases hok with ⟨h1, h2, h3, h4⟩ | ⟨h1, h2, h3, h4⟩ | ⟨h1, h2, h3, h4⟩ | ⟨h1, h2, h3, h4⟩ | ⟨h1, h2, h3, h4⟩
    · refine ⟨vin, xif_f (by rw [ti_le, ti_lit0]; have := wa.lt.mpr h2; omega) ⟨vin, xif_f (by rw [ti_le, ti_lit0]; have := wb.lt.mpr h3; omega) (h _ fun i => ?_)⟩⟩
      rw [hb_or, hb_0, drt, rbit_n (k := 0) h2, rbit_n (k := 1) h3, rbit_n (k := 2) h4]; rfl
    · obtain ⟨m, m1, m2⟩ : ∃ m : Nat, S.L 2 l = m ∧ m < l := ⟨(S.L 2 l).toNat, by have := h2.1; omega, by have := h2.1; have := h2.2; omega⟩
      obtain ⟨m', m1', m2'⟩ : ∃ m : Nat, S.L 3 l = m ∧ m < l := ⟨(S.L 3 l).toNat, by have := h3.1; omega, by have := h3.1; have := h3.2; omega⟩
      have va : (μ (1, 0, 25) a.toNatClampNeg).toInt = m := by rw [wa.nn (by omega)]; exact m1
      have vb : (μ (1, 0, 26) a.toNatClampNeg).toInt = m' := by rw [wb.nn (by omega)]; exact m1'
      refine ⟨vin, xif_t (by rw [ti_le, ti_lit0]; omega) ⟨vin, vin, xif_t (by rw [ti_le, ti_lit0]; omega) ⟨vin, h _ fun i => ?_⟩⟩⟩
      rw [hb_or, hb_oneI va (by omega), hb_oneI vb (by omega), drt, rbit_l (k := 0) m1 (nb 0), rbit_l (k := 1) m1' (nb 1), rbit_n (k := 2) h4]
      simp
    · obtain ⟨m, m1, m2⟩ : ∃ m : Nat, S.L 2 l = m ∧ m < l := ⟨(S.L 2 l).toNat, by have := h2.1; omega, by have := h2.1; have := h2.2; omega⟩
      have va : (μ (1, 0, 25) a.toNatClampNeg).toInt = m := by rw [wa.nn (by omega)]; exact m1
      refine ⟨vin, xif_t (by rw [ti_le, ti_lit0]; omega) ⟨vin, vin, xif_f (by rw [ti_le, ti_lit0]; have := wb.lt.mpr h3; omega) (h _ fun i => ?_)⟩⟩
      rw [hb_or, hb_0, hb_oneI va (by omega), drt, rbit_l (k := 0) m1 (nb 0), rbit_n (k := 1) h3, rbit_n (k := 2) h4]
      simp
    · omega
    · omega
end
-- what a line needs, from below
theorem ndl_min {S : aS} {Y : Nat → Bool} (h1 : ∀ l, Y l = true → ∀ i, drt S l i = true → Y i = true) (h2 : ∀ l, Y l = true → ∀ i, ach S 5 (S.L 5 l) i = true → Y i = true) : ∀ (n : Nat) (X : Nat → Bool), (∀ i, X i = true → Y i = true) → ∀ i, ndl S n X i = true → Y i = true
  | 0, X, h, i, hi => h i hi
  | n + 1, X, h, i, hi => by
    unfold ndl at hi
    refine ndl_min h1 h2 n _ (fun j hj => ?_) i hi
    by_cases c : X n = true
    · rw [if_pos c] at hj
      have hj : (X j || (drt S n j || ach S 5 (S.L 5 n) j)) = true := hj
      rw [Bool.or_eq_true, Bool.or_eq_true] at hj
      rcases hj with z | z | z
      · exact h j z
      · exact h1 n (h n c) j z
      · exact h2 n (h n c) j z
    · rw [if_neg c] at hj
      exact h j hj
theorem need_self (S : aS) (k : Nat) : needS S k k = true := ndl_sub (k + 1) _ k (by simp)
theorem need_le {S : aS} (hI : Inv S) {k l : Nat} (hk : k < S.nl) (h : needS S k l = true) : l ≤ k := by
  rcases Nat.lt_or_ge k l with z | z
  · have := ndl_hi hI (k + 1) (fun i => decide (i = k)) l (by omega) (by omega)
    rw [show needS S k l = ndl S (k + 1) (fun i => decide (i = k)) l from rfl, this] at h
    simp at h
    omega
  · exact z
theorem need_clo {S : aS} (hI : Inv S) {k l : Nat} (hk : k < S.nl) (h : needS S k l = true) : (∀ i, drt S l i = true → needS S k i = true) ∧ ∀ i, ach S 5 (S.L 5 l) i = true → needS S k i = true := by
  have hl := need_le hI hk h
  exact ndl_clo hI (k + 1) _ l (by omega) (by omega) h
/-- one round of the law's search -/
def acc (S : aS) (X : Nat → Bool) : Nat → Nat → Bool
  | 0, i => X i
  | n + 1, i => acc S X n i || (X n && (drt S n i || ach S 5 (S.L 5 n) i))
theorem acc_sub {S : aS} {X : Nat → Bool} {i : Nat} (h : X i = true) : ∀ n, acc S X n i = true
  | 0 => h
  | n + 1 => by unfold acc; rw [acc_sub h n]; rfl
theorem acc_in {S : aS} (hI : Inv S) {X : Nat → Bool} {k : Nat} (hk : k < S.nl) (h : ∀ i, X i = true → needS S k i = true) : ∀ (n i : Nat), acc S X n i = true → needS S k i = true
  | 0, i, hi => h i hi
  | n + 1, i, hi => by
    unfold acc at hi
    rw [Bool.or_eq_true, Bool.and_eq_true, Bool.or_eq_true] at hi
    rcases hi with z | ⟨z1, z | z⟩
    · exact acc_in hI hk h n i z
    · exact (need_clo hI hk (h n z1)).1 i z
    · exact (need_clo hI hk (h n z1)).2 i z
theorem acc_step {S : aS} {X : Nat → Bool} {l i : Nat} (hl : X l = true) (hi : drt S l i = true ∨ ach S 5 (S.L 5 l) i = true) : ∀ n, l < n → acc S X n i = true
  | 0, h => by omega
  | n + 1, h => by
    unfold acc
    by_cases c : l = n
    · subst c
      rw [hl]
      rcases hi with z | z <;> simp [z]
    · rw [acc_step hl hi n (by omega)]; rfl
theorem rk_sub {X Y : Nat → Bool} (h : ∀ i, X i = true → Y i = true) : ∀ n, rk X n ≤ rk Y n
  | 0 => Nat.le_refl _
  | n + 1 => by
    have := rk_sub h n
    unfold rk
    by_cases c : X n = true
    · rw [if_pos c, if_pos (h n c)]; omega
    · rw [if_neg c]; split <;> omega
theorem rk_more {X Y : Nat → Bool} (h : ∀ i, X i = true → Y i = true) {j : Nat} (hx : X j = false) (hy : Y j = true) : ∀ n, j < n → rk X n < rk Y n
  | 0, hj => by omega
  | n + 1, hj => by
    by_cases c : j = n
    · subst c
      have := rk_sub h j
      rw [rk_s hy, rk_n (by rw [hx]; decide)]
      omega
    · have := rk_more h hx hy n (by omega)
      unfold rk
      by_cases c : X n = true
      · rw [if_pos c, if_pos (h n c)]; omega
      · rw [if_neg c]; split <;> omega
section
variable {G : xG} {d : Nat} {μ : xM} {Q : xP} {S : aS}
theorem w_needs {a : Int32} {k : Nat} (hw : repW μ S) (hI : Inv S) (ha : a.toInt = k) (hk : k < S.nl) (h : ∀ y : Int64, (∀ i, hasb y i = needS S k i) → Q (some (vL y)) μ) : MW G (d + 2) mL_needs [vR (1, 0, 24), vR (1, 0, 25), vR (1, 0, 26), vR (1, 0, 27), vR (1, 0, 28), vR (1, 0, 29), vR (1, 0, 30), vR (1, 0, 31), vR (1, 0, 32), vI a] μ Q := by
  have h48 := hI.2.1
  have t1 := rt1 hw
  refine wL_needs fun Z => ?_
  have rnd : ∀ (m : Nat) (y : Int64), 64 - rk (hasb y) 64 < m → (∀ i, hasb y i = true → needS S k i = true) → hasb y k = true → WS G eL_needs (d + 2) Z Q 9 [vR (1, 0, 24), vR (1, 0, 25), vR (1, 0, 26), vR (1, 0, 27), vR (1, 0, 28), vR (1, 0, 29), vR (1, 0, 30), vR (1, 0, 31), vR (1, 0, 32), vN, vL y, vN, vI (1 : Int32), vN, vN, vN] [] μ := by
    intro m
    induction m with
    | zero => intro y hm; omega
    | succ m ih =>
      intro y hm hy hyk
      refine wL_needs_9 (xif_f (by decide) ?_)
      refine up_loop (σ := Int64) (fun i z => WS G eL_needs (d + 2) Z Q 21 [vR (1, 0, 24), vR (1, 0, 25), vR (1, 0, 26), vR (1, 0, 27), vR (1, 0, 28), vR (1, 0, 29), vR (1, 0, 30), vR (1, 0, 31), vR (1, 0, 32), vN, vL z, vN, vN, vL y, vN, vI (nI i)] [] μ) (fun i z => ∀ j, hasb z j = acc S (hasb y) i j) S.nl ?_ ?_ 0 _ (by omega) (fun j => rfl)
      · intro n z hn hz ihn
        have en : (nI n).toInt = n := nI_t (by omega)
        refine wL_needs_21 ⟨ti_in l1 (by omega), xif_f (by rw [ti_le, t1, en]; omega) (xif_c (fun c => ?_) (fun c => ?_))⟩
        · rw [xlr_b en (by omega), bL_1] at c
          refine w_direct hw hI en hn fun u hu => ?_
          refine w_assumed hw hI en hn fun v hv => ?_
          show WS _ _ _ _ _ _ _ _ _
          rw [nI_1]
          refine ihn _ fun j => ?_
          rw [hb_or, hb_or, hz, hu, hv, acc, c, Bool.true_and]
        · rw [xlr_b en (by omega), bL_1] at c
          rw [nI_1]
          refine ihn _ fun j => ?_
          rw [hb_or, hb_0, hz, acc, Bool.or_false]
          simp [c]
      · intro z hz
        have en : (nI S.nl).toInt = S.nl := nI_t (by omega)
        refine wL_needs_21 ⟨ti_in l1 (by omega), xif_t (by rw [ti_le, t1, en]; omega) (xif_c (fun c => ?_) (fun c => ?_))⟩
        · rw [cmp0] at c
          subst c
          refine wL_needs_9 (xif_t rfl (h z fun i => ?_))
          have cl : ∀ l, hasb z l = true → ∀ i, (drt S l i = true ∨ ach S 5 (S.L 5 l) i = true) → hasb z i = true := by
            intro l hl i hi
            rw [hz]
            exact acc_step hl hi S.nl (by have := need_le hI hk (hy l hl); omega)
          have mn := ndl_min (fun l hl i hi => cl l hl i (Or.inl hi)) (fun l hl i hi => cl l hl i (Or.inr hi)) (k + 1) (fun i => decide (i = k)) (fun i hi => by
            have : i = k := by simpa using hi
            rw [this]; exact hyk) i
          cases e : needS S k i with
          | true => exact mn e
          | false =>
            cases e2 : hasb z i with
            | false => rfl
            | true => rw [hy i e2] at e; cases e
        · rw [cmp0] at c
          have sub : ∀ i, hasb y i = true → hasb z i = true := fun i hi => by rw [hz]; exact acc_sub hi _
          obtain ⟨j, hj, j1, j2⟩ : ∃ j, j < 64 ∧ hasb y j = false ∧ hasb z j = true := by
            by_cases q : ∃ j, j < 64 ∧ hasb y j = false ∧ hasb z j = true
            · exact q
            · exfalso
              refine c (hb_ext fun i hi => ?_)
              cases e : hasb y i with
              | true => exact sub i e
              | false =>
                cases e2 : hasb z i with
                | false => rfl
                | true => exact absurd ⟨i, hi, e, e2⟩ q
          have := rk_more sub j1 j2 64 hj
          have := rk_le (hasb z) 64
          exact ih z (by omega) (fun i hi => acc_in hI hk hy S.nl i (by rw [← hz]; exact hi)) (sub k hyk)
  refine rnd 65 _ (by omega) (fun i hi => ?_) ?_
  · rw [hb_one ha (by omega)] at hi
    have : i = k := by simpa using hi
    rw [this]; exact need_self S k
  · rw [hb_one ha (by omega)]; simp
end
