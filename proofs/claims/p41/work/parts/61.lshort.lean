/-! the law's shorten -/
def nv (p : aN) (l c : Nat) : Int := if c < tl p.1 l then fol p.1 48 (p.1.L (2 + c) l) else p.1.L (2 + c) l
theorem shK_2' (p : aN) (l c : Nat) : (shK p l c).2 = p.2 + (if nv p l c = p.1.L (2 + c) l then 0 else 1) := by
  unfold shK nv
  by_cases h : c < tl p.1 l
  · rw [if_pos h, if_pos h]
  · rw [if_neg h, if_neg h, if_pos rfl]; rfl
theorem shK_L (p : aN) (l c k x : Nat) : (shK p l c).1.L k x = if k = 2 + c ∧ x = l then nv p l c else p.1.L k x := by
  unfold shK nv
  by_cases h : c < tl p.1 l
  · rw [if_pos h, if_pos h]
    exact setR_L _ _ _ _ _ _
  · rw [if_neg h, if_neg h]
    by_cases q : k = 2 + c ∧ x = l
    · rw [if_pos q, q.1, q.2]
    · rw [if_neg q]
theorem shK_1 (p : aN) (l c : Nat) : (shK p l c).1.1 = p.1.1 ∧ (shK p l c).1.F = p.1.F ∧ (shK p l c).1.B = p.1.B := by
  unfold shK
  split <;> exact ⟨rfl, rfl, rfl⟩
section
variable {G : xG} {d : Nat} {μ : xM} {Q : xP} {S : aS}
theorem w_shorten (hw : repW μ S) (hI : Inv S) (h : ∀ (x : Int32) (μ' : xM), x.toInt = (shA (S, 0) S.nl).2 → frM μ μ' → repW μ' (shA (S, 0) S.nl).1 → Q (some (vI x)) μ') : MW G (d + 2) mL_shorten [vR (1, 0, 24), vR (1, 0, 25), vR (1, 0, 26), vR (1, 0, 32)] μ Q := by
  have h48 := hI.2.1
  have e7 : (7 : Int32).toInt = 7 := rfl
  have e8 : (8 : Int32).toInt = 8 := rfl
  have e10 : (10 : Int32).toInt = 10 := rfl
  refine wL_shorten fun Z => ?_
  refine up_loop (σ := Int32 × xM) (fun i s => WS G eL_shorten (d + 2) Z Q 6 [vR (1, 0, 24), vR (1, 0, 25), vR (1, 0, 26), vR (1, 0, 32), vI s.1, vI (nI i), vN, vN, vN] [] s.2) (fun i s => s.1.toInt = (shA (S, 0) i).2 ∧ frM μ s.2 ∧ repW s.2 (shA (S, 0) i).1) S.nl ?_ ?_ 0 (0, μ) (by omega) ⟨rfl, frM.rf, hw⟩
  · rintro k ⟨v, m⟩ hk ⟨hv, hfr, hm⟩ ih
    have okp := shA_ok hI k (by omega)
    have ih : ∀ (v' : Int32) (m' : xM), v'.toInt = (shK (shK (shA (S, 0) k) k 0) k 1).2 → frM μ m' → repW m' (shK (shK (shA (S, 0) k) k 0) k 1).1 → WS G eL_shorten (d + 2) Z Q 6 [vR (1, 0, 24), vR (1, 0, 25), vR (1, 0, 26), vR (1, 0, 32), vI v', vI (nI k + 1), vN, vN, vN] [] m' := fun v' m' h1 h2 h3 => by rw [nI_1]; exact ih (v', m') ⟨h1, h2, h3⟩
    show WS G eL_shorten (d + 2) Z Q 6 [vR (1, 0, 24), vR (1, 0, 25), vR (1, 0, 26), vR (1, 0, 32), vI v, vI (nI k), vN, vN, vN] [] m
    generalize shA (S, 0) k = p at hv hm okp ih
    obtain ⟨hI1, n1, n2, hp2⟩ := okp
    have hv : v.toInt = p.2 := hv
    have hm : repW m p.1 := hm
    have hkl : k < p.1.nl := by show k < p.1.1.2.1; rw [n1]; exact hk
    have ek : (nI k).toInt = k := nI_t (by omega)
    have vin : vp_in (nI k) 48 := ti_in ek (by omega)
    have t1 := rt1 hm
    have hnl : p.1.nl = S.nl := by show p.1.1.2.1 = _; rw [n1]
    have u := rL1 hm hI1 ek hkl
    have wa := ra hm ek hkl
    have wb := rb hm ek hkl
    have tlr := tl_r hI1 hkl
    have okr : ∀ c, c < 2 → c < tl p.1 k → okLR k (p.1.L (2 + c) k) := by
      intro c hc ht
      rcases refcase (hI1.ref hkl) (k := c) (by omega) with ⟨-, z, -⟩ | ⟨z, -⟩ | ⟨z, -⟩
      · exact z
      · exact absurd ht z
      · exact absurd ht z
    -- what the row holds behind it
    have la : ∀ k' x, k' ≠ 2 → (shK p k 0).1.L k' x = p.1.L k' x := fun k' x hk' => by rw [shK_L, if_neg (by omega)]
    have la2 : ∀ k' x, x < k → (shK p k 0).1.L k' x = p.1.L k' x := fun k' x hx => by rw [shK_L, if_neg (by omega)]
    have nb : nv (shK p k 0) k 1 = nv p k 1 := by
      unfold nv
      rw [tl_shK, la (2 + 1) k (by omega)]
      by_cases c : 1 < tl p.1 k
      · rw [if_pos c, if_pos c, fol_cg hI1 la2 (by omega) 48 _ (okr 1 (by omega) c)]
      · rw [if_neg c, if_neg c]
    -- the end of a round
    have fin : ∀ (x y d1 d2 : Int32), E x.toInt (nv p k 0) → E y.toInt (nv p k 1) → d1.toInt = (if nv p k 0 = p.1.L 2 k then 0 else 1 : Nat) → d2.toInt = (if nv p k 1 = p.1.L 3 k then 0 else 1 : Nat) → WS G eL_shorten (d + 2) Z Q 153 [vR (1, 0, 24), vR (1, 0, 25), vR (1, 0, 26), vR (1, 0, 32), vN, vI (nI k), vN, vI x, vI y] [vI d2, vI d1, vI v] m := by
      intro x y d1 d2 hx hy h1 h2
      have b1 : 0 ≤ d1.toInt ∧ d1.toInt ≤ 1 := by rw [h1]; split <;> decide
      have b2 : 0 ≤ d2.toInt ∧ d2.toInt ≤ 1 := by rw [h2]; split <;> decide
      have ek' : (nI k).toNatClampNeg = k := ti_cl' ek
      refine wL_shorten_153 ⟨vin, vin, ih _ _ ?_ ?_ ?_⟩
      · have e1 : (d1 + d2).toInt = d1.toInt + d2.toInt := ti_add (by omega) (by omega)
        have e2 : (v + (d1 + d2)).toInt = v.toInt + (d1 + d2).toInt := ti_add (by rw [e1]; omega) (by rw [e1]; omega)
        rw [e2, e1, hv, h1, h2, shK_2', shK_2', nb, la (2 + 1) k (by omega)]
        show _ = (((p.2 + (if nv p k 0 = p.1.L 2 k then 0 else 1)) + (if nv p k 1 = p.1.L 3 k then 0 else 1) : Nat) : Int)
        omega
      · exact hfr.tr ((frM_xst (by omega)).tr (frM_xst (by omega)))
      · rw [ek']
        obtain ⟨g1, g2, g3⟩ := shK_1 p k 0
        obtain ⟨g4, g5, g6⟩ := shK_1 (shK p k 0) k 1
        obtain ⟨⟨a1, a2, a3⟩, a4, a5, a6⟩ := hm
        have q1 : (shK (shK p k 0) k 1).1.1 = p.1.1 := g4.trans g1
        have q2 : (shK (shK p k 0) k 1).1.F = p.1.F := g5.trans g2
        have q3 : (shK (shK p k 0) k 1).1.B = p.1.B := g6.trans g3
        have m32 : ∀ i, xst (xst m (1, 0, 25) k x) (1, 0, 26) k y (1, 0, 32) i = m (1, 0, 32) i := fun i => by simp [xst_rd]
        refine ⟨⟨?_, ?_, ?_⟩, fun c hc f hf => ?_, fun c hc f hf => ?_, fun c hc f hf => ?_⟩
        · rw [m32]; show _ = ((shK (shK p k 0) k 1).1.1.1 : Int); rw [q1]; exact a1
        · rw [m32]; show _ = ((shK (shK p k 0) k 1).1.1.2.1 : Int); rw [q1]; exact a2
        · rw [m32]; show _ = ((shK (shK p k 0) k 1).1.1.2.2.1 : Int); rw [q1]; exact a3
        · have hf : f < (shK (shK p k 0) k 1).1.1.1 := hf
          rw [q1] at hf
          have c1 : ¬ 20 + c = 25 := by omega
          have c2 : ¬ 20 + c = 26 := by omega
          have : xst (xst m (1, 0, 25) k x) (1, 0, 26) k y (1, 0, 20 + c) f = m (1, 0, 20 + c) f := by simp [xst_rd, c1, c2]
          rw [this, q2]
          exact a4 c hc f hf
        · have hf : f < (shK (shK p k 0) k 1).1.1.2.1 := hf
          rw [q1] at hf
          rw [shK_L, nb, shK_L]
          by_cases h2 : c = 2 ∧ f = k
          · obtain ⟨rfl, rfl⟩ := h2
            rw [if_neg (by omega), if_pos ⟨rfl, rfl⟩]
            simp [xst_rd, hx]
          · by_cases h3 : c = 3 ∧ f = k
            · obtain ⟨rfl, rfl⟩ := h3
              rw [if_pos ⟨rfl, rfl⟩]
              simp [xst_rd, hy]
            · rw [if_neg (by omega), if_neg (by omega)]
              have : xst (xst m (1, 0, 25) k x) (1, 0, 26) k y (1, 0, 23 + c) f = m (1, 0, 23 + c) f := by
                rw [xst_rd, if_neg, xst_rd, if_neg]
                · rintro ⟨z1, z2⟩
                  have : 23 + c = 25 := by injection z1 with _ z1; injection z1
                  omega
                · rintro ⟨z1, z2⟩
                  have : 23 + c = 26 := by injection z1 with _ z1; injection z1
                  omega
              rw [this]
              exact a5 c hc f hf
        · have hf : f < (shK (shK p k 0) k 1).1.1.2.2.1 := hf
          rw [q1] at hf
          have c1 : ¬ 29 + c = 25 := by omega
          have c2 : ¬ 29 + c = 26 := by omega
          have : xst (xst m (1, 0, 25) k x) (1, 0, 26) k y (1, 0, 29 + c) f = m (1, 0, 29 + c) f := by simp [xst_rd, c1, c2]
          rw [this, q3]
          exact a6 c hc f hf
    have p139 : ∀ (x y d1 : Int32), E x.toInt (nv p k 0) → E y.toInt (nv p k 1) → d1.toInt = (if nv p k 0 = p.1.L 2 k then 0 else 1 : Nat) → WS G eL_shorten (d + 2) Z Q 139 [vR (1, 0, 24), vR (1, 0, 25), vR (1, 0, 26), vR (1, 0, 32), vN, vI (nI k), vN, vI x, vI y] [vI d1, vI v] m := by
      intro x y d1 hx hy h1
      refine wL_shorten_139 ⟨vin, xif_c (fun c => fin x y d1 0 hx hy h1 ?_) (fun c => fin x y d1 1 hx hy h1 ?_)⟩
      · rw [ti_eq, hy.inj wb] at c
        rw [if_pos c]; rfl
      · rw [ti_eq, hy.inj wb] at c
        rw [if_neg c]; rfl
    have p123 : ∀ (x y : Int32), E x.toInt (nv p k 0) → E y.toInt (nv p k 1) → WS G eL_shorten (d + 2) Z Q 123 [vR (1, 0, 24), vR (1, 0, 25), vR (1, 0, 26), vR (1, 0, 32), vI v, vI (nI k), vN, vI x, vI y] [] m := by
      intro x y hx hy
      refine wL_shorten_123 ⟨vin, xif_c (fun c => p139 x y 0 hx hy ?_) (fun c => p139 x y 1 hx hy ?_)⟩
      · rw [ti_eq, hx.inj wa] at c
        rw [if_pos c]; rfl
      · rw [ti_eq, hx.inj wa] at c
        rw [if_neg c]; rfl
    -- the second reference
    have p85 : ∀ (x : Int32), E x.toInt (nv p k 0) → ∀ (n : Nat) (y : Int32), 1 < tl p.1 k → (∃ z : Int, okLR k z ∧ y.toInt = z ∧ z < n ∧ fol p.1 n z = fol p.1 48 (p.1.L 3 k)) → WS G eL_shorten (d + 2) Z Q 85 [vR (1, 0, 24), vR (1, 0, 25), vR (1, 0, 26), vR (1, 0, 32), vI v, vI (nI k), vN, vI x, vI y] [] m := by
      intro x hx n
      induction n with
      | zero =>
        rintro y ht ⟨z, z1, z2, z3, z4⟩
        have := z1.1
        omega
      | succ n ihn =>
        rintro y ht ⟨z, z1, z2, z3, z4⟩
        have i1 := z1.1
        have i2 := z1.2
        have n7 := (tlr.2.mp ht).1
        have hyk : y.toInt = (z.toNat : Nat) := by omega
        refine wL_shorten_85 ⟨vin, xif_f (by rw [ti_eq, u, e7]; exact n7) (xif_f (by rw [ti_lt, ti_lit0]; omega) (w_bypass hm hI1 hyk (by omega) fun b hb => ?_))⟩
        show xif _ _ _
        rw [show fol p.1 (n + 1) z = if byp p.1 z.toNat = -6 then z else fol p.1 n (byp p.1 z.toNat) from rfl] at z4
        refine xif_c (fun c => p123 x y hx ?_) (fun c => w_bypass hm hI1 hyk (by omega) fun b' hb' => ?_)
        · rw [ti_lt, ti_lit0, hb] at c
          have hb6 : byp p.1 z.toNat = -6 := by
            rcases byp_ok (S := p.1) (l := z.toNat) (fun j hj => hI1.ref (by omega)) with q | q
            · exact q
            · have := q.1; omega
          rw [if_pos hb6] at z4
          unfold nv
          rw [if_pos ht]
          show E y.toInt (fol p.1 48 (p.1.L 3 k))
          rw [← z4, z2]
          exact E.of i1
        · rw [ti_lt, ti_lit0, hb] at c
          rw [if_neg (fun q => by omega)] at z4
          rcases byp_ok (S := p.1) (l := z.toNat) (fun j hj => hI1.ref (by omega)) with q | q
          · omega
          · have q1 := q.1
            have q2 := q.2
            exact ihn b' ht ⟨byp p.1 z.toNat, ⟨q1, by omega⟩, hb', by omega, z4⟩
    have p79 : ∀ (x : Int32), E x.toInt (nv p k 0) → WS G eL_shorten (d + 2) Z Q 79 [vR (1, 0, 24), vR (1, 0, 25), vR (1, 0, 26), vR (1, 0, 32), vI v, vI (nI k), vN, vI x, vN] [] m := by
      intro x hx
      refine wL_shorten_79 ⟨vin, ?_⟩
      by_cases ht : 1 < tl p.1 k
      · have ok1 := okr 1 (by omega) ht
        have i1 := ok1.1
        have i2 := ok1.2
        exact p85 x hx 48 _ ht ⟨p.1.L 3 k, ok1, wb.nn i1, by show p.1.L (2 + 1) k < _; omega, rfl⟩
      · refine wL_shorten_85 ⟨vin, xif_c (fun c => p123 x _ hx ?_) (fun c => xif_t ?_ (p123 x _ hx ?_))⟩
        · unfold nv
          rw [if_neg ht]; exact wb
        · rw [ti_eq, u, e7] at c
          rw [ti_lt, ti_lit0, wb.lt]
          exact Classical.not_not.mp fun q => ht (tlr.2.mpr ⟨c, q⟩)
        · unfold nv
          rw [if_neg ht]; exact wb
    have p45 : ∀ (n : Nat) (y : Int32), 0 < tl p.1 k → (∃ z : Int, okLR k z ∧ y.toInt = z ∧ z < n ∧ fol p.1 n z = fol p.1 48 (p.1.L 2 k)) → WS G eL_shorten (d + 2) Z Q 45 [vR (1, 0, 24), vR (1, 0, 25), vR (1, 0, 26), vR (1, 0, 32), vI v, vI (nI k), vI (1 : Int32), vI y, vN] [] m := by
      intro n
      induction n with
      | zero =>
        rintro y ht ⟨z, z1, z2, z3, z4⟩
        have := z1.1
        omega
      | succ n ihn =>
        rintro y ht ⟨z, z1, z2, z3, z4⟩
        have i1 := z1.1
        have i2 := z1.2
        have hyk : y.toInt = (z.toNat : Nat) := by omega
        refine wL_shorten_45 (xif_f (by decide) (xif_f (by rw [ti_lt, ti_lit0]; omega) (w_bypass hm hI1 hyk (by omega) fun b hb => ?_)))
        show xif _ _ _
        rw [show fol p.1 (n + 1) z = if byp p.1 z.toNat = -6 then z else fol p.1 n (byp p.1 z.toNat) from rfl] at z4
        refine xif_c (fun c => p79 y ?_) (fun c => w_bypass hm hI1 hyk (by omega) fun b' hb' => ?_)
        · rw [ti_lt, ti_lit0, hb] at c
          have hb6 : byp p.1 z.toNat = -6 := by
            rcases byp_ok (S := p.1) (l := z.toNat) (fun j hj => hI1.ref (by omega)) with q | q
            · exact q
            · have := q.1; omega
          rw [if_pos hb6] at z4
          unfold nv
          rw [if_pos ht]
          show E y.toInt (fol p.1 48 (p.1.L 2 k))
          rw [← z4, z2]
          exact E.of i1
        · rw [ti_lt, ti_lit0, hb] at c
          rw [if_neg (fun q => by omega)] at z4
          rcases byp_ok (S := p.1) (l := z.toNat) (fun j hj => hI1.ref (by omega)) with q | q
          · omega
          · have q1 := q.1
            have q2 := q.2
            exact ihn b' ht ⟨byp p.1 z.toNat, ⟨q1, by omega⟩, hb', by omega, z4⟩
    have p37 : ∀ s0 : Int32, (s0 = 0 ∧ (p.1.L 1 k = 8 ∨ p.1.L 1 k = 10)) ∨ (s0 = 1 ∧ ¬ (p.1.L 1 k = 8 ∨ p.1.L 1 k = 10)) → WS G eL_shorten (d + 2) Z Q 37 [vR (1, 0, 24), vR (1, 0, 25), vR (1, 0, 26), vR (1, 0, 32), vI v, vI (nI k), vN, vN, vN] [vI s0] m := by
      intro s0 hs
      refine wL_shorten_37 ⟨vin, ?_⟩
      rcases hs with ⟨rfl, q⟩ | ⟨rfl, q⟩
      · refine wL_shorten_45 (xif_t rfl (p79 _ ?_))
        unfold nv
        rw [if_neg (fun z => (tlr.1.mp z).1 q)]; exact wa
      · by_cases ht : 0 < tl p.1 k
        · have ok1 := okr 0 (by omega) ht
          have i1 := ok1.1
          have i2 := ok1.2
          exact p45 48 _ ht ⟨p.1.L 2 k, ok1, wa.nn i1, by show p.1.L (2 + 0) k < _; omega, rfl⟩
        · refine wL_shorten_45 (xif_f (by decide) (xif_t ?_ (p79 _ ?_)))
          · rw [ti_lt, ti_lit0, wa.lt]
            exact Classical.not_not.mp fun z => ht (tlr.1.mpr ⟨q, z⟩)
          · unfold nv
            rw [if_neg ht]; exact wa
    refine wL_shorten_6 ⟨ti_in l1 (by omega), xif_f (by rw [ti_le, t1, ek]; omega) ⟨vin, xif_c (fun c => wL_shorten_36 (p37 0 ?_)) (fun c => ⟨vin, xif_c (fun c' => wL_shorten_36 (p37 0 ?_)) (fun c' => p37 1 ?_)⟩)⟩⟩
    · rw [ti_eq, u, e8] at c; exact Or.inl ⟨rfl, Or.inl c⟩
    · rw [ti_eq, u, e10] at c'; exact Or.inl ⟨rfl, Or.inr c'⟩
    · rw [ti_eq, u, e8] at c
      rw [ti_eq, u, e10] at c'
      exact Or.inr ⟨rfl, fun z => z.elim c c'⟩
  · rintro ⟨v, m⟩ ⟨hv, hfr, hm⟩
    have okp := shA_ok hI S.nl (Nat.le_refl _)
    have en : (nI S.nl).toInt = S.nl := nI_t (by omega)
    have t1 := rt1 hm
    have hnl : (shA (S, 0) S.nl).1.nl = S.nl := by show (shA (S, 0) S.nl).1.1.2.1 = _; rw [okp.2.1]
    exact wL_shorten_6 ⟨ti_in l1 (by omega), xif_t (by rw [ti_le, t1, en, hnl]; omega) (h v m hv hfr hm)⟩
end
