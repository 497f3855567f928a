/-! the law's trim, walked -/
section
variable {G : xG} {d : Nat} {μ : xM} {Q : xP} {S : aS}
theorem b_trim {Z : xZ} {y : Int64} {X : Nat → Bool} (hw : repW μ S) (hI : Inv S) (hc : clo S X) (hlk : ∀ b, b < S.nb → yB S X b = true → lastI (S.L 5) (S.B 2) X b S.nl = S.B 1 b) (hy : ∀ i, i < S.nl → hasb y i = X i) (h : ∀ μ' : xM, frM μ μ' → repW μ' (trimS S X) → WS G eL_trim (d + 1) Z Q 396 lvN [] μ') : WS G eL_trim (d + 1) Z Q 12 (lvT (vL y) vN vN vN) [] μ := by
  have h48 := hI.2.1
  have hb48 := hI.bd.2.2
  have hT := TI.start (X := X) hw
  have e7 : (7 : Int32).toInt = 7 := rfl
  have e8 : (8 : Int32).toInt = 8 := rfl
  have e10 : (10 : Int32).toInt = 10 := rfl
  have T1 : ∀ {m : xM} {i1 i2 : Nat} {g : Nat → Nat}, TI μ S X i1 i2 g m → (m (1, 0, 32) (1 : Int32).toNatClampNeg).toInt = S.nl := fun {m i1 i2 g} h => by rw [h.1]; exact rt1 hw
  have T2 : ∀ {m : xM} {i1 i2 : Nat} {g : Nat → Nat}, TI μ S X i1 i2 g m → (m (1, 0, 32) (2 : Int32).toNatClampNeg).toInt = S.nb := fun {m i1 i2 g} h => by rw [h.1]; exact rt2 hw
  have bump : ∀ {Z : Nat → Bool} {v : Int32} {n : Nat}, n < 1000 → v.toInt = rk Z n → (v + (if Z n = true then 1 else 0)).toInt = rk Z (n + 1) := by
    intro Z v n hn hv
    have := rk_le Z n
    by_cases c : Z n = true
    · rw [rk_s c, if_pos c, ti_add (by rw [hv, ti_lit1]; omega) (by rw [hv, ti_lit1]; omega), hv, ti_lit1]; omega
    · rw [rk_n c, if_neg c, ti_add (by rw [hv, ti_lit0]; omega) (by rw [hv, ti_lit0]; omega), hv, ti_lit0]; omega
  -- the lines
  have lines : ∀ (lv bv : Int32) (m : xM), lv.toInt = rk X S.nl → bv.toInt = rk (yB S X) S.nb → TI μ S X S.nl S.nb (fun _ => 0) m → WS G eL_trim (d + 1) Z Q 170 (lvU (vL y) (vI lv) (vI bv) (vI (0 : Int32))) [] m := by
    intro lv bv m hlv hbv hm
    refine up_loop (σ := xM) (fun i m => WS G eL_trim (d + 1) Z Q 170 (lvU (vL y) (vI lv) (vI bv) (vI (nI i))) [] m) (fun i m => TI μ S X S.nl S.nb (fun _ => i) m) S.nl ?_ ?_ 0 m (by omega) hm
    · intro n m hn hm ih
      have en : (nI n).toInt = n := nI_t (by omega)
      have vin : vp_in (nI n) 48 := ti_in en (by omega)
      have t1 := T1 hm
      have ih : ∀ m', TI μ S X S.nl S.nb (fun _ => n + 1) m' → WS G eL_trim (d + 1) Z Q 170 (lvU (vL y) (vI lv) (vI bv) (vI (nI n + 1))) [] m' := fun m' h => by rw [nI_1]; exact ih m' h
      refine wL_trim_170 ⟨ti_in l1 (by omega), xif_f (by rw [ti_le, t1, en]; omega) (xif_c (fun c => ?_) (fun c => ?_))⟩
      · rw [xlr_b en (by omega), bL_1, hy n hn] at c
        have hok := hI.ref hn
        have hrk : rk X n ≤ n := rk_le X n
        -- where it goes
        have to : ∀ {m : xM} {g : Nat → Nat}, TI μ S X S.nl S.nb g m → (m (1, 0, 33) (nI n).toNatClampNeg).toInt = rk X n := fun {m g} h => h.rdT en hn
        have toN : ∀ {w : Int32}, w.toInt = rk X n → w.toNatClampNeg = rk X n := fun {w} h => ti_cl' h
        have bx7 : ∀ j, isBx S n j = decide (S.L 1 n = 8 ∨ S.L 1 n = 10 ∨ (S.L 1 n = 7 ∧ 0 < j)) := by
          intro j
          unfold isBx
          by_cases q8 : S.L 1 n = 8 <;> by_cases q10 : S.L 1 n = 10 <;> by_cases q7 : S.L 1 n = 7 <;> simp [q8, q10, q7]
        -- home, then the rule
        have p366 : ∀ (m : xM) (s1 s2 : Int32), TI μ S X S.nl S.nb (fun k => if k = 0 ∨ k = 2 ∨ k = 3 ∨ k = 4 then n + 1 else n) m → s1.toInt = rk X n → E s2.toInt (newL S X 5 n) → WS G eL_trim (d + 1) Z Q 366 (lvU (vL y) (vI lv) (vI bv) (vI (nI n))) [vI s2, vI s1, vR (1, 0, 28)] m := by
          intro m s1 s2 hm h1 h2
          have i1 : vp_in s1 48 := ti_in h1 (by omega)
          have hm2 := hm.setL (c := 5) (by omega) (by simp) c h2
          have hu := hm2.rdL (c := 1) en hn (by omega) (by simp)
          have hm3 := hm2.setL (c := 1) (by omega) (by simp) c (v := xst m (1, 0, 28) (rk X n) s2 (1, 0, 24) (nI n).toNatClampNeg) (by
            have : newL S X 1 n = S.L 1 n := rfl
            rw [this]; exact hu)
          have hto := to hm2
          refine wL_trim_366 ⟨i1, vin, vin, ?_, wL_trim_378 (ih _ ?_)⟩
          · rw [toN h1]; exact ti_in hto (by omega)
          · rw [toN h1, toN (show (xst m (1, 0, 28) (rk X n) s2 (1, 0, 33) (nI n).toNatClampNeg).toInt = rk X n from hto)]
            refine TI.cg hm3 fun k hk => ?_
            rcases (show k = 0 ∨ k = 1 ∨ k = 2 ∨ k = 3 ∨ k = 4 ∨ k = 5 by omega) with rfl | rfl | rfl | rfl | rfl | rfl <;> rfl
        have p338 : ∀ (m : xM) (s1 s2 : Int32), TI μ S X S.nl S.nb (fun k => if k = 0 ∨ k = 2 ∨ k = 3 then n + 1 else n) m → s1.toInt = rk X n → E s2.toInt (newL S X 4 n) → WS G eL_trim (d + 1) Z Q 338 (lvU (vL y) (vI lv) (vI bv) (vI (nI n))) [vI s2, vI s1, vR (1, 0, 27)] m := by
          intro m s1 s2 hm h1 h2
          have i1 : vp_in s1 48 := ti_in h1 (by omega)
          have hm2 := hm.setL (c := 4) (by omega) (by simp) c h2
          have hx := hm2.rdL (c := 5) en hn (by omega) (by simp)
          have hto := to hm2
          have hm2' : TI μ S X S.nl S.nb (fun k => if k = 0 ∨ k = 2 ∨ k = 3 ∨ k = 4 then n + 1 else n) (xst m (1, 0, 27) (rk X n) s2) := TI.cg hm2 fun k hk => by
            rcases (show k = 0 ∨ k = 1 ∨ k = 2 ∨ k = 3 ∨ k = 4 ∨ k = 5 by omega) with rfl | rfl | rfl | rfl | rfl | rfl <;> rfl
          refine wL_trim_338 ⟨i1, vin, vin, ?_⟩
          rw [toN h1]
          refine xif_c (fun q => ?_) (fun q => p366 _ _ _ hm2' hto ?_)
          · rw [ti_le, ti_lit0] at q
            have h5 : 0 ≤ S.L 5 n := by
              rcases hI.home hn with z | z
              · exact absurd q (Int.not_le.mpr (hx.lt.mpr z))
              · exact z.1
            have hb : (S.L 5 n).toNat < S.nb := by rcases hI.home hn with z | z <;> omega
            have ex : (xst m (1, 0, 27) (rk X n) s2 (1, 0, 28) (nI n).toNatClampNeg).toInt = ((S.L 5 n).toNat : Nat) := by rw [show (xst m (1, 0, 27) (rk X n) s2 (1, 0, 28) (nI n).toNatClampNeg).toInt = S.L 5 n from hx.nn h5]; omega
            exact ⟨vin, ti_in ex (by omega), p366 _ _ _ hm2' hto (renE h5 (hm2.rdX ex hb))⟩
          · rw [ti_le, ti_lit0] at q
            have : S.L 5 n = -6 := hx.lt.mp (Int.lt_of_not_ge q)
            show E _ (ren (yB S X) (S.L 5 n))
            rw [this]; exact E.none
        -- a reference: to a box, to a line, none
        have rB : ∀ {m : xM} {g : Nat → Nat} {j : Nat} {w : Int32}, TI μ S X S.nl S.nb g m → j < 3 → isBx S n j = true → E w.toInt (S.L (2 + j) n) → 0 ≤ w.toInt → vp_in w 48 ∧ E (m (1, 0, 34) w.toNatClampNeg).toInt (newL S X (2 + j) n) := by
          intro m g j w hm hj hb hw0 hpos
          rcases refcase hok hj with ⟨-, z, z2⟩ | ⟨-, z⟩ | ⟨-, z, z2⟩
          · rw [hb] at z2; cases z2
          · have := hw0.lt.mpr z; omega
          · have z1 := z.1
            have z3 := z.2.1
            have ew : w.toInt = ((S.L (2 + j) n).toNat : Nat) := by rw [hw0.nn z1]; omega
            refine ⟨ti_in ew (by omega), ?_⟩
            rw [newL_ref hj, if_pos hb]
            exact renE z1 (hm.rdX ew (by omega))
        have rL : ∀ {m : xM} {g : Nat → Nat} {j : Nat} {w : Int32}, TI μ S X S.nl S.nb g m → j < 3 → isBx S n j = false → E w.toInt (S.L (2 + j) n) → 0 ≤ w.toInt → vp_in w 48 ∧ E (m (1, 0, 33) w.toNatClampNeg).toInt (newL S X (2 + j) n) := by
          intro m g j w hm hj hb hw0 hpos
          rcases refcase hok hj with ⟨-, z, z2⟩ | ⟨-, z⟩ | ⟨-, z, z2⟩
          · have z1 := z.1
            have z3 := z.2
            have ew : w.toInt = ((S.L (2 + j) n).toNat : Nat) := by rw [hw0.nn z1]; omega
            refine ⟨ti_in ew (by omega), ?_⟩
            rw [newL_ref hj, if_neg (by rw [hb]; decide)]
            exact renE z1 (hm.rdT ew (by omega))
          · have := hw0.lt.mpr z; omega
          · rw [hb] at z2; cases z2
        have r6 : ∀ {j : Nat} {w : Int32}, j < 3 → E w.toInt (S.L (2 + j) n) → ¬ 0 ≤ w.toInt → E (-1 : Int32).toInt (newL S X (2 + j) n) := by
          intro j w hj hw0 hneg
          have z := hw0.lt.mp (by omega)
          rw [newL_ref hj, z]
          split <;> exact E.none
        have p310 : ∀ (m : xM) (s1 s2 : Int32), TI μ S X S.nl S.nb (fun k => if k = 0 ∨ k = 2 then n + 1 else n) m → s1.toInt = rk X n → E s2.toInt (newL S X 3 n) → WS G eL_trim (d + 1) Z Q 310 (lvU (vL y) (vI lv) (vI bv) (vI (nI n))) [vI s2, vI s1, vR (1, 0, 26)] m := by
          intro m s1 s2 hm h1 h2
          have i1 : vp_in s1 48 := ti_in h1 (by omega)
          have hm2 := hm.setL (c := 3) (by omega) (by simp) c h2
          have hx := hm2.rdL (c := 4) en hn (by omega) (by simp)
          have hto := to hm2
          have hm2' : TI μ S X S.nl S.nb (fun k => if k = 0 ∨ k = 2 ∨ k = 3 then n + 1 else n) (xst m (1, 0, 26) (rk X n) s2) := TI.cg hm2 fun k hk => by
            rcases (show k = 0 ∨ k = 1 ∨ k = 2 ∨ k = 3 ∨ k = 4 ∨ k = 5 by omega) with rfl | rfl | rfl | rfl | rfl | rfl <;> rfl
          refine wL_trim_310 ⟨i1, vin, vin, ?_⟩
          rw [toN h1]
          refine xif_c (fun q => ?_) (fun q => p338 _ _ _ hm2' hto (r6 (j := 2) (by omega) hx (by rw [ti_le, ti_lit0] at q; exact q)))
          rw [ti_le, ti_lit0] at q
          have hb2 : isBx S n 2 = true := by
            rcases refcase hok (k := 2) (by omega) with ⟨z, -⟩ | ⟨-, z⟩ | ⟨-, -, z⟩
            · have := tl_le S n; omega
            · have q' := hx.lt.mpr z
              exact absurd q (Int.not_le.mpr q')
            · exact z
          obtain ⟨v1, v2⟩ := rB (j := 2) hm2 (by omega) hb2 hx q
          exact ⟨vin, v1, p338 _ _ _ hm2' hto v2⟩
        have p266 : ∀ (m : xM) (s1 s2 : Int32), TI μ S X S.nl S.nb (fun k => if k = 0 then n + 1 else n) m → s1.toInt = rk X n → E s2.toInt (newL S X 2 n) → WS G eL_trim (d + 1) Z Q 266 (lvU (vL y) (vI lv) (vI bv) (vI (nI n))) [vI s2, vI s1, vR (1, 0, 25)] m := by
          intro m s1 s2 hm h1 h2
          have i1 : vp_in s1 48 := ti_in h1 (by omega)
          have hm2 := hm.setL (c := 2) (by omega) (by simp) c h2
          have hx := hm2.rdL (c := 3) en hn (by omega) (by simp)
          have hu := hm2.rdL (c := 1) en hn (by omega) (by simp)
          have hto := to hm2
          have hm2' : TI μ S X S.nl S.nb (fun k => if k = 0 ∨ k = 2 then n + 1 else n) (xst m (1, 0, 25) (rk X n) s2) := TI.cg hm2 fun k hk => by
            rcases (show k = 0 ∨ k = 1 ∨ k = 2 ∨ k = 3 ∨ k = 4 ∨ k = 5 by omega) with rfl | rfl | rfl | rfl | rfl | rfl <;> rfl
          refine wL_trim_266 ⟨i1, vin, vin, ?_⟩
          rw [toN h1]
          refine xif_c (fun q => ⟨vin, xif_c (fun q7 => ?_) (fun q7 => ?_)⟩) (fun q => p310 _ _ _ hm2' hto (r6 (j := 1) (by omega) hx (by rw [ti_le, ti_lit0] at q; exact q)))
          · rw [ti_le, ti_lit0] at q
            rw [ti_eq, show (xst m (1, 0, 25) (rk X n) s2 (1, 0, 24) (nI n).toNatClampNeg).toInt = S.L 1 n from hu.nn (hI.L1 hn).1, e7] at q7
            obtain ⟨v1, v2⟩ := rB (j := 1) hm2 (by omega) (by rw [bx7]; simp; omega) hx q
            exact ⟨vin, v1, p310 _ _ _ hm2' hto v2⟩
          · rw [ti_le, ti_lit0] at q
            rw [ti_eq, show (xst m (1, 0, 25) (rk X n) s2 (1, 0, 24) (nI n).toNatClampNeg).toInt = S.L 1 n from hu.nn (hI.L1 hn).1, e7] at q7
            have hb1 : isBx S n 1 = false := by
              rcases refcase hok (k := 1) (by omega) with ⟨-, -, z⟩ | ⟨-, z⟩ | ⟨-, -, z⟩
              · exact z
              · have q' := hx.lt.mpr z
                exact absurd q (Int.not_le.mpr q')
              · exfalso
                rw [bx7] at z
                have z := of_decide_eq_true z
                rcases hok with ⟨h1, h2, h3, h4⟩ | ⟨h1, h2, h3, h4⟩ | ⟨h1, h2, h3, h4⟩ | ⟨h1, h2, h3, h4⟩ | ⟨h1, h2, h3, h4⟩
                · omega
                · omega
                · omega
                · omega
                · have q' := hx.lt.mpr h3
                  exact absurd q (Int.not_le.mpr q')
            obtain ⟨v1, v2⟩ := rL (j := 1) hm2 (by omega) hb1 hx q
            exact ⟨vin, v1, p310 _ _ _ hm2' hto v2⟩
        have p214 : ∀ s0 : Int32, (s0 = 1 ∧ isBx S n 0 = true) ∨ (s0 = 0 ∧ isBx S n 0 = false) → WS G eL_trim (d + 1) Z Q 214 (lvU (vL y) (vI lv) (vI bv) (vI (nI n))) [vI s0] m := by
          intro s0 hs
          have hto0 := to hm
          have hf := hm.rdL (c := 0) en hn (by omega) (Nat.le_refl _)
          have hm2 := hm.setL (c := 0) (by omega) rfl c (v := m (1, 0, 23) (nI n).toNatClampNeg) (by
            have : newL S X 0 n = S.L 0 n := rfl
            rw [this]; exact hf)
          have hx := hm2.rdL (c := 2) en hn (by omega) (by simp)
          have hto := to hm2
          have hm2' : TI μ S X S.nl S.nb (fun k => if k = 0 then n + 1 else n) (xst m (1, 0, 23) (rk X n) (m (1, 0, 23) (nI n).toNatClampNeg)) := hm2
          refine wL_trim_214 ⟨vin, vin, ti_in hto0 (by omega), vin, vin, ?_⟩
          rw [toN hto0]
          refine xif_c (fun q => xif_c (fun q0 => ?_) (fun q0 => ?_)) (fun q => p266 _ _ _ hm2' hto (r6 (j := 0) (by omega) hx (by rw [ti_le, ti_lit0] at q; exact q)))
          · rw [ti_le, ti_lit0] at q
            rcases hs with ⟨rfl, -⟩ | ⟨-, z⟩
            · exact absurd q0 (by decide)
            · obtain ⟨v1, v2⟩ := rL (j := 0) hm2 (by omega) z hx q
              exact ⟨vin, v1, p266 _ _ _ hm2' hto v2⟩
          · rw [ti_le, ti_lit0] at q
            rcases hs with ⟨-, z⟩ | ⟨rfl, -⟩
            · obtain ⟨v1, v2⟩ := rB (j := 0) hm2 (by omega) z hx q
              exact ⟨vin, v1, p266 _ _ _ hm2' hto v2⟩
            · exact absurd rfl q0
        have hu := hm.rdL (c := 1) en hn (by omega) (Nat.le_refl _)
        have hu : (m (1, 0, 24) (nI n).toNatClampNeg).toInt = S.L 1 n := hu.nn (hI.L1 hn).1
        refine ⟨vin, xif_c (fun q => wL_trim_209 (p214 1 (Or.inl ⟨rfl, ?_⟩))) (fun q => ⟨vin, xif_c (fun q2 => wL_trim_209 (p214 1 (Or.inl ⟨rfl, ?_⟩))) (fun q2 => p214 0 (Or.inr ⟨rfl, ?_⟩))⟩)⟩
        · rw [ti_eq, hu, e8] at q
          rw [bx7]; simp; omega
        · rw [ti_eq, hu, e10] at q2
          rw [bx7]; simp; omega
        · rw [ti_eq, hu, e8] at q
          rw [ti_eq, hu, e10] at q2
          rw [bx7]; simp; omega
      · rw [xlr_b en (by omega), bL_1, hy n hn] at c
        refine wL_trim_378 (ih m ?_)
        obtain ⟨h1, h2, h3, h4, h5, h6, h7⟩ := hm
        exact ⟨h1, h2, h3, h4, h5, h6, fun c' hc' x hx => by rw [pak_n c]; exact h7 c' hc' x hx⟩
    · intro m hm
      have en : (nI S.nl).toInt = S.nl := nI_t (by omega)
      have t1 := T1 hm
      refine wL_trim_170 ⟨ti_in l1 (by omega), xif_t (by rw [ti_le, t1, en]; omega) ⟨ti_in l1 (by omega), ti_in l2 (by omega), h _ ?_ ?_⟩⟩
      · exact hm.2.1.tr ((frM_xst (by omega)).tr (frM_xst (by omega)))
      · exact TI.fin hw hm hlv hbv
  -- the boxes
  have boxes : ∀ (lv : Int32) (m : xM), lv.toInt = rk X S.nl → TI μ S X S.nl 0 (fun _ => 0) m → WS G eL_trim (d + 1) Z Q 60 (lvT (vL y) (vI lv) (vI (0 : Int32)) (vI (0 : Int32))) [] m := by
    intro lv m hlv hm
    refine up_loop (σ := Int32 × xM) (fun i s => WS G eL_trim (d + 1) Z Q 60 (lvT (vL y) (vI lv) (vI s.1) (vI (nI i))) [] s.2) (fun i s => s.1.toInt = rk (yB S X) i ∧ TI μ S X S.nl i (fun _ => 0) s.2) S.nb ?_ ?_ 0 (0, m) (by omega) ⟨rfl, hm⟩
    · rintro n ⟨bv, m⟩ hn ⟨hbv, hm⟩ ih
      have hbv : bv.toInt = rk (yB S X) n := hbv
      have hm : TI μ S X S.nl n (fun _ => 0) m := hm
      show WS G eL_trim (d + 1) Z Q 60 (lvT (vL y) (vI lv) (vI bv) (vI (nI n))) [] m
      have en : (nI n).toInt = n := nI_t (by omega)
      have enN : (nI n).toNatClampNeg = n := ti_cl' en
      have vin : vp_in (nI n) 48 := ti_in en (by omega)
      have t2 := T2 hm
      have hrk : rk (yB S X) n ≤ n := rk_le _ n
      have vib : vp_in bv 48 := ti_in hbv (by omega)
      have ebN : bv.toNatClampNeg = rk (yB S X) n := ti_cl' hbv
      obtain ⟨s, hs, hs2⟩ := hI.bs hn
      have ih : ∀ (v : Int32) (m' : xM), v.toInt = rk (yB S X) (n + 1) → TI μ S X S.nl (n + 1) (fun _ => 0) m' → WS G eL_trim (d + 1) Z Q 161 (lvT (vL y) (vI lv) (vI v) (vI (nI n))) [] m' := fun v m' h1 h2 => wL_trim_161 (by rw [nI_1]; exact ih (v, m') ⟨h1, h2⟩)
      have b0 := hm.rdB (c := 0) en hn (by omega)
      have b0 : (m (1, 0, 29) (nI n).toNatClampNeg).toInt = s := by rw [show (m (1, 0, 29) (nI n).toNatClampNeg).toInt = S.B 0 n from b0.nn (by omega)]; exact hs
      have hyB : yB S X n = X s := by unfold yB; rw [hs, Int.toNat_natCast]
      have p123 : ∀ s0 : Int32, yB S X n = true → E s0.toInt (newB S X 2 n) → WS G eL_trim (d + 1) Z Q 123 (lvT (vL y) (vI lv) (vI bv) (vI (nI n))) [vI s0] (xst m (1, 0, 34) n bv) := by
        intro s0 hyn h2
        have o29 : ∀ i, xst m (1, 0, 34) n bv (1, 0, 29) i = m (1, 0, 29) i := fun i => by rw [xst_o (by omega)]
        have r33 : ∀ (k : Nat) (v : Int32) (i : Nat), xst (xst m (1, 0, 34) n bv) (1, 0, 29) k v (1, 0, 33) i = m (1, 0, 33) i := fun k v i => by rw [xst_o (by omega), xst_o (by omega)]
        have r33' : ∀ (i : Nat), xst m (1, 0, 34) n bv (1, 0, 33) i = m (1, 0, 33) i := fun i => by rw [xst_o (by omega)]
        have r30 : ∀ (k : Nat) (v : Int32) (i : Nat), xst (xst m (1, 0, 34) n bv) (1, 0, 29) k v (1, 0, 30) i = m (1, 0, 30) i := fun k v i => by rw [xst_o (by omega), xst_o (by omega)]
        obtain ⟨e, he, he2⟩ := hI.be hn (hc.2.2.2 n hn)
        have b1 := hm.rdB (c := 1) en hn (by omega)
        have b1 : (m (1, 0, 30) (nI n).toNatClampNeg).toInt = e := by rw [show (m (1, 0, 30) (nI n).toNatClampNeg).toInt = S.B 1 n from b1.nn (by omega)]; exact he
        have hbv1 : (bv + 1).toInt = rk (yB S X) (n + 1) := by
          have := bump (Z := yB S X) (n := n) (by omega) hbv
          rw [if_pos hyn] at this
          exact this
        refine wL_trim_123 ?_
        simp only [o29, r33, r33', r30]
        refine ⟨vin, ti_in b0 (by omega), vib, vin, ti_in b1 (by omega), vib, vib, ih _ _ hbv1 ?_⟩
        rw [ebN]
        refine hm.stay hbv hyn ?_ ?_ h2
        · rw [hm.rdT b0 hs2, newB_0 hI hn, hs, Int.toNat_natCast]
          exact E.of (by omega)
        · show E _ (ren X (lastI (S.L 5) (S.B 2) X n S.nl))
          rw [hlk n hn hyn]
          refine renE (by omega) ?_
          rw [hm.rdT b1 he2, he, Int.toNat_natCast]
      have p89 : ∀ s0 : Int32, (s0 = 0 ∧ ¬ yB S X n = true) ∨ (s0 = 1 ∧ yB S X n = true) → WS G eL_trim (d + 1) Z Q 89 (lvT (vL y) (vI lv) (vI bv) (vI (nI n))) [vI s0] m := by
        intro s0 hs0
        refine wL_trim_89 ⟨vin, ?_⟩
        rw [enN]
        refine xif_c (fun q => ?_) (fun q => ⟨vin, ?_⟩)
        · rcases hs0 with ⟨-, z⟩ | ⟨rfl, -⟩
          · refine ih bv _ ?_ (hm.gone hbv z)
            rw [rk_n z]; exact hbv
          · exact absurd q (by decide)
        · rcases hs0 with ⟨rfl, -⟩ | ⟨-, z⟩
          · exact absurd rfl q
          · have r31 : xst m (1, 0, 34) n bv (1, 0, 31) n = m (1, 0, 31) n := by rw [xst_o (by omega)]
            rw [r31]
            have b2 := hm.rdB (c := 2) en hn (by omega)
            rw [enN] at b2
            have b2 : E (m (1, 0, 31) n).toInt (S.B 2 n) := b2
            refine xif_c (fun q2 => ?_) (fun q2 => p123 _ z ?_)
            · rw [ti_le, ti_lit0] at q2
              have hp : 0 ≤ S.B 2 n ∧ S.B 2 n < n := by
                rcases hI.par hn with w | w
                · have := b2.lt.mpr w; omega
                · exact w
              have e2 : (m (1, 0, 31) n).toInt = ((S.B 2 n).toNat : Nat) := by rw [b2.nn hp.1]; omega
              have e2N : (m (1, 0, 31) n).toNatClampNeg = (S.B 2 n).toNat := ti_cl' e2
              refine ⟨vin, ti_in e2 (by omega), p123 _ z ?_⟩
              show E _ (ren (yB S X) (S.B 2 n))
              refine renE hp.1 ?_
              rw [e2N, xst_s, if_neg (by omega)]
              exact hm.2.2.2.2.1 _ (by omega)
            · rw [ti_le, ti_lit0] at q2
              show E _ (ren (yB S X) (S.B 2 n))
              rw [b2.lt.mp (by omega)]; exact E.none
      refine wL_trim_60 ⟨ti_in l2 (by omega), xif_f (by rw [ti_le, t2, en]; omega) ⟨vin, xif_c (fun c => p89 1 (Or.inr ⟨rfl, ?_⟩)) (fun c => p89 0 (Or.inl ⟨rfl, ?_⟩))⟩⟩
      · rw [xlr_b b0 (by omega), bL_1, hy s hs2] at c
        rw [hyB]; exact c
      · rw [xlr_b b0 (by omega), bL_1, hy s hs2] at c
        rw [hyB]; exact c
    · rintro ⟨bv, m⟩ ⟨hbv, hm⟩
      have en : (nI S.nb).toInt = S.nb := nI_t (by omega)
      have t2 := T2 hm
      exact wL_trim_60 ⟨ti_in l2 (by omega), xif_t (by rw [ti_le, t2, en]; omega) (lines lv bv m hlv hbv hm)⟩
  refine wL_trim_12 ?_
  refine up_loop (σ := Int32 × xM) (fun i s => WS G eL_trim (d + 1) Z Q 21 (lvT (vL y) (vI s.1) (vI (0 : Int32)) (vI (nI i))) [] s.2) (fun i s => s.1.toInt = rk X i ∧ TI μ S X i 0 (fun _ => 0) s.2) S.nl ?_ ?_ 0 (0, μ) (by omega) ⟨rfl, hT⟩
  · rintro n ⟨v, m⟩ hn ⟨hv, hm⟩ ih
    have hv : v.toInt = rk X n := hv
    have hm : TI μ S X n 0 (fun _ => 0) m := hm
    show WS G eL_trim (d + 1) Z Q 21 (lvT (vL y) (vI v) (vI (0 : Int32)) (vI (nI n))) [] m
    have en : (nI n).toInt = n := nI_t (by omega)
    have vin : vp_in (nI n) 48 := ti_in en (by omega)
    have t1 := T1 hm
    refine wL_trim_21 ⟨ti_in l1 (by omega), xif_f (by rw [ti_le, t1, en]; omega) ⟨vin, ?_⟩⟩
    rw [xlr_b en (by omega), add_bL, nI_1, hy n hn, ti_cl' en]
    exact ih (_, _) ⟨bump (by omega) hv, hm.to hv⟩
  · rintro ⟨v, m⟩ ⟨hv, hm⟩
    have en : (nI S.nl).toInt = S.nl := nI_t (by omega)
    have t1 := T1 hm
    exact wL_trim_21 ⟨ti_in l1 (by omega), xif_t (by rw [ti_le, t1, en]; omega) (boxes v m hv hm)⟩
end
