/-! the law's latest, shut, assumed, bits, bypass, direct -/
section
variable {G : xG} {d : Nat} {μ : xM} {Q : xP} {S : aS}
theorem w_latestW (hw : repW μ S) (hb48 : S.nb ≤ 48) (h : ∀ x : Int32, E x.toInt (latO S S.nb) → Q (some (vI x)) μ) : MW G (d + 1) mL_latest [vR (1, 0, 30), vR (1, 0, 32)] μ Q := by
  have t2 := rt2 hw
  refine wL_latest fun Z => ⟨ti_in l2 (by omega), ?_⟩
  have lp : ∀ (n : Nat) (a v : Int32), a.toInt = (n : Int) - 1 → n ≤ S.nb → v.toInt = -1 → latO S n = latO S S.nb → WS G eL_latest (d + 1) Z Q 8 [vR (1, 0, 30), vN, vI v, vI a] [] μ := by
    intro n
    induction n with
    | zero =>
      intro a v ha hn hv he
      refine wL_latest_8 (xif_t (by rw [ti_lt, ti_lit0]; omega) (h v ?_))
      rw [← he, hv]; exact E.none
    | succ n ih =>
      intro a v ha hn hv he
      have ha' : a.toInt = (n : Nat) := by omega
      have hnb : n < S.nb := by omega
      have e1 := rq hw ha' hnb
      refine wL_latest_8 (xif_f (by rw [ti_lt, ti_lit0]; omega) (xif_f (by rw [ti_le, ti_lit0]; omega) ⟨ti_in ha' (by omega), xif_c (fun c => ?_) (fun c => ?_)⟩))
      · rw [ti_le, ti_lit0] at c
        refine ih _ v (dec_ok ha' (by omega)) (by omega) hv ?_
        rw [← he]
        conv => rhs; unfold latO
        rw [if_neg (fun z => by have := e1.lt.mpr z; omega)]
      · rw [ti_le, ti_lit0] at c
        have z := e1.lt.mp (by omega)
        have hx : E a.toInt (latO S S.nb) := by
          rw [← he]
          unfold latO
          rw [if_pos z, ha']
          exact E.of (by omega)
        exact wL_latest_8 (xif_c (fun _ => h a hx) fun _ => xif_t (by rw [ti_le, ti_lit0]; omega) (h a hx))
  refine lp S.nb _ _ ?_ (Nat.le_refl _) rfl rfl
  rw [ti_sub (by rw [t2, ti_lit1]; omega) (by rw [t2, ti_lit1]; omega), t2, ti_lit1]
theorem w_latest (hw : repW μ S) (hI : Inv S) (h : ∀ x : Int32, E x.toInt (latO S S.nb) → Q (some (vI x)) μ) : MW G (d + 1) mL_latest [vR (1, 0, 30), vR (1, 0, 32)] μ Q := w_latestW hw hI.bd.2.2 h
theorem w_shut {a : Int32} {x : Int} (hw : repW μ S) (hI : Inv S) (ha : E a.toInt x) (hx : okX S x) (ht : ¬ noo S x → Q (some (vI 1)) μ) (hf : noo S x → Q (some (vI 0)) μ) : MW G (d + 1) mL_shut [vR (1, 0, 30), vR (1, 0, 31), vI a] μ Q := by
  have hb48 := hI.bd.2.2
  refine wL_shut fun Z => ?_
  -- a box that is there
  have bx : ∀ {a : Int32} {x : Int}, E a.toInt x → okX S x → ¬ x = -6 → ∃ b : Nat, x = b ∧ b < S.nb ∧ a.toInt = b := by
    intro a x ha hx hn
    rcases hx with z | z
    · exact absurd z hn
    · exact ⟨x.toNat, by omega, by omega, by rw [ha.nn z.1]; omega⟩
  have up1 : ∀ (m : Nat) (a : Int32) (x : Int), x < m → E a.toInt x → okX S x → Q (some (vI 1)) μ → WS G eL_shut (d + 1) Z Q 5 [vR (1, 0, 30), vR (1, 0, 31), vN, vI (1 : Int32), vI a] [] μ := by
    intro m
    induction m with
    | zero =>
      intro a x hm ha hx hq
      exact wL_shut_5 (xif_t (by rw [ti_lt, ti_lit0, ha.lt]; rcases hx with z | z <;> omega) ⟨z11, hq⟩)
    | succ m ih =>
      intro a x hm ha hx hq
      by_cases c : x = -6
      · exact wL_shut_5 (xif_t (by rw [ti_lt, ti_lit0, ha.lt]; exact c) ⟨z11, hq⟩)
      · obtain ⟨b, b1, b2, b3⟩ := bx ha hx c
        have vin : vp_in a 48 := ti_in b3 (by omega)
        refine wL_shut_5 (xif_f (by rw [ti_lt, ti_lit0]; omega) (xif_f (by decide) ⟨vin, ih _ (S.B 2 b) ?_ (rw_ hw b3 b2) (hI.parX b2) hq⟩))
        rcases hI.par b2 with z | z <;> omega
  have up0 : ∀ (m : Nat) (a : Int32) (x : Int), x < m → E a.toInt x → okX S x → noo S x → Q (some (vI 0)) μ → WS G eL_shut (d + 1) Z Q 5 [vR (1, 0, 30), vR (1, 0, 31), vN, vI (0 : Int32), vI a] [] μ := by
    intro m
    induction m with
    | zero =>
      intro a x hm ha hx ho hq
      exact wL_shut_5 (xif_t (by rw [ti_lt, ti_lit0, ha.lt]; rcases hx with z | z <;> omega) ⟨z01, hq⟩)
    | succ m ih =>
      intro a x hm ha hx ho hq
      by_cases c : x = -6
      · exact wL_shut_5 (xif_t (by rw [ti_lt, ti_lit0, ha.lt]; exact c) ⟨z01, hq⟩)
      · obtain ⟨b, b1, b2, b3⟩ := bx ha hx c
        have vin : vp_in a 48 := ti_in b3 (by omega)
        have hop : S.B 1 b = -6 := by
          rcases ho with z | z
          · exact absurd z c
          · rw [b1, Int.toNat_natCast] at z; exact z
        refine wL_shut_5 (xif_f (by rw [ti_lt, ti_lit0]; omega) (xif_t rfl ⟨vin, xif_t ?_ ⟨vin, ih _ (S.B 2 b) ?_ (rw_ hw b3 b2) (hI.parX b2) (hI.openPar b2 hop) hq⟩⟩))
        · rw [ti_lt, ti_lit0, (rq hw b3 b2).lt]; exact hop
        · rcases hI.par b2 with z | z <;> omega
  by_cases ho : noo S x
  · exact up0 (x.toNat + 1) a x (by omega) ha hx ho (hf ho)
  · have c : ¬ x = -6 := fun z => ho (Or.inl z)
    obtain ⟨b, b1, b2, b3⟩ := bx ha hx c
    have vin : vp_in a 48 := ti_in b3 (by omega)
    have hcl : ¬ S.B 1 b = -6 := fun z => ho (Or.inr (by rw [b1, Int.toNat_natCast]; exact z))
    refine wL_shut_5 (xif_f (by rw [ti_lt, ti_lit0]; omega) (xif_t rfl ⟨vin, xif_f ?_ ⟨vin, up1 ((S.B 2 b).toNat + 1) _ (S.B 2 b) (by omega) (rw_ hw b3 b2) (hI.parX b2) (ht ho)⟩⟩))
    rw [ti_lt, ti_lit0, (rq hw b3 b2).lt]; exact hcl
theorem w_assumed {a : Int32} {l : Nat} (hw : repW μ S) (hI : Inv S) (ha : a.toInt = l) (hl : l < S.nl) (h : ∀ y : Int64, (∀ i, hasb y i = ach S 5 (S.L 5 l) i) → Q (some (vL y)) μ) : MW G (d + 1) mL_assumed [vR (1, 0, 28), vR (1, 0, 29), vR (1, 0, 31), vI a] μ Q := by
  have hb48 := hI.bd.2.2
  have h48 := hI.2.1
  obtain ⟨dp, h7⟩ := hI.2.2.2.2.2.2.1
  refine wL_assumed fun Z => ⟨ti_in ha (by omega), ?_⟩
  have lp : ∀ (n : Nat) (v : Int32) (x : Int) (y : Int64), E v.toInt x → okX S x → dpI dp x ≤ n → (∀ i, (hasb y i || ach S n x i) = ach S 5 (S.L 5 l) i) → WS G eL_assumed (d + 1) Z Q 8 [vN, vR (1, 0, 29), vR (1, 0, 31), vN, vL y, vN, vI v] [] μ := by
    intro n
    induction n with
    | zero =>
      intro v x y hv hx hd hy
      have c : x = -6 := by
        rcases hx with z | z
        · exact z
        · have := (dp_step h7 z).1; omega
      refine wL_assumed_8 (xif_t (by rw [ti_lt, ti_lit0, hv.lt]; exact c) (h y fun i => ?_))
      rw [← hy i]; simp [ach]
    | succ n ih =>
      intro v x y hv hx hd hy
      by_cases c : x = -6
      · refine wL_assumed_8 (xif_t (by rw [ti_lt, ti_lit0, hv.lt]; exact c) (h y fun i => ?_))
        rw [← hy i]; simp [ach, c]
      · have hxb : 0 ≤ x ∧ x < S.nb := by
          rcases hx with z | z
          · exact absurd z c
          · exact z
        obtain ⟨b1, b2, b3, b4⟩ := dp_step h7 hxb
        have hv' : v.toInt = (x.toNat : Nat) := by rw [hv.nn hxb.1]; omega
        have hxn : x.toNat < S.nb := by omega
        obtain ⟨s, hs, hs2⟩ := hI.bs hxn
        have vin : vp_in v 48 := ti_in hv' (by omega)
        have e0 := rB0 hw hI hv' hxn
        rw [hs] at e0
        refine wL_assumed_8 (xif_f (by rw [ti_lt, ti_lit0]; omega) ⟨vin, vin, ih _ (S.B 2 x.toNat) _ (rw_ hw hv' hxn) b4 (by omega) fun i => ?_⟩)
        rw [← hy i, hb_or, hb_one e0 (by omega)]
        conv => rhs; unfold ach
        rw [if_neg c, Bool.or_assoc, hs]
        have : decide (i = s) = decide ((i : Int) = (s : Int)) := decide_eq_decide.mpr (by omega)
        rw [this]
  exact lp 5 _ (S.L 5 l) 0 (rx hw ha hl) (hI.home hl) (dpI_le h7 (hI.home hl)) (fun i => by rw [hb_0, Bool.false_or])
theorem w_bits {y : Int64} {X : Nat → Bool} (hy : ∀ i, i < 48 → hasb y i = X i) (h : ∀ x : Int32, x.toInt = rk X 48 → Q (some (vI x)) μ) : MW G (d + 1) mL_bits [vL y] μ Q := by
  have e48 : (48 : Int32).toInt = 48 := rfl
  refine wL_bits fun Z => ?_
  refine up_loop (σ := Int32) (fun i v => WS G eL_bits (d + 1) Z Q 4 [vL y, vN, vI v, vI (nI i)] [] μ) (fun i v => v.toInt = rk X i) 48 ?_ ?_ 0 _ (by omega) rfl
  · intro n v hn hv ih
    have en : (nI n).toInt = n := nI_t (by omega)
    have hle := rk_le X n
    refine wL_bits_4 (xif_f (by rw [ti_le, e48, en]; omega) ?_)
    rw [xlr_b en (by omega), add_bL, nI_1, hy n hn]
    refine ih _ ?_
    by_cases c : X n = true
    · rw [rk_s c, if_pos c, ti_add (by rw [hv, ti_lit1]; omega) (by rw [hv, ti_lit1]; omega), hv, ti_lit1]
      omega
    · rw [rk_n c, if_neg c, ti_add (by rw [hv, ti_lit0]; omega) (by rw [hv, ti_lit0]; omega), hv, ti_lit0]
      omega
  · intro v hv
    have en : (nI 48).toInt = 48 := nI_t (by omega)
    exact wL_bits_4 (xif_t (by rw [ti_le, e48, en]; omega) (h v hv))
theorem w_bypass {a : Int32} {l : Nat} (hw : repW μ S) (hI : Inv S) (ha : a.toInt = l) (hl : l < S.nl) (h : ∀ x : Int32, x.toInt = byp S l → Q (some (vI x)) μ) : MW G (d + 1) mL_bypass [vR (1, 0, 24), vR (1, 0, 25), vR (1, 0, 26), vI a] μ Q := by
  have h48 := hI.2.1
  have e2 : (2 : Int32).toInt = 2 := rfl
  have e3 : (3 : Int32).toInt = 3 := rfl
  have e4 : (4 : Int32).toInt = 4 := rfl
  have e5 : (5 : Int32).toInt = 5 := rfl
  have vin : vp_in a 48 := ti_in ha (by omega)
  have u := rL1 hw hI ha hl
  have hok := hI.ref hl
  -- the source of a line by LEFT or RIGHT
  have src : S.L 1 l = 4 ∨ S.L 1 l = 5 → ∃ k : Nat, S.L 2 l = k ∧ k < l ∧ (μ (1, 0, 25) a.toNatClampNeg).toInt = k := by
    intro c
    obtain ⟨s1, s2⟩ := hok.src c
    exact ⟨(S.L 2 l).toNat, by omega, by omega, by rw [(ra hw ha hl).nn s1]; omega⟩
  refine wL_bypass fun Z => ?_
  have fin : ∀ s0 : Int32, ((S.L 1 l = 4 ∨ S.L 1 l = 5) ∧ S.L 1 (S.L 2 l).toNat = 3 ∧ s0 = 1) ∨ (¬ ((S.L 1 l = 4 ∨ S.L 1 l = 5) ∧ S.L 1 (S.L 2 l).toNat = 3) ∧ s0 = 0) → WS G eL_bypass (d + 1) Z Q 28 [vR (1, 0, 24), vR (1, 0, 25), vR (1, 0, 26), vI a, vN] [vI s0] μ := by
    intro s0 hs
    refine wL_bypass_28 ⟨vin, xif_c (fun c => ⟨vin, h _ ?_⟩) (fun c => ?_)⟩
    · rw [ti_eq, u, e2] at c
      have hr : okLR l (S.L 2 l) := by
        rcases hok with ⟨h1, h2, h3, h4⟩ | ⟨h1, h2, h3, h4⟩ | ⟨h1, h2, h3, h4⟩ | ⟨h1, h2, h3, h4⟩ | ⟨h1, h2, h3, h4⟩
        · omega
        · omega
        · exact h2
        · omega
        · omega
      rw [(ra hw ha hl).nn hr.1, byp, if_pos c]
    · rw [ti_eq, u, e2] at c
      rcases hs with ⟨h1, h2, rfl⟩ | ⟨h1, rfl⟩
      · obtain ⟨k, k1, k2, k3⟩ := src h1
        have kl : k < S.nl := by omega
        rw [k1, Int.toNat_natCast] at h2
        have vk : vp_in (μ (1, 0, 25) a.toNatClampNeg) 48 := ti_in k3 (by omega)
        have h3 : okLR k (S.L 2 k) ∧ okLR k (S.L 3 k) := by
          rcases hI.ref kl with ⟨g1, g2, g3, g4⟩ | ⟨g1, g2, g3, g4⟩ | ⟨g1, g2, g3, g4⟩ | ⟨g1, g2, g3, g4⟩ | ⟨g1, g2, g3, g4⟩
          · omega
          · exact ⟨g2, g3⟩
          · omega
          · omega
          · omega
        refine xif_f (by decide) ⟨vin, xif_c (fun c4 => ⟨vin, vk, h _ ?_⟩) (fun c4 => ⟨vin, vk, h _ ?_⟩)⟩
        · rw [ti_eq, u, e4] at c4
          rw [(ra hw k3 kl).nn h3.1.1, byp, if_neg c, if_pos ⟨c4, by rw [k1, Int.toNat_natCast]; exact h2⟩, k1, Int.toNat_natCast]
        · rw [ti_eq, u, e4] at c4
          rw [(rb hw k3 kl).nn h3.2.1, byp, if_neg c, if_neg (fun z => c4 z.1), if_pos ⟨by omega, by rw [k1, Int.toNat_natCast]; exact h2⟩, k1, Int.toNat_natCast]
      · refine xif_t rfl (h _ ?_)
        rw [byp, if_neg c, if_neg (fun z => h1 ⟨Or.inl z.1, z.2⟩), if_neg (fun z => h1 ⟨Or.inr z.1, z.2⟩)]
        rfl
  have mid : S.L 1 l = 4 ∨ S.L 1 l = 5 → WS G eL_bypass (d + 1) Z Q 14 [vR (1, 0, 24), vR (1, 0, 25), vR (1, 0, 26), vI a, vN] [] μ := by
    intro c
    obtain ⟨k, k1, k2, k3⟩ := src c
    have kl : k < S.nl := by omega
    have uk := rL1 hw hI k3 kl
    refine wL_bypass_14 ⟨vin, ti_in k3 (by omega), xif_c (fun c3 => fin 1 (Or.inl ⟨c, ?_, rfl⟩)) (fun c3 => wL_bypass_27 (fin 0 (Or.inr ⟨fun z => c3 ?_, rfl⟩)))⟩
    · rw [ti_eq, uk, e3] at c3
      rw [k1, Int.toNat_natCast]; exact c3
    · rw [ti_eq, uk, e3]
      have := z.2
      rw [k1, Int.toNat_natCast] at this; exact this
  refine ⟨vin, xif_c (fun c => mid ?_) (fun c => ⟨vin, xif_c (fun c' => mid ?_) (fun c' => wL_bypass_27 (fin 0 (Or.inr ⟨fun z => ?_, rfl⟩)))⟩)⟩
  · rw [ti_eq, u, e4] at c; exact Or.inl c
  · rw [ti_eq, u, e5] at c'; exact Or.inr c'
  · rw [ti_eq, u, e4] at c
    rw [ti_eq, u, e5] at c'
    rcases z.1 with z | z
    · exact c z
    · exact c' z
end
