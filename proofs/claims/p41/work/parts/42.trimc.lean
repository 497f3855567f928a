/-! trim: the class's side -/
theorem rk_flat {Z : Nat → Bool} {k : Nat} (h : ∀ i, k ≤ i → Z i = false) : ∀ n, k ≤ n → rk Z n = rk Z k
  | 0, hn => by rw [show k = 0 by omega]
  | n + 1, hn => by
    by_cases e : k = n + 1
    · rw [e]
    · rw [rk_n (by rw [h n (by omega)]; decide), rk_flat h n (by omega)]
theorem low_bits : ∀ k, k < 64 → ∀ i, i < 64 → hasb (xls (1 : Int64) (nI k) - (1 : Int64)) i = decide (i < k) := by decide +kernel
def pak (Y : Nat → Bool) (f g : Nat → Int) (i x : Nat) : Int := if x < rk Y i then f (sel Y i x) else g x
theorem pak_s {Y : Nat → Bool} {f g : Nat → Int} {i : Nat} (h : Y i = true) (x : Nat) : pak Y f g (i + 1) x = if x = rk Y i then f i else pak Y f g i x := by
  unfold pak
  rw [rk_s h]
  by_cases e : x = rk Y i
  · rw [if_pos (by omega), if_pos e]
    unfold sel
    rw [if_pos ⟨h, e.symm⟩]
  · rw [if_neg e]
    by_cases e2 : x < rk Y i
    · rw [if_pos (by omega), if_pos e2]
      unfold sel
      rw [if_neg (fun q => e q.2.symm)]
      cases i with
      | zero => have : x < 0 := e2; omega
      | succ i => rfl
    · rw [if_neg (by omega), if_neg e2]
theorem pak_n {Y : Nat → Bool} {f g : Nat → Int} {i : Nat} (h : ¬ Y i = true) (x : Nat) : pak Y f g (i + 1) x = pak Y f g i x := by
  unfold pak
  rw [rk_n h]
  by_cases e2 : x < rk Y i
  · rw [if_pos e2, if_pos e2]
    unfold sel
    rw [if_neg (fun q => h q.1)]
    cases i with
    | zero => have : x < 0 := e2; omega
    | succ i => rfl
  · rw [if_neg e2, if_neg e2]
theorem pak_hi {Y : Nat → Bool} {f g : Nat → Int} {i x : Nat} (h : i ≤ x) : pak Y f g i x = g x := by
  have := rk_le Y i
  exact if_neg (by omega)
theorem pak_0 {Y : Nat → Bool} {f g : Nat → Int} (x : Nat) : pak Y f g 0 x = g x := pak_hi (Nat.zero_le _)
theorem repP.cg {μ : xM} {j : Nat} {S S' : aS} (h : repP μ j S) (e : S'.1 = S.1) (eL : ∀ c, c < 6 → ∀ l, l < S.nl → S'.L c l = S.L c l) (eB : ∀ c, c < 3 → ∀ b, b < S.nb → S'.B c b = S.B c b) : repP μ j S' := by
  obtain ⟨h1, h2, h3, h4, h5⟩ := h
  have e1 : S'.nl = S.nl := by show S'.1.2.1 = _; rw [e]
  have e2 : S'.nb = S.nb := by show S'.1.2.2.1 = _; rw [e]
  have e3 : S'.inn = S.inn := by show S'.1.2.2.2 = _; rw [e]
  refine ⟨by rw [e1]; exact h1, by rw [e2]; exact h2, by rw [e3]; exact h3, fun c hc l hl => ?_, fun c hc b hb => ?_⟩
  · rw [e1] at hl
    rw [eL c hc l hl]
    exact h4 c hc l hl
  · rw [e2] at hb
    rw [eB c hc b hb]
    exact h5 c hc b hb
section
variable {G : xG} {d : Nat} {μ : xM} {Q : xP} {S : aS} {X Z : Nat → Bool}
theorem ren_ok {x : Int32} {y : Int64} (hx : x.toInt = -6 ∨ ∃ k : Nat, x.toInt = k ∧ k < 64 ∧ ∀ i, i < k → hasb y i = Z i) (h : ∀ w : Int32, w.toInt = ren Z x.toInt → Q (some (vI w)) μ) : MW G (d + 2) mX4_renumbered [vI x, vL y] μ Q := by
  rcases hx with z | ⟨k, h1, h2, h3⟩
  · refine wX4_renumbered (xif_f (by rw [ti_le, ti_lit0]; omega) (h _ ?_))
    rw [z]; rfl
  · refine wX4_renumbered (xif_t (by rw [ti_le, ti_lit0]; omega) (wX4_bit (xif_t (by rw [ti_le, ti_lit0]; omega) (wJ13_bitCount_95d88 ?_))))
    show Q (some (vI (pcn (y &&& (xls (1 : Int64) x - (1 : Int64)))))) μ
    refine h _ ?_
    rw [pcn_ok, of_ti h1 (by omega)]
    have e : rk (hasb (y &&& (xls (1 : Int64) (nI k) - (1 : Int64)))) 64 = rk Z k := by
      have e1 : ∀ i, hasb (y &&& (xls (1 : Int64) (nI k) - (1 : Int64))) i = (decide (i < k) && hasb y i) := by
        intro i
        rw [hb_and]
        by_cases hi : i < 64
        · rw [low_bits k h2 i hi, Bool.and_comm]
        · rw [hb_big _ (by omega)]
          simp
          try omega
      rw [rk_flat (k := k) (fun i hi => by rw [e1]; simp; omega) 64 (by omega)]
      refine rk_cg k fun i hi => ?_
      rw [e1, h3 i hi]
      simp [hi]
    rw [e, nI_t (by have := rk_le Z k; omega), nI_t (by omega), ren, if_neg (by omega), Int.toNat_natCast]
def kbS (S : aS) (X : Nat → Bool) (i : Nat) : aS := (S.1, S.F, S.L, fun c x => if c = 1 then S.B 1 x else pak (yB S X) (newB S X c) (S.B c) i x)
theorem kbS_B (c i x : Nat) : (kbS S X i).B c x = if c = 1 then S.B 1 x else pak (yB S X) (newB S X c) (S.B c) i x := rfl
theorem kbS_0 : kbS S X 0 = S := by
  unfold kbS
  refine Prod.ext rfl (Prod.ext rfl (Prod.ext rfl ?_))
  funext c x
  show (if c = 1 then S.B 1 x else pak (yB S X) (newB S X c) (S.B c) 0 x) = S.B c x
  by_cases hc : c = 1
  · rw [if_pos hc, hc]
  · rw [if_neg hc, pak_0]
theorem kbS_n {i : Nat} (h : ¬ yB S X i = true) : kbS S X (i + 1) = kbS S X i := by
  unfold kbS
  refine Prod.ext rfl (Prod.ext rfl (Prod.ext rfl ?_))
  funext c x
  show (if c = 1 then S.B 1 x else _) = (if c = 1 then S.B 1 x else _)
  rw [pak_n h]
/-- the boxes that stay, moved to the front -/
def bxS (S : aS) (X : Nat → Bool) : aS := ((S.nf, S.nl, rk (yB S X) S.nb, S.inn), S.F, S.L, (kbS S X S.nb).B)
theorem kb_ok {y : Int64} (hr : repP μ 0 S) (hI : Inv S) (hc : clo S X) (hy : ∀ i, i < S.nl → hasb y i = X i) (h : ∀ (w : Int64) (μ' : xM), (∀ b, b < S.nb → hasb w b = yB S X b) → (∀ q, ¬ ownP 0 q → μ' q = μ q) → repP μ' 0 (bxS S X) → Q (some (vL w)) μ') : MW G (d + 3) mX4_keepBoxes [vR (3, 0, 0), vL y] μ Q := by
  obtain ⟨b1, b2, b3⟩ := hI.bd
  refine wX4_keepBoxes fun Z => ?_
  refine up_loop (σ := (Int64 × Int32) × xM) (fun i s => WS G eX4_keepBoxes (d + 3) Z Q 8 [vR (3, 0, 0), vL y, vN, vL s.1.1, vN, vI s.1.2, vI (nI i)] [] s.2) (fun i s => (∀ b, hasb s.1.1 b = (decide (b < i) && yB S X b)) ∧ s.1.2.toInt = rk (yB S X) i ∧ (∀ q, q ≠ (1, 0, 9) → q ≠ (1, 0, 11) → s.2 q = μ q) ∧ repP s.2 0 (kbS S X i)) S.nb ?_ ?_ 0 (((0 : Int64), (0 : Int32)), μ) (by omega) ⟨fun b => by rw [hb_0]; simp, rfl, fun _ _ _ => rfl, by rw [kbS_0]; exact hr⟩
  · rintro i ⟨⟨w, p⟩, μ1⟩ hi ⟨hw, hp, e, r⟩ ih
    have ei : (nI i).toInt = i := nI_t (by omega)
    obtain ⟨s, hs, hs2⟩ := hI.bs hi
    have hB0 : (kbS S X i).B 0 i = S.B 0 i := by rw [kbS_B, if_neg (by omega), pak_hi (Nat.le_refl _)]
    have hB2 : (kbS S X i).B 2 i = S.B 2 i := by rw [kbS_B, if_neg (by omega), pak_hi (Nat.le_refl _)]
    have hYX : yB S X i = X s := by unfold yB; rw [hs, Int.toNat_natCast]
    refine wX4_keepBoxes_8 (xif_f (by rw [ti_le, r.2.1, ei]; show ¬ (S.nb : Int) ≤ _; omega) (c_st r b3 ei hi fun u hu => ?_))
    rw [hB0, hs] at hu
    refine contains_ok hu (by omega) (fun c => xif_f (by decide) ?_) (fun c => xif_t rfl ?_)
    · rw [hy s hs2, ← hYX] at c
      have hple := rk_le (yB S X) i
      refine bit_ok (by omega) fun bi hbi => c_st r b3 ei hi fun u2 hu2 => ?_
      rw [hB0, hs] at hu2
      refine ren_ok (Z := X) (Or.inr ⟨s, hu2, by omega, fun i hi => hy i (by omega)⟩) fun u3 hu3 => ?_
      refine set_in hp (by simp [xlenc]; omega) (get_in ei (by simp [xlenc]; omega) ?_)
      have rd : (xst μ1 (1, 0, 9) (rk (yB S X) i) u3 (1, 0, 11) i) = μ1 (1, 0, 11) i := by
        rw [xst_rd, if_neg (fun q => by cases q.1)]
      rw [rd]
      have hpa : (μ1 (1, 0, 11) i).toInt = S.B 2 i := by
        have := r.2.2.2.2 2 (by omega) i hi
        rw [hB2] at this
        exact this
      have hbw : ∀ b, hasb (w ||| bi) b = (decide (b < i + 1) && yB S X b) := by
        intro b
        rw [hb_or, hw, hbi, ei]
        by_cases e : b = i
        · subst e; simp [c]
        · have : ¬ (b : Int) = (i : Int) := by omega
          by_cases e2 : b < i
          · have e3 : b < i + 1 := by omega
            simp [this, e2, e3]
          · have e3 : ¬ b < i + 1 := by omega
            simp [this, e2, e3]
      refine ren_ok (Z := yB S X) ?_ fun u4 hu4 => ?_
      · rw [hpa]
        rcases hI.par hi with z | z
        · exact Or.inl z
        · refine Or.inr ⟨(S.B 2 i).toNat, by omega, by omega, fun b hb => ?_⟩
          rw [hbw]
          have : b < i + 1 := by omega
          simp [this]
      · refine set_in hp (by simp [xlenc]; omega) ?_
        rw [nI_1]
        refine ih ((w ||| bi, p + 1), xst (xst μ1 (1, 0, 9) (rk (yB S X) i) u3) (1, 0, 11) (rk (yB S X) i) u4) ⟨hbw, ?_, fun q h9 h11 => ?_, ?_⟩
        · show (p + 1).toInt = _
          rw [rk_s c, ti_add (by rw [hp, ti_lit1]; omega) (by rw [hp, ti_lit1]; omega), hp, ti_lit1]
          omega
        · refine Eq.trans ?_ (e q h9 h11)
          funext k
          show xst (xst μ1 (1, 0, 9) (rk (yB S X) i) u3) (1, 0, 11) (rk (yB S X) i) u4 q k = μ1 q k
          rw [xst_rd, if_neg (fun z => h11 z.1), xst_rd, if_neg (fun z => h9 z.1)]
        · obtain ⟨r1, r2, r3, r4, r5⟩ := r
          refine ⟨by simp [xst_rd]; exact r1, by simp [xst_rd]; exact r2, by simp [xst_rd]; exact r3, fun k hk l hl => ?_, fun k hk b hb => ?_⟩
          · have this : (μ1 (1, 0, lcol k) l).toInt = S.L k l := r4 k hk l hl
            have hl := lcol_bd k
            show _ = S.L k l
            have n1 : ¬ lcol k = 9 := by omega
            have n2 : ¬ lcol k = 11 := by omega
            simpa [xst_rd, n1, n2] using this
          · have hx := r5 k hk b hb
            rw [kbS_B] at hx ⊢
            rw [hu2] at hu3
            rw [hpa] at hu4
            rcases (show k = 0 ∨ k = 1 ∨ k = 2 by omega) with rfl | rfl | rfl
            · rw [if_neg (by omega)] at hx ⊢
              rw [pak_s c]
              by_cases hbp : b = rk (yB S X) i
              · rw [if_pos hbp]
                have : newB S X 0 i = ren X (s : Int) := by rw [← hs]; rfl
                simp [xst_rd, hbp, hu3, this]
              · rw [if_neg hbp]
                simpa [xst_rd, hbp] using hx
            · rw [if_pos rfl] at hx ⊢
              simpa [xst_rd] using hx
            · rw [if_neg (by omega)] at hx ⊢
              rw [pak_s c]
              by_cases hbp : b = rk (yB S X) i
              · rw [if_pos hbp]
                have : newB S X 2 i = ren (yB S X) (S.B 2 i) := rfl
                simp [xst_rd, hbp, hu4, this]
              · rw [if_neg hbp]
                simpa [xst_rd, hbp] using hx
    · rw [hy s hs2, ← hYX] at c
      rw [nI_1]
      refine ih ((w, p), μ1) ⟨fun b => ?_, ?_, e, ?_⟩
      · rw [hw]
        by_cases e : b = i
        · subst e
          have : yB S X b = false := by simpa using c
          simp [this]
        · have : (decide (b < i)) = decide (b < i + 1) := decide_eq_decide.mpr (by omega)
          rw [this]
      · show p.toInt = _
        rw [rk_n c]
        exact hp
      · rw [kbS_n c]
        exact r
  · rintro ⟨⟨w, p⟩, μ1⟩ ⟨hw, hp, e, r⟩
    have ei : (nI S.nb).toInt = S.nb := nI_t (by omega)
    have hle := rk_le (yB S X) S.nb
    refine wX4_keepBoxes_8 (xif_t (by rw [ti_le, r.2.1, ei]; exact Int.le_refl _) (h w (xst μ1 (3, 0, 0) 1 p) (fun b hb => ?_) (fun q hq => ?_) ?_))
    · rw [hw]
      simp [hb]
    · funext k
      have n1 : ∀ c, 3 ≤ c → c < 12 → ¬ q = (1, 0, c) := fun c hc hc2 e => hq (Or.inr (by rw [e]; exact ⟨rfl, rfl, hc, hc2⟩))
      rw [xst_rd, if_neg (fun z => hq (Or.inl z.1))]
      exact congrFun (e q (n1 9 (by omega) (by omega)) (n1 11 (by omega) (by omega))) k
    · obtain ⟨r1, r2, r3, r4, r5⟩ := r
      refine ⟨by simp [xst_rd]; exact r1, by simp [xst_rd]; exact hp, by simp [xst_rd]; exact r3, fun k hk l hl => ?_, fun k hk b hb => ?_⟩
      · have this : (μ1 (1, 0, lcol k) l).toInt = S.L k l := r4 k hk l hl
        show _ = S.L k l
        simpa [xst_rd] using this
      · have hb : b < rk (yB S X) S.nb := hb
        have this : (μ1 (1, 0, 9 + k) b).toInt = (kbS S X S.nb).B k b := r5 k hk b (by show b < S.nb; omega)
        show _ = (kbS S X S.nb).B k b
        simpa [xst_rd] using this
def setLn (T : aS) (p : Nat) (f : Nat → Int) : aS := (T.1, T.F, fun c x => if x = p then f c else T.L c x, T.B)
theorem setLn_L (T : aS) (p : Nat) (f : Nat → Int) (c x : Nat) : (setLn T p f).L c x = if x = p then f c else T.L c x := rfl
theorem newL_k {l k : Nat} (hI : Inv S) (hl : l < S.nl) (hk : k < 3) : (k < tl S l ∧ newL S X (2 + k) l = ren X (S.L (2 + k) l) ∧ okLR l (S.L (2 + k) l)) ∨ (¬ k < tl S l ∧ newL S X (2 + k) l = ren (yB S X) (S.L (2 + k) l) ∧ okX S (S.L (2 + k) l)) := by
  rcases refcase (hI.2.2.2.2.2.1 l hl).2.2.1 hk with ⟨c1, c2, c3⟩ | ⟨c1, c2⟩ | ⟨c1, c2, c3⟩
  · exact Or.inl ⟨c1, by rw [newL_ref hk, if_neg (by rw [c3]; decide)], c2⟩
  · exact Or.inr ⟨c1, by rw [new_none hk c2, c2]; rfl, Or.inl c2⟩
  · exact Or.inr ⟨c1, by rw [newL_ref hk, if_pos c3], Or.inr ⟨c2.1, c2.2.1⟩⟩
set_option maxHeartbeats 1000000 in
theorem mv_ok {T : aS} {x q0 : Int32} {i p : Nat} {y w : Int64} (hr : repP μ 0 T) (hT : T.nl = S.nl) (hI : Inv S) (hx : x.toInt = i) (hi : i < S.nl) (hq : q0.toInt = p) (hp : p ≤ i) (hold : ∀ c, T.L c i = S.L c i) (hy : ∀ i, i < S.nl → hasb y i = X i) (hw : ∀ b, b < S.nb → hasb w b = yB S X b) (h : ∀ μ' : xM, (∀ q, ¬ ownP 0 q → μ' q = μ q) → repP μ' 0 (setLn T p fun c => newL S X c i) → Q none μ') : MW G (d + 3) mX4_moveLine [vR (3, 0, 0), vI x, vI q0, vL y, vL w] μ Q := by
  obtain ⟨b1, b2, b3⟩ := hI.bd
  have hTi : i < T.nl := by omega
  have hT48 : T.nl ≤ 48 := by omega
  have htl : tl T i = tl S i := by unfold tl; rw [hold]
  obtain ⟨r1, r2, r3, r4, r5⟩ := id hr
  have v0 : (μ (1, 0, 3) i).toInt = S.L 0 i := by have := r4 0 (by omega) i hTi; rw [hold] at this; exact this
  have v1 : (μ (1, 0, 4) i).toInt = S.L 1 i := by have := r4 1 (by omega) i hTi; rw [hold] at this; exact this
  have v2 : (μ (1, 0, 6) i).toInt = S.L 2 i := by have := r4 2 (by omega) i hTi; rw [hold] at this; exact this
  have v3 : (μ (1, 0, 7) i).toInt = S.L 3 i := by have := r4 3 (by omega) i hTi; rw [hold] at this; exact this
  have v4 : (μ (1, 0, 8) i).toInt = S.L 4 i := by have := r4 4 (by omega) i hTi; rw [hold] at this; exact this
  have v5 : (μ (1, 0, 5) i).toInt = S.L 5 i := by have := r4 5 (by omega) i hTi; rw [hold] at this; exact this
  have tl2 := tl_le S i
  have len : ∀ c, 3 ≤ c → c ≤ 8 → p < xlenc c ∧ i < xlenc c := by
    intro c h1 h2
    rcases (show c = 3 ∨ c = 4 ∨ c = 5 ∨ c = 6 ∨ c = 7 ∨ c = 8 by omega) with rfl | rfl | rfl | rfl | rfl | rfl <;> simp [xlenc] <;> omega
  have wY : ∀ v : Int32, okX S v.toInt → (v.toInt = -6 ∨ ∃ k : Nat, v.toInt = k ∧ k < 64 ∧ ∀ i, i < k → hasb w i = yB S X i) := by
    intro v hv
    rcases hv with z | z
    · exact Or.inl z
    · exact Or.inr ⟨v.toInt.toNat, by omega, by omega, fun j hj => hw j (by omega)⟩
  have wX : ∀ v : Int32, okLR i v.toInt → (v.toInt = -6 ∨ ∃ k : Nat, v.toInt = k ∧ k < 64 ∧ ∀ i, i < k → hasb y i = X i) := by
    intro v hv
    have h1 := hv.1
    have h2 := hv.2
    exact Or.inr ⟨v.toInt.toNat, by omega, by omega, fun j hj => hy j (by omega)⟩
  have k0 := newL_k (X := X) hI hi (k := 0) (by omega)
  have k1 := newL_k (X := X) hI hi (k := 1) (by omega)
  have k2 := newL_k (X := X) hI hi (k := 2) (by omega)
  have rd : ∀ (a b : Nat) (j : Nat) (v : Int32) (m : xM) (n : Nat), a ≠ b → xst m (1, 0, a) j v (1, 0, b) n = m (1, 0, b) n := by
    intro a b j v m n hab
    rw [xst_rd, if_neg (fun q => hab (by have := q.1; injection this with _ e; injection e with _ e; exact e.symm))]
  have fin : ∀ (u0 u2 u3 u4 u5 u1 : Int32), u0.toInt = newL S X 0 i → u2.toInt = newL S X 2 i → u3.toInt = newL S X 3 i → u4.toInt = newL S X 4 i → u5.toInt = newL S X 5 i → u1.toInt = newL S X 1 i → Q none (xst (xst (xst (xst (xst (xst μ (1, 0, 3) p u0) (1, 0, 6) p u2) (1, 0, 7) p u3) (1, 0, 8) p u4) (1, 0, 5) p u5) (1, 0, 4) p u1) := by
    intro u0 u2 u3 u4 u5 u1 e0 e2 e3 e4 e5 e1
    refine h _ (fun q hq => ?_) ⟨?_, ?_, ?_, fun k hk l hl' => ?_, fun k hk b hb => ?_⟩
    · funext j
      have n1 : ∀ c, 3 ≤ c → c < 12 → ¬ q = (1, 0, c) := fun c hc hc2 e => hq (Or.inr (by rw [e]; exact ⟨rfl, rfl, hc, hc2⟩))
      simp [xst_rd, n1 3 (by omega) (by omega), n1 4 (by omega) (by omega), n1 5 (by omega) (by omega), n1 6 (by omega) (by omega), n1 7 (by omega) (by omega), n1 8 (by omega) (by omega)]
    · simp [xst_rd]; exact r1
    · simp [xst_rd]; exact r2
    · simp [xst_rd]; exact r3
    · rw [setLn_L]
      have hl' : l < T.nl := hl'
      by_cases hln : l = p
      · subst hln
        rcases (show k = 0 ∨ k = 1 ∨ k = 2 ∨ k = 3 ∨ k = 4 ∨ k = 5 by omega) with rfl | rfl | rfl | rfl | rfl | rfl <;> simp [xst_rd, lcol] <;> assumption
      · have hx := r4 k hk l hl'
        rcases (show k = 0 ∨ k = 1 ∨ k = 2 ∨ k = 3 ∨ k = 4 ∨ k = 5 by omega) with rfl | rfl | rfl | rfl | rfl | rfl <;> simpa [xst_rd, lcol, hln] using hx
    · have := r5 k hk b hb
      show _ = T.B k b
      rcases (show k = 0 ∨ k = 1 ∨ k = 2 by omega) with rfl | rfl | rfl <;> simpa [xst_rd] using this
  have h5X : okX S (S.L 5 i) := hI.home hi
  have n5 : newL S X 5 i = ren (yB S X) (S.L 5 i) := by rw [newL, if_neg (by omega), if_pos rfl]
  have n0 : newL S X 0 i = S.L 0 i := if_pos (by omega)
  have n1 : newL S X 1 i = S.L 1 i := if_pos (by omega)
  have k2' : newL S X 4 i = ren (yB S X) (S.L 4 i) ∧ okX S (S.L 4 i) := by
    rcases k2 with z | z
    · omega
    · exact z.2
  have tail : ∀ (u0 u2 u3 : Int32), u0.toInt = newL S X 0 i → u2.toInt = newL S X 2 i → u3.toInt = newL S X 3 i → MW G (d + 2) mX5_get [vR (0, 0, 8), vI x] (xst (xst (xst μ (1, 0, 3) p u0) (1, 0, 6) p u2) (1, 0, 7) p u3) (xrI fun x17 μ16 => MW G (d + 2) mX4_renumbered [vI x17, vL w] μ16 (xrI fun x19 μ18 => MW G (d + 2) mX5_set [vR (0, 0, 8), vI q0, vI x19] μ18 (xrV fun μ20 => MW G (d + 2) mX5_get [vR (0, 0, 5), vI x] μ20 (xrI fun x22 μ21 => MW G (d + 2) mX4_renumbered [vI x22, vL w] μ21 (xrI fun x24 μ23 => MW G (d + 2) mX5_set [vR (0, 0, 5), vI q0, vI x24] μ23 (xrV fun μ25 => MW G (d + 2) mX5_get [vR (0, 0, 4), vI x] μ25 (xrI fun x27 μ26 => MW G (d + 2) mX5_set [vR (0, 0, 4), vI q0, vI x27] μ26 (xrV fun μ28 => Q none μ28)))))))) := by
    intro u0 u2 u3 e0 e2 e3
    refine get_in hx (len 8 (by omega) (by omega)).2 ?_
    rw [rd 7 8 _ _ _ _ (by omega), rd 6 8 _ _ _ _ (by omega), rd 3 8 _ _ _ _ (by omega)]
    refine ren_ok (Z := yB S X) (wY _ (by rw [v4]; exact k2'.2)) fun u4 hu4 => set_in hq (len 8 (by omega) (by omega)).1 (get_in hx (len 5 (by omega) (by omega)).2 ?_)
    rw [rd 8 5 _ _ _ _ (by omega), rd 7 5 _ _ _ _ (by omega), rd 6 5 _ _ _ _ (by omega), rd 3 5 _ _ _ _ (by omega)]
    refine ren_ok (Z := yB S X) (wY _ (by rw [v5]; exact h5X)) fun u5 hu5 => set_in hq (len 5 (by omega) (by omega)).1 (get_in hx (len 4 (by omega) (by omega)).2 ?_)
    rw [rd 5 4 _ _ _ _ (by omega), rd 8 4 _ _ _ _ (by omega), rd 7 4 _ _ _ _ (by omega), rd 6 4 _ _ _ _ (by omega), rd 3 4 _ _ _ _ (by omega)]
    refine set_in hq (len 4 (by omega) (by omega)).1 (fin u0 u2 u3 u4 u5 _ e0 e2 e3 ?_ ?_ ?_)
    · rw [hu4, v4, k2'.1]
    · rw [hu5, v5, n5]
    · rw [v1, n1]
  refine wX4_moveLine (clr_ok' hr hT48 hx hTi fun t ht => get_in hx (len 3 (by omega) (by omega)).2 (set_in hq (len 3 (by omega) (by omega)).1 (get_in hx (len 6 (by omega) (by omega)).2 ?_)))
  rw [htl] at ht
  rw [rd 3 6 _ _ _ _ (by omega)]
  have e0 : (μ (1, 0, 3) i).toInt = newL S X 0 i := by rw [v0, n0]
  rcases k0 with ⟨a1, a2, a3⟩ | ⟨a1, a2, a3⟩
  · refine xif_f (by rw [ti_le, ht, ti_lit0]; omega) (ren_ok (Z := X) (wX _ (by rw [v2]; exact a3)) fun u2 hu2 => set_in hq (len 6 (by omega) (by omega)).1 (get_in hx (len 7 (by omega) (by omega)).2 ?_))
    rw [v2] at hu2
    rw [rd 6 7 _ _ _ _ (by omega), rd 3 7 _ _ _ _ (by omega)]
    have e2 := hu2.trans a2.symm
    rcases k1 with ⟨c1, c2, c3⟩ | ⟨c1, c2, c3⟩
    · refine xif_f (by rw [ti_le, ht, ti_lit1]; omega) (ren_ok (Z := X) (wX _ (by rw [v3]; exact c3)) fun u3 hu3 => set_in hq (len 7 (by omega) (by omega)).1 ?_)
      rw [v3] at hu3
      exact tail _ u2 u3 e0 e2 (hu3.trans c2.symm)
    · refine xif_t (by rw [ti_le, ht, ti_lit1]; omega) (ren_ok (Z := yB S X) (wY _ (by rw [v3]; exact c3)) fun u3 hu3 => set_in hq (len 7 (by omega) (by omega)).1 ?_)
      rw [v3] at hu3
      exact tail _ u2 u3 e0 e2 (hu3.trans c2.symm)
  · refine xif_t (by rw [ti_le, ht, ti_lit0]; omega) (ren_ok (Z := yB S X) (wY _ (by rw [v2]; exact a3)) fun u2 hu2 => set_in hq (len 6 (by omega) (by omega)).1 (get_in hx (len 7 (by omega) (by omega)).2 ?_))
    rw [v2] at hu2
    rw [rd 6 7 _ _ _ _ (by omega), rd 3 7 _ _ _ _ (by omega)]
    have e2 := hu2.trans a2.symm
    rcases k1 with ⟨c1, c2, c3⟩ | ⟨c1, c2, c3⟩
    · omega
    · refine xif_t (by rw [ti_le, ht, ti_lit1]; omega) (ren_ok (Z := yB S X) (wY _ (by rw [v3]; exact c3)) fun u3 hu3 => set_in hq (len 7 (by omega) (by omega)).1 ?_)
      rw [v3] at hu3
      exact tail _ u2 u3 e0 e2 (hu3.trans c2.symm)
end
