/-! trim keeps what lines hold; a box that stays keeps its last line -/
section
variable {S : aS} {k : Nat}
theorem ndl_why (hI : Inv S) : ∀ (n : Nat) (X : Nat → Bool) (i : Nat), n ≤ S.nl → ndl S n X i = true → X i = true ∨ ∃ l', l' < n ∧ i < l' ∧ ndl S n X l' = true ∧ (drt S l' i = true ∨ ach S 5 (S.L 5 l') i = true)
  | 0, X, i, hn, h => Or.inl h
  | n + 1, X, i, hn, h => by
    have h0 := h
    unfold ndl at h
    have self : ∀ j, X j = true → ndl S (n + 1) X j = true := fun j hj => ndl_sub (n + 1) X j hj
    by_cases c : X n = true
    · rw [if_pos c] at h
      rcases ndl_why hI n _ i (by omega) h with z | ⟨l', z1, z2, z3, z4⟩
      · have z : (X i || (drt S n i || ach S 5 (S.L 5 n) i)) = true := z
        rw [Bool.or_eq_true, Bool.or_eq_true] at z
        rcases z with z | z
        · exact Or.inl z
        · by_cases e : i = n
          · rw [e]; exact Or.inl c
          · refine Or.inr ⟨n, by omega, ?_, self n c, z⟩
            rcases z with z | z
            · exact drt_lt hI (by omega) z
            · have := ach_home hI (l := n) (by omega) z; omega
      · refine Or.inr ⟨l', by omega, z2, ?_, z4⟩
        unfold ndl
        rw [if_pos c]; exact z3
    · rw [if_neg c] at h
      rcases ndl_why hI n _ i (by omega) h with z | ⟨l', z1, z2, z3, z4⟩
      · exact Or.inl z
      · refine Or.inr ⟨l', by omega, z2, ?_, z4⟩
        unfold ndl
        rw [if_neg c]; exact z3
theorem ach_scp (hI : Inv S) : ∀ (n : Nat) (x : Int) (i : Nat), okX S x → ach S n x i = true → ∃ b, b < S.nb ∧ scp S x b ∧ S.B 0 b = i
  | 0, x, i, hx, h => by cases h
  | n + 1, x, i, hx, h => by
    unfold ach at h
    rcases hx with z | z
    · rw [if_pos z] at h; cases h
    · rw [if_neg (by omega), Bool.or_eq_true] at h
      have hxb : x.toNat < S.nb := by omega
      rcases h with e | e
      · refine ⟨x.toNat, hxb, ?_, (of_decide_eq_true e).symm⟩
        have := scp_self (S := S) (b := x.toNat)
        rw [Int.toNat_of_nonneg z.1] at this
        exact this
      · obtain ⟨b, b1, b2, b3⟩ := ach_scp hI n _ i (hI.parX hxb) e
        exact ⟨b, b1, scp_up (by omega) b2, b3⟩
theorem last_in (hI : Inv S) (hs : Snd S) (hk : k < S.nl) (h6 : S.L 5 k = -6) {b : Nat} (hb : b < S.nb) (hcl : ∀ b, b < S.nb → ¬ S.B 1 b = -6) : ∀ (m l : Nat), k - l < m → needS S k l = true → scp S (S.L 5 l) b → needS S k (S.B 1 b).toNat = true := by
  obtain ⟨dp, h7⟩ := hI.2.2.2.2.2.2.1
  intro m
  induction m with
  | zero => intro l h; omega
  | succ m ih =>
    intro l hm hl hsc
    have hlk := need_le hI hk hl
    rcases ndl_why hI (k + 1) _ l (by omega) hl with z | ⟨l', z1, z2, z3, z4⟩
    · have : l = k := by simpa using z
      rw [this, h6] at hsc
      exact (scp_n6 hsc).elim
    · have z3 : needS S k l' = true := z3
      have hl' : l' < S.nl := by omega
      by_cases c : scp S (S.L 5 l') b
      · exact ih l' (by omega) z3 c
      · rcases z4 with z4 | z4
        · have z4' := z4
          unfold drt at z4
          rw [Bool.or_eq_true, Bool.or_eq_true] at z4
          obtain ⟨j, hj, hr⟩ : ∃ j, j < 3 ∧ rbit S l' j l = true := by
            rcases z4 with (z | z) | z
            · exact ⟨0, by omega, z⟩
            · exact ⟨1, by omega, z⟩
            · exact ⟨2, by omega, z⟩
          unfold rbit at hr
          rw [Bool.and_eq_true] at hr
          obtain ⟨r1, r2⟩ := hr
          have r1 : ¬ S.L (2 + j) l' = -6 := of_decide_eq_true r1
          have hre := (hs.1 l' hl').2 j hj
          by_cases q : isBx S l' j = true
          · rw [if_pos q, Bool.or_eq_true] at r2
            rcases refcase (hI.ref hl') hj with ⟨-, -, y⟩ | ⟨-, y⟩ | ⟨-, y, -⟩
            · rw [y] at q; cases q
            · exact absurd y r1
            · obtain ⟨y1, y2, y3, y4⟩ := y
              have hrn : (S.L (2 + j) l').toNat < S.nb := by omega
              have hL5 : S.L 5 l = ((S.L (2 + j) l').toNat : Nat) := by
                rcases r2 with r2 | r2
                · have := (h7 _ hrn).2.2.1
                  rw [← of_decide_eq_true r2, Int.toNat_natCast] at this
                  exact this
                · have := (hs.2 _ hrn).2 (hcl _ hrn)
                  rw [← of_decide_eq_true r2, Int.toNat_natCast] at this
                  exact this
              rw [hL5] at hsc
              rcases scp_cs hsc with w | ⟨-, w⟩
              · have e : (S.L (2 + j) l').toNat = b := by omega
                refine (need_clo hI hk z3).1 _ ?_
                have hb1 : rbit S l' j (S.B 1 b).toNat = true := by
                  obtain ⟨e1, he1, -⟩ := hI.be hb (hcl b hb)
                  unfold rbit
                  rw [q, decide_eq_true r1, e, he1]
                  simp
                unfold drt
                rcases (show j = 0 ∨ j = 1 ∨ j = 2 by omega) with rfl | rfl | rfl <;> rw [hb1] <;> simp
              · rw [Int.toNat_natCast] at w
                rcases hre with v | ⟨v, -⟩ | ⟨-, v⟩
                · exact absurd v r1
                · rw [q] at v; cases v
                · exact absurd (v.tr w) c
          · rw [if_neg q] at r2
            have r2 := of_decide_eq_true r2
            rcases hre with v | ⟨-, v⟩ | ⟨v, -⟩
            · exact absurd v r1
            · rw [← r2, Int.toNat_natCast] at v
              exact absurd (v.tr hsc) c
            · exact absurd v q
        · obtain ⟨b2, w1, w2, w3⟩ := ach_scp hI 5 _ l (hI.home hl') z4
          have := (h7 b2 w1).2.2.1
          rw [w3, Int.toNat_natCast] at this
          rw [this] at hsc
          exact absurd (w2.tr hsc) c
theorem last_kept (hI : Inv S) (hs : Snd S) (hk : k < S.nl) (h6 : S.L 5 k = -6) (hn : S.inn = -6) {b : Nat} (hb : b < S.nb) (hy : yB S (needS S k) b = true) : needS S k (S.B 1 b).toNat = true ∧ lastI (S.L 5) (S.B 2) (needS S k) b S.nl = S.B 1 b := by
  have hc := clo_need hI hk hn
  obtain ⟨dp, h7⟩ := hI.2.2.2.2.2.2.1
  have h1 : needS S k (S.B 1 b).toNat = true := by
    refine last_in hI hs hk h6 hb hc.2.2.2 (k - (S.B 0 b).toNat + 1) _ (Nat.lt_succ_self _) hy ?_
    rw [(h7 b hb).2.2.1]
    exact scp_self
  refine ⟨h1, ?_⟩
  obtain ⟨e, e1, e2, e3, e4, e5, e6⟩ := hc.last hI hb hy
  have h5 := (hs.2 b hb).2 (hc.2.2.2 b hb)
  have := e6 _ h1 (by rw [h5]; exact lies_self)
  rw [e1]
  omega
theorem Snd_trim (hI : Inv S) (hs : Snd S) (hk : k < S.nl) (h6 : S.L 5 k = -6) (hn : S.inn = -6) : Snd (trimS S (needS S k)) := by
  have hc := clo_need hI hk hn
  obtain ⟨dp, h7⟩ := hI.2.2.2.2.2.2.1
  generalize hXe : needS S k = X at hc
  have lk : ∀ b, b < S.nb → yB S X b = true → X (S.B 1 b).toNat = true ∧ lastI (S.L 5) (S.B 2) X b S.nl = S.B 1 b := by
    intro b hb hy
    rw [← hXe] at hy ⊢
    exact last_kept hI hs hk h6 hn hb hy
  have tL : ∀ {c l : Nat}, X l = true → (trimS S X).L c (rk X l) = newL S X c l := fun {c l} h => trim_L hc h
  have tB : ∀ {c b : Nat}, b < S.nb → yB S X b = true → (trimS S X).B c (rk (yB S X) b) = newB S X c b := fun {c b} h1 h2 => trim_B h1 h2
  have renN : ∀ {Y : Nat → Bool} {v : Int}, 0 ≤ v → ren Y v = (rk Y v.toNat : Int) := fun {Y v} h => by unfold ren; rw [if_neg (by omega)]
  have tB0 : ∀ {b : Nat}, b < S.nb → yB S X b = true → (trimS S X).B 0 (rk (yB S X) b) = (rk X (S.B 0 b).toNat : Int) := fun {b} h1 h2 => by rw [tB h1 h2]; exact newB_0 hI h1
  have tB1 : ∀ {b : Nat}, b < S.nb → yB S X b = true → (trimS S X).B 1 (rk (yB S X) b) = (rk X (S.B 1 b).toNat : Int) := by
    intro b h1 h2
    rw [tB h1 h2]
    show ren X (lastI (S.L 5) (S.B 2) X b S.nl) = _
    rw [(lk b h1 h2).2]
    obtain ⟨e, he, -⟩ := hI.be h1 (hc.2.2.2 b h1)
    exact renN (by omega)
  have tB2 : ∀ {b : Nat}, b < S.nb → yB S X b = true → (trimS S X).B 2 (rk (yB S X) b) = ren (yB S X) (S.B 2 b) := fun {b} h1 h2 => by rw [tB h1 h2]; rfl
  have t0 : ∀ {l : Nat}, X l = true → (trimS S X).L 0 (rk X l) = S.L 0 l := fun {l} h => tL h
  have t1 : ∀ {l : Nat}, X l = true → (trimS S X).L 1 (rk X l) = S.L 1 l := fun {l} h => tL h
  have t5 : ∀ {l : Nat}, X l = true → (trimS S X).L 5 (rk X l) = ren (yB S X) (S.L 5 l) := fun {l} h => tL h
  have tasm : ∀ {b : Nat}, b < S.nb → yB S X b = true → asm (trimS S X) (rk (yB S X) b) = asm S b := by
    intro b h1 h2
    show (trimS S X).L 0 ((trimS S X).B 0 _).toNat = _
    rw [tB0 h1 h2, Int.toNat_natCast, t0 h2]
  have tcon : ∀ {b : Nat}, b < S.nb → yB S X b = true → con (trimS S X) (rk (yB S X) b) = con S b := by
    intro b h1 h2
    show (trimS S X).L 0 ((trimS S X).B 1 _).toNat = _
    rw [tB1 h1 h2, Int.toNat_natCast, t0 (lk b h1 h2).1]
  -- boxes in reach
  have scN : ∀ {x y : Int}, (x = -6 ∨ (0 ≤ x ∧ x < S.nb ∧ yB S X x.toNat = true)) → (y = -6 ∨ (0 ≤ y ∧ y < S.nb ∧ yB S X y.toNat = true)) → scI S x y → scI (trimS S X) (ren (yB S X) x) (ren (yB S X) y) := by
    intro x y hx hy h
    rcases hy with rfl | ⟨y1, y2, y3⟩
    · exact Or.inl rfl
    · rcases h with h | ⟨-, n, h⟩
      · omega
      · refine Or.inr ⟨by rw [renN y1]; omega, n, ?_⟩
        rw [renN y1, Int.toNat_natCast]
        rw [lies_new hI hc (P' := (trimS S X).B 2) (fun b h1 h2 => tB2 h1 h2) (b := y.toNat) (by omega) y3 n x hx]
        exact h
  have homeY : ∀ {l : Nat}, X l = true → (S.L 5 l = -6 ∨ (0 ≤ S.L 5 l ∧ S.L 5 l < S.nb ∧ yB S X (S.L 5 l).toNat = true)) := by
    intro l hl
    rcases hI.home (hc.1 l hl) with z | z
    · exact Or.inl z
    · exact Or.inr ⟨z.1, z.2, hc.home hl (b := (S.L 5 l).toNat) (by omega) (by omega)⟩
  have parY : ∀ {b : Nat}, b < S.nb → yB S X b = true → (S.B 2 b = -6 ∨ (0 ≤ S.B 2 b ∧ S.B 2 b < S.nb ∧ yB S X (S.B 2 b).toNat = true)) := by
    intro b h1 h2
    by_cases z : S.B 2 b = -6
    · exact Or.inl z
    · obtain ⟨w1, w2, w3⟩ := hc.par hI h1 h2 z
      exact Or.inr ⟨w1, by omega, w3⟩
  refine ⟨fun i hi => ?_, fun j hj => ?_⟩
  · obtain ⟨l, hl, hx, rfl⟩ := sel_ex S.nl (show i < rk X S.nl from hi)
    obtain ⟨hfit, hre⟩ := hs.1 l hl
    have hok := hI.ref hl
    have bxE : ∀ j, isBx (trimS S X) (rk X l) j = isBx S l j := fun j => by
      unfold isBx
      rw [t1 hx]
    have nl2 : ∀ j, j < 3 → (trimS S X).L (2 + j) (rk X l) = if isBx S l j = true then ren (yB S X) (S.L (2 + j) l) else ren X (S.L (2 + j) l) := fun j hj => by rw [tL hx]; exact newL_ref hj
    -- a line it refers to, a box it refers to
    have ln : ∀ j, j < 3 → isBx S l j = false → okLR l (S.L (2 + j) l) → (trimS S X).L (2 + j) (rk X l) = (rk X (S.L (2 + j) l).toNat : Int) ∧ X (S.L (2 + j) l).toNat = true := by
      intro j hj hb hr
      rw [nl2 j hj, if_neg (by rw [hb]; decide), renN hr.1]
      exact ⟨rfl, ref_X hc hx hj hb hr⟩
    have bn : ∀ j, j < 3 → isBx S l j = true → okBR S l (S.L (2 + j) l) → (trimS S X).L (2 + j) (rk X l) = (rk (yB S X) (S.L (2 + j) l).toNat : Int) ∧ yB S X (S.L (2 + j) l).toNat = true ∧ (S.L (2 + j) l).toNat < S.nb := by
      intro j hj hb hr
      rw [nl2 j hj, if_pos hb, renN hr.1]
      have := hr.1
      have := hr.2.1
      exact ⟨rfl, ref_Y hI hc hx hj hb hr, by omega⟩
    refine ⟨?_, fun j hj => ?_⟩
    · obtain ⟨f1, f2, f3, f4, f5, f6, f7, f8, f9, f10, f11, f12, f13⟩ := hfit
      unfold fitL
      rw [t0 hx, t1 hx, t5 hx]
      have bxf : ∀ j, isBx S l j = decide (S.L 1 l = 8 ∨ S.L 1 l = 10 ∨ (S.L 1 l = 7 ∧ 0 < j)) := by
        intro j
        unfold isBx
        by_cases q8 : S.L 1 l = 8 <;> by_cases q10 : S.L 1 l = 10 <;> by_cases q7 : S.L 1 l = 7 <;> simp [q8, q10, q7]
      have eF : (trimS S X).F = S.F := rfl
      have k := okRV_k (okRef_RV hok)
      have la : (S.L 1 l = 2 ∨ S.L 1 l = 3 ∨ S.L 1 l = 4 ∨ S.L 1 l = 5 ∨ S.L 1 l = 6 ∨ S.L 1 l = 7 ∨ S.L 1 l = 9 ∨ S.L 1 l = 11 ∨ S.L 1 l = 12 ∨ S.L 1 l = 13) → (trimS S X).L 0 ((trimS S X).L 2 (rk X l)).toNat = S.L 0 (S.L 2 l).toNat := by
        intro q
        obtain ⟨g1, g2⟩ := ln 0 (by omega) (by rw [bxf]; simp; omega) (k.1 q)
        rw [show (trimS S X).L 2 (rk X l) = (rk X (S.L 2 l).toNat : Int) from g1, Int.toNat_natCast]
        exact t0 g2
      have lb : (S.L 1 l = 3 ∨ S.L 1 l = 9 ∨ S.L 1 l = 11) → (trimS S X).L 0 ((trimS S X).L 3 (rk X l)).toNat = S.L 0 (S.L 3 l).toNat := by
        intro q
        obtain ⟨g1, g2⟩ := ln 1 (by omega) (by rw [bxf]; simp; omega) (k.2.1 q)
        rw [show (trimS S X).L 3 (rk X l) = (rk X (S.L 3 l).toNat : Int) from g1, Int.toNat_natCast]
        exact t0 g2
      have ba : (S.L 1 l = 8 ∨ S.L 1 l = 10) → asm (trimS S X) ((trimS S X).L 2 (rk X l)).toNat = asm S (S.L 2 l).toNat ∧ con (trimS S X) ((trimS S X).L 2 (rk X l)).toNat = con S (S.L 2 l).toNat := by
        intro q
        obtain ⟨g1, g2, g3⟩ := bn 0 (by omega) (by rw [bxf]; simp; omega) (k.2.2.2 q)
        rw [show (trimS S X).L 2 (rk X l) = (rk (yB S X) (S.L 2 l).toNat : Int) from g1, Int.toNat_natCast]
        exact ⟨tasm g3 g2, tcon g3 g2⟩
      have bb : S.L 1 l = 7 → asm (trimS S X) ((trimS S X).L 3 (rk X l)).toNat = asm S (S.L 3 l).toNat ∧ con (trimS S X) ((trimS S X).L 3 (rk X l)).toNat = con S (S.L 3 l).toNat := by
        intro q
        obtain ⟨g1, g2, g3⟩ := bn 1 (by omega) (by rw [bxf]; simp; omega) (k.2.2.1 q).1
        rw [show (trimS S X).L 3 (rk X l) = (rk (yB S X) (S.L 3 l).toNat : Int) from g1, Int.toNat_natCast]
        exact ⟨tasm g3 g2, tcon g3 g2⟩
      have bc : S.L 1 l = 7 → asm (trimS S X) ((trimS S X).L 4 (rk X l)).toNat = asm S (S.L 4 l).toNat ∧ con (trimS S X) ((trimS S X).L 4 (rk X l)).toNat = con S (S.L 4 l).toNat := by
        intro q
        obtain ⟨g1, g2, g3⟩ := bn 2 (by omega) (by rw [bxf]; simp; omega) (k.2.2.1 q).2
        rw [show (trimS S X).L 4 (rk X l) = (rk (yB S X) (S.L 4 l).toNat : Int) from g1, Int.toNat_natCast]
        exact ⟨tasm g3 g2, tcon g3 g2⟩
      refine ⟨fun q => ?_, fun q => ?_, fun q => ?_, fun q => ?_, fun q => ?_, fun q => ?_, fun q => ?_, fun q => ?_, fun q => ?_, fun q => ?_, fun q => ?_, fun q => ?_, fun q => ?_⟩
      · obtain ⟨g1, g2⟩ := f1 q
        rcases homeY hx with z | ⟨z1, z2, z3⟩
        · omega
        · rw [renN z1]
          refine ⟨by omega, ?_⟩
          rw [Int.toNat_natCast, tB0 (by omega) z3, g2, Int.toNat_natCast]
      · rw [la (by omega)]; exact f2 q
      · rw [la (by omega), lb (by omega), eF]; exact f3 q
      · rw [la (by omega), eF]; exact f4 q
      · rw [la (by omega), eF]; exact f5 q
      · rw [la (by omega), eF]; exact f6 q
      · rw [la (by omega), (bb q).1, (bb q).2, (bc q).1, (bc q).2, eF]; exact f7 q
      · rw [(ba (by omega)).1, (ba (by omega)).2, eF]; exact f8 q
      · rw [la (by omega), lb (by omega), eF]; exact f9 q
      · rw [(ba (by omega)).1, (ba (by omega)).2, eF]; exact f10 q
      · rw [la (by omega), lb (by omega), eF]; exact f11 q
      · rw [la (by omega), eF]; exact f12 q
      · rw [la (by omega), eF]; exact f13 q
    · rw [t5 hx, bxE]
      rcases refcase hok hj with ⟨-, z, y⟩ | ⟨-, z⟩ | ⟨-, z, y⟩
      · obtain ⟨g1, g2⟩ := ln j hj y z
        rcases hre j hj with w | ⟨-, w⟩ | ⟨w, -⟩
        · have := z.1; omega
        · refine Or.inr (Or.inl ⟨y, ?_⟩)
          rw [g1, Int.toNat_natCast, t5 g2]
          exact scN (homeY hx) (homeY g2) w
        · rw [y] at w; cases w
      · refine Or.inl ?_
        rw [nl2 j hj, z]
        split <;> rfl
      · obtain ⟨g1, g2, g3⟩ := bn j hj y z
        rcases hre j hj with w | ⟨w, -⟩ | ⟨-, w⟩
        · have := z.1; omega
        · rw [y] at w; cases w
        · refine Or.inr (Or.inr ⟨y, ?_⟩)
          rw [g1, Int.toNat_natCast, tB2 g3 g2]
          exact scN (homeY hx) (parY g3 g2) w
  · obtain ⟨b, hb, hy, rfl⟩ := sel_ex S.nb (show j < rk (yB S X) S.nb from hj)
    obtain ⟨g1, g2⟩ := hs.2 b hb
    refine ⟨?_, fun _ => ?_⟩
    · rw [tB0 hb hy, Int.toNat_natCast, t1 hy]; exact g1
    · rw [tB1 hb hy, Int.toNat_natCast, t5 (lk b hb hy).1, g2 (hc.2.2.2 b hb), renN (by omega), Int.toNat_natCast]
end
