/-! shorten: what lines hold is kept; the law's shorten -/
section
variable {S : aS} {l : Nat} {f r h a b c : Int}
theorem fit_a {a' : Int} (hv : fitV S l f r h a b c) (e : S.L 0 a'.toNat = S.L 0 a.toNat) (n8 : ¬ (r = 8 ∨ r = 10)) : fitV S l f r h a' b c := by
  obtain ⟨f1, f2, f3, f4, f5, f6, f7, f8, f9, f10, f11, f12, f13⟩ := hv
  refine ⟨f1, ?_, ?_, ?_, ?_, ?_, ?_, fun q => absurd (Or.inl q) n8, ?_, fun q => absurd (Or.inr q) n8, ?_, ?_, ?_⟩ <;> rw [e] <;> assumption
theorem fit_b {b' : Int} (hv : fitV S l f r h a b c) (e : S.L 0 b'.toNat = S.L 0 b.toNat) (n7 : ¬ r = 7) : fitV S l f r h a b' c := by
  obtain ⟨f1, f2, f3, f4, f5, f6, f7, f8, f9, f10, f11, f12, f13⟩ := hv
  refine ⟨f1, f2, ?_, f4, f5, f6, fun q => absurd q n7, f8, ?_, f10, ?_, f12, f13⟩ <;> rw [e] <;> assumption
theorem tl_r (hI : Inv S) (hl : l < S.nl) : (0 < tl S l ↔ ¬ (S.L 1 l = 8 ∨ S.L 1 l = 10) ∧ ¬ S.L 2 l = -6) ∧ (1 < tl S l ↔ ¬ S.L 1 l = 7 ∧ ¬ S.L 3 l = -6) := by
  rcases hI.ref hl with ⟨h1, h2, h3, h4⟩ | ⟨h1, h2, h3, h4⟩ | ⟨h1, h2, h3, h4⟩ | ⟨h1, h2, h3, h4⟩ | ⟨h1, h2, h3, h4⟩
  · have : tl S l = 0 := by unfold tl; rw [if_neg (by omega), if_neg (by omega)]
    omega
  · have : tl S l = 2 := by unfold tl; rw [if_pos (by omega)]
    have := h2.1
    have := h3.1
    omega
  · have : tl S l = 1 := by unfold tl; rw [if_neg (by omega), if_pos (by omega)]
    have := h2.1
    omega
  · have : tl S l = 1 := by unfold tl; rw [if_neg (by omega), if_pos (by omega)]
    have := h2.1
    omega
  · have : tl S l = 0 := by unfold tl; rw [if_neg (by omega), if_neg (by omega)]
    omega
theorem isBx_tl (hI : Inv S) (hl : l < S.nl) {k : Nat} (hk : k < 3) (ht : k < tl S l) : isBx S l k = false := by
  rcases refcase (hI.ref hl) hk with ⟨-, -, z⟩ | ⟨z, -⟩ | ⟨z, -⟩
  · exact z
  · exact absurd ht z
  · exact absurd ht z
theorem byp_snd (hI : Inv S) (hs : Snd S) {m : Nat} (hm : m < S.nl) (hb : ¬ byp S m = -6) : okLR m (byp S m) ∧ S.L 0 (byp S m).toNat = S.L 0 m ∧ scI S (S.L 5 m) (S.L 5 (byp S m).toNat) := by
  have hlr : okLR m (byp S m) := by
    rcases byp_ok (S := S) (l := m) (fun k hk => hI.ref (by omega)) with z | z
    · exact absurd z hb
    · exact z
  refine ⟨hlr, ?_⟩
  have line : ∀ {x k : Nat}, x < S.nl → k < 3 → k < tl S x → okLR x (S.L (2 + k) x) → scI S (S.L 5 x) (S.L 5 (S.L (2 + k) x).toNat) := by
    intro x k hx hk ht hr
    have hbx := isBx_tl hI hx hk ht
    rcases (hs.1 x hx).2 k hk with z | ⟨-, z⟩ | ⟨z, -⟩
    · have := hr.1; omega
    · exact z
    · rw [hbx] at z; cases z
  unfold byp at hb ⊢
  by_cases c2 : S.L 1 m = 2
  · rw [if_pos c2] at hb ⊢
    obtain ⟨f1, f2, f3⟩ := (hs.1 m hm).1
    have ht : 0 < tl S m := (tl_r hI hm).1.mpr ⟨by omega, hb⟩
    have hr : okLR m (S.L (2 + 0) m) := by
      rcases refcase (hI.ref hm) (k := 0) (by omega) with ⟨-, z, -⟩ | ⟨z, -⟩ | ⟨z, -⟩
      · exact z
      · exact absurd ht z
      · exact absurd ht z
    exact ⟨(f2 c2).symm, line hm (by omega) ht hr⟩
  · rw [if_neg c2] at hb ⊢
    have two : (S.L 1 m = 4 ∨ S.L 1 m = 5) → S.L 1 (S.L 2 m).toNat = 3 → ∃ j : Nat, S.L 2 m = j ∧ j < m ∧ okLR j (S.L 2 j) ∧ okLR j (S.L 3 j) ∧ scI S (S.L 5 m) (S.L 5 j) ∧ scI S (S.L 5 j) (S.L 5 (S.L 2 j).toNat) ∧ scI S (S.L 5 j) (S.L 5 (S.L 3 j).toNat) := by
      intro c c3
      have hsrc := (hI.ref hm).src c
      obtain ⟨s1, s2⟩ := hsrc
      have hj : (S.L 2 m).toNat < S.nl := by omega
      have htm : 0 < tl S m := (tl_r hI hm).1.mpr ⟨by omega, by omega⟩
      have sc := line (k := 0) hm (by omega) htm ⟨s1, s2⟩
      have h3 : okLR (S.L 2 m).toNat (S.L 2 (S.L 2 m).toNat) ∧ okLR (S.L 2 m).toNat (S.L 3 (S.L 2 m).toNat) := by
        rcases hI.ref hj with ⟨g1, g2, g3, g4⟩ | ⟨g1, g2, g3, g4⟩ | ⟨g1, g2, g3, g4⟩ | ⟨g1, g2, g3, g4⟩ | ⟨g1, g2, g3, g4⟩
        · omega
        · exact ⟨g2, g3⟩
        · omega
        · omega
        · omega
      have a1 := h3.1.1
      have b1 := h3.2.1
      have htj := tl_r hI hj
      exact ⟨(S.L 2 m).toNat, by omega, by omega, h3.1, h3.2, sc, line (k := 0) hj (by omega) (htj.1.mpr ⟨by omega, by omega⟩) h3.1, line (k := 1) hj (by omega) (htj.2.mpr ⟨by omega, by omega⟩) h3.2⟩
    by_cases c4 : S.L 1 m = 4 ∧ S.L 1 (S.L 2 m).toNat = 3
    · rw [if_pos c4] at hb ⊢
      obtain ⟨j, j1, j2, j3, j4, j5, j6, j7⟩ := two (Or.inl c4.1) c4.2
      have hj : j < S.nl := by omega
      obtain ⟨-, -, -, f4, -⟩ := (hs.1 m hm).1
      obtain ⟨-, -, g3, -⟩ := (hs.1 j hj).1
      have c3 := c4.2
      rw [j1, Int.toNat_natCast] at c3 ⊢
      obtain ⟨q1, q2⟩ := f4 c4.1
      obtain ⟨p1, p2, p3⟩ := g3 c3
      rw [j1, Int.toNat_natCast] at q2
      exact ⟨by rw [← p2, q2], j5.tr2 j6⟩
    · rw [if_neg c4] at hb ⊢
      by_cases c5 : S.L 1 m = 5 ∧ S.L 1 (S.L 2 m).toNat = 3
      · rw [if_pos c5] at hb ⊢
        obtain ⟨j, j1, j2, j3, j4, j5, j6, j7⟩ := two (Or.inr c5.1) c5.2
        have hj : j < S.nl := by omega
        obtain ⟨-, -, -, -, f5, -⟩ := (hs.1 m hm).1
        obtain ⟨-, -, g3, -⟩ := (hs.1 j hj).1
        have c3 := c5.2
        rw [j1, Int.toNat_natCast] at c3 ⊢
        obtain ⟨q1, q2⟩ := f5 c5.1
        obtain ⟨p1, p2, p3⟩ := g3 c3
        rw [j1, Int.toNat_natCast] at q2
        exact ⟨by rw [← p3, q2], j5.tr2 j7⟩
      · rw [if_neg c5] at hb
        exact absurd rfl hb
theorem fol_snd (hI : Inv S) (hs : Snd S) : ∀ (n : Nat) (x : Int), 0 ≤ x → x < S.nl → S.L 0 (fol S n x).toNat = S.L 0 x.toNat ∧ scI S (S.L 5 x.toNat) (S.L 5 (fol S n x).toNat)
  | 0, x, h0, h1 => ⟨rfl, scI.rf (hI.L5 (by omega))⟩
  | n + 1, x, h0, h1 => by
    unfold fol
    by_cases c : byp S x.toNat = -6
    · rw [if_pos c]; exact ⟨rfl, scI.rf (hI.L5 (by omega))⟩
    · rw [if_neg c]
      obtain ⟨g1, g2, g3⟩ := byp_snd hI hs (show x.toNat < S.nl by omega) c
      have i1 := g1.1
      have i2 := g1.2
      obtain ⟨k1, k2⟩ := fol_snd hI hs n (byp S x.toNat) i1 (by omega)
      exact ⟨by rw [k1, g2], g3.tr2 k2⟩
theorem Snd_setR {c : Nat} {v : Int} (hI : Inv S) (hs : Snd S) (hl : l < S.nl) (hc : c < tl S l) (hv : okLR l v) (e0 : S.L 0 v.toNat = S.L 0 (S.L (2 + c) l).toNat) (e5 : scI S (S.L 5 l) (S.L 5 v.toNat)) : Snd (setR S l c v) := by
  have ht2 := tl_le S l
  have hc2 : c < 2 := by omega
  have hbx := isBx_tl hI hl (by omega) hc
  have L0 : ∀ k, k < 2 ∨ k = 5 → ∀ x, (setR S l c v).L k x = S.L k x := fun k hk x => by rw [setR_L, if_neg (by omega)]
  refine ⟨fun x hx => ?_, fun y hy => ?_⟩
  · have hx : x < S.nl := hx
    obtain ⟨h1, h2⟩ := hs.1 x hx
    obtain ⟨A, hA, hA2⟩ := hI.lf hx
    have hh : S.L 1 x = 1 → S.L 5 x < S.nb := fun q => by
      have := (h1.1 q).1
      rcases hI.home hx with z | z <;> omega
    have hok := hI.ref hx
    refine ⟨?_, fun k hk => ?_⟩
    · unfold fitL
      rw [L0 0 (by omega), L0 1 (by omega), L0 5 (by omega)]
      by_cases hxl : x = l
      · subst hxl
        have hr := (tl_r hI hx)
        rcases (show c = 0 ∨ c = 1 by omega) with rfl | rfl
        · have n8 := (hr.1.mp hc).1
          rw [setR_L, if_pos ⟨rfl, rfl⟩, setR_L, if_neg (by omega), setR_L, if_neg (by omega)]
          have hrv : okRV S x (S.L 1 x) v (S.L 3 x) (S.L 4 x) := by
            rcases hok with ⟨g1, g2, g3, g4⟩ | ⟨g1, g2, g3, g4⟩ | ⟨g1, g2, g3, g4⟩ | ⟨g1, g2, g3, g4⟩ | ⟨g1, g2, g3, g4⟩
            · exact absurd g2 (hr.1.mp hc).2
            · exact Or.inr (Or.inl ⟨g1, hv, g3, g4⟩)
            · exact Or.inr (Or.inr (Or.inl ⟨g1, hv, g3, g4⟩))
            · exact Or.inr (Or.inr (Or.inr (Or.inl ⟨g1, hv, g3, g4⟩)))
            · exact absurd g1 n8
          exact fitV_cg (S' := setR S x 0 v) hI hrv (by omega) ⟨by omega, by omega⟩ hh (fun _ _ _ => rfl) (fun y _ => L0 0 (by omega) y) (fun _ _ => rfl) (fun _ _ _ => rfl) (fit_a h1 e0 n8)
        · have n7 := (hr.2.mp hc).1
          rw [setR_L, if_neg (by omega), setR_L, if_pos ⟨rfl, rfl⟩, setR_L, if_neg (by omega)]
          have hrv : okRV S x (S.L 1 x) (S.L 2 x) v (S.L 4 x) := by
            rcases hok with ⟨g1, g2, g3, g4⟩ | ⟨g1, g2, g3, g4⟩ | ⟨g1, g2, g3, g4⟩ | ⟨g1, g2, g3, g4⟩ | ⟨g1, g2, g3, g4⟩
            · exact absurd g3 (hr.2.mp hc).2
            · exact Or.inr (Or.inl ⟨g1, g2, hv, g4⟩)
            · exact absurd g3 (hr.2.mp hc).2
            · exact absurd g1 n7
            · exact absurd g3 (hr.2.mp hc).2
          exact fitV_cg (S' := setR S x 1 v) hI hrv (by omega) ⟨by omega, by omega⟩ hh (fun _ _ _ => rfl) (fun y _ => L0 0 (by omega) y) (fun _ _ => rfl) (fun _ _ _ => rfl) (fit_b h1 e0 n7)
      · have L2 : ∀ k, (setR S l c v).L k x = S.L k x := fun k => by rw [setR_L, if_neg (fun z => hxl z.2)]
        rw [L2, L2, L2]
        exact fitV_cg (S' := setR S l c v) hI (okRef_RV hok) (by omega) ⟨by omega, by omega⟩ hh (fun _ _ _ => rfl) (fun y _ => L0 0 (by omega) y) (fun _ _ => rfl) (fun _ _ _ => rfl) h1
    · have eb : isBx (setR S l c v) x k = isBx S x k := by
        unfold isBx
        rw [L0 1 (by omega)]
      rw [eb, L0 5 (by omega), setR_L]
      by_cases q : 2 + k = 2 + c ∧ x = l
      · obtain ⟨q1, q2⟩ := q
        have q1 : k = c := by omega
        subst q1
        subst q2
        rw [if_pos ⟨rfl, rfl⟩]
        refine Or.inr (Or.inl ⟨hbx, ?_⟩)
        rw [L0 5 (by omega)]
        exact e5
      · rw [if_neg q]
        exact reach_cg (S' := setR S l c v) hI (fun y _ => L0 5 (by omega) y) (fun _ _ => rfl) (hI.home hx) (hI.rk hx hk) (h2 k hk)
  · have hy : y < S.nb := hy
    obtain ⟨g1, g2⟩ := hs.2 y hy
    refine ⟨?_, fun hcl => ?_⟩
    · rw [L0 1 (by omega)]; exact g1
    · rw [L0 5 (by omega)]; exact g2 hcl
theorem Snd_shK {p : aN} {c : Nat} (hI : Inv p.1) (hs : Snd p.1) (hl : l < p.1.nl) : Snd (shK p l c).1 := by
  unfold shK
  split
  · rename_i hlt
    have ht2 := tl_le p.1 l
    have hbx := isBx_tl hI hl (by omega) hlt
    rcases refcase (hI.ref hl) (k := c) (by omega) with ⟨c1, c2, c3⟩ | ⟨c1, c2⟩ | ⟨c1, c2⟩
    · have i1 := c2.1
      have i2 := c2.2
      obtain ⟨k1, k2⟩ := fol_snd hI hs 48 _ i1 (by omega)
      refine Snd_setR hI hs hl hlt (fol_ok (fun k hk => hI.ref (by omega)) _ _ c2) k1 ?_
      rcases (hs.1 l hl).2 c (by omega) with z | ⟨-, z⟩ | ⟨z, -⟩
      · omega
      · exact z.tr2 k2
      · rw [hbx] at z; cases z
    · exact absurd hlt c1
    · exact absurd hlt c1
  · exact hs
theorem Snd_shA (hI : Inv S) (hs : Snd S) : ∀ l, l ≤ S.nl → Snd (shA (S, 0) l).1
  | 0, _ => hs
  | l + 1, hl => by
    have h1 := shA_ok hI l (by omega)
    have i1 := Snd_shA hI hs l (by omega)
    have n1 : (shA (S, 0) l).1.nl = S.nl := by show (shA (S, 0) l).1.1.2.1 = _; rw [h1.2.1]
    have h2 := shK_ok (c := 0) h1 (show l < S.nl by omega) (by omega)
    have i2 := Snd_shK (c := 0) h1.1 i1 (show l < (shA (S, 0) l).1.nl by omega)
    have n2 : (shK (shA (S, 0) l) l 0).1.nl = S.nl := by show (shK (shA (S, 0) l) l 0).1.1.2.1 = _; rw [h2.2.1]
    exact Snd_shK (c := 1) h2.1 i2 (by omega)
-- a later line's references don't matter
theorem byp_cg {S' : aS} (hI : Inv S) (e : ∀ k x, x < l → S'.L k x = S.L k x) {x : Nat} (hx : x < l) (hl : l ≤ S.nl) : byp S' x = byp S x := by
  have hok := hI.ref (show x < S.nl by omega)
  have src : S.L 1 x = 4 ∨ S.L 1 x = 5 → (S.L 2 x).toNat < l := by
    intro c
    obtain ⟨s1, s2⟩ := hok.src c
    omega
  unfold byp
  rw [e 1 x hx, e 2 x hx]
  by_cases c2 : S.L 1 x = 2
  · rw [if_pos c2, if_pos c2]
  · rw [if_neg c2, if_neg c2]
    by_cases c4 : S.L 1 x = 4 ∨ S.L 1 x = 5
    · have := src c4
      rw [e 1 _ this, e 2 _ this, e 3 _ this]
    · rw [if_neg (fun z => c4 (Or.inl z.1)), if_neg (fun z => c4 (Or.inr z.1)), if_neg (fun z => c4 (Or.inl z.1)), if_neg (fun z => c4 (Or.inr z.1))]
theorem fol_cg {S' : aS} (hI : Inv S) (e : ∀ k x, x < l → S'.L k x = S.L k x) (hl : l ≤ S.nl) : ∀ (n : Nat) (x : Int), okLR l x → fol S' n x = fol S n x
  | 0, x, hx => rfl
  | n + 1, x, hx => by
    have i1 := hx.1
    have i2 := hx.2
    unfold fol
    rw [byp_cg hI e (show x.toNat < l by omega) hl]
    by_cases c : byp S x.toNat = -6
    · rw [if_pos c, if_pos c]
    · rw [if_neg c, if_neg c]
      rcases byp_ok (S := S) (l := x.toNat) (fun k hk => hI.ref (by omega)) with z | z
      · exact absurd z c
      · have z1 := z.1
        have z2 := z.2
        exact fol_cg hI e hl n _ ⟨z1, by omega⟩
theorem fol_fuel (hI : Inv S) : ∀ (n m : Nat) (x : Int), 0 ≤ x → x < S.nl → x < n → x < m → fol S n x = fol S m x
  | 0, m, x, h0, h1, h2, h3 => by omega
  | n + 1, 0, x, h0, h1, h2, h3 => by omega
  | n + 1, m + 1, x, h0, h1, h2, h3 => by
    unfold fol
    by_cases c : byp S x.toNat = -6
    · rw [if_pos c, if_pos c]
    · rw [if_neg c, if_neg c]
      rcases byp_ok (S := S) (l := x.toNat) (fun k hk => hI.ref (by omega)) with z | z
      · exact absurd z c
      · have z1 := z.1
        have z2 := z.2
        exact fol_fuel hI n m _ z1 (by omega) (by omega) (by omega)
end
