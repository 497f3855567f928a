/-! trim: what stays, and what it becomes -/
theorem rk_le (X : Nat → Bool) : ∀ n, rk X n ≤ n
  | 0 => Nat.le_refl _
  | n + 1 => by
    unfold rk
    have := rk_le X n
    split <;> omega
theorem rk_mono (X : Nat → Bool) {m : Nat} : ∀ n, m ≤ n → rk X m ≤ rk X n
  | 0, h => by rw [show m = 0 by omega]; exact Nat.le_refl _
  | n + 1, h => by
    by_cases e : m = n + 1
    · rw [e]; exact Nat.le_refl _
    · have := rk_mono X n (show m ≤ n by omega)
      show _ ≤ if X n = true then rk X n + 1 else rk X n
      split <;> omega
theorem rk_s {X : Nat → Bool} {n : Nat} (h : X n = true) : rk X (n + 1) = rk X n + 1 := if_pos h
theorem rk_n {X : Nat → Bool} {n : Nat} (h : ¬ X n = true) : rk X (n + 1) = rk X n := if_neg h
theorem rk_lt {X : Nat → Bool} {m n : Nat} (h : m < n) (hm : X m = true) : rk X m < rk X n := by
  have := rk_mono X n (show m + 1 ≤ n by omega)
  rw [rk_s hm] at this
  omega
theorem rk_inj {X : Nat → Bool} {a b : Nat} (ha : X a = true) (hb : X b = true) (h : rk X a = rk X b) : a = b := by
  rcases Nat.lt_trichotomy a b with z | z | z
  · have := rk_lt z ha; omega
  · exact z
  · have := rk_lt z hb; omega
theorem rk_cg {X Y : Nat → Bool} : ∀ n, (∀ i, i < n → X i = Y i) → rk X n = rk Y n
  | 0, _ => rfl
  | n + 1, h => by
    unfold rk
    rw [h n (by omega), rk_cg n fun i hi => h i (by omega)]
def sel (X : Nat → Bool) : Nat → Nat → Nat
  | 0, _ => 0
  | n + 1, i => if X n = true ∧ rk X n = i then n else sel X n i
theorem sel_ok {X : Nat → Bool} {l : Nat} (h : X l = true) : ∀ n, l < n → sel X n (rk X l) = l
  | 0, hl => by omega
  | n + 1, hl => by
    unfold sel
    by_cases e : l = n
    · subst e; rw [if_pos ⟨h, rfl⟩]
    · rw [if_neg (fun q => e (rk_inj h q.1 q.2.symm)), sel_ok h n (by omega)]
theorem sel_ex {X : Nat → Bool} {i : Nat} : ∀ n, i < rk X n → ∃ l, l < n ∧ X l = true ∧ rk X l = i
  | 0, h => by
    have : i < 0 := h
    omega
  | n + 1, h => by
    by_cases hx : X n = true
    · rw [rk_s hx] at h
      by_cases e : i = rk X n
      · exact ⟨n, by omega, hx, e.symm⟩
      · obtain ⟨l, h1, h2, h3⟩ := sel_ex n (show i < rk X n by omega)
        exact ⟨l, by omega, h2, h3⟩
    · rw [rk_n hx] at h
      obtain ⟨l, h1, h2, h3⟩ := sel_ex n h
      exact ⟨l, by omega, h2, h3⟩
/-- box b lies on the way out from x -/
def lies (P : Nat → Int) : Nat → Int → Nat → Bool
  | 0, _, _ => false
  | n + 1, x, b => if x = -6 then false else (decide (x = b) || lies P n (P x.toNat) b)
/-- the last of the lines below n that stay and lie in box b -/
def lastI (hm P : Nat → Int) (X : Nat → Bool) (b : Nat) : Nat → Int
  | 0 => -6
  | n + 1 => if X n = true ∧ lies P 5 (hm n) b = true then (n : Int) else lastI hm P X b n
def yB (S : aS) (X : Nat → Bool) (b : Nat) : Bool := X (S.B 0 b).toNat
def ren (X : Nat → Bool) (v : Int) : Int := if v = -6 then -6 else (rk X v.toNat : Int)
def newL (S : aS) (X : Nat → Bool) (c l : Nat) : Int := if c < 2 then S.L c l else if c = 5 then ren (yB S X) (S.L 5 l) else if isBx S l (c - 2) = true then ren (yB S X) (S.L c l) else ren X (S.L c l)
def newB (S : aS) (X : Nat → Bool) (c b : Nat) : Int := if c = 0 then ren X (S.B 0 b) else if c = 2 then ren (yB S X) (S.B 2 b) else ren X (lastI (S.L 5) (S.B 2) X b S.nl)
def trimS (S : aS) (X : Nat → Bool) : aS := ((S.nf, rk X S.nl, rk (yB S X) S.nb, -6), S.F, fun c i => newL S X c (sel X S.nl i), fun c i => newB S X c (sel (yB S X) S.nb i))
/-- the set has what its lines need; no box is open -/
def clo (S : aS) (X : Nat → Bool) : Prop := (∀ l, X l = true → l < S.nl) ∧ (∀ l, X l = true → ∀ k i, k < 3 → rbit S l k i = true → X i = true) ∧ (∀ l, X l = true → ∀ b, b < S.nb → lies (S.B 2) 5 (S.L 5 l) b = true → X (S.B 0 b).toNat = true) ∧ ∀ b, b < S.nb → ¬ S.B 1 b = -6
theorem lies_up {S : aS} {dp : Nat → Nat} (h7 : ∀ b, b < S.nb → okB S dp b) : ∀ (n : Nat) (x : Int) (b : Nat), okX S x → dpI dp x ≤ n → lies (S.B 2) n x b = true → ¬ S.B 2 b = -6 → lies (S.B 2) n x (S.B 2 b).toNat = true
  | 0, x, b, hx, hd, hl, hp => by cases hl
  | n + 1, x, b, hx, hd, hl, hp => by
    unfold lies at hl ⊢
    by_cases hz : x = -6
    · rw [if_pos hz] at hl; cases hl
    · rw [if_neg hz] at hl ⊢
      rcases hx with z | z
      · exact absurd z hz
      · obtain ⟨b1, b2, b3, b4⟩ := dp_step h7 z
        rcases Bool.or_eq_true _ _ ▸ hl with e | e
        · have e : x = b := of_decide_eq_true e
          have ex : x.toNat = b := by omega
          rw [ex] at b3 b4 ⊢
          rcases b4 with z | z
          · exact absurd z hp
          · have := (dp_step h7 z).1
            match n, hd with
            | 0, hd => omega
            | n + 1, hd =>
              unfold lies
              rw [if_neg hp]
              have : S.B 2 b = ((S.B 2 b).toNat : Nat) := by omega
              simp [← this]
        · rw [lies_up h7 n _ b b4 (by omega) e hp]
          simp
/-- a box on the way out holds what the inner one holds -/
theorem lies_in {S : aS} (hI : Inv S) (hcl : ∀ b, b < S.nb → ¬ S.B 1 b = -6) : ∀ (n : Nat) (x : Int) (b : Nat), 0 ≤ x → x < S.nb → lies (S.B 2) n x b = true → b < S.nb ∧ S.B 0 b ≤ S.B 0 x.toNat ∧ S.B 1 x.toNat ≤ S.B 1 b
  | 0, x, b, _, _, hl => by cases hl
  | n + 1, x, b, h0, h1, hl => by
    unfold lies at hl
    rw [if_neg (by omega)] at hl
    rcases Bool.or_eq_true _ _ ▸ hl with e | e
    · have e : x = b := of_decide_eq_true e
      have ex : x.toNat = b := by omega
      rw [ex]
      exact ⟨by omega, by omega, by omega⟩
    · obtain ⟨dp, h7⟩ := hI.2.2.2.2.2.2.1
      obtain ⟨-, -, -, -, -, -, -, a8⟩ := h7 x.toNat (by omega)
      rcases a8 with z | ⟨z1, z2, z3, z4⟩
      · rw [z.1] at e
        cases n with
        | zero => cases e
        | succ n => unfold lies at e; rw [if_pos rfl] at e; cases e
      · obtain ⟨w1, w2, w3⟩ := lies_in hI hcl n _ b z1 (by omega) e
        have hs := hI.2.2.2.2.2.2.2 (S.B 2 x.toNat).toNat x.toNat (by omega) (by omega)
        rcases z4 with q | q
        · exact absurd q (hcl _ (by omega))
        · exact ⟨w1, by omega, by omega⟩
theorem lies_self {P : Nat → Int} {n b : Nat} : lies P (n + 1) (b : Int) b = true := by
  unfold lies
  rw [if_neg (by omega)]
  simp
theorem lastI_ok {hm P : Nat → Int} {X : Nat → Bool} {b : Nat} : ∀ n, (lastI hm P X b n = -6 ∧ ∀ l, l < n → ¬ (X l = true ∧ lies P 5 (hm l) b = true)) ∨ ∃ l : Nat, lastI hm P X b n = l ∧ l < n ∧ X l = true ∧ lies P 5 (hm l) b = true ∧ ∀ l', l' < n → X l' = true → lies P 5 (hm l') b = true → l' ≤ l
  | 0 => Or.inl ⟨rfl, fun l hl => by omega⟩
  | n + 1 => by
    unfold lastI
    by_cases h : X n = true ∧ lies P 5 (hm n) b = true
    · rw [if_pos h]
      exact Or.inr ⟨n, rfl, by omega, h.1, h.2, fun l' hl' _ _ => by omega⟩
    · rw [if_neg h]
      rcases lastI_ok (hm := hm) (P := P) (X := X) (b := b) n with ⟨z1, z2⟩ | ⟨l, z1, z2, z3, z4, z5⟩
      · refine Or.inl ⟨z1, fun l hl hh => ?_⟩
        by_cases e : l = n
        · subst e; exact h hh
        · exact z2 l (by omega) hh
      · refine Or.inr ⟨l, z1, by omega, z3, z4, fun l' hl' g1 g2 => ?_⟩
        by_cases e : l' = n
        · subst e; exact absurd ⟨g1, g2⟩ h
        · exact z5 l' (by omega) g1 g2
section
variable {S : aS} {X : Nat → Bool}
theorem clo.home (hc : clo S X) {l : Nat} (hx : X l = true) {b : Nat} (hb : b < S.nb) (hh : S.L 5 l = b) : yB S X b = true := by
  refine hc.2.2.1 l hx b hb ?_
  rw [hh]
  exact lies_self
theorem clo.par (hc : clo S X) (hI : Inv S) {b : Nat} (hb : b < S.nb) (hy : yB S X b = true) (hp : ¬ S.B 2 b = -6) : 0 ≤ S.B 2 b ∧ S.B 2 b < b ∧ yB S X (S.B 2 b).toNat = true := by
  obtain ⟨dp, h7⟩ := hI.2.2.2.2.2.2.1
  have h0 := (h7 b hb).2.2.1
  rcases hI.par hb with z | z
  · exact absurd z hp
  · refine ⟨z.1, z.2, hc.2.2.1 _ hy _ (by omega) ?_⟩
    rw [h0]
    exact lies_up h7 5 b b (Or.inr ⟨by omega, by omega⟩) (dpI_le h7 (Or.inr ⟨by omega, by omega⟩)) lies_self hp
/-- the last line that stays in a box that stays -/
theorem clo.last (hc : clo S X) (hI : Inv S) {b : Nat} (hb : b < S.nb) (hy : yB S X b = true) : ∃ e : Nat, lastI (S.L 5) (S.B 2) X b S.nl = e ∧ e < S.nl ∧ X e = true ∧ S.B 0 b ≤ e ∧ (e : Int) ≤ S.B 1 b ∧ ∀ l, X l = true → lies (S.B 2) 5 (S.L 5 l) b = true → l ≤ e := by
  obtain ⟨dp, h7⟩ := hI.2.2.2.2.2.2.1
  obtain ⟨a1, a2, a3, -⟩ := h7 b hb
  have hl : lies (S.B 2) 5 (S.L 5 (S.B 0 b).toNat) b = true := by rw [a3]; exact lies_self
  rcases lastI_ok (hm := S.L 5) (P := S.B 2) (X := X) (b := b) S.nl with ⟨z1, z2⟩ | ⟨l, z1, z2, z3, z4, z5⟩
  · exact absurd ⟨hy, hl⟩ (z2 _ (by omega))
  · refine ⟨l, z1, z2, z3, ?_, ?_, fun l' g1 g2 => z5 l' (hc.1 l' g1) g1 g2⟩
    · have := z5 _ (by omega) hy hl
      omega
    · rcases (hI.2.2.2.2.2.1 l z2).2.2.2 with q | ⟨q1, q2, q3, q4⟩
      · rw [q] at z4
        simp [lies] at z4
      · obtain ⟨w1, w2, w3⟩ := lies_in hI hc.2.2.2 5 _ b q1 q2 z4
        rcases q4 with q | q
        · exact absurd q (hc.2.2.2 _ (by omega))
        · omega
theorem trim_L (hc : clo S X) {c l : Nat} (hx : X l = true) : (trimS S X).L c (rk X l) = newL S X c l := by
  show newL S X c (sel X S.nl (rk X l)) = _
  rw [sel_ok hx _ (hc.1 l hx)]
theorem trim_B {c b : Nat} (hb : b < S.nb) (hy : yB S X b = true) : (trimS S X).B c (rk (yB S X) b) = newB S X c b := by
  show newB S X c (sel (yB S X) S.nb (rk (yB S X) b)) = _
  rw [sel_ok hy _ hb]
theorem clo.newE (hc : clo S X) (hI : Inv S) {b : Nat} (hb : b < S.nb) (hy : yB S X b = true) : ∃ e : Nat, newB S X 1 b = (rk X e : Int) ∧ e < S.nl ∧ X e = true ∧ S.B 0 b ≤ e ∧ (e : Int) ≤ S.B 1 b ∧ ∀ l, X l = true → lies (S.B 2) 5 (S.L 5 l) b = true → l ≤ e := by
  obtain ⟨e, h1, h2⟩ := hc.last hI hb hy
  refine ⟨e, ?_, h2⟩
  show ren X _ = _
  rw [h1, ren, if_neg (by omega), Int.toNat_natCast]
theorem newB_0 (hI : Inv S) {b : Nat} (hb : b < S.nb) : newB S X 0 b = (rk X (S.B 0 b).toNat : Int) := by
  obtain ⟨s, h1, h2⟩ := hI.bs hb
  show ren X _ = _
  rw [ren, if_neg (by omega)]
theorem ref_X (hc : clo S X) {l k : Nat} (hx : X l = true) (hk : k < 3) (hb : isBx S l k = false) (h : okLR l (S.L (2 + k) l)) : X (S.L (2 + k) l).toNat = true := by
  have h1 := h.1
  refine hc.2.1 l hx k _ hk ?_
  unfold rbit
  rw [hb]
  have e1 : ¬ S.L (2 + k) l = -6 := by omega
  have e2 : ((S.L (2 + k) l).toNat : Int) = S.L (2 + k) l := by omega
  simp [e1, e2]
theorem ref_Y (hI : Inv S) (hc : clo S X) {l k : Nat} (hx : X l = true) (hk : k < 3) (hb : isBx S l k = true) (h : okBR S l (S.L (2 + k) l)) : yB S X (S.L (2 + k) l).toNat = true := by
  have h1 := h.1
  have h2 := h.2.1
  obtain ⟨s, hs, hs2⟩ := hI.bs (b := (S.L (2 + k) l).toNat) (by omega)
  refine hc.2.1 l hx k _ hk ?_
  unfold rbit
  rw [hb]
  have e1 : ¬ S.L (2 + k) l = -6 := by omega
  have e2 : ((S.B 0 (S.L (2 + k) l).toNat).toNat : Int) = S.B 0 (S.L (2 + k) l).toNat := by omega
  simp [e1, e2]
theorem newL_ref {k l : Nat} (hk : k < 3) : newL S X (2 + k) l = if isBx S l k = true then ren (yB S X) (S.L (2 + k) l) else ren X (S.L (2 + k) l) := by
  unfold newL
  rw [if_neg (by omega), if_neg (by omega), show 2 + k - 2 = k by omega]
theorem new_line (hc : clo S X) {l k : Nat} (hx : X l = true) (hk : k < 3) (hb : isBx S l k = false) (h : okLR l (S.L (2 + k) l)) : okLR (rk X l) (newL S X (2 + k) l) := by
  have h1 := h.1
  have h2 := h.2
  have h3 := ref_X hc hx hk hb h
  rw [newL_ref hk, if_neg (by rw [hb]; decide), ren, if_neg (by omega)]
  have := rk_lt (X := X) (show (S.L (2 + k) l).toNat < l by omega) h3
  exact ⟨by omega, by omega⟩
theorem new_none {l k : Nat} (hk : k < 3) (h : S.L (2 + k) l = -6) : newL S X (2 + k) l = -6 := by
  rw [newL_ref hk, h]
  simp [ren]
theorem new_box (hI : Inv S) (hc : clo S X) {l k : Nat} (hx : X l = true) (hk : k < 3) (hb : isBx S l k = true) (h : okBR S l (S.L (2 + k) l)) : okBR (trimS S X) (rk X l) (newL S X (2 + k) l) := by
  obtain ⟨h1, h2, h3, h4⟩ := id h
  have hY := ref_Y hI hc hx hk hb h
  have hbn : (S.L (2 + k) l).toNat < S.nb := by omega
  rw [newL_ref hk, if_pos hb, ren, if_neg (by omega)]
  obtain ⟨e, e1, e2, e3, e4, e5, e6⟩ := hc.newE hI hbn hY
  have hlt := rk_lt (X := yB S X) hbn hY
  refine ⟨by omega, by show _ < ((rk (yB S X) S.nb : Nat) : Int); omega, ?_, ?_⟩
  · rw [Int.toNat_natCast, trim_B hbn hY, e1]; omega
  · rw [Int.toNat_natCast, trim_B hbn hY, e1]
    have := rk_lt (X := X) (show e < l by omega) e3
    omega
theorem okRef_trim (hI : Inv S) (hc : clo S X) {l : Nat} (hx : X l = true) : okRef (trimS S X) (rk X l) := by
  have ho := (hI.2.2.2.2.2.1 l (hc.1 l hx)).2.2.1
  have e1 : (trimS S X).L 1 (rk X l) = S.L 1 l := by rw [trim_L hc hx]; exact if_pos (by omega)
  have e2 : (trimS S X).L 2 (rk X l) = newL S X (2 + 0) l := trim_L hc hx
  have e3 : (trimS S X).L 3 (rk X l) = newL S X (2 + 1) l := trim_L hc hx
  have e4 : (trimS S X).L 4 (rk X l) = newL S X (2 + 2) l := trim_L hc hx
  unfold okRef
  rw [e1, e2, e3, e4]
  rcases ho with ⟨h1, h2, h3, h4⟩ | ⟨h1, h2, h3, h4⟩ | ⟨h1, h2, h3, h4⟩ | ⟨h1, h2, h3, h4⟩ | ⟨h1, h2, h3, h4⟩
  · exact Or.inl ⟨h1, new_none (by omega) h2, new_none (by omega) h3, new_none (by omega) h4⟩
  · have nb : ∀ k, isBx S l k = false := fun k => by unfold isBx; rcases h1 with e | e | e <;> simp [e]
    exact Or.inr (Or.inl ⟨h1, new_line hc hx (by omega) (nb 0) h2, new_line hc hx (by omega) (nb 1) h3, new_none (by omega) h4⟩)
  · have nb : ∀ k, isBx S l k = false := fun k => by unfold isBx; rcases h1 with e | e | e | e | e | e <;> simp [e]
    exact Or.inr (Or.inr (Or.inl ⟨h1, new_line hc hx (by omega) (nb 0) h2, new_none (by omega) h3, new_none (by omega) h4⟩))
  · exact Or.inr (Or.inr (Or.inr (Or.inl ⟨h1, new_line hc hx (by omega) (by unfold isBx; simp [h1]) h2, new_box hI hc hx (by omega) (by unfold isBx; simp [h1]) h3, new_box hI hc hx (by omega) (by unfold isBx; simp [h1]) h4⟩)))
  · exact Or.inr (Or.inr (Or.inr (Or.inr ⟨h1, new_box hI hc hx (by omega) (by unfold isBx; rcases h1 with e | e <;> simp [e]) h2, new_none (by omega) h3, new_none (by omega) h4⟩)))
theorem rk_box (hI : Inv S) : ∀ (n m : Nat), n ≤ S.nb → (∀ b, b < n → S.B 0 b < (m : Int)) → rk (yB S X) n ≤ rk X m
  | 0, m, _, _ => Nat.zero_le _
  | n + 1, m, hn, h => by
    obtain ⟨s, hs, hs2⟩ := hI.bs (b := n) (by omega)
    have ih := rk_box hI n s (by omega) fun b hb => by
      rw [← hs]
      exact hI.2.2.2.2.2.2.2 b n hb (by omega)
    have hm := h n (by omega)
    by_cases hy : yB S X n = true
    · rw [rk_s hy]
      have hx : X s = true := by
        have := hy
        unfold yB at this
        rw [hs, Int.toNat_natCast] at this
        exact this
      have := rk_lt (X := X) (show s < m by omega) hx
      omega
    · rw [rk_n hy]
      have := rk_mono X m (show s ≤ m by omega)
      omega
theorem Inv_trim (hI : Inv S) (hc : clo S X) : Inv (trimS S X) := by
  obtain ⟨h1, h2, h3, h4, h5, h6, ⟨dp, h7⟩, h8⟩ := id hI
  have nlX : (trimS S X).nl = rk X S.nl := rfl
  have nbY : (trimS S X).nb = rk (yB S X) S.nb := rfl
  have hcl : ∀ b', b' < (trimS S X).nb → ¬ (trimS S X).B 1 b' = -6 := by
    intro b' hb'
    obtain ⟨b, hb, hy, rfl⟩ := sel_ex _ hb'
    obtain ⟨e, e1, -⟩ := hc.newE hI hb hy
    rw [trim_B hb hy, e1]
    omega
  refine ⟨h1, ?_, ?_, ?_, h5, ?_, ⟨fun i => dp (sel (yB S X) S.nb i), ?_⟩, ?_⟩
  · have := rk_le X S.nl
    omega
  · rw [nlX, nbY]
    refine rk_box hI _ _ (Nat.le_refl _) fun b hb => ?_
    have := (h7 b hb).2.1
    omega
  · have : ∀ n, n ≤ (trimS S X).nb → latO (trimS S X) n = -6 := by
      intro n
      induction n with
      | zero => intro _; rfl
      | succ n ih =>
        intro hn
        unfold latO
        rw [if_neg (hcl n (by omega))]
        exact ih (by omega)
    exact (this _ (Nat.le_refl _)).symm
  · intro i hi
    obtain ⟨l, hl, hx, rfl⟩ := sel_ex _ hi
    obtain ⟨a1, a2, a3, a4⟩ := h6 l hl
    have e0 : (trimS S X).L 0 (rk X l) = S.L 0 l := by rw [trim_L hc hx]; exact if_pos (by omega)
    have e5 : (trimS S X).L 5 (rk X l) = ren (yB S X) (S.L 5 l) := by
      rw [trim_L hc hx, newL, if_neg (by omega), if_pos rfl]
    refine ⟨by rw [e0]; exact a1, by rw [e0]; exact a2, okRef_trim hI hc hx, ?_⟩
    rw [e5]
    rcases a4 with z | ⟨z1, z2, z3, z4⟩
    · rw [z]; exact Or.inl rfl
    · obtain ⟨b, hb⟩ : ∃ b : Nat, S.L 5 l = b := ⟨(S.L 5 l).toNat, by omega⟩
      rw [hb, Int.toNat_natCast] at z3
      have hbn : b < S.nb := by omega
      have hy := hc.home hx hbn hb
      have hlt := rk_lt (X := yB S X) hbn hy
      obtain ⟨e, e1, e2, e3, e4, e5, e6⟩ := hc.newE hI hbn hy
      refine Or.inr ?_
      rw [hb, ren, if_neg (by omega), Int.toNat_natCast, Int.toNat_natCast, trim_B hbn hy, trim_B hbn hy, newB_0 hI hbn, e1]
      obtain ⟨s, hs, hs2⟩ := hI.bs hbn
      have g1 := rk_mono X l (show (S.B 0 b).toNat ≤ l by omega)
      have g2 := rk_mono X e (e6 l hx (by rw [hb]; exact lies_self))
      exact ⟨by omega, by rw [nbY]; omega, by omega, Or.inr (by omega)⟩
  · intro i hi
    obtain ⟨b, hb, hy, rfl⟩ := sel_ex _ hi
    obtain ⟨a1, a2, a3, a4, a5, a6, a7, a8⟩ := h7 b hb
    obtain ⟨e, e1, e2, e3, e4, e5, e6⟩ := hc.newE hI hb hy
    obtain ⟨s, hs, hs2⟩ := hI.bs hb
    have hxs : X s = true := by
      have := hy
      unfold yB at this
      rw [hs, Int.toNat_natCast] at this
      exact this
    have E0 : (trimS S X).B 0 (rk (yB S X) b) = (rk X s : Int) := by rw [trim_B hb hy, newB_0 hI hb, hs, Int.toNat_natCast]
    have E1 : (trimS S X).B 1 (rk (yB S X) b) = (rk X e : Int) := by rw [trim_B hb hy, e1]
    have E2 : (trimS S X).B 2 (rk (yB S X) b) = ren (yB S X) (S.B 2 b) := by rw [trim_B hb hy]; rfl
    have D : dp (sel (yB S X) S.nb (rk (yB S X) b)) = dp b := by rw [sel_ok hy _ hb]
    have s1 := rk_lt (X := X) hs2 hxs
    have s2 := rk_lt (X := X) e2 e3
    have s3 := rk_mono X e (show s ≤ e by omega)
    refine ⟨by rw [E0]; omega, by rw [E0, nlX]; omega, ?_, ?_, ?_, by show 1 ≤ dp (sel (yB S X) S.nb (rk (yB S X) b)); rw [D]; exact a6, by show dp (sel (yB S X) S.nb (rk (yB S X) b)) ≤ 5; rw [D]; exact a7, ?_⟩
    · rw [E0, Int.toNat_natCast, trim_L hc hxs, newL, if_neg (by omega), if_pos rfl]
      rw [hs, Int.toNat_natCast] at a3
      rw [a3, ren, if_neg (by omega), Int.toNat_natCast]
    · rw [E0, E1, nlX]
      exact Or.inr ⟨by omega, by omega⟩
    · intro z
      exact absurd z (hcl _ hi)
    · rw [E2, E1]
      show (_ ∧ dp (sel (yB S X) S.nb (rk (yB S X) b)) = 1) ∨ (_ ∧ _ ∧ dp (sel (yB S X) S.nb (rk (yB S X) b)) = dp (sel (yB S X) S.nb _) + 1 ∧ _)
      rw [D]
      by_cases hp : S.B 2 b = -6
      · rcases a8 with z | z
        · exact Or.inl ⟨by rw [hp]; rfl, z.2⟩
        · omega
      · rcases a8 with z | ⟨z1, z2, z3, z4⟩
        · exact absurd z.1 hp
        · obtain ⟨p1, p2, p3⟩ := hc.par hI hb hy hp
          have hpn : (S.B 2 b).toNat < S.nb := by omega
          obtain ⟨g, g1, g2, g3, g4, g5, g6⟩ := hc.newE hI hpn p3
          have r1 := rk_lt (X := yB S X) (show (S.B 2 b).toNat < b by omega) p3
          refine Or.inr ?_
          rw [ren, if_neg hp, Int.toNat_natCast, sel_ok p3 _ hpn, trim_B hpn p3, g1]
          refine ⟨by omega, by omega, z3, Or.inr ⟨by omega, ?_⟩⟩
          have le : e ≤ g := by
            obtain ⟨f, f1, f2, f3, f4, f5, f6⟩ := hc.last hI hb hy
            have hef : e = f := by
              have : newB S X 1 b = (rk X f : Int) := by
                show ren X _ = _
                rw [f1, ren, if_neg (by omega), Int.toNat_natCast]
              rw [e1] at this
              exact rk_inj e3 f3 (by omega)
            subst hef
            rcases lastI_ok (hm := S.L 5) (P := S.B 2) (X := X) (b := b) S.nl with ⟨q1, q2⟩ | ⟨l, q1, q2, q3, q4, q5⟩
            · omega
            · have : l = e := by omega
              subst this
              refine g6 _ e3 (lies_up h7 5 _ b ?_ ?_ q4 hp)
              · exact hI.home q2
              · exact dpI_le h7 (hI.home q2)
          have := rk_mono X g le
          omega
  · intro i j hij hj
    obtain ⟨b, hb, hy, rfl⟩ := sel_ex _ hj
    obtain ⟨c, hc2, hy2, rfl⟩ := sel_ex (X := yB S X) (i := i) S.nb (by omega)
    rw [trim_B hb hy, trim_B hc2 hy2, newB_0 hI hb, newB_0 hI hc2]
    have hcb : c < b := by
      rcases Nat.lt_or_ge c b with z | z
      · exact z
      · have := rk_mono (yB S X) c z
        omega
    have := h8 c b hcb hb
    obtain ⟨s, hs, hs2⟩ := hI.bs hc2
    have := rk_lt (X := X) (show (S.B 0 c).toNat < (S.B 0 b).toNat by omega) hy2
    omega
theorem drt_lt (hI : Inv S) {l i : Nat} (hl : l < S.nl) (h : drt S l i = true) : i < l := by
  have ho := (hI.2.2.2.2.2.1 l hl).2.2.1
  have st : ∀ k, k < 3 → rbit S l k i = true → i < l := by
    intro k hk hr
    unfold rbit at hr
    rcases refcase ho hk with ⟨c1, c2, c3⟩ | ⟨c1, c2⟩ | ⟨c1, c2, c3⟩
    · rw [c3] at hr
      have h1 := c2.1
      have h2 := c2.2
      simp at hr
      omega
    · rw [c2] at hr
      simp at hr
    · obtain ⟨h1, h2, h3, h4⟩ := c2
      rw [c3] at hr
      simp at hr
      obtain ⟨dp, h7⟩ := hI.2.2.2.2.2.2.1
      obtain ⟨a1, a2, a3, a4, -⟩ := h7 (S.L (2 + k) l).toNat (by omega)
      omega
  unfold drt at h
  rcases Bool.or_eq_true _ _ ▸ h with h | h
  · rcases Bool.or_eq_true _ _ ▸ h with h | h
    · exact st 0 (by omega) h
    · exact st 1 (by omega) h
  · exact st 2 (by omega) h
theorem ach_le (hI : Inv S) : ∀ (n : Nat) (x : Int) (i : Nat), 0 ≤ x → x < S.nb → ach S n x i = true → (i : Int) ≤ S.B 0 x.toNat
  | 0, x, i, _, _, h => by cases h
  | n + 1, x, i, h0, h1, h => by
    unfold ach at h
    rw [if_neg (by omega)] at h
    rcases Bool.or_eq_true _ _ ▸ h with e | e
    · have e : (i : Int) = S.B 0 x.toNat := of_decide_eq_true e
      omega
    · rcases hI.par (b := x.toNat) (by omega) with z | z
      · rw [z] at e
        cases n with
        | zero => cases e
        | succ n => simp [ach] at e
      · have := ach_le hI n _ i z.1 (by omega) e
        have hs := hI.2.2.2.2.2.2.2 (S.B 2 x.toNat).toNat x.toNat (by omega) (by omega)
        omega
theorem ach_home (hI : Inv S) {l i : Nat} (hl : l < S.nl) (h : ach S 5 (S.L 5 l) i = true) : i ≤ l := by
  rcases (hI.2.2.2.2.2.1 l hl).2.2.2 with q | ⟨q1, q2, q3, q4⟩
  · rw [q] at h
    simp [ach] at h
  · have := ach_le hI 5 _ i q1 q2 h
    omega
theorem ndl_hi (hI : Inv S) : ∀ (n : Nat) (X : Nat → Bool) (l : Nat), n ≤ S.nl → n ≤ l → ndl S n X l = X l
  | 0, X, l, _, _ => rfl
  | n + 1, X, l, hn, hl => by
    unfold ndl
    rw [ndl_hi hI n _ l (by omega) (by omega)]
    split
    · have e1 : drt S n l = false := by
        cases e : drt S n l
        · rfl
        · have := drt_lt hI (by omega) e; omega
      have e2 : ach S 5 (S.L 5 n) l = false := by
        cases e : ach S 5 (S.L 5 n) l
        · rfl
        · have := ach_home hI (by omega) e; omega
      simp [e1, e2]
    · rfl
theorem ndl_sub : ∀ (n : Nat) (X : Nat → Bool) (l : Nat), X l = true → ndl S n X l = true
  | 0, X, l, h => h
  | n + 1, X, l, h => by
    unfold ndl
    refine ndl_sub n _ l ?_
    split
    · simp [h]
    · exact h
theorem ndl_clo (hI : Inv S) : ∀ (n : Nat) (X : Nat → Bool) (l : Nat), n ≤ S.nl → l < n → ndl S n X l = true → (∀ i, drt S l i = true → ndl S n X i = true) ∧ ∀ i, ach S 5 (S.L 5 l) i = true → ndl S n X i = true
  | 0, X, l, _, hl, _ => by omega
  | n + 1, X, l, hn, hl, h => by
    unfold ndl at h ⊢
    by_cases e : l = n
    · subst e
      rw [ndl_hi hI l _ l (by omega) (Nat.le_refl _)] at h
      by_cases hx : X l = true
      · rw [if_pos hx]
        exact ⟨fun i hi => ndl_sub _ _ i (by simp [hi]), fun i hi => ndl_sub _ _ i (by simp [hi])⟩
      · rw [if_neg hx] at h
        exact absurd h hx
    · exact ndl_clo hI n _ l (by omega) (by omega) h
theorem lies_ach (hI : Inv S) : ∀ (n : Nat) (x : Int) (b : Nat), b < S.nb → okX S x → lies (S.B 2) n x b = true → ach S n x (S.B 0 b).toNat = true
  | 0, x, b, _, _, h => by cases h
  | n + 1, x, b, hb, hx, h => by
    unfold lies at h
    unfold ach
    by_cases hz : x = -6
    · rw [if_pos hz] at h; cases h
    · rw [if_neg hz] at h ⊢
      rcases hx with z | z
      · exact absurd z hz
      · rcases Bool.or_eq_true _ _ ▸ h with e | e
        · have e : x = b := of_decide_eq_true e
          have ex : x.toNat = b := by omega
          obtain ⟨s, hs, hs2⟩ := hI.bs hb
          rw [ex, hs]
          simp
        · rw [lies_ach hI n _ b hb (hI.parX (by omega)) e]
          simp
theorem clo_need (hI : Inv S) {k : Nat} (hk : k < S.nl) (hn : S.inn = -6) : clo S (needS S k) := by
  have hlt : ∀ l, needS S k l = true → l ≤ k := by
    intro l hl
    rcases Nat.lt_or_ge k l with z | z
    · unfold needS at hl
      rw [ndl_hi hI (k + 1) _ l (by omega) (by omega)] at hl
      have : l = k := of_decide_eq_true hl
      omega
    · exact z
  refine ⟨fun l hl => by have := hlt l hl; omega, fun l hl c i hc hr => ?_, fun l hl b hb hr => ?_, ?_⟩
  · refine (ndl_clo hI (k + 1) _ l (by omega) (by have := hlt l hl; omega) hl).1 i ?_
    unfold drt
    rcases (show c = 0 ∨ c = 1 ∨ c = 2 by omega) with rfl | rfl | rfl <;> simp [hr]
  · have hl2 : l < S.nl := by have := hlt l hl; omega
    refine (ndl_clo hI (k + 1) _ l (by omega) (by have := hlt l hl; omega) hl).2 _ ?_
    exact lies_ach hI 5 _ b hb (hI.home hl2) hr
  · have h4 := hI.2.2.2.1
    rw [hn] at h4
    have lp : ∀ n, latO S n = -6 → ∀ b, b < n → ¬ S.B 1 b = -6 := by
      intro n
      induction n with
      | zero => intro _ b hb; omega
      | succ n ih =>
        intro h b hb
        unfold latO at h
        by_cases c : S.B 1 n = -6
        · rw [if_pos c] at h; omega
        · rw [if_neg c] at h
          by_cases e : b = n
          · subst e; exact c
          · exact ih h b (by omega)
    exact lp S.nb h4.symm
end
