/-! every line follows: what a state's lines hold -/
/-- box b lies on the way out from x -/
def scp (S : aS) (x : Int) (b : Nat) : Prop := ∃ n, lies (S.B 2) n x b = true
def scI (S : aS) (x y : Int) : Prop := y = -6 ∨ (0 ≤ y ∧ scp S x y.toNat)
theorem lies_n6 {P : Nat → Int} {n b : Nat} : lies P n (-6) b = false := by
  cases n with
  | zero => rfl
  | succ n => unfold lies; rw [if_pos rfl]
theorem scp_n6 {S : aS} {b : Nat} (h : scp S (-6) b) : False := by
  obtain ⟨n, hn⟩ := h
  rw [lies_n6] at hn; cases hn
theorem scp_self {S : aS} {b : Nat} : scp S b b := ⟨1, lies_self⟩
theorem scp_up {S : aS} {x : Int} {b : Nat} (hx : ¬ x = -6) (h : scp S (S.B 2 x.toNat) b) : scp S x b := by
  obtain ⟨n, hn⟩ := h
  refine ⟨n + 1, ?_⟩
  unfold lies
  rw [if_neg hx, hn, Bool.or_true]
theorem scp_cs {S : aS} {x : Int} {b : Nat} (h : scp S x b) : x = b ∨ (¬ x = -6 ∧ scp S (S.B 2 x.toNat) b) := by
  obtain ⟨n, hn⟩ := h
  cases n with
  | zero => cases hn
  | succ n =>
    unfold lies at hn
    by_cases c : x = -6
    · rw [if_pos c] at hn; cases hn
    · rw [if_neg c, Bool.or_eq_true] at hn
      rcases hn with z | z
      · exact Or.inl (of_decide_eq_true z)
      · exact Or.inr ⟨c, n, z⟩
theorem scp_tr {S : aS} {y b : Nat} (h2 : scp S (y : Int) b) : ∀ (n : Nat) (x : Int), lies (S.B 2) n x y = true → scp S x b
  | 0, x, h => by cases h
  | n + 1, x, h => by
    unfold lies at h
    by_cases c : x = -6
    · rw [if_pos c] at h; cases h
    · rw [if_neg c, Bool.or_eq_true] at h
      rcases h with z | z
      · have z := of_decide_eq_true z
        rw [z]; exact h2
      · exact scp_up c (scp_tr h2 n _ z)
theorem scp.tr {S : aS} {x : Int} {y b : Nat} (h1 : scp S x y) (h2 : scp S (y : Int) b) : scp S x b := by
  obtain ⟨n, hn⟩ := h1
  exact scp_tr h2 n x hn
theorem lies_any {S : aS} {dp : Nat → Nat} (h7 : ∀ b, b < S.nb → okB S dp b) {b : Nat} : ∀ (n m : Nat) (x : Int), okX S x → lies (S.B 2) n x b = true → dpI dp x ≤ m → lies (S.B 2) m x b = true
  | 0, m, x, hx, h, hd => by cases h
  | n + 1, m, x, hx, h, hd => by
    unfold lies at h
    rcases hx with z | z
    · rw [if_pos z] at h; cases h
    · obtain ⟨b1, b2, b3, b4⟩ := dp_step h7 z
      cases m with
      | zero => omega
      | succ m =>
        unfold lies
        rw [if_neg (by omega)] at h ⊢
        rw [Bool.or_eq_true] at h
        rcases h with e | e
        · rw [e, Bool.true_or]
        · rw [lies_any h7 n m _ b4 e (by omega), Bool.or_true]
theorem scp.five {S : aS} (hI : Inv S) {x : Int} {b : Nat} (hx : okX S x) (h : scp S x b) : lies (S.B 2) 5 x b = true := by
  obtain ⟨dp, h7⟩ := hI.2.2.2.2.2.2.1
  obtain ⟨n, hn⟩ := h
  exact lies_any h7 n 5 x hx hn (dpI_le h7 hx)
theorem scp_nb {S : aS} (hI : Inv S) {b : Nat} : ∀ (n : Nat) (x : Int), okX S x → lies (S.B 2) n x b = true → b < S.nb
  | 0, x, hx, h => by cases h
  | n + 1, x, hx, h => by
    unfold lies at h
    rcases hx with z | z
    · rw [if_pos z] at h; cases h
    · rw [if_neg (by omega), Bool.or_eq_true] at h
      rcases h with e | e
      · have e := of_decide_eq_true e; omega
      · exact scp_nb hI n _ (hI.parX (by omega)) e
theorem scI.tr {S : aS} {x y : Int} {b : Nat} (h1 : scI S x y) (h2 : scp S y b) : scp S x b := by
  rcases h1 with rfl | ⟨h, h1⟩
  · exact (scp_n6 h2).elim
  · exact h1.tr (by rw [Int.toNat_of_nonneg h]; exact h2)
theorem scI.tr2 {S : aS} {x y z : Int} (h1 : scI S x y) (h2 : scI S y z) : scI S x z := by
  rcases h2 with rfl | ⟨h, h2⟩
  · exact Or.inl rfl
  · exact Or.inr ⟨h, h1.tr h2⟩
theorem scI.rf {S : aS} {x : Int} (h : N6 x) : scI S x x := by
  rcases h with rfl | h
  · exact Or.inl rfl
  · refine Or.inr ⟨h, ?_⟩
    have := scp_self (S := S) (b := x.toNat)
    rw [Int.toNat_of_nonneg h] at this
    exact this
/-- a line's formula is that of its rule: L0, R: formula and rule; a, b, c: what it refers to -/
def fitV (S : aS) (l : Nat) (f r h a b c : Int) : Prop :=
  (r = 1 → 0 ≤ h ∧ S.B 0 h.toNat = l) ∧
  (r = 2 → f = S.L 0 a.toNat) ∧
  (r = 3 → S.F 0 f.toNat = 3 ∧ S.F 1 f.toNat = S.L 0 a.toNat ∧ S.F 2 f.toNat = S.L 0 b.toNat) ∧
  (r = 4 → S.F 0 (S.L 0 a.toNat).toNat = 3 ∧ S.F 1 (S.L 0 a.toNat).toNat = f) ∧
  (r = 5 → S.F 0 (S.L 0 a.toNat).toNat = 3 ∧ S.F 2 (S.L 0 a.toNat).toNat = f) ∧
  (r = 6 → S.F 0 f.toNat = 4 ∧ (S.F 1 f.toNat = S.L 0 a.toNat ∨ S.F 2 f.toNat = S.L 0 a.toNat)) ∧
  (r = 7 → S.F 0 (S.L 0 a.toNat).toNat = 4 ∧ S.F 1 (S.L 0 a.toNat).toNat = asm S b.toNat ∧ S.F 2 (S.L 0 a.toNat).toNat = asm S c.toNat ∧ con S b.toNat = f ∧ con S c.toNat = f) ∧
  (r = 8 → S.F 0 f.toNat = 5 ∧ S.F 1 f.toNat = asm S a.toNat ∧ S.F 2 f.toNat = con S a.toNat) ∧
  (r = 9 → S.F 0 (S.L 0 a.toNat).toNat = 5 ∧ S.F 1 (S.L 0 a.toNat).toNat = S.L 0 b.toNat ∧ S.F 2 (S.L 0 a.toNat).toNat = f) ∧
  (r = 10 → S.F 0 f.toNat = 2 ∧ S.F 1 f.toNat = asm S a.toNat ∧ S.F 0 (con S a.toNat).toNat = 1) ∧
  (r = 11 → S.F 0 f.toNat = 1 ∧ S.F 0 (S.L 0 a.toNat).toNat = 2 ∧ S.F 1 (S.L 0 a.toNat).toNat = S.L 0 b.toNat) ∧
  (r = 12 → S.F 0 (S.L 0 a.toNat).toNat = 1) ∧
  (r = 13 → S.F 0 (S.L 0 a.toNat).toNat = 2 ∧ S.F 0 (S.F 1 (S.L 0 a.toNat).toNat).toNat = 2 ∧ S.F 1 (S.F 1 (S.L 0 a.toNat).toNat).toNat = f)
def fitL (S : aS) (l : Nat) : Prop := fitV S l (S.L 0 l) (S.L 1 l) (S.L 5 l) (S.L 2 l) (S.L 3 l) (S.L 4 l)
/-- a reference leads to what is in reach of box h -/
def reach (S : aS) (h : Int) (bx : Bool) (x : Int) : Prop := x = -6 ∨ (bx = false ∧ scI S h (S.L 5 x.toNat)) ∨ (bx = true ∧ scI S h (S.B 2 x.toNat))
def Snd (S : aS) : Prop := (∀ l, l < S.nl → fitL S l ∧ ∀ k, k < 3 → reach S (S.L 5 l) (isBx S l k) (S.L (2 + k) l)) ∧ ∀ b, b < S.nb → S.L 1 (S.B 0 b).toNat = 1 ∧ (¬ S.B 1 b = -6 → S.L 5 (S.B 1 b).toNat = b)
section
variable {S : aS} {v : Nat}
theorem ev1 (hI : Inv S) {f : Nat} (hf : f < S.nf) (hk : S.F 0 f = 1) : evS S v f = false := by rw [evS_rec hI v hf, gE, if_neg (by omega), if_pos hk]
theorem ev2 (hI : Inv S) {f : Nat} (hf : f < S.nf) (hk : S.F 0 f = 2) : evS S v f = !evS S v (S.F 1 f).toNat := by rw [evS_rec hI v hf, gE, if_neg (by omega), if_neg (by omega), if_pos hk]
theorem ev3 (hI : Inv S) {f : Nat} (hf : f < S.nf) (hk : S.F 0 f = 3) : evS S v f = (evS S v (S.F 1 f).toNat && evS S v (S.F 2 f).toNat) := by rw [evS_rec hI v hf, gE, if_neg (by omega), if_neg (by omega), if_neg (by omega), if_pos hk]
theorem ev4 (hI : Inv S) {f : Nat} (hf : f < S.nf) (hk : S.F 0 f = 4) : evS S v f = (evS S v (S.F 1 f).toNat || evS S v (S.F 2 f).toNat) := by rw [evS_rec hI v hf, gE, if_neg (by omega), if_neg (by omega), if_neg (by omega), if_neg (by omega), if_pos hk]
theorem ev5 (hI : Inv S) {f : Nat} (hf : f < S.nf) (hk : S.F 0 f = 5) : evS S v f = (!evS S v (S.F 1 f).toNat || evS S v (S.F 2 f).toNat) := by rw [evS_rec hI v hf, gE, if_neg (by omega), if_neg (by omega), if_neg (by omega), if_neg (by omega), if_neg (by omega)]
/-- the assumptions around x are true -/
def asmT (S : aS) (v : Nat) (x : Int) : Prop := ∀ b, b < S.nb → scp S x b → evS S v (asm S b).toNat = true
theorem sound (hI : Inv S) (hs : Snd S) (hp : ∀ l, l < S.nl → S.L 1 l = 0 → evS S v (S.L 0 l).toNat = true) : ∀ (n l : Nat), l < n → l < S.nl → asmT S v (S.L 5 l) → evS S v (S.L 0 l).toNat = true := by
  intro n
  induction n with
  | zero => intro l h; omega
  | succ n ih =>
    intro l hln hl ha
    obtain ⟨hfit, hre⟩ := hs.1 l hl
    have hok := hI.ref hl
    obtain ⟨f1, f2, f3, f4, f5, f6, f7, f8, f9, f10, f11, f12, f13⟩ := hfit
    have fin : ∀ {m : Nat}, m < S.nl → (S.L 0 m).toNat < S.nf := fun {m} hm => by
      obtain ⟨A, hA, hA2⟩ := hI.lf hm
      omega
    -- a line in reach
    have line : ∀ k, k < 3 → isBx S l k = false → okLR l (S.L (2 + k) l) → (S.L (2 + k) l).toNat < S.nl ∧ evS S v (S.L 0 (S.L (2 + k) l).toNat).toNat = true := by
      intro k hk hb hr
      obtain ⟨r1, r2⟩ := hr
      have hm : (S.L (2 + k) l).toNat < S.nl := by omega
      refine ⟨hm, ih _ (by omega) hm fun b hb' hsc => ha b hb' ?_⟩
      rcases hre k hk with z | ⟨-, z⟩ | ⟨z, -⟩
      · omega
      · exact z.tr hsc
      · rw [hb] at z; cases z
    -- a box in reach: its end follows from its assumption
    have box : ∀ k, k < 3 → isBx S l k = true → okBR S l (S.L (2 + k) l) → evS S v (asm S (S.L (2 + k) l).toNat).toNat = true → evS S v (con S (S.L (2 + k) l).toNat).toNat = true := by
      intro k hk hb hr hA
      obtain ⟨r1, r2, r3, r4⟩ := hr
      have hbn : (S.L (2 + k) l).toNat < S.nb := by omega
      have he := (hs.2 _ hbn).2 (by omega)
      refine ih (S.B 1 (S.L (2 + k) l).toNat).toNat (by omega) (by omega) ?_
      rw [he]
      intro b hb' hsc
      rcases scp_cs hsc with z | ⟨-, z⟩
      · have : b = (S.L (2 + k) l).toNat := by omega
        rw [this]; exact hA
      · rw [Int.toNat_natCast] at z
        refine ha b hb' ?_
        rcases hre k hk with y | ⟨y, -⟩ | ⟨-, y⟩
        · omega
        · rw [hb] at y; cases y
        · exact y.tr z
    have bxf : ∀ k, isBx S l k = decide (S.L 1 l = 8 ∨ S.L 1 l = 10 ∨ (S.L 1 l = 7 ∧ 0 < k)) := by
      intro k
      unfold isBx
      by_cases q8 : S.L 1 l = 8 <;> by_cases q10 : S.L 1 l = 10 <;> by_cases q7 : S.L 1 l = 7 <;> simp [q8, q10, q7]
    have hA := fin hl
    rcases hok with ⟨h1, h2, h3, h4⟩ | ⟨h1, h2, h3, h4⟩ | ⟨h1, h2, h3, h4⟩ | ⟨h1, h2, h3, h4⟩ | ⟨h1, h2, h3, h4⟩
    · rcases h1 with h1 | h1
      · exact hp l hl h1
      · obtain ⟨g1, g2⟩ := f1 h1
        have hX := hI.home hl
        have hb : (S.L 5 l).toNat < S.nb := by rcases hX with z | z <;> omega
        have := ha (S.L 5 l).toNat hb (by
          have := scp_self (S := S) (b := (S.L 5 l).toNat)
          rw [Int.toNat_of_nonneg g1] at this
          exact this)
        rw [show asm S (S.L 5 l).toNat = S.L 0 l by show S.L 0 (S.B 0 _).toNat = _; rw [g2, Int.toNat_natCast]] at this
        exact this
    · have b0 : isBx S l 0 = false := by rw [bxf]; simp; omega
      have b1 : isBx S l 1 = false := by rw [bxf]; simp; omega
      obtain ⟨m1, t1⟩ := line 0 (by omega) b0 h2
      obtain ⟨m2, t2⟩ := line 1 (by omega) b1 h3
      have i1 := fin m1
      have i2 := fin m2
      rcases h1 with h1 | h1 | h1
      · obtain ⟨g1, g2, g3⟩ := f3 h1
        rw [ev3 hI hA g1, g2, g3, t1, t2]; rfl
      · obtain ⟨g1, g2, g3⟩ := f9 h1
        have t1' := t1
        rw [ev5 hI i1 g1, g2, g3, t2] at t1'
        exact t1'
      · obtain ⟨g1, g2, g3⟩ := f11 h1
        have t1' := t1
        rw [ev2 hI i1 g2, g3, t2] at t1'
        cases t1'
    · have b0 : isBx S l 0 = false := by rw [bxf]; simp; omega
      obtain ⟨m1, t1⟩ := line 0 (by omega) b0 h2
      have i1 := fin m1
      rcases h1 with h1 | h1 | h1 | h1 | h1 | h1
      · rw [f2 h1]; exact t1
      · obtain ⟨g1, g2⟩ := f4 h1
        have t1' := t1
        rw [ev3 hI i1 g1, g2, Bool.and_eq_true] at t1'
        exact t1'.1
      · obtain ⟨g1, g2⟩ := f5 h1
        have t1' := t1
        rw [ev3 hI i1 g1, g2, Bool.and_eq_true] at t1'
        exact t1'.2
      · obtain ⟨g1, g2⟩ := f6 h1
        rw [ev4 hI hA g1]
        rcases g2 with g2 | g2
        · rw [g2, t1]; rfl
        · rw [g2, t1, Bool.or_true]
      · have t1' := t1
        rw [ev1 hI i1 (f12 h1)] at t1'
        cases t1'
      · obtain ⟨g1, g2, g3⟩ := f13 h1
        have t1' := t1
        obtain ⟨y, hy, hy2⟩ := hI.fl i1 (show 2 ≤ S.F 0 (S.L 0 (S.L (2 + 0) l).toNat).toNat from Int.le_of_eq g1.symm)
        rw [ev2 hI i1 g1, ev2 hI (show (S.F 1 (S.L 0 (S.L (2 + 0) l).toNat).toNat).toNat < S.nf by omega) g2, g3, Bool.not_not] at t1'
        exact t1'
    · have b0 : isBx S l 0 = false := by rw [bxf]; simp; omega
      have b1 : isBx S l 1 = true := by rw [bxf]; simp; omega
      have b2 : isBx S l 2 = true := by rw [bxf]; simp; omega
      obtain ⟨m1, t1⟩ := line 0 (by omega) b0 h2
      have i1 := fin m1
      obtain ⟨g1, g2, g3, g4, g5⟩ := f7 h1
      have c1 := box 1 (by omega) b1 h3
      have c2 := box 2 (by omega) b2 h4
      have t1' := t1
      rw [ev4 hI i1 g1, g2, g3, Bool.or_eq_true] at t1'
      rw [g4] at c1
      rw [g5] at c2
      rcases t1' with z | z
      · exact c1 z
      · exact c2 z
    · have b0 : isBx S l 0 = true := by rw [bxf]; simp; omega
      have c0 := box 0 (by omega) b0 h2
      rcases h1 with h1 | h1
      · obtain ⟨g1, g2, g3⟩ := f8 h1
        rw [ev5 hI hA g1, g2, g3]
        cases e : evS S v (asm S (S.L 2 l).toNat).toNat with
        | false => rfl
        | true => rw [c0 e]; rfl
      · obtain ⟨g1, g2, g3⟩ := f10 h1
        rw [ev2 hI hA g1, g2]
        cases e : evS S v (asm S (S.L 2 l).toNat).toNat with
        | false => rfl
        | true =>
          have := c0 e
          obtain ⟨r1, r2, r3, r4⟩ := h2
          rw [ev1 hI (fin (show (S.B 1 (S.L 2 l).toNat).toNat < S.nl by omega)) g3] at this
          cases this
end
