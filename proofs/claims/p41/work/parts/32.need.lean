/-! what a line needs: both sides -/
def isBx (S : aS) (l k : Nat) : Bool := decide (S.L 1 l = 8) || decide (S.L 1 l = 10) || (decide (S.L 1 l = 7) && decide (0 < k))
def rbit (S : aS) (l k i : Nat) : Bool := decide (S.L (2 + k) l ≠ -6) && (if isBx S l k = true then (decide ((i : Int) = S.B 0 (S.L (2 + k) l).toNat) || decide ((i : Int) = S.B 1 (S.L (2 + k) l).toNat)) else decide ((i : Int) = S.L (2 + k) l))
def drt (S : aS) (l i : Nat) : Bool := rbit S l 0 i || rbit S l 1 i || rbit S l 2 i
def tl (S : aS) (l : Nat) : Nat := if S.L 1 l = 3 ∨ S.L 1 l = 9 ∨ S.L 1 l = 11 then 2 else if S.L 1 l = 2 ∨ S.L 1 l = 4 ∨ S.L 1 l = 5 ∨ S.L 1 l = 6 ∨ S.L 1 l = 7 ∨ S.L 1 l = 12 ∨ S.L 1 l = 13 then 1 else 0
theorem refcase {S : aS} {l : Nat} (h : okRef S l) {k : Nat} (hk : k < 3) : (k < tl S l ∧ okLR l (S.L (2 + k) l) ∧ isBx S l k = false) ∨ (¬ k < tl S l ∧ S.L (2 + k) l = -6) ∨ (¬ k < tl S l ∧ okBR S l (S.L (2 + k) l) ∧ isBx S l k = true) := by
  unfold okRef at h
  rcases (show k = 0 ∨ k = 1 ∨ k = 2 by omega) with rfl | rfl | rfl
  · rcases h with ⟨h1, h2, h3, h4⟩ | ⟨h1, h2, h3, h4⟩ | ⟨h1, h2, h3, h4⟩ | ⟨h1, h2, h3, h4⟩ | ⟨h1, h2, h3, h4⟩
    · exact Or.inr (Or.inl ⟨by unfold tl; rcases h1 with e | e <;> simp [e], h2⟩)
    · exact Or.inl ⟨by unfold tl; rcases h1 with e | e | e <;> simp [e], h2, by unfold isBx; rcases h1 with e | e | e <;> simp [e]⟩
    · exact Or.inl ⟨by unfold tl; rcases h1 with e | e | e | e | e | e <;> simp [e], h2, by unfold isBx; rcases h1 with e | e | e | e | e | e <;> simp [e]⟩
    · exact Or.inl ⟨by unfold tl; simp [h1], h2, by unfold isBx; simp [h1]⟩
    · exact Or.inr (Or.inr ⟨by unfold tl; rcases h1 with e | e <;> simp [e], h2, by unfold isBx; rcases h1 with e | e <;> simp [e]⟩)
  · rcases h with ⟨h1, h2, h3, h4⟩ | ⟨h1, h2, h3, h4⟩ | ⟨h1, h2, h3, h4⟩ | ⟨h1, h2, h3, h4⟩ | ⟨h1, h2, h3, h4⟩
    · exact Or.inr (Or.inl ⟨by unfold tl; rcases h1 with e | e <;> simp [e], h3⟩)
    · exact Or.inl ⟨by unfold tl; rcases h1 with e | e | e <;> simp [e], h3, by unfold isBx; rcases h1 with e | e | e <;> simp [e]⟩
    · exact Or.inr (Or.inl ⟨by unfold tl; rcases h1 with e | e | e | e | e | e <;> simp [e], h3⟩)
    · exact Or.inr (Or.inr ⟨by unfold tl; simp [h1], h3, by unfold isBx; simp [h1]⟩)
    · exact Or.inr (Or.inl ⟨by unfold tl; rcases h1 with e | e <;> simp [e], h3⟩)
  · rcases h with ⟨h1, h2, h3, h4⟩ | ⟨h1, h2, h3, h4⟩ | ⟨h1, h2, h3, h4⟩ | ⟨h1, h2, h3, h4⟩ | ⟨h1, h2, h3, h4⟩
    · exact Or.inr (Or.inl ⟨by unfold tl; rcases h1 with e | e <;> simp [e], h4⟩)
    · exact Or.inr (Or.inl ⟨by unfold tl; rcases h1 with e | e | e <;> simp [e], h4⟩)
    · exact Or.inr (Or.inl ⟨by unfold tl; rcases h1 with e | e | e | e | e | e <;> simp [e], h4⟩)
    · exact Or.inr (Or.inr ⟨by unfold tl; simp [h1], h4, by unfold isBx; simp [h1]⟩)
    · exact Or.inr (Or.inl ⟨by unfold tl; rcases h1 with e | e <;> simp [e], h4⟩)
/-- the starts of a box and of those around it -/
def ach (S : aS) : Nat → Int → Nat → Bool
  | 0, _, _ => false
  | n + 1, x, i => if x = -6 then false else decide ((i : Int) = S.B 0 x.toNat) || ach S n (S.B 2 x.toNat) i
def dpI (dp : Nat → Nat) (x : Int) : Nat := if x = -6 then 0 else dp x.toNat
def usr (S : aS) (l : Nat) : Nat → Nat
  | 0 => 0
  | n + 1 => if drt S n l = true then usr S l n + 1 else usr S l n
def ndl (S : aS) : Nat → (Nat → Bool) → Nat → Bool
  | 0, X => X
  | n + 1, X => ndl S n (if X n = true then fun i => X i || (drt S n i || ach S 5 (S.L 5 n) i) else X)
def needS (S : aS) (l : Nat) : Nat → Bool := ndl S (l + 1) (fun i => decide (i = l))
theorem usr_le (S : aS) (l : Nat) : ∀ n, usr S l n ≤ n
  | 0 => Nat.le_refl _
  | n + 1 => by
    unfold usr
    have := usr_le S l n
    split <;> omega
/-- a box's depth, and its parent's -/
theorem dp_step {S : aS} {dp : Nat → Nat} (h7 : ∀ b, b < S.nb → okB S dp b) {x : Int} (hx : 0 ≤ x ∧ x < S.nb) : 1 ≤ dpI dp x ∧ dpI dp x ≤ 5 ∧ dpI dp x = dpI dp (S.B 2 x.toNat) + 1 ∧ okX S (S.B 2 x.toNat) := by
  obtain ⟨-, -, -, -, -, a6, a7, a8⟩ := h7 x.toNat (by omega)
  have e : dpI dp x = dp x.toNat := if_neg (by omega)
  rw [e]
  refine ⟨a6, a7, ?_, ?_⟩
  · rcases a8 with z | z
    · rw [dpI, if_pos z.1, z.2]
    · rw [dpI, if_neg (by omega), z.2.2.1]
  · rcases a8 with z | z
    · exact Or.inl z.1
    · exact Or.inr ⟨z.1, by omega⟩
theorem dpI_le {S : aS} {dp : Nat → Nat} (h7 : ∀ b, b < S.nb → okB S dp b) {x : Int} (hx : okX S x) : dpI dp x ≤ 5 := by
  rcases hx with z | z
  · rw [dpI, if_pos z]; omega
  · exact (dp_step h7 z).2.1
theorem ach_up {S : aS} {dp : Nat → Nat} (h7 : ∀ b, b < S.nb → okB S dp b) : ∀ (n m : Nat) (x : Int) (i : Nat), okX S x → dpI dp x ≤ n → dpI dp x ≤ m → ach S n x i = ach S m x i
  | 0, 0, x, i, _, _, _ => rfl
  | 0, m + 1, x, i, hx, h1, h2 => by
    have : x = -6 := by
      rcases hx with z | z
      · exact z
      · have := (dp_step h7 z).1; omega
    simp [ach, this]
  | n + 1, 0, x, i, hx, h1, h2 => by
    have : x = -6 := by
      rcases hx with z | z
      · exact z
      · have := (dp_step h7 z).1; omega
    simp [ach, this]
  | n + 1, m + 1, x, i, hx, h1, h2 => by
    unfold ach
    by_cases hz : x = -6
    · rw [if_pos hz, if_pos hz]
    · rw [if_neg hz, if_neg hz]
      rcases hx with z | z
      · exact absurd z hz
      · obtain ⟨b1, b2, b3, b4⟩ := dp_step h7 z
        rw [ach_up h7 n m _ i b4 (by omega) (by omega)]
section
variable {G : xG} {d : Nat} {μ : xM} {Q : xP} {S : aS} {H : List aS} {K : Option aS} {T : aT}
theorem bit_ok {x : Int32} (hx : x.toInt < 64) (h : ∀ y : Int64, (∀ i, hasb y i = decide ((i : Int) = x.toInt)) → Q (some (vL y)) μ) : MW G (d + 1) mX4_bit [vI x] μ Q := by
  refine wX4_bit (xif_c (fun c1 => h _ fun i => ?_) (fun c1 => h _ fun i => ?_))
  · rw [ti_le, ti_lit0] at c1
    have e : x.toInt = (x.toInt.toNat : Nat) := by omega
    rw [hb_one e (by omega)]
    exact decide_eq_decide.mpr (by omega)
  · rw [ti_le, ti_lit0] at c1
    have : ¬ (i : Int) = x.toInt := by omega
    rw [hb_0]
    simp [this]
theorem contains_ok {y : Int64} {x : Int32} {k : Nat} (hx : x.toInt = k) (hk : k < 64) (ht : hasb y k = true → Q (some (vI 1)) μ) (hf : ¬ hasb y k = true → Q (some (vI 0)) μ) : MW G (d + 2) mX4_contains [vL y, vI x] μ Q := by
  refine wX4_contains (wX4_bit (xif_t (by rw [ti_le, ti_lit0]; omega) (xif_c (fun c1 => ⟨z01, hf ?_⟩) (fun c1 => ⟨z11, ht ?_⟩))))
  · rw [cont_iff hx hk] at c1
    simp [c1]
  · rw [cont_iff hx hk] at c1
    simpa using c1
theorem clr_ok' {l : Int32} {k : Nat} (hr : repP μ 0 S) (h48 : S.nl ≤ 48) (hl : l.toInt = k) (hk : k < S.nl) (h : ∀ x : Int32, x.toInt = tl S k → Q (some (vI x)) μ) : MW G (d + 2) mX4_countLineReferences [vR (3, 0, 0), vI l] μ Q := by
  refine wX4_countLineReferences (c_ru hr h48 hl hk fun x hx => ?_)
  have L : ∀ n : Nat, n < 100 → (Int32.ofNat n).toInt = n := fun n hn => ti_of (by omega)
  have key : ∀ (n : Int32) (v : Int32) (m : Int), n.toInt = m → (S.L 1 k = m → (v.toInt : Int) = tl S k) → x = n → Q (some (vI v)) μ := by
    intro n v m hn hv hxn
    refine h v (hv ?_)
    rw [← hx, hxn, hn]
  refine ⟨key 2 1 2 rfl fun e => by unfold tl; simp [e], fun n2 => ⟨key 3 2 3 rfl fun e => by unfold tl; simp [e], fun n3 => ⟨key 4 1 4 rfl fun e => by unfold tl; simp [e], fun n4 => ⟨key 5 1 5 rfl fun e => by unfold tl; simp [e], fun n5 => ⟨key 6 1 6 rfl fun e => by unfold tl; simp [e], fun n6 => ⟨key 7 1 7 rfl fun e => by unfold tl; simp [e], fun n7 => ⟨key 8 0 8 rfl fun e => by unfold tl; simp [e], fun n8 => ⟨key 9 2 9 rfl fun e => by unfold tl; simp [e], fun n9 => ⟨key 10 0 10 rfl fun e => by unfold tl; simp [e], fun n10 => ⟨key 11 2 11 rfl fun e => by unfold tl; simp [e], fun n11 => ⟨key 12 1 12 rfl fun e => by unfold tl; simp [e], fun n12 => ⟨key 13 1 13 rfl fun e => by unfold tl; simp [e], fun n13 => h 0 ?_⟩⟩⟩⟩⟩⟩⟩⟩⟩⟩⟩⟩
  have L2 : ∀ (n : Int32) (m : Int), n.toInt = m → ¬ x = n → ¬ S.L 1 k = m := fun n m hn hne e => hne (by rw [ti_eq, hx, hn]; exact e)
  have a2 := L2 2 2 rfl n2
  have a3 := L2 3 3 rfl n3
  have a4 := L2 4 4 rfl n4
  have a5 := L2 5 5 rfl n5
  have a6 := L2 6 6 rfl n6
  have a7 := L2 7 7 rfl n7
  have a9 := L2 9 9 rfl n9
  have a11 := L2 11 11 rfl n11
  have a12 := L2 12 12 rfl n12
  have a13 := L2 13 13 rfl n13
  unfold tl
  simp [a2, a3, a4, a5, a6, a7, a9, a11, a12, a13]
theorem clr_ok {l : Int32} {k : Nat} (hr : repP μ 0 S) (hI : Inv S) (hl : l.toInt = k) (hk : k < S.nl) (h : ∀ x : Int32, x.toInt = tl S k → Q (some (vI x)) μ) : MW G (d + 2) mX4_countLineReferences [vR (3, 0, 0), vI l] μ Q := clr_ok' hr hI.2.1 hl hk h
theorem refAt_ok {l x : Int32} {k i : Nat} (hr : repP μ 0 S) (hI : Inv S) (hl : l.toInt = k) (hk : k < S.nl) (hi : x.toInt = i) (hi3 : i < 3) (h : ∀ y : Int32, y.toInt = S.L (2 + i) k → Q (some (vI y)) μ) : MW G (d + 2) mX4_referenceAt [vR (3, 0, 0), vI l, vI x] μ Q := by
  have e0 : (0 : Int32).toInt = 0 := rfl
  have e1 : (1 : Int32).toInt = 1 := rfl
  have e2 : (2 : Int32).toInt = 2 := rfl
  refine wX4_referenceAt ⟨fun z => c_r0 hr hI.2.1 hl hk fun y hy => h y ?_, fun n0 => ⟨fun z => c_r1 hr hI.2.1 hl hk fun y hy => h y ?_, fun n1 => ⟨fun z => c_r2 hr hI.2.1 hl hk fun y hy => h y ?_, fun n2 => ?_⟩⟩⟩
  · rw [ti_eq, hi, e0] at z
    have : i = 0 := by omega
    subst this; exact hy
  · rw [ti_eq, hi, e1] at z
    have : i = 1 := by omega
    subst this; exact hy
  · rw [ti_eq, hi, e2] at z
    have : i = 2 := by omega
    subst this; exact hy
  · rw [ti_eq, hi, e0] at n0
    rw [ti_eq, hi, e1] at n1
    rw [ti_eq, hi, e2] at n2
    omega
theorem drt_ok {l : Int32} {k : Nat} (hr : repP μ 0 S) (hI : Inv S) (hl : l.toInt = k) (hk : k < S.nl) (h : ∀ y : Int64, (∀ i, hasb y i = drt S k i) → Q (some (vL y)) μ) : MW G (d + 3) mX4_directNeeds [vR (3, 0, 0), vI l] μ Q := by
  have hbd := hI.bd
  have h48 := hbd.2.1
  have hb48 := hbd.2.2
  have h60 := hbd.1
  have e3 : (3 : Int32).toInt = 3 := rfl
  refine wX4_directNeeds fun Z => clr_ok hr hI hl hk fun t ht => ?_
  have htl : tl S k ≤ 2 := by unfold tl; split; omega; split <;> omega
  have st : ∀ (i : Nat) (y : Int64), i < 3 → (∀ y' : Int64, (∀ b, hasb y' b = (hasb y b || rbit S k i b)) → WS G eX4_directNeeds (d + 3) Z Q 11 [vR (3, 0, 0), vI l, vI t, vL y', vN, vI (nI (i + 1)), vN] [] μ) → WS G eX4_directNeeds (d + 3) Z Q 11 [vR (3, 0, 0), vI l, vI t, vL y, vN, vI (nI i), vN] [] μ := by
    intro i y hi hh
    have ei : (nI i).toInt = i := nI_t (by omega)
    refine wX4_directNeeds_11 (xif_f (by rw [ti_le, e3, ei]; omega) (refAt_ok hr hI hl hk ei hi fun x hx => ?_))
    rw [nI_1]
    have hok := (hI.2.2.2.2.2.1 k hk).2.2.1
    rcases refcase hok hi with ⟨c1, c2, c3⟩ | ⟨c1, c2⟩ | ⟨c1, c2, c3⟩
    · refine xif_f (by rw [ti_le, ht, ei]; omega) (bit_ok (by rw [hx]; have := c2.2; omega) fun z hz => hh _ fun b => ?_)
      rw [hb_or, hz, hx, rbit, c3]
      have : ¬ S.L (2 + i) k = -6 := by have := c2.1; omega
      simp [this]
    · have hx6 : x.toInt = -6 := by rw [hx, c2]
      refine xif_t (by rw [ti_le, ht, ei]; omega) (get_out (Or.inl (by rw [hx6]; omega)) (bit_ok (by decide) fun z hz => get_out (Or.inl (by rw [hx6]; omega)) (bit_ok (by decide) fun w hw => hh _ fun b => ?_)))
      rw [hb_or, hb_or, hz, hw, rbit, c2]
      have : ¬ (b : Int) = (-6 : Int32).toInt := by rw [ti_litm6]; omega
      simp [this]
    · have hxk : x.toInt = ((S.L (2 + i) k).toNat : Nat) := by rw [hx]; have := c2.1; omega
      have hxb : (S.L (2 + i) k).toNat < S.nb := by have := c2.1; have := c2.2.1; omega
      obtain ⟨s, hs, hs2⟩ := hI.bs hxb
      refine xif_t (by rw [ti_le, ht, ei]; omega) (c_st hr hbd.2.2 hxk hxb fun u hu => bit_ok (by rw [hu, hs]; omega) fun z hz => c_en hr hbd.2.2 hxk hxb fun v hv => bit_ok (by rw [hv]; have := c2.2.2.2; omega) fun w hw => hh _ fun b => ?_)
      rw [hb_or, hb_or, hz, hw, hu, hv, rbit, c3]
      have : ¬ S.L (2 + i) k = -6 := by have := c2.1; omega
      simp [this]
  refine st 0 0 (by omega) fun y0 h0 => st 1 y0 (by omega) fun y1 h1 => st 2 y1 (by omega) fun y2 h2 => ?_
  refine wX4_directNeeds_11 (xif_t (by rw [ti_le, e3, nI_t (by omega)]; omega) (h y2 fun b => ?_))
  rw [h2, h1, h0, hb_0, drt]
  simp
theorem users_ok {l : Int32} {k : Nat} (hr : repP μ 0 S) (hI : Inv S) (hl : l.toInt = k) (hk : k < S.nl) (h : ∀ x : Int32, x.toInt = usr S k S.nl → Q (some (vI x)) μ) : MW G (d + 4) mX4_countUsers [vR (3, 0, 0), vI l] μ Q := by
  have hbd := hI.bd
  have h48 := hbd.2.1
  have hb48 := hbd.2.2
  have h60 := hbd.1
  refine wX4_countUsers fun Z => ?_
  refine up_loop (σ := Int32) (fun i x => WS G eX4_countUsers (d + 4) Z Q 4 [vR (3, 0, 0), vI l, vI x, vI (nI i)] [] μ) (fun i x => x.toInt = usr S k i) S.nl ?_ ?_ 0 _ (by omega) rfl
  · intro i x hi hx ih
    have ei : (nI i).toInt = i := nI_t (by omega)
    have hu := usr_le S k i
    refine wX4_countUsers_4 (xif_f (by rw [ti_le, hr.1, ei]; omega) (drt_ok hr hI ei hi fun y hy => contains_ok hl (by omega) (fun c => xif_f (by decide) ?_) (fun c => xif_t rfl ?_)))
    · rw [nI_1]
      refine ih _ ?_
      rw [hy] at c
      unfold usr
      rw [if_pos c, ti_add (by rw [hx, ti_lit1]; omega) (by rw [hx, ti_lit1]; omega), hx, ti_lit1]
      omega
    · rw [nI_1]
      refine ih _ ?_
      rw [hy] at c
      unfold usr
      rw [if_neg c, hx]
  · intro x hx
    have ei : (nI S.nl).toInt = S.nl := nI_t (by omega)
    exact wX4_countUsers_4 (xif_t (by rw [ti_le, hr.1, ei]; omega) (h _ hx))
theorem nest_ok {dp : Nat → Nat} {x : Int32} (hr : repP μ 0 S) (hb : S.nb ≤ 48) (h7 : ∀ b, b < S.nb → okB S dp b) (hx : okX S x.toInt) (h : ∀ y : Int32, y.toInt = dpI dp x.toInt → Q (some (vI y)) μ) : MW G (d + 2) mX4_nesting [vR (3, 0, 0), vI x] μ Q := by
  refine wX4_nesting fun Z => ?_
  have e5 : (5 : Int32).toInt = 5 := rfl
  have lp : ∀ (n : Nat) (a c : Int32), dpI dp a.toInt = n → okX S a.toInt → 0 ≤ c.toInt → c.toInt + n = dpI dp x.toInt → WS G eX4_nesting (d + 2) Z Q 4 [vR (3, 0, 0), vN, vI a, vI c] [] μ := by
    have hle := dpI_le h7 hx
    intro n
    induction n with
    | zero =>
      intro a c h1 h2 h3 h4
      rcases h2 with z | z
      · exact wX4_nesting_4 (hasB_ok hr (fun k k1 k2 => by omega) fun _ => xif_t rfl (h c (by omega)))
      · have := (dp_step h7 z).1; omega
    | succ n ih =>
      intro a c h1 h2 h3 h4
      rcases h2 with z | z
      · rw [dpI, if_pos z] at h1; omega
      · obtain ⟨b1, b2, b3, b4⟩ := dp_step h7 z
        refine wX4_nesting_4 (hasB_ok hr (fun k k1 k2 => xif_f (by decide) (xif_f (by rw [ti_le, e5]; omega) (c_pa hr hb k1 k2 fun p hp => ?_))) fun y => absurd z y)
        have hk : a.toInt.toNat = k := by omega
        rw [hk] at b3 b4
        have hc : (c + 1).toInt = c.toInt + 1 := by rw [ti_add (by rw [ti_lit1]; omega) (by rw [ti_lit1]; omega), ti_lit1]
        exact ih p (c + 1) (by rw [hp]; omega) (by rw [hp]; exact b4) (by omega) (by omega)
  exact lp _ x 0 rfl hx (by decide) (by rw [ti_lit0]; omega)
theorem from_ok {x : Int32} (hr : repP μ 0 S) (hI : Inv S) (hx : okX S x.toInt) (h : ∀ y : Int64, (∀ i, hasb y i = ach S 5 x.toInt i) → Q (some (vL y)) μ) : MW G (d + 2) mX4_assumptionsFrom [vR (3, 0, 0), vI x] μ Q := by
  have hbd := hI.bd
  have h48 := hbd.2.1
  have hb48 := hbd.2.2
  have h60 := hbd.1
  have e5 : (5 : Int32).toInt = 5 := rfl
  refine wX4_assumptionsFrom fun Z => ?_
  have lp : ∀ (n m : Nat) (a : Int32) (y : Int64), n + m = 5 → okX S a.toInt → (∀ i, (hasb y i || ach S n a.toInt i) = ach S 5 x.toInt i) → WS G eX4_assumptionsFrom (d + 2) Z Q 8 [vR (3, 0, 0), vN, vL y, vN, vI a, vI (nI m)] [] μ := by
    intro n
    induction n with
    | zero =>
      intro m a y h1 h2 h3
      refine wX4_assumptionsFrom_8 (xif_t (by rw [ti_le, e5, nI_t (by omega)]; omega) (h y fun i => ?_))
      rw [← h3 i]
      simp [ach]
    | succ n ih =>
      intro m a y h1 h2 h3
      have em : (nI m).toInt = m := nI_t (by omega)
      refine wX4_assumptionsFrom_8 (xif_f (by rw [ti_le, e5, em]; omega) ?_)
      rcases h2 with z | z
      · refine get_out (Or.inl (by omega)) (bit_ok (by decide) fun w hw => get_out (Or.inl (by omega)) ?_)
        rw [nI_1]
        refine ih (m + 1) _ _ (by omega) (Or.inl rfl) fun i => ?_
        rw [← h3 i, hb_or, hw]
        have : ¬ (i : Int) = (-6 : Int32).toInt := by rw [ti_litm6]; omega
        cases n <;> simp [ach, z, this, ti_litm6]
      · have hk : a.toInt = (a.toInt.toNat : Nat) := by omega
        have hkb : a.toInt.toNat < S.nb := by omega
        obtain ⟨s, hs, hs2⟩ := hI.bs hkb
        refine c_st hr hbd.2.2 hk hkb fun u hu => bit_ok (by rw [hu, hs]; omega) fun w hw => c_pa hr hbd.2.2 hk hkb fun p hp => ?_
        rw [nI_1]
        refine ih (m + 1) _ _ (by omega) (by rw [hp]; exact hI.parX hkb) fun i => ?_
        rw [← h3 i, hb_or, hw, hu, hp]
        have : ¬ a.toInt = -6 := by omega
        conv => rhs; unfold ach
        rw [if_neg this, Bool.or_assoc]
  exact lp 5 0 x 0 rfl hx fun i => by rw [hb_0]; simp
end
