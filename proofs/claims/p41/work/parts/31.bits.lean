/-! sets of lines as longs -/
def hasb (y : Int64) (i : Nat) : Bool := y.toBitVec.getLsbD i
theorem hb_or (a b : Int64) (i : Nat) : hasb (a ||| b) i = (hasb a i || hasb b i) := by
  unfold hasb
  rw [Int64.toBitVec_or, BitVec.getLsbD_or]
theorem hb_and (a b : Int64) (i : Nat) : hasb (a &&& b) i = (hasb a i && hasb b i) := by
  unfold hasb
  rw [Int64.toBitVec_and, BitVec.getLsbD_and]
theorem hb_0 (i : Nat) : hasb 0 i = false := by
  unfold hasb
  show (0#64).getLsbD i = false
  simp
theorem hb_big (a : Int64) {i : Nat} (h : 64 ≤ i) : hasb a i = false := BitVec.getLsbD_of_ge _ _ h
theorem hb_ext {a b : Int64} (h : ∀ i, i < 64 → hasb a i = hasb b i) : a = b := by
  apply Int64.toBitVec_inj.mp
  exact BitVec.eq_of_getLsbD_eq fun i hi => h i hi
theorem of_ti {x : Int32} {k : Nat} (h : x.toInt = k) (hk : k < 2147483648) : x = nI k := by
  apply Int32.toInt_inj.mp
  rw [h, nI_t hk]
theorem sm64 : ∀ k, k < 64 → (((nI k).toInt64 &&& 63).toBitVec.smod 64) = BitVec.ofNat 64 k := by decide +kernel
theorem tn64 {k : Nat} (h : k < 64) : (BitVec.ofNat 64 k).toNat = k := by
  rw [BitVec.toNat_ofNat]
  exact Nat.mod_eq_of_lt (by omega)
theorem hb_one {x : Int32} {k : Nat} (hx : x.toInt = k) (hk : k < 64) (i : Nat) : hasb (xls 1 x) i = decide (i = k) := by
  rw [of_ti hx (by omega)]
  unfold hasb xls
  rw [Int64.toBitVec_shiftLeft, sm64 k hk]
  show ((1#64) <<< (BitVec.ofNat 64 k)).getLsbD i = _
  rw [BitVec.shiftLeft_eq', tn64 hk, BitVec.getLsbD_shiftLeft]
  by_cases h : i = k
  · subst h; simp [hk]
  · by_cases h2 : i < k
    · simp [h2, h]
    · have : ¬ i - k = 0 := by omega
      simp [h, this]
theorem cmp0 (a b : Int64) : lg_cmp a b = 0 ↔ a = b := by
  unfold lg_cmp
  by_cases h : a = b
  · subst h
    simp [Int64.lt_irrefl]
  · constructor
    · intro h1
      exfalso
      split at h1
      · exact absurd h1 (by decide)
      · first | exact absurd h1 (by decide) | (rw [if_neg h] at h1; exact absurd h1 (by decide))
    · intro h1; exact absurd h1 h
theorem cont_iff {a : Int64} {x : Int32} {k : Nat} (hx : x.toInt = k) (hk : k < 64) : lg_cmp (a &&& xls 1 x) 0 = 0 ↔ hasb a k = false := by
  rw [cmp0]
  constructor
  · intro h
    have h1 : hasb (a &&& xls 1 x) k = false := by rw [h, hb_0]
    rw [hb_and, hb_one hx hk] at h1
    simpa using h1
  · intro h
    refine hb_ext fun i hi => ?_
    rw [hb_and, hb_one hx hk, hb_0]
    by_cases e : i = k
    · subst e; simp [h]
    · simp [e]
theorem test_iff {a : Int64} {x : Int32} {k : Nat} (hx : x.toInt = k) (hk : k < 64) : lg_cmp (xlr a x &&& 1) 1 = 0 ↔ hasb a k = true := by
  rw [cmp0, of_ti hx (by omega)]
  have h0 : hasb (xlr a (nI k)) 0 = hasb a k := by
    unfold hasb xlr
    rw [Int64.toBitVec_shiftRight, sm64 k hk, BitVec.getLsbD_sshiftRight', tn64 hk]
    simp [hk]
  have h1 : ∀ i, hasb 1 i = decide (i = 0) := by
    intro i
    unfold hasb
    show (1#64).getLsbD i = _
    rw [BitVec.getLsbD_one]
    simp
  constructor
  · intro h
    have h2 : hasb (xlr a (nI k) &&& 1) 0 = true := by rw [h, h1]; rfl
    rw [hb_and, h0, h1] at h2
    simpa using h2
  · intro h
    refine hb_ext fun i hi => ?_
    rw [hb_and, h1]
    by_cases e : i = 0
    · subst e; rw [h0, h]; rfl
    · simp [e]
