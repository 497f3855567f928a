/-! how many bits a word has -/
def rk (X : Nat → Bool) : Nat → Nat
  | 0 => 0
  | n + 1 => if X n = true then rk X n + 1 else rk X n
def bwW : List Nat → Nat
  | [] => 0
  | c :: l => c + 256 * bwW l
def bwM (b : Nat) : Nat → Nat
  | 0 => 0
  | n + 1 => b + 256 * bwM b n
theorem and_split {x y u v : Nat} (hx : x < 256) (hu : u < 256) : (x + 256 * y) &&& (u + 256 * v) = (x &&& u) + 256 * (y &&& v) := by
  have hxu : (x &&& u) < 2 ^ 8 := Nat.lt_of_le_of_lt Nat.and_le_left hx
  apply Nat.eq_of_testBit_eq
  intro i
  rw [Nat.testBit_and, show x + 256 * y = 2 ^ 8 * y + x by omega, show u + 256 * v = 2 ^ 8 * v + u by omega, show (x &&& u) + 256 * (y &&& v) = 2 ^ 8 * (y &&& v) + (x &&& u) by omega, Nat.testBit_two_pow_mul_add _ hx, Nat.testBit_two_pow_mul_add _ hu, Nat.testBit_two_pow_mul_add _ hxu]
  split <;> rw [Nat.testBit_and]
def bwA (c : Nat) : Nat := (c / 2) &&& 85
def bwB (c : Nat) : Nat := c &&& 51
def bwC (c : Nat) : Nat := (c / 4) &&& 51
def bwD (c : Nat) : Nat := (c + c / 16) &&& 15
theorem d_A : ∀ c, c < 256 → ∀ q, q < 2 → (c / 2 + 128 * q) &&& 85 = bwA c := by decide +kernel
theorem d_C : ∀ c, c < 256 → ∀ q, q < 4 → (c / 4 + 64 * q) &&& 51 = bwC c := by decide +kernel
theorem d_D : ∀ c, c < 256 → c % 16 ≤ 4 → c / 16 ≤ 4 → ∀ q, q < 5 → (c + c / 16 + 16 * q) &&& 15 = bwD c := by decide +kernel
theorem w_A : ∀ l : List Nat, (∀ c ∈ l, c < 256) → (bwW l / 2) &&& bwM 85 l.length = bwW (l.map bwA)
  | [], _ => rfl
  | c :: l, h => by
    have hc : c < 256 := h c (by simp)
    show ((c + 256 * bwW l) / 2) &&& (85 + 256 * bwM 85 l.length) = bwA c + 256 * bwW (l.map bwA)
    rw [show (c + 256 * bwW l) / 2 = (c / 2 + 128 * (bwW l % 2)) + 256 * (bwW l / 2) by omega, and_split (by omega) (by omega), d_A c hc _ (by omega), w_A l fun x hx => h x (by simp [hx])]
theorem w_B : ∀ l : List Nat, (∀ c ∈ l, c < 256) → bwW l &&& bwM 51 l.length = bwW (l.map bwB)
  | [], _ => rfl
  | c :: l, h => by
    have hc : c < 256 := h c (by simp)
    show (c + 256 * bwW l) &&& (51 + 256 * bwM 51 l.length) = bwB c + 256 * bwW (l.map bwB)
    rw [and_split hc (by omega), w_B l fun x hx => h x (by simp [hx])]
    rfl
theorem w_C : ∀ l : List Nat, (∀ c ∈ l, c < 256) → (bwW l / 4) &&& bwM 51 l.length = bwW (l.map bwC)
  | [], _ => rfl
  | c :: l, h => by
    have hc : c < 256 := h c (by simp)
    show ((c + 256 * bwW l) / 4) &&& (51 + 256 * bwM 51 l.length) = bwC c + 256 * bwW (l.map bwC)
    rw [show (c + 256 * bwW l) / 4 = (c / 4 + 64 * (bwW l % 4)) + 256 * (bwW l / 4) by omega, and_split (by omega) (by omega), d_C c hc _ (by omega), w_C l fun x hx => h x (by simp [hx])]
theorem w_D : ∀ l : List Nat, (∀ c ∈ l, c < 256 ∧ c % 16 ≤ 4 ∧ c / 16 ≤ 4) → (bwW l + bwW l / 16) &&& bwM 15 l.length = bwW (l.map bwD)
  | [], _ => rfl
  | c :: l, h => by
    obtain ⟨hc, hc1, hc2⟩ := h c (by simp)
    have hq : bwW l % 16 < 5 := by
      cases l with
      | nil => show 0 % 16 < 5; omega
      | cons x l =>
        have := (h x (by simp)).2.1
        show (x + 256 * bwW l) % 16 < 5
        omega
    show ((c + 256 * bwW l) + (c + 256 * bwW l) / 16) &&& (15 + 256 * bwM 15 l.length) = bwD c + 256 * bwW (l.map bwD)
    rw [show (c + 256 * bwW l) + (c + 256 * bwW l) / 16 = (c + c / 16 + 16 * (bwW l % 16)) + 256 * (bwW l + bwW l / 16) by omega, and_split (by omega) (by omega), d_D c hc hc1 hc2 _ hq, w_D l fun x hx => h x (by simp [hx])]
theorem w_add (f g : Nat → Nat) : ∀ l : List Nat, bwW (l.map f) + bwW (l.map g) = bwW (l.map fun c => f c + g c)
  | [] => rfl
  | c :: l => by
    have := w_add f g l
    show (f c + 256 * bwW (l.map f)) + (g c + 256 * bwW (l.map g)) = (f c + g c) + 256 * bwW (l.map fun c => f c + g c)
    omega
theorem w_lt : ∀ l : List Nat, (∀ c ∈ l, c < 256) → bwW l < 256 ^ l.length
  | [], _ => by decide
  | c :: l, h => by
    have hc : c < 256 := h c (by simp)
    have := w_lt l fun x hx => h x (by simp [hx])
    show c + 256 * bwW l < 256 ^ (l.length + 1)
    rw [Nat.pow_succ]
    omega
def bw1 (c : Nat) : Nat := c - bwA c
def bw2 (c : Nat) : Nat := bwB (bw1 c) + bwC (bw1 c)
def bw3 (c : Nat) : Nat := bwD (bw2 c)
def bwN (c : Nat) : Nat := (c.testBit 0).toNat + (c.testBit 1).toNat + (c.testBit 2).toNat + (c.testBit 3).toNat + (c.testBit 4).toNat + (c.testBit 5).toNat + (c.testBit 6).toNat + (c.testBit 7).toNat
theorem d_1 : ∀ c, c < 256 → bwA c ≤ c ∧ bw1 c < 256 := by decide +kernel
theorem d_2 : ∀ c, c < 256 → bw2 c < 256 ∧ bw2 c % 16 ≤ 4 ∧ bw2 c / 16 ≤ 4 := by decide +kernel
theorem d_3 : ∀ c, c < 256 → bw3 c = bwN c ∧ bwN c ≤ 8 := by decide +kernel
theorem map_lt (l : List Nat) (f : Nat → Nat) (h : ∀ c ∈ l, f c < 256) : ∀ c ∈ l.map f, c < 256 := by
  intro c hc
  obtain ⟨x, hx, rfl⟩ := List.mem_map.mp hc
  exact h x hx
-- the word's steps
abbrev n64 (a : Int64) : Nat := a.toBitVec.toNat
theorem n64_and (a b : Int64) : n64 (a &&& b) = n64 a &&& n64 b := by
  show (a &&& b).toBitVec.toNat = _
  rw [Int64.toBitVec_and, BitVec.toNat_and]
theorem n64_add {a b : Int64} (h : n64 a + n64 b < 2 ^ 64) : n64 (a + b) = n64 a + n64 b := by
  show (a + b).toBitVec.toNat = _
  rw [Int64.toBitVec_add, BitVec.toNat_add]
  exact Nat.mod_eq_of_lt h
theorem n64_sub {a b : Int64} (h : n64 b ≤ n64 a) : n64 (a - b) = n64 a - n64 b := by
  show (a - b).toBitVec.toNat = _
  rw [Int64.toBitVec_sub]
  exact BitVec.toNat_sub_of_le h
theorem n64_xlu {a : Int64} {s : Int32} {k : Nat} (h : ((s.toInt64.toUInt64 &&& Int64.toUInt64 63).toNat % 64) = k) : n64 (xlu a s) = n64 a / 2 ^ k := by
  show ((a.toUInt64 >>> (s.toInt64.toUInt64 &&& Int64.toUInt64 63)).toInt64).toBitVec.toNat = _
  show (a.toUInt64 >>> (s.toInt64.toUInt64 &&& Int64.toUInt64 63)).toNat = _
  rw [UInt64.toNat_shiftRight, h, Nat.shiftRight_eq_div_pow]
  rfl
def q1 (a : Int64) : Int64 := a - ((xlu a (1 : Int32)) &&& (6148914691236517205 : Int64))
def q2 (a : Int64) : Int64 := (a &&& (3689348814741910323 : Int64)) + ((xlu a (2 : Int32)) &&& (3689348814741910323 : Int64))
def q3 (a : Int64) : Int64 := (a + (xlu a (4 : Int32))) &&& (1085102592571150095 : Int64)
def q4 (a : Int64) : Int64 := a + xlu a (8 : Int32)
def q5 (a : Int64) : Int64 := a + xlu a (16 : Int32)
def q6 (a : Int64) : Int64 := a + xlu a (32 : Int32)
theorem q1_ok {a : Int64} {l : List Nat} (hl : l.length = 8) (h : ∀ c ∈ l, c < 256) (ha : n64 a = bwW l) : n64 (q1 a) = bwW (l.map bw1) := by
  have e1 : n64 (6148914691236517205 : Int64) = bwM 85 8 := by decide
  have e2 : n64 (xlu a (1 : Int32) &&& (6148914691236517205 : Int64)) = bwW (l.map bwA) := by
    rw [n64_and, n64_xlu (k := 1) (by decide), ha, e1, ← hl]
    exact w_A l h
  have e3 : bwW (l.map bw1) + bwW (l.map bwA) = bwW l := by
    rw [w_add]
    have : l.map (fun c => bw1 c + bwA c) = l := by
      refine (List.map_congr_left fun c hc => ?_).trans (List.map_id l)
      have := (d_1 c (h c hc)).1
      show c - bwA c + bwA c = c
      omega
    rw [this]
  unfold q1
  rw [n64_sub (by rw [e2, ha]; omega), e2, ha]
  omega
theorem q2_ok {a : Int64} {l : List Nat} (hl : l.length = 8) (h : ∀ c ∈ l, c < 256) (h2 : ∀ c ∈ l, bwB c + bwC c < 256) (ha : n64 a = bwW l) : n64 (q2 a) = bwW (l.map fun c => bwB c + bwC c) := by
  have e1 : n64 (3689348814741910323 : Int64) = bwM 51 8 := by decide
  have e2 : n64 (xlu a (2 : Int32) &&& (3689348814741910323 : Int64)) = bwW (l.map bwC) := by
    rw [n64_and, n64_xlu (k := 2) (by decide), ha, e1, ← hl]
    exact w_C l h
  have e3 : n64 (a &&& (3689348814741910323 : Int64)) = bwW (l.map bwB) := by
    rw [n64_and, ha, e1, ← hl]
    exact w_B l h
  have e4 := w_lt (l.map fun c => bwB c + bwC c) (map_lt l _ h2)
  rw [List.length_map, hl] at e4
  unfold q2
  rw [n64_add (by rw [e3, e2, w_add]; exact e4), e3, e2, w_add]
theorem q3_ok {a : Int64} {l : List Nat} (hl : l.length = 8) (h : ∀ c ∈ l, c < 256 ∧ c % 16 ≤ 4 ∧ c / 16 ≤ 4) (ha : n64 a = bwW l) : n64 (q3 a) = bwW (l.map bwD) := by
  have e1 : n64 (1085102592571150095 : Int64) = bwM 15 8 := by decide
  have e4 := w_lt l fun c hc => (h c hc).1
  have e5 : bwW l / 16 * 16 ≤ bwW l := Nat.div_mul_le_self _ _
  have e6 : bwW l ≤ 4 * 256 ^ 7 * 16 + 16 * 256 ^ 7 := by
    match l, hl, h with
    | [c0, c1, c2, c3, c4, c5, c6, c7], _, h =>
      have h0 := h c0 (by simp)
      have h1 := h c1 (by simp)
      have h2 := h c2 (by simp)
      have h3 := h c3 (by simp)
      have h4 := h c4 (by simp)
      have h5 := h c5 (by simp)
      have h6 := h c6 (by simp)
      have h7 := h c7 (by simp)
      simp only [bwW]
      omega
  unfold q3
  rw [n64_and, n64_add (by rw [n64_xlu (k := 4) (by decide), ha]; omega), n64_xlu (k := 4) (by decide), ha, e1, ← hl]
  exact w_D l h
def zl : List Nat → List Nat → List Nat
  | [], m => m
  | a :: l, [] => a :: l
  | a :: l, b :: m => (a + b) :: zl l m
theorem zl_ok : ∀ l m, bwW l + bwW m = bwW (zl l m)
  | [], m => by show 0 + bwW m = bwW m; omega
  | a :: l, [] => rfl
  | a :: l, b :: m => by
    have := zl_ok l m
    show (a + 256 * bwW l) + (b + 256 * bwW m) = (a + b) + 256 * bwW (zl l m)
    omega
theorem w_div {c : Nat} (l : List Nat) (h : c < 256) : bwW (c :: l) / 256 = bwW l := by
  show (c + 256 * bwW l) / 256 = bwW l
  omega
theorem w_sum {l m : List Nat} (hl : (zl l m).length = 8) (h : ∀ c ∈ zl l m, c < 256) : bwW l + bwW m < 2 ^ 64 := by
  have := w_lt _ h
  rw [hl] at this
  rw [zl_ok]
  exact this
theorem q4_ok {a : Int64} {c : Nat} {l : List Nat} (hc : c < 256) (ha : n64 a = bwW (c :: l)) (hl : (zl (c :: l) l).length = 8) (h : ∀ c' ∈ zl (c :: l) l, c' < 256) : n64 (q4 a) = bwW (zl (c :: l) l) := by
  have e : n64 (xlu a (8 : Int32)) = bwW l := by
    rw [n64_xlu (k := 8) (by decide), ha]
    exact w_div l hc
  unfold q4
  rw [n64_add (by rw [e, ha]; exact w_sum hl h), e, ha, zl_ok]
theorem q5_ok {a : Int64} {c c1 : Nat} {l : List Nat} (hc : c < 256) (hc1 : c1 < 256) (ha : n64 a = bwW (c :: c1 :: l)) (hl : (zl (c :: c1 :: l) l).length = 8) (h : ∀ c' ∈ zl (c :: c1 :: l) l, c' < 256) : n64 (q5 a) = bwW (zl (c :: c1 :: l) l) := by
  have e : n64 (xlu a (16 : Int32)) = bwW l := by
    rw [n64_xlu (k := 16) (by decide), ha, show 2 ^ 16 = 256 * 256 from rfl, ← Nat.div_div_eq_div_mul, w_div _ hc, w_div _ hc1]
  unfold q5
  rw [n64_add (by rw [e, ha]; exact w_sum hl h), e, ha, zl_ok]
theorem q6_ok {a : Int64} {c c1 c2 c3 : Nat} {l : List Nat} (hc : c < 256) (hc1 : c1 < 256) (hc2 : c2 < 256) (hc3 : c3 < 256) (ha : n64 a = bwW (c :: c1 :: c2 :: c3 :: l)) (hl : (zl (c :: c1 :: c2 :: c3 :: l) l).length = 8) (h : ∀ c' ∈ zl (c :: c1 :: c2 :: c3 :: l) l, c' < 256) : n64 (q6 a) = bwW (zl (c :: c1 :: c2 :: c3 :: l) l) := by
  have e : n64 (xlu a (32 : Int32)) = bwW l := by
    rw [n64_xlu (k := 32) (by decide), ha, show 2 ^ 32 = 256 * 256 * 256 * 256 from rfl, ← Nat.div_div_eq_div_mul, ← Nat.div_div_eq_div_mul, ← Nat.div_div_eq_div_mul, w_div _ hc, w_div _ hc1, w_div _ hc2, w_div _ hc3]
  unfold q6
  rw [n64_add (by rw [e, ha]; exact w_sum hl h), e, ha, zl_ok]
theorem w_mod {c : Nat} (l : List Nat) (h : c < 128) : bwW (c :: l) % 128 = c := by
  show (c + 256 * bwW l) % 128 = c
  omega
theorem q456_ok {a : Int64} {p0 p1 p2 p3 p4 p5 p6 p7 : Nat} (h0 : p0 ≤ 8) (h1 : p1 ≤ 8) (h2 : p2 ≤ 8) (h3 : p3 ≤ 8) (h4 : p4 ≤ 8) (h5 : p5 ≤ 8) (h6 : p6 ≤ 8) (h7 : p7 ≤ 8) (ha : n64 a = bwW [p0, p1, p2, p3, p4, p5, p6, p7]) : n64 (q6 (q5 (q4 a))) % 128 = p0 + p1 + p2 + p3 + p4 + p5 + p6 + p7 := by
  have f4 : n64 (q4 a) = bwW [p0 + p1, p1 + p2, p2 + p3, p3 + p4, p4 + p5, p5 + p6, p6 + p7, p7] := q4_ok (by omega) ha rfl (by
    show ∀ c ∈ [p0 + p1, p1 + p2, p2 + p3, p3 + p4, p4 + p5, p5 + p6, p6 + p7, p7], c < 256
    intro c hc
    simp only [List.mem_cons, List.not_mem_nil, or_false] at hc
    omega)
  have f5 : n64 (q5 (q4 a)) = bwW [p0 + p1 + (p2 + p3), p1 + p2 + (p3 + p4), p2 + p3 + (p4 + p5), p3 + p4 + (p5 + p6), p4 + p5 + (p6 + p7), p5 + p6 + p7, p6 + p7, p7] := q5_ok (by omega) (by omega) f4 rfl (by
    show ∀ c ∈ [p0 + p1 + (p2 + p3), p1 + p2 + (p3 + p4), p2 + p3 + (p4 + p5), p3 + p4 + (p5 + p6), p4 + p5 + (p6 + p7), p5 + p6 + p7, p6 + p7, p7], c < 256
    intro c hc
    simp only [List.mem_cons, List.not_mem_nil, or_false] at hc
    omega)
  have f6 : n64 (q6 (q5 (q4 a))) = bwW [p0 + p1 + (p2 + p3) + (p4 + p5 + (p6 + p7)), p1 + p2 + (p3 + p4) + (p5 + p6 + p7), p2 + p3 + (p4 + p5) + (p6 + p7), p3 + p4 + (p5 + p6) + p7, p4 + p5 + (p6 + p7), p5 + p6 + p7, p6 + p7, p7] := q6_ok (by omega) (by omega) (by omega) (by omega) f5 rfl (by
    show ∀ c ∈ [p0 + p1 + (p2 + p3) + (p4 + p5 + (p6 + p7)), p1 + p2 + (p3 + p4) + (p5 + p6 + p7), p2 + p3 + (p4 + p5) + (p6 + p7), p3 + p4 + (p5 + p6) + p7, p4 + p5 + (p6 + p7), p5 + p6 + p7, p6 + p7, p7], c < 256
    intro c hc
    simp only [List.mem_cons, List.not_mem_nil, or_false] at hc
    omega)
  rw [f6, w_mod _ (by omega)]
  omega
theorem low7 (x : Int64) : (Int64.toInt32 x &&& (127 : Int32)) = nI (n64 x % 128) := by
  apply Int32.toBitVec_inj.mp
  rw [Int32.toBitVec_and, Int64.toBitVec_toInt32]
  apply BitVec.eq_of_toNat_eq
  rw [BitVec.toNat_and]
  show (x.toBitVec.signExtend 32).toNat &&& 127 = (nI (n64 x % 128)).toBitVec.toNat
  have h1 : (x.toBitVec.signExtend 32).toNat = x.toBitVec.toNat % 2 ^ 32 := by
    rw [BitVec.signExtend_eq_setWidth_of_le _ (by decide), BitVec.toNat_setWidth]
  rw [h1]
  show _ &&& (2 ^ 7 - 1) = _
  rw [Nat.and_two_pow_sub_one_eq_mod]
  show _ = (BitVec.ofNat 32 (n64 x % 128)).toNat
  rw [BitVec.toNat_ofNat]
  have : n64 x % 128 < 128 := Nat.mod_lt _ (by decide)
  show x.toBitVec.toNat % 2 ^ 32 % 2 ^ 7 = x.toBitVec.toNat % 128 % 2 ^ 32
  omega
theorem rk_byte (v : Nat) (k : Nat) : rk (fun i => v.testBit i) (8 * k + 8) = rk (fun i => v.testBit i) (8 * k) + bwN (v / 2 ^ (8 * k) % 256) := by
  have t : ∀ i, i < 8 → (v / 2 ^ (8 * k) % 256).testBit i = v.testBit (8 * k + i) := by
    intro i hi
    rw [show 256 = 2 ^ 8 from rfl, Nat.testBit_mod_two_pow, Nat.testBit_div_two_pow]
    simp [hi, Nat.add_comm]
  have s : ∀ n, rk (fun i => v.testBit i) (n + 1) = rk (fun i => v.testBit i) n + (v.testBit n).toNat := by
    intro n
    show (if v.testBit n = true then _ else _) = _
    cases v.testBit n <;> rfl
  unfold bwN
  rw [t 0 (by omega), t 1 (by omega), t 2 (by omega), t 3 (by omega), t 4 (by omega), t 5 (by omega), t 6 (by omega), t 7 (by omega)]
  rw [s (8 * k + 7), s (8 * k + 6), s (8 * k + 5), s (8 * k + 4), s (8 * k + 3), s (8 * k + 2), s (8 * k + 1), s (8 * k)]
  show _ = _ + ((v.testBit (8 * k)).toNat + _ + _ + _ + _ + _ + _ + _)
  omega
def pcn (a : Int64) : Int32 := Int64.toInt32 (q6 (q5 (q4 (q3 (q2 (q1 a)))))) &&& (127 : Int32)
theorem pcn_ok (a : Int64) : pcn a = nI (rk (hasb a) 64) := by
  have hv : n64 a < 2 ^ 64 := a.toBitVec.isLt
  have hb : hasb a = fun i => (n64 a).testBit i := rfl
  have e0 : rk (fun i => (n64 a).testBit i) 8 = rk (fun i => (n64 a).testBit i) 0 + bwN (n64 a / 2 ^ (8 * 0) % 256) := rk_byte (n64 a) 0
  have e1 : rk (fun i => (n64 a).testBit i) 16 = rk (fun i => (n64 a).testBit i) 8 + bwN (n64 a / 2 ^ (8 * 1) % 256) := rk_byte (n64 a) 1
  have e2 : rk (fun i => (n64 a).testBit i) 24 = rk (fun i => (n64 a).testBit i) 16 + bwN (n64 a / 2 ^ (8 * 2) % 256) := rk_byte (n64 a) 2
  have e3 : rk (fun i => (n64 a).testBit i) 32 = rk (fun i => (n64 a).testBit i) 24 + bwN (n64 a / 2 ^ (8 * 3) % 256) := rk_byte (n64 a) 3
  have e4 : rk (fun i => (n64 a).testBit i) 40 = rk (fun i => (n64 a).testBit i) 32 + bwN (n64 a / 2 ^ (8 * 4) % 256) := rk_byte (n64 a) 4
  have e5 : rk (fun i => (n64 a).testBit i) 48 = rk (fun i => (n64 a).testBit i) 40 + bwN (n64 a / 2 ^ (8 * 5) % 256) := rk_byte (n64 a) 5
  have e6 : rk (fun i => (n64 a).testBit i) 56 = rk (fun i => (n64 a).testBit i) 48 + bwN (n64 a / 2 ^ (8 * 6) % 256) := rk_byte (n64 a) 6
  have e7 : rk (fun i => (n64 a).testBit i) 64 = rk (fun i => (n64 a).testBit i) 56 + bwN (n64 a / 2 ^ (8 * 7) % 256) := rk_byte (n64 a) 7
  have z : rk (fun i => (n64 a).testBit i) 0 = 0 := rfl
  generalize hc0 : n64 a / 2 ^ (8 * 0) % 256 = c0 at e0
  generalize hc1 : n64 a / 2 ^ (8 * 1) % 256 = c1 at e1
  generalize hc2 : n64 a / 2 ^ (8 * 2) % 256 = c2 at e2
  generalize hc3 : n64 a / 2 ^ (8 * 3) % 256 = c3 at e3
  generalize hc4 : n64 a / 2 ^ (8 * 4) % 256 = c4 at e4
  generalize hc5 : n64 a / 2 ^ (8 * 5) % 256 = c5 at e5
  generalize hc6 : n64 a / 2 ^ (8 * 6) % 256 = c6 at e6
  generalize hc7 : n64 a / 2 ^ (8 * 7) % 256 = c7 at e7
  have ha : n64 a = bwW [c0, c1, c2, c3, c4, c5, c6, c7] := by
    simp only [bwW]
    omega
  have hl : ∀ c ∈ [c0, c1, c2, c3, c4, c5, c6, c7], c < 256 := by
    simp only [List.mem_cons, List.not_mem_nil, or_false]
    omega
  have s1 := q1_ok rfl hl ha
  have hl1 := map_lt _ bw1 fun c hc => (d_1 c (hl c hc)).2
  have s2 := q2_ok rfl hl1 (fun c hc => by
    obtain ⟨x, hx, rfl⟩ := List.mem_map.mp hc
    exact (d_2 x (hl x hx)).1) s1
  rw [List.map_map] at s2
  have s3 := q3_ok rfl (fun c hc => by
    obtain ⟨x, hx, rfl⟩ := List.mem_map.mp hc
    exact d_2 x (hl x hx)) s2
  rw [List.map_map] at s3
  have s4 := q456_ok (p0 := bw3 c0) (p1 := bw3 c1) (p2 := bw3 c2) (p3 := bw3 c3) (p4 := bw3 c4) (p5 := bw3 c5) (p6 := bw3 c6) (p7 := bw3 c7) (by have := d_3 c0 (by omega); omega) (by have := d_3 c1 (by omega); omega) (by have := d_3 c2 (by omega); omega) (by have := d_3 c3 (by omega); omega) (by have := d_3 c4 (by omega); omega) (by have := d_3 c5 (by omega); omega) (by have := d_3 c6 (by omega); omega) (by have := d_3 c7 (by omega); omega) s3
  have f0 := d_3 c0 (by omega)
  have f1 := d_3 c1 (by omega)
  have f2 := d_3 c2 (by omega)
  have f3 := d_3 c3 (by omega)
  have f4 := d_3 c4 (by omega)
  have f5 := d_3 c5 (by omega)
  have f6 := d_3 c6 (by omega)
  have f7 := d_3 c7 (by omega)
  unfold pcn
  rw [low7, hb]
  congr 1
  rw [s4]
  omega
