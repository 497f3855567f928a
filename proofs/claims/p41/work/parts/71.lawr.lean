/-! the law's body: a rule -/
theorem cmp_le {a b : Int64} : lg_cmp a b ≤ 0 ↔ a.toInt ≤ b.toInt := by
  have h1 : a < b ↔ a.toInt < b.toInt := Int64.lt_iff_toInt_lt
  have h2 : b < a ↔ b.toInt < a.toInt := Int64.lt_iff_toInt_lt
  have h3 : a = b ↔ a.toInt = b.toInt := ln_eq
  have t3 : (a.toInt < b.toInt ∧ a < b ∧ ¬ b < a ∧ ¬ a = b) ∨ (a = b ∧ a.toInt = b.toInt) ∨ (b.toInt < a.toInt ∧ b < a ∧ ¬ a < b ∧ ¬ a = b) := by
    rcases Int.lt_trichotomy a.toInt b.toInt with z | z | z
    · exact Or.inl ⟨z, h1.mpr z, fun y => by have := h2.mp y; omega, fun y => by have := h3.mp y; omega⟩
    · exact Or.inr (Or.inl ⟨h3.mpr z, z⟩)
    · exact Or.inr (Or.inr ⟨z, h2.mpr z, fun y => by have := h1.mp y; omega, fun y => by have := h3.mp y; omega⟩)
  unfold lg_cmp
  rcases t3 with ⟨q0, q1, q2, q3⟩ | ⟨q1, q2⟩ | ⟨q0, q1, q2, q3⟩
  · have : a.toInt ≤ b.toInt := by omega
    simp only [q1, q2, q3, if_true, if_false, this, iff_true]
    decide
  · subst q1
    simp [Int64.lt_irrefl]
  · have : ¬ a.toInt ≤ b.toInt := by omega
    simp only [q1, q2, q3, if_true, if_false, this, iff_false]
    decide
theorem ln_div {x y : Int64} (hx : 0 ≤ x.toInt) (hy : 0 < y.toInt) (hb : x.toInt ≤ 1000000000000) : (x / y).toInt = x.toInt / y.toInt := by
  have h1 := tdiv_bd hx hy
  rw [Int64.toInt_div, ← Int.tdiv_eq_ediv_of_nonneg hx]
  exact Int.bmod_eq_of_le (by omega) (by omega)
theorem ln_sub {x y : Int64} (h1 : -9223372036854775808 ≤ x.toInt - y.toInt) (h2 : x.toInt - y.toInt ≤ 9223372036854775807) : (x - y).toInt = x.toInt - y.toInt := by
  rw [Int64.toInt_sub]
  exact Int.bmod_eq_of_le (by omega) (by omega)
theorem ln_32 {x : Int64} (h1 : -2147483648 ≤ x.toInt) (h2 : x.toInt ≤ 2147483647) : (Int64.toInt32 x).toInt = x.toInt := by
  rw [Int64.toInt_toInt32]
  exact Int.bmod_eq_of_le (by omega) (by omega)
/-- kind and parts out of one -/
theorem ln_un {y : Int64} {K L R : Int} (hy : y.toInt = 100000000 * K + 1000 * L + R) (h1 : 0 ≤ K ∧ K ≤ 100) (h2 : 0 ≤ L ∧ L ≤ 999) (h3 : 0 ≤ R ∧ R ≤ 999) : (Int64.toInt32 (y / (100000000 : Int64))).toInt = K ∧ (Int64.toInt32 ((y / (1000 : Int64)) - (y / (1000 : Int64)) / (1000 : Int64) * (1000 : Int64))).toInt = L ∧ (Int64.toInt32 (y - y / (1000 : Int64) * (1000 : Int64))).toInt = R := by
  have e8 : (100000000 : Int64).toInt = 100000000 := rfl
  have e3 : (1000 : Int64).toInt = 1000 := rfl
  have d1 : (y / (100000000 : Int64)).toInt = K := by rw [ln_div (by omega) (by rw [e8]; omega) (by omega), e8, hy]; omega
  have d2 : (y / (1000 : Int64)).toInt = 100000 * K + L := by rw [ln_div (by omega) (by rw [e3]; omega) (by omega), e3, hy]; omega
  have d3 : (y / (1000 : Int64) / (1000 : Int64)).toInt = 100 * K := by rw [ln_div (by omega) (by rw [e3]; omega) (by omega), e3, d2]; omega
  have m3 : (y / (1000 : Int64) / (1000 : Int64) * (1000 : Int64)).toInt = 100000 * K := by rw [ln_mul (by rw [d3, e3]; omega) (by rw [d3, e3]; omega), d3, e3]; omega
  have m2 : (y / (1000 : Int64) * (1000 : Int64)).toInt = 100000000 * K + 1000 * L := by rw [ln_mul (by rw [d2, e3]; omega) (by rw [d2, e3]; omega), d2, e3]; omega
  refine ⟨?_, ?_, ?_⟩
  · rw [ln_32 (by omega) (by omega), d1]
  · have := ln_sub (x := y / (1000 : Int64)) (y := y / (1000 : Int64) / (1000 : Int64) * (1000 : Int64)) (by omega) (by omega)
    rw [ln_32 (by omega) (by omega), this]; omega
  · have := ln_sub (x := y) (y := y / (1000 : Int64) * (1000 : Int64)) (by omega) (by omega)
    rw [ln_32 (by omega) (by omega), this]; omega
/-- one on, around -/
theorem ti_nx {a n : Int32} {i N : Nat} (ha : a.toInt = i) (hn : n.toInt = N) (hi : i < N) (hN : N ≤ 60) : ¬ n = 0 ∧ ∃ j : Nat, j < N ∧ ((a + 1) - (a + 1) / n * n).toInt = j := by
  have e1 : (a + 1).toInt = (i : Int) + 1 := by rw [ti_add (by rw [ha, ti_lit1]; omega) (by rw [ha, ti_lit1]; omega), ha, ti_lit1]
  refine ⟨fun z => by rw [z, ti_lit0] at hn; omega, (i + 1) % N, Nat.mod_lt _ (by omega), ?_⟩
  rw [ti_rem (by omega) (by omega), e1, hn]
  simp
section
variable {G : xG} {Z : xZ} {Q : xP} {e g : Int32} {μ : xM} {S : aS}
theorem la_1670 {x y : Int32} (en : En G Z Q e g) (ok : Ok μ S) (h : x.toInt = y.toInt) : WS G eL_law (8 + 1) Z Q 1670 (lb [vI e, vN, vI g, vN, vN, vN, vN, vN, vN, vN, vN, vN, vN, vN, vI y, vN, vN, vN]) [vI x] μ := wL_law_1670 (xif_t (ti_eq.mpr h) (wL_law_1684 (en S μ ok)))
/-- the class's call -/
theorem la_1542 {r a b c y : Int32} (en : En G Z Q e g) (hI : Inv S) {H : List aS} {K : Option aS} {T : aT} (hc : cS μ S H K T) (hr : 2 ≤ r.toInt ∧ r.toInt ≤ 13) {w : aW} (hw : opR S H r.toInt a.toInt b.toInt c.toInt = w) (hy : y.toInt = w.1) (hok : ∀ μ', frC μ μ' → cS μ' w.2.1 w.2.2 K T → ∃ S', Ok μ' S') : WS G eL_law (8 + 1) Z Q 1542 (lb [vI e, vN, vI g, vN, vN, vN, vI r, vN, vI a, vI b, vI c, vN, vN, vN, vI y, vN, vN, vN]) [] μ := by
  have e2 : (2 : Int32).toInt = 2 := rfl
  have e3 : (3 : Int32).toInt = 3 := rfl
  have e6 : (6 : Int32).toInt = 6 := rfl
  have e7 : (7 : Int32).toInt = 7 := rfl
  have e8 : (8 : Int32).toInt = 8 := rfl
  have e9 : (9 : Int32).toInt = 9 := rfl
  have e10 : (10 : Int32).toInt = 10 := rfl
  have e11 : (11 : Int32).toInt = 11 := rfl
  have e12 : (12 : Int32).toInt = 12 := rfl
  have fin : ∀ {w' : aW}, w = w' → ∀ (x : Int32) (μ' : xM), x.toInt = w'.1 → frC μ μ' → cS μ' w'.2.1 w'.2.2 K T → WS G eL_law (8 + 1) Z Q 1670 (lb [vI e, vN, vI g, vN, vN, vN, vN, vN, vN, vN, vN, vN, vN, vN, vI y, vN, vN, vN]) [vI x] μ' := by
    rintro w' rfl x μ' hx fc hc2
    obtain ⟨S', ok⟩ := hok μ' fc hc2
    exact la_1670 en ok (by rw [hx, hy])
  have bx : (r.toInt = 8 ∨ r.toInt = 10) → WS G eL_law (8 + 1) Z Q 1591 (lb [vI e, vN, vI g, vN, vN, vN, vI r, vN, vI a, vN, vN, vN, vN, vN, vI y, vN, vN, vN]) [] μ := fun q => wL_law_1591 (c_fromBox r a hc hI (fin (hw.symm.trans (op_8 q))))
  have tw : (r.toInt = 3 ∨ r.toInt = 9 ∨ r.toInt = 11) → WS G eL_law (8 + 1) Z Q 1622 (lb [vI e, vN, vI g, vN, vN, vN, vI r, vN, vI a, vI b, vN, vN, vN, vN, vI y, vN, vN, vN]) [] μ := fun q => wL_law_1622 (c_fromTwo r a b hc hI (fin (hw.symm.trans (op_3 q))))
  have tf : (r.toInt = 6 ∨ r.toInt = 12) → WS G eL_law (8 + 1) Z Q 1649 (lb [vI e, vN, vI g, vN, vN, vN, vI r, vN, vI a, vI b, vN, vN, vN, vN, vI y, vN, vN, vN]) [] μ := fun q => wL_law_1649 (c_toFormula r a b hc hI (fin (hw.symm.trans (op_6 q))))
  refine wL_law_1542 (xif_c (fun q => c_repeat a hc hI (fin (hw.symm.trans (op_2 ?_)))) fun q2 => xif_c (fun q => c_cases a b c hc hI (fin (hw.symm.trans (op_7 ?_)))) fun q7 => xif_c (fun q => bx ?_) fun q8 => xif_c (fun q => bx ?_) fun q10 => xif_c (fun q => tw ?_) fun q3 => xif_c (fun q => tw ?_) fun q9 => xif_c (fun q => tw ?_) fun q11 => xif_c (fun q => tf ?_) fun q6 => xif_c (fun q => tf ?_) fun q12 => c_fromOne r a hc hI (fin (hw.symm.trans (op_4 ?_))))
  · rw [ti_eq, e2] at q; exact q
  · rw [ti_eq, e7] at q; exact q
  · rw [ti_eq, e8] at q; exact Or.inl q
  · rw [ti_eq, e10] at q; exact Or.inr q
  · rw [ti_eq, e3] at q; exact Or.inl q
  · rw [ti_eq, e9] at q; exact Or.inr (Or.inl q)
  · rw [ti_eq, e11] at q; exact Or.inr (Or.inr q)
  · rw [ti_eq, e6] at q; exact Or.inl q
  · rw [ti_eq, e12] at q; exact Or.inr q
  · rw [ti_eq, e2] at q2
    rw [ti_eq, e7] at q7
    rw [ti_eq, e8] at q8
    rw [ti_eq, e10] at q10
    rw [ti_eq, e3] at q3
    rw [ti_eq, e9] at q9
    rw [ti_eq, e11] at q11
    rw [ti_eq, e6] at q6
    rw [ti_eq, e12] at q12
    omega
theorem la_1423 {S1 : aS} {r a b c fm fl : Int32} {i j k : Nat} (en : En G Z Q e g) (hI : Inv S) {H : List aS} {K : Option aS} {T : aT} (hc : cS μ S H K T) (hI1 : Inv S1) (hw1 : repW μ S1) (hnl : S1.nl = S.nl) (hp : plc S r.toInt i j k) (ha : a.toInt = i) (hb : b.toInt = j) (hcc : c.toInt = k) (hfl : fullI S fl) {w : aW} (ew : opR S H r.toInt i j k = w)
    (hno : (¬ fl = 0 ∨ fm.toInt < 0) → w.1 = -4 ∧ ∀ μ', frC μ μ' → cS μ' w.2.1 w.2.2 K T → ∃ S', Ok μ' S')
    (hyes : fl = 0 → 0 ≤ fm.toInt → w.1 = S.nl ∧ ∀ μ1 μ', repW μ1 (addL S1 fm.toInt r.toInt i (rB r.toInt j) (rC r.toInt k)) → frC μ1 μ' → cS μ' w.2.1 w.2.2 K T → ∃ S', Ok μ' S') : WS G eL_law (8 + 1) Z Q 1423 (lb [vI e, vN, vI g, vN, vI fl, vN, vI r, vN, vI a, vI b, vI c, vN, vN, vI fm, vN, vN, vN, vN]) [] μ := by
  have h60 := hI.1
  have h48 := hI.2.1
  have hb48 := hI.bd.2.2
  have e3 : (3 : Int32).toInt = 3 := rfl
  have e7 : (7 : Int32).toInt = 7 := rfl
  have e9 : (9 : Int32).toInt = 9 := rfl
  have e11 : (11 : Int32).toInt = 11 := rfl
  have e100 : (100 : Int32).toInt = 100 := rfl
  have e10000 : (10000 : Int32).toInt = 10000 := rfl
  have ew : opR S H r.toInt a.toInt b.toInt c.toInt = w := by rw [ha, hb, hcc]; exact ew
  obtain ⟨p1, p3, p4, p5⟩ := hp
  have bi : i < 48 := by split at p3 <;> omega
  have bj : j < 60 := by
    split at p4
    · omega
    · split at p4 <;> omega
  -- the references are there
  have P : ∀ (s0 s1 : Int32) (A B C : Nat), s0.toInt + s1.toInt = (A + 100 * B + 10000 * C : Nat) → -2147483648 ≤ s0.toInt + s1.toInt → s0.toInt + s1.toInt ≤ 2147483647 → A < 100 → B < 100 → C < 100 → E ((A : Int) - 1) i → E ((B : Int) - 1) (rB r.toInt j) → E ((C : Int) - 1) (rC r.toInt k) → WS G eL_law (8 + 1) Z Q 1497 (lb [vI e, vN, vI g, vN, vI fl, vN, vI r, vN, vI a, vI b, vI c, vN, vN, vI fm, vN, vN, vN, vN]) [vI s1, vI s0] μ := by
    intro s0 s1 A B C hs hs1 hs2 hA hB hC eA eB eC
    have no : (¬ fl = 0 ∨ fm.toInt < 0) → WS G eL_law (8 + 1) Z Q 1510 (lb [vI e, vN, vI g, vN, vN, vN, vI r, vN, vI a, vI b, vI c, vN, vN, vN, vN, vN, vN, vN]) [] μ := fun h => wL_law_1510 (wL_law_1540 (la_1542 en hI hc p1 ew (by rw [(hno h).1]; rfl) (hno h).2))
    refine wL_law_1497 (xif_c (fun c1 => xif_c (fun c2 => ?_) fun c2 => no (Or.inr ?_)) fun c1 => no (Or.inl c1))
    · rw [ti_le, ti_lit0] at c2
      obtain ⟨h1, h2⟩ := hyes c1 c2
      refine w_write (S := S1) (A := A) (B := B) (C := C) hw1 hI1 (by rw [hnl]; exact hfl.1 c1) (E.of c2) (E.of (by omega)) (by rw [ti_add hs1 hs2, hs]) hA hB hC eA eB eC fun x μ1 hx fr hw2 => wL_law_1540 (la_1542 en hI (hc.keep fr) p1 ew (by rw [h1, hx, hnl]) fun μ' fc hc2 => h2 μ1 μ' hw2 fc hc2)
    · rw [ti_le, ti_lit0] at c2; omega
  have ea : ((1 : Int32) + a).toInt = (1 + i : Nat) := by rw [ti_add (by rw [ha, ti_lit1]; omega) (by rw [ha, ti_lit1]; omega), ha, ti_lit1]; omega
  have eb : ((1 : Int32) + b).toInt = (1 + j : Nat) := by rw [ti_add (by rw [hb, ti_lit1]; omega) (by rw [hb, ti_lit1]; omega), hb, ti_lit1]; omega
  have eb2 : ((100 : Int32) * (1 + b)).toInt = (100 * (1 + j) : Nat) := by rw [ti_mul (by rw [eb, e100]; omega) (by rw [eb, e100]; omega), eb, e100]; omega
  have EA : E (((1 + i : Nat) : Int) - 1) i := Or.inr ⟨by omega, by omega⟩
  have E0 : E (((0 : Nat) : Int) - 1) (-6) := E.none
  -- the second is there
  have R : ∀ (s0 s1 : Int32) (B : Nat), s0.toInt = (1 + i : Nat) → s1.toInt = (100 * B : Nat) → B < 100 → E ((B : Int) - 1) (rB r.toInt j) → WS G eL_law (8 + 1) Z Q 1477 (lb [vI e, vN, vI g, vN, vI fl, vN, vI r, vN, vI a, vI b, vI c, vN, vN, vI fm, vN, vN, vN, vN]) [vI s1, vI s0] μ := by
    intro s0 s1 B h0 h1 hB eB
    have es : (s0 + s1).toInt = (1 + i + 100 * B : Nat) := by rw [ti_add (by rw [h0, h1]; omega) (by rw [h0, h1]; omega), h0, h1]; omega
    refine wL_law_1477 (xif_c (fun q => ?_) fun q => ?_)
    · rw [ti_eq, e7] at q
      have hk := p5 q
      have ec : ((1 : Int32) + c).toInt = (1 + k : Nat) := by rw [ti_add (by rw [hcc, ti_lit1]; omega) (by rw [hcc, ti_lit1]; omega), hcc, ti_lit1]; omega
      have ec2 : ((10000 : Int32) * (1 + c)).toInt = (10000 * (1 + k) : Nat) := by rw [ti_mul (by rw [ec, e10000]; omega) (by rw [ec, e10000]; omega), ec, e10000]; omega
      refine P _ _ (1 + i) B (1 + k) ?_ ?_ ?_ (by omega) hB (by omega) EA eB ?_
      · rw [es, ec2]; omega
      · rw [es, ec2]; omega
      · rw [es, ec2]; omega
      · rw [rC, if_pos q]; exact Or.inr ⟨by omega, by omega⟩
    · rw [ti_eq, e7] at q
      refine P _ _ (1 + i) B 0 ?_ ?_ ?_ (by omega) hB (by omega) EA eB ?_
      · rw [es, ti_lit0]; omega
      · rw [es, ti_lit0]; omega
      · rw [es, ti_lit0]; omega
      · rw [rC, if_neg q]; exact E0
  have yes : (r.toInt = 3 ∨ r.toInt = 9 ∨ r.toInt = 11 ∨ r.toInt = 7) → WS G eL_law (8 + 1) Z Q 1450 (lb [vI e, vN, vI g, vN, vI fl, vN, vI r, vN, vI a, vI b, vI c, vN, vN, vI fm, vN, vN, vN, vN]) [] μ := fun q => wL_law_1450 (wL_law_1455 (xif_f (by decide) (R _ _ (1 + j) ea eb2 (by omega) (by rw [rB, if_pos q]; exact Or.inr ⟨by omega, by omega⟩))))
  refine wL_law_1423 (xif_c (fun q => yes ?_) fun q3 => xif_c (fun q => yes ?_) fun q9 => xif_c (fun q => yes ?_) fun q11 => xif_c (fun q => yes ?_) fun q7 => wL_law_1455 (xif_t rfl (R _ _ 0 ea rfl (by omega) ?_)))
  · rw [ti_eq, e3] at q; omega
  · rw [ti_eq, e9] at q; omega
  · rw [ti_eq, e11] at q; omega
  · rw [ti_eq, e7] at q; omega
  · rw [ti_eq, e3] at q3
    rw [ti_eq, e9] at q9
    rw [ti_eq, e11] at q11
    rw [ti_eq, e7] at q7
    rw [rB, if_neg (by omega)]; exact E0
end
