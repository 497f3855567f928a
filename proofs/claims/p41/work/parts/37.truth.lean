/-! truth in all valuations: 32 at a time, and one at a time -/
def bt (x : Int32) (k : Nat) : Bool := x.toBitVec.getLsbD k
theorem bt_and (a b : Int32) (k : Nat) : bt (a &&& b) k = (bt a k && bt b k) := by
  unfold bt
  rw [Int32.toBitVec_and, BitVec.getLsbD_and]
theorem bt_or (a b : Int32) (k : Nat) : bt (a ||| b) k = (bt a k || bt b k) := by
  unfold bt
  rw [Int32.toBitVec_or, BitVec.getLsbD_or]
theorem bt_m1 : ∀ k, k < 32 → bt (-1) k = true := by decide +kernel
theorem bt_0 (k : Nat) : bt 0 k = false := by
  unfold bt
  show (0#32).getLsbD k = false
  simp
theorem bt_not (a : Int32) {k : Nat} (h : k < 32) : bt (a ^^^ (-1)) k = !bt a k := by
  have h1 := bt_m1 k h
  unfold bt at *
  rw [Int32.toBitVec_xor, BitVec.getLsbD_xor, h1]
  simp
theorem bt_ext {a b : Int32} (h : ∀ k, k < 32 → bt a k = bt b k) : a = b := by
  apply Int32.toBitVec_inj.mp
  exact BitVec.eq_of_getLsbD_eq fun i hi => h i hi
theorem bt_1 (k : Nat) : bt 1 k = decide (k = 0) := by
  unfold bt
  show (1#32).getLsbD k = _
  rw [BitVec.getLsbD_one]
  simp
theorem bt_iu (x : Int32) {k : Nat} (h : k < 32) : bt (xiu x (nI k)) 0 = bt x k := by
  have e : ((nI k).toUInt32 &&& Int32.toUInt32 31).toBitVec % 32 = BitVec.ofNat 32 k := by
    revert k
    decide +kernel
  unfold bt xiu
  show ((x.toUInt32 >>> ((nI k).toUInt32 &&& Int32.toUInt32 31)).toBitVec).getLsbD 0 = _
  rw [UInt32.toBitVec_shiftRight, e]
  show (x.toBitVec >>> (BitVec.ofNat 32 k)).getLsbD 0 = _
  rw [BitVec.ushiftRight_eq', BitVec.getLsbD_ushiftRight, BitVec.toNat_ofNat, Nat.mod_eq_of_lt (by omega)]
  simp
theorem iu_and (x : Int32) {k : Nat} (h : k < 32) : (xiu x (nI k) &&& 1) = if bt x k = true then 1 else 0 := by
  refine bt_ext fun i hi => ?_
  rw [bt_and, bt_1]
  by_cases hi0 : i = 0
  · subst hi0
    rw [bt_iu x h]
    cases bt x k <;> simp [bt_1, bt_0]
  · cases bt x k <;> simp [bt_1, bt_0, hi0]
def gE (S : aS) (v : Nat) (A : Nat → Bool) (f : Nat) : Bool := if S.F 0 f = 0 then Nat.testBit v (S.F 1 f).toNat else if S.F 0 f = 1 then false else if S.F 0 f = 2 then !A (S.F 1 f).toNat else if S.F 0 f = 3 then (A (S.F 1 f).toNat && A (S.F 2 f).toNat) else if S.F 0 f = 4 then (A (S.F 1 f).toNat || A (S.F 2 f).toNat) else (!A (S.F 1 f).toNat || A (S.F 2 f).toNat)
def evS (S : aS) (v : Nat) : Nat → Bool := tab (gE S v) false S.nf
theorem at0 : ∀ B, B < 8 → ∀ k, k < 32 → bt (-1431655766) k = Nat.testBit (32 * B + k) 0 := by decide +kernel
theorem at1 : ∀ B, B < 8 → ∀ k, k < 32 → bt (-858993460) k = Nat.testBit (32 * B + k) 1 := by decide +kernel
theorem at2 : ∀ B, B < 8 → ∀ k, k < 32 → bt (-252645136) k = Nat.testBit (32 * B + k) 2 := by decide +kernel
theorem at3 : ∀ B, B < 8 → ∀ k, k < 32 → bt (-16711936) k = Nat.testBit (32 * B + k) 3 := by decide +kernel
theorem at4 : ∀ B, B < 8 → ∀ k, k < 32 → bt (-65536) k = Nat.testBit (32 * B + k) 4 := by decide +kernel
theorem at5 : ∀ B, B < 8 → ∀ a, a < 8 → 5 ≤ a → ∀ k, k < 32 → (if (((nI B) >>> (((nI a) - (5 : Int32)) &&& 31)) &&& (1 : Int32)) = 0 then false else true) = Nat.testBit (32 * B + k) a := by decide +kernel
theorem atm : ∀ v, v < 256 → ∀ a, a < 8 → (((nI v) >>> ((nI a) &&& 31)) &&& (1 : Int32) = 1 ↔ Nat.testBit v a = true) := by decide +kernel
theorem vdiv : ∀ v, v < 256 → (nI v) / 32 = nI (v / 32) ∧ (nI v) - (nI v) / 32 * 32 = nI (v % 32) := by decide +kernel
section
variable {G : xG} {d : Nat} {μ : xM} {Q : xP} {S : aS} {H : List aS} {K : Option aS} {T : aT}
theorem atom_ok {a b : Int32} {A B : Nat} (ha : a.toInt = A) (hA : A < 8) (hb : b.toInt = B) (hB : B < 8) (h : ∀ y : Int32, (∀ k, k < 32 → bt y k = Nat.testBit (32 * B + k) A) → Q (some (vI y)) μ) : MW G (d + 1) mX2_truthOfAtom [vI a, vI b] μ Q := by
  have ea := of_ti ha (by omega)
  have eb := of_ti hb (by omega)
  subst ea
  subst eb
  have L : ∀ n : Nat, n < 8 → (nI A = nI n ↔ A = n) := fun n hn => by
    rw [ti_eq, ha, nI_t (by omega)]
    omega
  refine wX2_truthOfAtom ⟨fun c => h _ fun k hk => ?_, fun n0 => ⟨fun c => h _ fun k hk => ?_, fun n1 => ⟨fun c => h _ fun k hk => ?_, fun n2 => ⟨fun c => h _ fun k hk => ?_, fun n3 => ⟨fun c => h _ fun k hk => ?_, fun n4 => xif_c (fun c => h _ fun k hk => ?_) (fun c => h _ fun k hk => ?_)⟩⟩⟩⟩⟩
  · rw [(L 0 (by omega)).mp c]; exact at0 B hB k hk
  · rw [(L 1 (by omega)).mp c]; exact at1 B hB k hk
  · rw [(L 2 (by omega)).mp c]; exact at2 B hB k hk
  · rw [(L 3 (by omega)).mp c]; exact at3 B hB k hk
  · rw [(L 4 (by omega)).mp c]; exact at4 B hB k hk
  · have m0 : ¬ A = 0 := fun z => n0 ((L 0 (by omega)).mpr z)
    have m1 : ¬ A = 1 := fun z => n1 ((L 1 (by omega)).mpr z)
    have m2 : ¬ A = 2 := fun z => n2 ((L 2 (by omega)).mpr z)
    have m3 : ¬ A = 3 := fun z => n3 ((L 3 (by omega)).mpr z)
    have m4 : ¬ A = 4 := fun z => n4 ((L 4 (by omega)).mpr z)
    have := at5 B hB A hA (by omega) k hk
    rw [if_pos c] at this
    rw [bt_0, this]
  · have m0 : ¬ A = 0 := fun z => n0 ((L 0 (by omega)).mpr z)
    have m1 : ¬ A = 1 := fun z => n1 ((L 1 (by omega)).mpr z)
    have m2 : ¬ A = 2 := fun z => n2 ((L 2 (by omega)).mpr z)
    have m3 : ¬ A = 3 := fun z => n3 ((L 3 (by omega)).mpr z)
    have m4 : ¬ A = 4 := fun z => n4 ((L 4 (by omega)).mpr z)
    have := at5 B hB A hA (by omega) k hk
    rw [if_neg c] at this
    rw [bt_m1 k hk, this]
theorem gE_cg (hI : Inv S) (v : Nat) (A B : Nat → Bool) (f : Nat) (hf : f < S.nf) (h : ∀ x, x < f → A x = B x) : gE S v A f = gE S v B f := by
  unfold gE
  by_cases c0 : S.F 0 f = 0
  · rw [if_pos c0, if_pos c0]
  · rw [if_neg c0, if_neg c0]
    by_cases c1 : S.F 0 f = 1
    · rw [if_pos c1, if_pos c1]
    · rw [if_neg c1, if_neg c1]
      have hk := hI.kind hf
      obtain ⟨x, hx, hx2⟩ := hI.fl hf (by omega)
      rw [hx, Int.toNat_natCast, h x hx2]
      by_cases c2 : S.F 0 f = 2
      · rw [if_pos c2, if_pos c2]
      · rw [if_neg c2, if_neg c2]
        obtain ⟨y, hy, hy2⟩ := hI.fr hf (by omega)
        rw [hy, Int.toNat_natCast, h y hy2]
set_option maxHeartbeats 1000000 in
theorem eval_ok {b : Int32} {B : Nat} (hr : repF μ 0 S) (hI : Inv S) (hb : b.toInt = B) (hB : B < 8) (h : ∀ μ' : xM, (∀ q, q ≠ (1, 0, 13) → μ' q = μ q) → (∀ f, f < S.nf → ∀ k, k < 32 → bt (μ' (1, 0, 13) f) k = evS S (32 * B + k) f) → Q none μ') : MW G (d + 3) mX2_evaluate [vR (2, 0, 0), vI b, vR (0, 0, 13)] μ Q := by
  have h60 := hI.1
  refine wX2_evaluate fun Z => ?_
  refine up_loop (fun i μ1 => WS G eX2_evaluate (d + 3) Z Q 2 [vR (2, 0, 0), vI b, vR (0, 0, 13), vI (nI i)] [] μ1) (fun i μ1 => (∀ q, q ≠ (1, 0, 13) → μ1 q = μ q) ∧ ∀ f, f < i → ∀ k, k < 32 → bt (μ1 (1, 0, 13) f) k = tab (gE S (32 * B + k)) false i f) S.nf ?_ ?_ 0 μ (by omega) ⟨fun _ _ => rfl, fun f hf => by omega⟩
  · intro i μ1 hi ⟨i1, i2⟩ ih
    have ei : (nI i).toInt = i := nI_t (by omega)
    have hr1 : repF μ1 0 S := hr.keep fun q hq => i1 q (by
      rintro rfl
      rcases hq with z | z
      · cases z
      · simp at z)
    have hk := hI.kind hi
    refine wX2_evaluate_2 (xif_f (by rw [ti_le, hr1.1, ei]; omega) ?_)
    have nxt : ∀ v : Int32, (∀ k, k < 32 → bt v k = gE S (32 * B + k) (tab (gE S (32 * B + k)) false i) i) → (xrI fun x2 μ1 => MW G (d + 2) mX5_set [vR (0, 0, 13), vI (nI i), vI x2] μ1 (xrV fun μ3 => WS G eX2_evaluate (d + 3) Z Q 2 [vR (2, 0, 0), vI b, vR (0, 0, 13), vI (nI i + (1 : Int32))] [] μ3)) (some (vI v)) μ1 := by
      intro v hv
      refine set_in ei (by simp [xlenc]; omega) ?_
      show WS _ _ _ _ _ _ _ _ _
      rw [nI_1]
      refine ih _ ⟨fun q hq => ?_, fun f hf k hk32 => ?_⟩
      · funext x
        rw [xst_rd, if_neg (fun z => hq z.1), i1 q hq]
      · rw [xst_rd]
        by_cases hfi : f = i
        · subst hfi
          rw [if_pos ⟨rfl, rfl⟩, tab_new, hv k hk32]
        · rw [if_neg (fun z => hfi z.2), tab_old _ _ hfi, i2 f (by omega) k hk32]
    have lrd : ∀ {x : Int32} {g : Nat} {Q' : xP}, x.toInt = g → g < i → (∀ y : Int32, (∀ k, k < 32 → bt y k = tab (gE S (32 * B + k)) false i g) → Q' (some (vI y)) μ1) → MW G (d + 1) mX5_get [vR (0, 0, 13), vI x] μ1 Q' := by
      intro x g Q' hx hg hq
      exact get_in hx (by simp [xlenc]; omega) (hq _ (i2 g hg))
    refine wX2_truthOf (c_F hr1 h60 (by omega) ei hi fun l hl => c_F hr1 h60 (by omega) ei hi fun r hr' => c_F hr1 h60 (by omega) ei hi fun x hx => ?_)
    have hx' := hx
    rw [show S.F 0 i = S.F 0 i from rfl] at hx'
    have L : ∀ n : Nat, n < 8 → (x = nI n ↔ S.F 0 i = n) := fun n hn => by
      rw [ti_eq, hx, nI_t (by omega)]
    have fl : ∀ n, n = 2 ∨ n = 3 ∨ n = 4 ∨ n = 5 → x = nI n → ∃ a : Nat, l.toInt = a ∧ a < i ∧ (S.F 1 i).toNat = a := by
      intro n hn c
      obtain ⟨a, ha, ha2⟩ := hI.fl hi (by rw [(L n (by omega)).mp c]; omega)
      exact ⟨a, hl.trans ha, ha2, by omega⟩
    have fr : ∀ n, n = 3 ∨ n = 4 ∨ n = 5 → x = nI n → ∃ a : Nat, r.toInt = a ∧ a < i ∧ (S.F 2 i).toNat = a := by
      intro n hn c
      obtain ⟨a, ha, ha2⟩ := hI.fr hi (by rw [(L n (by omega)).mp c]; omega)
      exact ⟨a, hr'.trans ha, ha2, by omega⟩
    refine ⟨fun c => ?_, fun n0 => ⟨fun c => nxt _ fun k hk => ?_, fun n1 => ⟨fun c => ?_, fun n2 => ⟨fun c => ?_, fun n3 => ⟨fun c => ?_, fun n4 => ⟨fun c => ?_, fun n5 => ?_⟩⟩⟩⟩⟩⟩
    · have c0 := (L 0 (by omega)).mp c
      have b17 : 0 ≤ S.F 1 i ∧ S.F 1 i ≤ 7 := by rcases hI.2.2.2.2.1 i hi with q | q | q | q <;> omega
      refine atom_ok (A := (S.F 1 i).toNat) (by rw [hl]; omega) (by omega) hb hB fun y hy => nxt y fun k hk => ?_
      rw [hy k hk, gE, if_pos (by omega)]
    · have c0 := (L 1 (by omega)).mp c
      rw [bt_0, gE, if_neg (by omega), if_pos (by omega)]
    · have c0 := (L 2 (by omega)).mp c
      obtain ⟨a, a1, a2, a3⟩ := fl 2 (by omega) c
      refine lrd a1 a2 fun y hy => nxt _ fun k hk => ?_
      rw [bt_not y hk, hy k hk, gE, if_neg (by omega), if_neg (by omega), if_pos (by omega), a3]
    · have c0 := (L 3 (by omega)).mp c
      obtain ⟨a, a1, a2, a3⟩ := fl 3 (by omega) c
      obtain ⟨b', b1, b2, b3⟩ := fr 3 (by omega) c
      refine lrd a1 a2 fun y hy => lrd b1 b2 fun z hz => nxt _ fun k hk => ?_
      rw [bt_and, hy k hk, hz k hk, gE, if_neg (by omega), if_neg (by omega), if_neg (by omega), if_pos (by omega), a3, b3]
    · have c0 := (L 4 (by omega)).mp c
      obtain ⟨a, a1, a2, a3⟩ := fl 4 (by omega) c
      obtain ⟨b', b1, b2, b3⟩ := fr 4 (by omega) c
      refine lrd a1 a2 fun y hy => lrd b1 b2 fun z hz => nxt _ fun k hk => ?_
      rw [bt_or, hy k hk, hz k hk, gE, if_neg (by omega), if_neg (by omega), if_neg (by omega), if_neg (by omega), if_pos (by omega), a3, b3]
    · have c0 := (L 5 (by omega)).mp c
      obtain ⟨a, a1, a2, a3⟩ := fl 5 (by omega) c
      obtain ⟨b', b1, b2, b3⟩ := fr 5 (by omega) c
      refine lrd a1 a2 fun y hy => lrd b1 b2 fun z hz => nxt _ fun k hk => ?_
      rw [bt_or, bt_not y hk, hy k hk, hz k hk, gE, if_neg (by omega), if_neg (by omega), if_neg (by omega), if_neg (by omega), if_neg (by omega), a3, b3]
    · have m0 := mt (L 0 (by omega)).mpr n0
      have m1 := mt (L 1 (by omega)).mpr n1
      have m2 := mt (L 2 (by omega)).mpr n2
      have m3 := mt (L 3 (by omega)).mpr n3
      have m4 := mt (L 4 (by omega)).mpr n4
      have m5 := mt (L 5 (by omega)).mpr n5
      omega
  · intro μ1 ⟨i1, i2⟩
    have ei : (nI S.nf).toInt = S.nf := nI_t (by omega)
    refine wX2_evaluate_2 (xif_t ?_ (h μ1 i1 i2))
    rw [i1 _ (by decide), ti_le, hr.1, ei]
    omega
theorem cS.sc13 {μ' : xM} {c : Nat} (hc' : c = 12 ∨ c = 13 ∨ c = 15 ∨ c = 16) (hc : cS μ S H K T) (e1 : ∀ q, q ≠ (1, 0, c) → μ' q = μ q) : frC μ μ' ∧ cS μ' S H K T :=
  ⟨fun q hq => e1 q (by
      rintro rfl
      exact hq (isC_row (by omega))), hc.scr (fun q hq => e1 q (scr12 hc' hq)) (by rw [e1 _ (by simp)])⟩
end
