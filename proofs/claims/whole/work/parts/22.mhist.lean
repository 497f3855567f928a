/-! loops; the model's history -/
theorem up_loop {σ : Type} (W I : Nat → σ → Prop) (N : Nat) (hs : ∀ k s, k < N → I k s → (∀ s', I (k + 1) s' → W (k + 1) s') → W k s) (he : ∀ s, I N s → W N s) : ∀ k s, k ≤ N → I k s → W k s := by
  have key : ∀ m k s, N - k = m → k ≤ N → I k s → W k s := by
    intro m
    induction m with
    | zero =>
      intro k s h1 h2 h3
      have : k = N := by omega
      subst this
      exact he s h3
    | succ m ih =>
      intro k s h1 h2 h3
      exact hs k s (by omega) h3 fun s' h4 => ih (k + 1) s' (by omega) (by omega) h4
  exact fun k s h1 h2 => key _ k s rfl h1 h2
theorem nI_t {k : Nat} (h : k < 2147483648) : (nI k).toInt = k := nI_toInt h
theorem repR.cg {z z' : Nat → Int32} {S : aS} (hb : bdS S) (h : repR z S) (e : ∀ i, i < 615 → z' i = z i) : repR z' S := by
  obtain ⟨b1, b2, b3⟩ := hb
  obtain ⟨h1, h2, h3, h4, h5, h6⟩ := h
  refine ⟨by rw [e 0 (by omega)]; exact h1, by rw [e 1 (by omega)]; exact h2, by rw [e 2 (by omega)]; exact h3, fun c hc f hf => ?_, fun c hc l hl => ?_, fun c hc b hb => ?_⟩
  · rw [e _ (by omega)]; exact h4 c hc f hf
  · rw [e _ (by omega)]; exact h5 c hc l hl
  · rw [e _ (by omega)]; exact h6 c hc b hb
def repHM (μ : xM) (H : List aS) : Prop := (μ (9, 0, 0) 2).toInt = H.length ∧ H.length ≤ 5 ∧ ∀ (k : Nat) (S : aS), H[k]? = some S → bdS S ∧ repR (fun i => μ (1, 0, 21) ((H.length - 1 - k) * 615 + i)) S
section
variable {G : xG} {d : Nat} {μ : xM} {Q : xP}
theorem mcopy {Z : xZ} {p : Nat} (hp : p < 5) (hm : (μ (9, 0, 0) 2).toInt = p) (h : ∀ μ' : xM, (∀ q, q ≠ (1, 0, 21) → q ≠ (9, 0, 0) → μ' q = μ q) → (∀ i, i ≠ 2 → μ' (9, 0, 0) i = μ (9, 0, 0) i) → (μ' (9, 0, 0) 2).toInt = (p : Int) + 1 → (∀ i, i < p * 615 → μ' (1, 0, 21) i = μ (1, 0, 21) i) → (∀ i, i < 615 → μ' (1, 0, 21) (p * 615 + i) = μ (1, 0, 20) i) → Q none μ') : WS G eX9_record (d + 1) Z Q 51 [vR (9, 0, 0), vI 0] [] μ := by
  have e615 : (615 : Int32).toInt = 615 := rfl
  refine up_loop (fun k μ1 => WS G eX9_record (d + 1) Z Q 51 [vR (9, 0, 0), vI (nI k)] [] μ1) (fun k μ1 => (∀ q, q ≠ (1, 0, 21) → μ1 q = μ q) ∧ (∀ i, i < p * 615 → μ1 (1, 0, 21) i = μ (1, 0, 21) i) ∧ ∀ i, i < k → μ1 (1, 0, 21) (p * 615 + i) = μ (1, 0, 20) i) 615 ?_ ?_ 0 μ (by omega) ⟨fun _ _ => rfl, fun _ _ => rfl, fun i hi => by omega⟩
  · intro k μ1 hk ⟨i1, i2, i3⟩ ih
    have ek : (nI k).toInt = k := nI_t (by omega)
    have e9 : μ1 (9, 0, 0) = μ (9, 0, 0) := i1 _ (by decide)
    have ez : μ1 (1, 0, 20) = μ (1, 0, 20) := i1 _ (by decide)
    have em : (μ1 (9, 0, 0) 2 * 615).toInt = (p * 615 : Nat) := by
      rw [e9, ti_mul (by rw [hm, e615]; omega) (by rw [hm, e615]; omega), hm, e615]
      omega
    have ex : (μ1 (9, 0, 0) 2 * 615 + nI k).toInt = (p * 615 + k : Nat) := by
      rw [ti_add (by rw [em, ek]; omega) (by rw [em, ek]; omega), em, ek]
      omega
    refine wX9_record_51 (xif_f (by rw [ti_le, e615, ek]; omega) ⟨ti_in ek hk, ti_in ex (by omega), ?_⟩)
    rw [nI_1, ti_cl' ex, ti_cl' ek]
    refine ih _ ⟨fun q hq => ?_, fun i hi => ?_, fun i hi => ?_⟩
    · funext i
      rw [xst_rd, if_neg (fun z => hq z.1), i1 q hq]
    · rw [xst_rd, if_neg (fun z => by omega), i2 i hi]
    · rw [xst_rd]
      by_cases hik : i = k
      · subst hik
        rw [if_pos ⟨rfl, rfl⟩, ez]
      · rw [if_neg (fun z => by omega), i3 i (by omega)]
  · intro μ1 ⟨i1, i2, i3⟩
    have e9 : μ1 (9, 0, 0) = μ (9, 0, 0) := i1 _ (by decide)
    refine wX9_record_51 (xif_t (by rw [ti_le, e615, nI_t (by omega)]; omega) ?_)
    refine h _ (fun q h1 h2 => ?_) (fun i hi => ?_) ?_ (fun i hi => ?_) (fun i hi => ?_)
    · funext i
      rw [xst_rd, if_neg (fun z => h2 z.1), i1 q h1]
    · rw [xst_rd, if_neg (fun z => hi z.2), e9]
    · rw [xst_rd, if_pos ⟨rfl, rfl⟩, e9, ti_add (by rw [hm, ti_lit1]; omega) (by rw [hm, ti_lit1]; omega), hm, ti_lit1]
    · rw [xst_rd, if_neg (by simp), i2 i hi]
    · rw [xst_rd, if_neg (by simp), i3 i hi]
theorem mrecord_ok {S : aS} {H : List aS} (hb : bdS S) (hS : repR (μ (1, 0, 20)) S) (hH : repHM μ H) (h : ∀ μ' : xM, (∀ q, q ≠ (1, 0, 21) → q ≠ (9, 0, 0) → μ' q = μ q) → (∀ i, i ≠ 2 → μ' (9, 0, 0) i = μ (9, 0, 0) i) → repHM μ' ((S :: H).take 5) → Q none μ') : MW G (d + 1) mX9_record [vR (9, 0, 0)] μ Q := by
  obtain ⟨h1, h2, h3⟩ := hH
  have e5 : (5 : Int32).toInt = 5 := rfl
  have e2460 : (2460 : Int32).toInt = 2460 := rfl
  have e615 : (615 : Int32).toInt = 615 := rfl
  refine wX9_record fun Z => xif_c (fun c1 => ?_) (fun c1 => ?_)
  · rw [ti_eq, h1, e5] at c1
    have hl : H.length = 5 := by omega
    refine up_loop (fun k μ1 => WS G eX9_record (d + 1) Z Q 10 [vR (9, 0, 0), vI (nI k)] [] μ1) (fun k μ1 => (∀ q, q ≠ (1, 0, 21) → μ1 q = μ q) ∧ (∀ i, i < k → μ1 (1, 0, 21) i = μ (1, 0, 21) (i + 615)) ∧ ∀ i, k ≤ i → μ1 (1, 0, 21) i = μ (1, 0, 21) i) 2460 ?_ ?_ 0 μ (by omega) ⟨fun _ _ => rfl, fun i hi => by omega, fun _ _ => rfl⟩
    · intro k μ1 hk ⟨i1, i2, i3⟩ ih
      have ek : (nI k).toInt = k := nI_t (by omega)
      have ex : (nI k + 615).toInt = (k + 615 : Nat) := by
        rw [ti_add (by rw [ek, e615]; omega) (by rw [ek, e615]; omega), ek, e615]
        omega
      refine wX9_record_10 (xif_f (by rw [ti_le, e2460, ek]; omega) ⟨ti_in ex (by omega), ti_in ek (by omega), ?_⟩)
      rw [nI_1, ti_cl' ex, ti_cl' ek]
      refine ih _ ⟨fun q hq => ?_, fun i hi => ?_, fun i hi => ?_⟩
      · funext i
        rw [xst_rd, if_neg (fun z => hq z.1), i1 q hq]
      · rw [xst_rd]
        by_cases hik : i = k
        · subst hik
          rw [if_pos ⟨rfl, rfl⟩, i3 _ (by omega)]
        · rw [if_neg (fun z => hik z.2), i2 i (by omega)]
      · rw [xst_rd, if_neg (fun z => by omega), i3 i (by omega)]
    · intro μ1 ⟨i1, i2, i3⟩
      refine wX9_record_10 (xif_t (by rw [ti_le, e2460, nI_t (by omega)]; omega) ?_)
      have e9 : μ1 (9, 0, 0) = μ (9, 0, 0) := i1 _ (by decide)
      have em : ((xst μ1 (9, 0, 0) 2 (μ1 (9, 0, 0) 2 - 1)) (9, 0, 0) 2).toInt = (4 : Nat) := by
        rw [xst_rd, if_pos ⟨rfl, rfl⟩, e9, ti_sub (by rw [h1, ti_lit1]; omega) (by rw [h1, ti_lit1]; omega), h1, ti_lit1, hl]
        rfl
      refine mcopy (p := 4) (by omega) em fun μ' j1 j2 j3 j4 j5 => h μ' (fun q n1 n2 => ?_) (fun i hi => ?_) ⟨?_, by simp; omega, fun k S' hk => ?_⟩
      · rw [j1 q n1 n2]
        funext i
        rw [xst_rd, if_neg (fun z => n2 z.1), i1 q n1]
      · rw [j2 i hi, xst_rd, if_neg (fun z => hi z.2), e9]
      · rw [j3, List.length_take, List.length_cons, hl]
        rfl
      · have hlen : ((S :: H).take 5).length = 5 := by rw [List.length_take, List.length_cons, hl]; rfl
        rw [hlen]
        have hk5 := (List.getElem?_eq_some_iff.mp hk).1
        rw [hlen] at hk5
        cases k with
        | zero =>
          have : S = S' := by simpa using hk
          subst this
          refine ⟨hb, hS.cg hb fun i hi => ?_⟩
          show μ' (1, 0, 21) ((5 - 1 - 0) * 615 + i) = _
          rw [show (5 - 1 - 0) * 615 + i = 4 * 615 + i by omega, j5 i hi, xst_rd, if_neg (by simp), i1 _ (by decide)]
        | succ k =>
          have hk' : H[k]? = some S' := by
            rw [List.getElem?_take, if_pos hk5] at hk
            simpa using hk
          obtain ⟨b1, b2⟩ := h3 k S' hk'
          refine ⟨b1, b2.cg b1 fun i hi => ?_⟩
          show μ' (1, 0, 21) ((5 - 1 - (k + 1)) * 615 + i) = μ (1, 0, 21) ((H.length - 1 - k) * 615 + i)
          have hx : (5 - 1 - (k + 1)) * 615 + i < 2460 := by
            have : k ≤ 3 := by omega
            rcases (show k = 0 ∨ k = 1 ∨ k = 2 ∨ k = 3 by omega) with rfl | rfl | rfl | rfl <;> omega
          have hi2 : (5 - 1 - (k + 1)) * 615 + i + 615 = (5 - 1 - k) * 615 + i := by
            rcases (show k = 0 ∨ k = 1 ∨ k = 2 ∨ k = 3 by omega) with rfl | rfl | rfl | rfl <;> omega
          rw [j4 _ (by omega), xst_rd, if_neg (by simp), i2 _ hx, hl, hi2]
  · rw [ti_eq, h1, e5] at c1
    have hl : H.length < 5 := by omega
    refine mcopy (p := H.length) hl h1 fun μ' j1 j2 j3 j4 j5 => h μ' j1 j2 ⟨?_, by simp; omega, fun k S' hk => ?_⟩
    · rw [j3, List.length_take, List.length_cons]
      omega
    · have hlen : ((S :: H).take 5).length = H.length + 1 := by rw [List.length_take, List.length_cons]; omega
      rw [hlen]
      have hk5 := (List.getElem?_eq_some_iff.mp hk).1
      rw [hlen] at hk5
      cases k with
      | zero =>
        have : S = S' := by simpa using hk
        subst this
        refine ⟨hb, hS.cg hb fun i hi => ?_⟩
        show μ' (1, 0, 21) ((H.length + 1 - 1 - 0) * 615 + i) = _
        rw [show (H.length + 1 - 1 - 0) = H.length by omega, j5 i hi]
      | succ k =>
        have hk' : H[k]? = some S' := by
          rw [List.getElem?_take, if_pos (by omega)] at hk
          simpa using hk
        obtain ⟨b1, b2⟩ := h3 k S' hk'
        refine ⟨b1, b2.cg b1 fun i hi => ?_⟩
        show μ' (1, 0, 21) ((H.length + 1 - 1 - (k + 1)) * 615 + i) = μ (1, 0, 21) ((H.length - 1 - k) * 615 + i)
        rw [show H.length + 1 - 1 - (k + 1) = H.length - 1 - k by omega]
        have hkl := (List.getElem?_eq_some_iff.mp hk').1
        have hx : (H.length - 1 - k) * 615 + i < H.length * 615 := by
          have : (H.length - 1 - k) + 1 ≤ H.length := by omega
          have := Nat.mul_le_mul_right 615 this
          omega
        exact j4 _ hx
/-- a row of 615 copied, by the three loops that do so -/
theorem mundo_ok {S : aS} {H : List aS} (hH : repHM μ (S :: H)) (h : ∀ (x : Int32) (μ' : xM), (∀ q, q ≠ (1, 0, 20) → q ≠ (9, 0, 0) → μ' q = μ q) → (∀ i, i ≠ 2 → μ' (9, 0, 0) i = μ (9, 0, 0) i) → repR (μ' (1, 0, 20)) S → repHM μ' H → x.toInt = H.length → Q (some (vI x)) μ') : MW G (d + 1) mX9_undo [vR (9, 0, 0)] μ Q := by
  obtain ⟨h1, h2, h3⟩ := hH
  rw [List.length_cons] at h1 h2
  have e615 : (615 : Int32).toInt = 615 := rfl
  refine wX9_undo fun Z => xif_f (by rw [ti_eq, h1, ti_lit0]; omega) ?_
  have em : (μ (9, 0, 0) 2 - 1).toInt = H.length := by
    rw [ti_sub (by rw [h1, ti_lit1]; omega) (by rw [h1, ti_lit1]; omega), h1, ti_lit1]
    omega
  refine up_loop (fun k μ1 => WS G eX9_undo (d + 1) Z Q 22 [vR (9, 0, 0), vI (nI k)] [] μ1) (fun k μ1 => (∀ q, q ≠ (1, 0, 20) → q ≠ (9, 0, 0) → μ1 q = μ q) ∧ (∀ i, i ≠ 2 → μ1 (9, 0, 0) i = μ (9, 0, 0) i) ∧ (μ1 (9, 0, 0) 2).toInt = H.length ∧ ∀ i, i < k → μ1 (1, 0, 20) i = μ (1, 0, 21) (H.length * 615 + i)) 615 ?_ ?_ 0 _ (by omega) ⟨fun q n1 n2 => ?_, fun i hi => ?_, ?_, fun i hi => by omega⟩
  · intro k μ1 hk ⟨i1, i2, i3, i4⟩ ih
    have ek : (nI k).toInt = k := nI_t (by omega)
    have em : (μ1 (9, 0, 0) 2 * 615).toInt = (H.length * 615 : Nat) := by
      rw [ti_mul (by rw [i3, e615]; omega) (by rw [i3, e615]; omega), i3, e615]
      omega
    have ex : (μ1 (9, 0, 0) 2 * 615 + nI k).toInt = (H.length * 615 + k : Nat) := by
      rw [ti_add (by rw [em, ek]; omega) (by rw [em, ek]; omega), em, ek]
      omega
    refine wX9_undo_22 (xif_f (by rw [ti_le, e615, ek]; omega) ⟨ti_in ex (by omega), ti_in ek hk, ?_⟩)
    rw [nI_1, ti_cl' ex, ti_cl' ek]
    refine ih _ ⟨fun q n1 n2 => ?_, fun i hi => ?_, ?_, fun i hi => ?_⟩
    · funext i
      rw [xst_rd, if_neg (fun z => n1 z.1), i1 q n1 n2]
    · rw [xst_rd, if_neg (by simp), i2 i hi]
    · rw [xst_rd, if_neg (by simp), i3]
    · rw [xst_rd]
      by_cases hik : i = k
      · subst hik
        rw [if_pos ⟨rfl, rfl⟩, i1 _ (by decide) (by decide)]
      · rw [if_neg (fun z => hik z.2), i4 i (by omega)]
  · intro μ1 ⟨i1, i2, i3, i4⟩
    refine wX9_undo_22 (xif_t (by rw [ti_le, e615, nI_t (by omega)]; omega) ?_)
    obtain ⟨b0, r0⟩ := h3 0 S rfl
    refine h _ μ1 i1 i2 (r0.cg b0 fun i hi => ?_) ⟨i3, by omega, fun k S' hk => ?_⟩ i3
    · rw [i4 i hi]
      show _ = μ (1, 0, 21) (((S :: H).length - 1 - 0) * 615 + i)
      rw [List.length_cons, show H.length + 1 - 1 - 0 = H.length by omega]
    · obtain ⟨b1, b2⟩ := h3 (k + 1) S' (by simpa using hk)
      refine ⟨b1, b2.cg b1 fun i hi => ?_⟩
      show μ1 (1, 0, 21) _ = μ (1, 0, 21) (((S :: H).length - 1 - (k + 1)) * 615 + i)
      rw [i1 _ (by decide) (by decide), List.length_cons, show H.length + 1 - 1 - (k + 1) = H.length - 1 - k by omega]
  · funext i
    rw [xst_rd, if_neg (fun z => n2 z.1)]
  · rw [xst_rd, if_neg (fun z => hi z.2)]
  · rw [xst_rd, if_pos ⟨rfl, rfl⟩, em]
theorem msave_ok {S : aS} (hb : bdS S) (hS : repR (μ (1, 0, 20)) S) (h : ∀ (x : Int32) (μ' : xM), (∀ q, q ≠ (1, 0, 22) → q ≠ (9, 0, 0) → μ' q = μ q) → (∀ i, i ≠ 4 → μ' (9, 0, 0) i = μ (9, 0, 0) i) → μ' (9, 0, 0) 4 = 1 → repR (μ' (1, 0, 22)) S → x.toInt = S.nl → Q (some (vI x)) μ') : MW G (d + 1) mX9_save [vR (9, 0, 0)] μ Q := by
  have e615 : (615 : Int32).toInt = 615 := rfl
  refine wX9_save fun Z => ⟨z11, ?_⟩
  refine up_loop (fun k μ1 => WS G eX9_save (d + 1) Z Q 7 [vR (9, 0, 0), vI (nI k)] [] μ1) (fun k μ1 => (∀ q, q ≠ (1, 0, 22) → q ≠ (9, 0, 0) → μ1 q = μ q) ∧ (∀ i, i ≠ 4 → μ1 (9, 0, 0) i = μ (9, 0, 0) i) ∧ μ1 (9, 0, 0) 4 = 1 ∧ ∀ i, i < k → μ1 (1, 0, 22) i = μ (1, 0, 20) i) 615 ?_ ?_ 0 _ (by omega) ⟨fun q n1 n2 => ?_, fun i hi => ?_, ?_, fun i hi => by omega⟩
  · intro k μ1 hk ⟨i1, i2, i3, i4⟩ ih
    have ek : (nI k).toInt = k := nI_t (by omega)
    refine wX9_save_7 (xif_f (by rw [ti_le, e615, ek]; omega) ⟨ti_in ek hk, ti_in ek hk, ?_⟩)
    rw [nI_1, ti_cl' ek]
    refine ih _ ⟨fun q n1 n2 => ?_, fun i hi => ?_, ?_, fun i hi => ?_⟩
    · funext i
      rw [xst_rd, if_neg (fun z => n1 z.1), i1 q n1 n2]
    · rw [xst_rd, if_neg (by simp), i2 i hi]
    · rw [xst_rd, if_neg (by simp), i3]
    · rw [xst_rd]
      by_cases hik : i = k
      · subst hik
        rw [if_pos ⟨rfl, rfl⟩, i1 _ (by decide) (by decide)]
      · rw [if_neg (fun z => hik z.2), i4 i (by omega)]
  · intro μ1 ⟨i1, i2, i3, i4⟩
    refine wX9_save_7 (xif_t (by rw [ti_le, e615, nI_t (by omega)]; omega) ⟨ti_in (k := 1) rfl (by omega), ?_⟩)
    refine h _ μ1 i1 i2 i3 (hS.cg hb fun i hi => i4 i hi) ?_
    rw [i1 _ (by decide) (by decide), show (1 : Int32).toNatClampNeg = 1 from rfl]
    exact hS.2.1
  · funext i
    rw [xst_rd, if_neg (fun z => n2 z.1)]
  · rw [xst_rd, if_neg (fun z => hi z.2)]
  · rw [xst_rd, if_pos ⟨rfl, rfl⟩]
theorem mrestore_ok {S K : aS} {H : List aS} (hb : bdS S) (hS : repR (μ (1, 0, 20)) S) (hH : repHM μ H) (hbK : bdS K) (hK : repR (μ (1, 0, 22)) K) (h4 : μ (9, 0, 0) 4 = 1) (h : ∀ (x : Int32) (μ' : xM), (∀ q, q ≠ (1, 0, 20) → q ≠ (1, 0, 21) → q ≠ (9, 0, 0) → μ' q = μ q) → (∀ i, i ≠ 2 → μ' (9, 0, 0) i = μ (9, 0, 0) i) → repR (μ' (1, 0, 20)) K → repHM μ' ((S :: H).take 5) → x.toInt = K.nl → Q (some (vI x)) μ') : MW G (d + 2) mX9_restore [vR (9, 0, 0)] μ Q := by
  have e615 : (615 : Int32).toInt = 615 := rfl
  refine wX9_restore fun Z => xif_f (by rw [h4]; decide) ?_
  refine mrecord_ok hb hS hH fun μ0 f1 f2 f3 => ?_
  refine up_loop (fun k μ1 => WS G eX9_restore (d + 2) Z Q 16 [vR (9, 0, 0), vI (nI k)] [] μ1) (fun k μ1 => (∀ q, q ≠ (1, 0, 20) → μ1 q = μ0 q) ∧ ∀ i, i < k → μ1 (1, 0, 20) i = μ (1, 0, 22) i) 615 ?_ ?_ 0 _ (by omega) ⟨fun q n1 => rfl, fun i hi => by omega⟩
  · intro k μ1 hk ⟨i1, i4⟩ ih
    have ek : (nI k).toInt = k := nI_t (by omega)
    refine wX9_restore_16 (xif_f (by rw [ti_le, e615, ek]; omega) ⟨ti_in ek hk, ti_in ek hk, ?_⟩)
    rw [nI_1, ti_cl' ek]
    refine ih _ ⟨fun q n1 => ?_, fun i hi => ?_⟩
    · funext i
      rw [xst_rd, if_neg (fun z => n1 z.1), i1 q n1]
    · rw [xst_rd]
      by_cases hik : i = k
      · subst hik
        rw [if_pos ⟨rfl, rfl⟩, i1 _ (by decide), f1 _ (by decide) (by decide)]
      · rw [if_neg (fun z => hik z.2), i4 i (by omega)]
  · intro μ1 ⟨i1, i4⟩
    refine wX9_restore_16 (xif_t (by rw [ti_le, e615, nI_t (by omega)]; omega) ⟨ti_in (k := 1) rfl (by omega), ?_⟩)
    have rz := hK.cg (z' := μ1 (1, 0, 20)) hbK fun i hi => i4 i hi
    refine h _ μ1 (fun q n1 n2 n3 => ?_) (fun i hi => ?_) rz ?_ rz.2.1
    · rw [i1 q n1, f1 q n2 n3]
    · rw [i1 _ (by decide), f2 i hi]
    · unfold repHM
      rw [i1 (9, 0, 0) (by decide), i1 (1, 0, 21) (by decide)]
      exact f3
end
