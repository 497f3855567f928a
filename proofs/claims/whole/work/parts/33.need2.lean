/-! what a line needs: the class's last step, the model's side -/
def cntO (S : aS) : Nat → Nat
  | 0 => 0
  | n + 1 => if S.B 1 n = -6 then cntO S n + 1 else cntO S n
theorem cntO_le (S : aS) : ∀ n, cntO S n ≤ n
  | 0 => Nat.le_refl _
  | n + 1 => by
    unfold cntO
    have := cntO_le S n
    split <;> omega
theorem cntO_dp {S : aS} {dp : Nat → Nat} (h7 : ∀ b, b < S.nb → okB S dp b) : ∀ n, n ≤ S.nb → cntO S n = dpI dp (latO S n)
  | 0, _ => rfl
  | n + 1, hn => by
    unfold cntO latO
    by_cases h : S.B 1 n = -6
    · rw [if_pos h, if_pos h, cntO_dp h7 n (by omega)]
      obtain ⟨-, -, -, -, a5, -⟩ := h7 n (by omega)
      obtain ⟨b1, b2, b3, b4⟩ := dp_step h7 (x := (n : Int)) (by omega)
      rw [b3, Int.toNat_natCast, a5 h]
    · rw [if_neg h, if_neg h, cntO_dp h7 n (by omega)]
section
variable {G : xG} {d : Nat} {μ : xM} {Q : xP} {S : aS} {H : List aS} {K : Option aS} {T : aT}
theorem tm1 : (-1 : Int32).toInt = -1 := rfl
theorem dec_ok {a : Int32} {n : Nat} (h : a.toInt = (n : Int)) (hn : n < 100000) : (a + (-1 : Int32)).toInt = (n : Int) - 1 := by
  rw [ti_add (by rw [h, tm1]; omega) (by rw [h, tm1]; omega), h, tm1]
  omega
theorem need_ok {l : Int32} {k : Nat} (hr : repP μ 0 S) (hI : Inv S) (hl : l.toInt = k) (hk : k < S.nl) (h : ∀ y : Int64, (∀ i, hasb y i = needS S k i) → Q (some (vL y)) μ) : MW G (d + 4) mX4_allNeeds [vR (3, 0, 0), vI l] μ Q := by
  have hbd := hI.bd
  have h48 := hbd.2.1
  refine wX4_allNeeds fun Z => bit_ok (by omega) fun y0 hy0 => ?_
  have lp : ∀ (n : Nat) (y : Int64) (a : Int32) (X : Nat → Bool), a.toInt = (n : Int) - 1 → n ≤ S.nl → (∀ i, hasb y i = X i) → (∀ i, ndl S n X i = needS S k i) → WS G eX4_allNeeds (d + 4) Z Q 8 [vR (3, 0, 0), vN, vL y, vN, vI a] [] μ := by
    intro n
    induction n with
    | zero =>
      intro y a X h1 h2 h3 h4
      refine wX4_allNeeds_8 (xif_t (by rw [ti_lt, ti_lit0]; omega) (h y fun i => ?_))
      rw [h3, ← h4]
      rfl
    | succ n ih =>
      intro y a X h1 h2 h3 h4
      have ha : a.toInt = (n : Nat) := by omega
      have hd := dec_ok ha (by omega)
      refine wX4_allNeeds_8 (xif_f (by rw [ti_lt, ti_lit0]; omega) (contains_ok ha (by omega) (fun c => xif_f (by decide) ?_) (fun c => xif_t rfl ?_)))
      · refine drt_ok hr hI ha (by omega) fun z hz => c_ho hr h48 ha (by omega) fun x hx => from_ok hr hI (by rw [hx]; exact hI.home (by omega)) fun w hw => ?_
        refine ih _ _ (fun i => X i || (drt S n i || ach S 5 (S.L 5 n) i)) hd (by omega) (fun i => ?_) (fun i => ?_)
        · rw [hb_or, hb_or, h3, hz, hw, hx]
        · rw [← h4 i]
          conv => rhs; unfold ndl
          rw [if_pos (by rw [← h3]; exact c)]
      · refine ih _ _ X hd (by omega) h3 (fun i => ?_)
        rw [← h4 i]
        conv => rhs; unfold ndl
        rw [if_neg (by rw [← h3]; exact c)]
  refine lp (k + 1) y0 l (fun i => decide (i = k)) (by omega) (by omega) (fun i => ?_) (fun i => rfl)
  rw [hy0, hl]
  exact decide_eq_decide.mpr (by omega)
-- the model
theorem m_toBox' {l x : Int32} {k i : Nat} (hr : repR (μ (1, 0, 20)) S) (h48 : S.nl ≤ 48) (hl : l.toInt = k) (hk : k < S.nl) (hi : x.toInt = i) (ht : isBx S k i = true → Q (some (vI 1)) μ) (hf : isBx S k i = false → Q (some (vI 0)) μ) : MW G (d + 2) mX9_isToBox [vR (9, 0, 0), vI l, vI x] μ Q := by
  have e8 : (8 : Int32).toInt = 8 := rfl
  have e10 : (10 : Int32).toInt = 10 := rfl
  have e7 : (7 : Int32).toInt = 7 := rfl
  refine wX9_isToBox (m_ru hr h48 hl hk fun y hy => xif_c (fun c1 => ⟨z11, ht ?_⟩) fun c1 => xif_c (fun c2 => ⟨z11, ht ?_⟩) fun c2 => xif_c (fun c3 => xif_c (fun c4 => ⟨z01, hf ?_⟩) fun c4 => ⟨z11, ht ?_⟩) fun c3 => ⟨z01, hf ?_⟩)
  all_goals simp only [ti_eq, ti_le, hy, e8, e10, e7, hi, ti_lit0] at *
  all_goals unfold isBx
  · simp [c1]
  · simp [c2]
  · have : i = 0 := by omega
    simp [c3, this]
  · have : 0 < i := by omega
    simp [c3, this]
  · simp [c1, c2, c3]
theorem m_toBox {l x : Int32} {k i : Nat} (hr : repR (μ (1, 0, 20)) S) (hI : Inv S) (hl : l.toInt = k) (hk : k < S.nl) (hi : x.toInt = i) (ht : isBx S k i = true → Q (some (vI 1)) μ) (hf : isBx S k i = false → Q (some (vI 0)) μ) : MW G (d + 2) mX9_isToBox [vR (9, 0, 0), vI l, vI x] μ Q := m_toBox' hr hI.2.1 hl hk hi ht hf
theorem m_drt {l : Int32} {k : Nat} (hr : repR (μ (1, 0, 20)) S) (hI : Inv S) (hl : l.toInt = k) (hk : k < S.nl) (h : ∀ y : Int64, (∀ i, hasb y i = drt S k i) → Q (some (vL y)) μ) : MW G (d + 3) mX9_direct [vR (9, 0, 0), vI l] μ Q := by
  have hbd := hI.bd
  have h48 := hbd.2.1
  have hb48 := hbd.2.2
  have e3 : (3 : Int32).toInt = 3 := rfl
  refine wX9_direct fun Z => ?_
  have st : ∀ (i : Nat) (y : Int64), i < 3 → (∀ y' : Int64, (∀ b, hasb y' b = (hasb y b || rbit S k i b)) → WS G eX9_direct (d + 3) Z Q 5 [vR (9, 0, 0), vI l, vL y', vN, vI (nI (i + 1)), vN] [] μ) → WS G eX9_direct (d + 3) Z Q 5 [vR (9, 0, 0), vI l, vL y, vN, vI (nI i), vN] [] μ := by
    intro i y hi hh
    have ei : (nI i).toInt = i := nI_t (by omega)
    refine wX9_direct_5 (xif_f (by rw [ti_le, e3, ei]; omega) (m_ref hr h48 hl hk ei hi fun x hx => ?_))
    rw [nI_1]
    have hok := (hI.2.2.2.2.2.1 k hk).2.2.1
    rcases refcase hok hi with ⟨c1, c2, c3⟩ | ⟨c1, c2⟩ | ⟨c1, c2, c3⟩
    · have c21 := c2.1
      have c22 := c2.2
      refine xif_f (by rw [ti_eq, hx, ti_litm6]; omega) (m_toBox hr hI hl hk ei (fun z => by rw [c3] at z; cases z) fun _ => xif_t rfl (hh _ fun b => ?_))
      have hxk : x.toInt = ((S.L (2 + i) k).toNat : Nat) := by rw [hx]; omega
      rw [hb_or, hb_one hxk (by omega), rbit, c3]
      have n6 : ¬ S.L (2 + i) k = -6 := by omega
      have e : decide (b = (S.L (2 + i) k).toNat) = decide ((b : Int) = S.L (2 + i) k) := decide_eq_decide.mpr (by omega)
      rw [e]
      simp [n6]
    · have hx6 : x.toInt = -6 := by rw [hx, c2]
      refine xif_t (by rw [ti_eq, hx6, ti_litm6]) (hh _ fun b => ?_)
      rw [rbit, c2]
      simp
    · have c21 := c2.1
      have hxk : x.toInt = ((S.L (2 + i) k).toNat : Nat) := by rw [hx]; omega
      have hxb : (S.L (2 + i) k).toNat < S.nb := by have := c2.2.1; omega
      obtain ⟨s, hs, hs2⟩ := hI.bs hxb
      have c23 := c2.2.2.1
      have c24 := c2.2.2.2
      refine xif_f (by rw [ti_eq, hx, ti_litm6]; omega) (m_toBox hr hI hl hk ei (fun _ => xif_f (by decide) (m_st hr hb48 hxk hxb fun u hu => m_en hr hb48 hxk hxb fun v hv => hh _ fun b => ?_)) (fun z => by rw [c3] at z; cases z))
      have hvk : v.toInt = ((S.B 1 (S.L (2 + i) k).toNat).toNat : Nat) := by rw [hv]; omega
      rw [hb_or, hb_or, hb_one (hu.trans hs) (by omega), hb_one hvk (by omega), rbit, c3, hs]
      have n6 : ¬ S.L (2 + i) k = -6 := by omega
      have e : decide (b = (S.B 1 (S.L (2 + i) k).toNat).toNat) = decide ((b : Int) = S.B 1 (S.L (2 + i) k).toNat) := decide_eq_decide.mpr (by omega)
      have e2 : decide (b = s) = decide ((b : Int) = (s : Int)) := decide_eq_decide.mpr (by omega)
      rw [e, e2]
      simp [n6]
  refine st 0 0 (by omega) fun y0 h0 => st 1 y0 (by omega) fun y1 h1 => st 2 y1 (by omega) fun y2 h2 => ?_
  refine wX9_direct_5 (xif_t (by rw [ti_le, e3, nI_t (by omega)]; omega) (h y2 fun b => ?_))
  rw [h2, h1, h0, hb_0, drt]
  simp
theorem m_users {l : Int32} {k : Nat} (hr : repR (μ (1, 0, 20)) S) (hI : Inv S) (hl : l.toInt = k) (hk : k < S.nl) (h : ∀ x : Int32, x.toInt = usr S k S.nl → Q (some (vI x)) μ) : MW G (d + 4) mX9_neededBy [vR (9, 0, 0), vI l] μ Q := by
  have hbd := hI.bd
  have h48 := hbd.2.1
  refine wX9_neededBy fun Z => ?_
  refine up_loop (σ := Int32) (fun i x => WS G eX9_neededBy (d + 4) Z Q 4 [vR (9, 0, 0), vI l, vI x, vI (nI i)] [] μ) (fun i x => x.toInt = usr S k i) S.nl ?_ ?_ 0 _ (by omega) rfl
  · intro i x hi hx ih
    have ei : (nI i).toInt = i := nI_t (by omega)
    have hu := usr_le S k i
    refine wX9_neededBy_4 ⟨ti_in l1 (by omega), xif_f (by rw [ti_le, ti_cl' l1, hr.2.1, ei]; omega) (m_drt hr hI ei hi fun y hy => xif_c (fun c => ?_) (fun c => ?_))⟩
    · rw [nI_1]
      refine ih _ ?_
      rw [test_iff hl (by omega), hy] at c
      unfold usr
      rw [if_pos c, ti_add (by rw [hx, ti_lit1]; omega) (by rw [hx, ti_lit1]; omega), hx, ti_lit1]
      omega
    · rw [nI_1]
      refine ih _ ?_
      rw [test_iff hl (by omega), hy] at c
      unfold usr
      rw [if_neg c, ti_add (by rw [hx, ti_lit0]; omega) (by rw [hx, ti_lit0]; omega), hx, ti_lit0]
      omega
  · intro x hx
    have ei : (nI S.nl).toInt = S.nl := nI_t (by omega)
    exact wX9_neededBy_4 ⟨ti_in l1 (by omega), xif_t (by rw [ti_le, ti_cl' l1, hr.2.1, ei]; omega) (h _ hx)⟩
theorem m_depth {l : Int32} {k : Nat} {dp : Nat → Nat} (hr : repR (μ (1, 0, 20)) S) (hI : Inv S) (h7 : ∀ b, b < S.nb → okB S dp b) (hl : l.toInt = k) (hk : k < S.nl) (h : ∀ x : Int32, x.toInt = dpI dp (S.L 5 k) → Q (some (vI x)) μ) : MW G (d + 2) mX9_depthOf [vR (9, 0, 0), vI l] μ Q := by
  have hbd := hI.bd
  refine wX9_depthOf fun Z => m_ho hr hbd.2.1 hl hk fun x hx => ?_
  have hx' : okX S x.toInt := by rw [hx]; exact hI.home hk
  have hle := dpI_le h7 hx'
  have lp : ∀ (n : Nat) (a c : Int32), dpI dp a.toInt = n → okX S a.toInt → 0 ≤ c.toInt → c.toInt + n = dpI dp x.toInt → WS G eX9_depthOf (d + 2) Z Q 8 [vR (9, 0, 0), vN, vI c, vI a] [] μ := by
    intro n
    induction n with
    | zero =>
      intro a c h1 h2 h3 h4
      rcases h2 with z | z
      · exact wX9_depthOf_8 (xif_t (by rw [ti_eq, ti_litm6]; exact z) (h c (by rw [← hx]; omega)))
      · have := (dp_step h7 z).1; omega
    | succ n ih =>
      intro a c h1 h2 h3 h4
      rcases h2 with z | z
      · rw [dpI, if_pos z] at h1; omega
      · obtain ⟨b1, b2, b3, b4⟩ := dp_step h7 z
        have hk : a.toInt = (a.toInt.toNat : Nat) := by omega
        refine wX9_depthOf_8 (xif_f (by rw [ti_eq, ti_litm6]; omega) (m_pa hr hbd.2.2 hk (by omega) fun p hp => ?_))
        have hc : (c + 1).toInt = c.toInt + 1 := by rw [ti_add (by rw [ti_lit1]; omega) (by rw [ti_lit1]; omega), ti_lit1]
        exact ih p (c + 1) (by rw [hp]; omega) (by rw [hp]; exact b4) (by omega) (by omega)
  exact lp _ x 0 rfl hx' (by decide) (by rw [ti_lit0]; omega)
theorem m_assumed {l : Int32} {k : Nat} (hr : repR (μ (1, 0, 20)) S) (hI : Inv S) (hl : l.toInt = k) (hk : k < S.nl) (h : ∀ y : Int64, (∀ i, hasb y i = ach S 5 (S.L 5 k) i) → Q (some (vL y)) μ) : MW G (d + 2) mX9_assumed [vR (9, 0, 0), vI l] μ Q := by
  have hbd := hI.bd
  have h48 := hbd.2.1
  obtain ⟨dp, h7⟩ := hI.2.2.2.2.2.2.1
  refine wX9_assumed fun Z => m_ho hr hbd.2.1 hl hk fun x hx => ?_
  have hx' : okX S x.toInt := by rw [hx]; exact hI.home hk
  have hle := dpI_le h7 hx'
  have lp : ∀ (n : Nat) (a : Int32) (y : Int64), dpI dp a.toInt ≤ n → okX S a.toInt → (∀ i, (hasb y i || ach S n a.toInt i) = ach S 5 x.toInt i) → WS G eX9_assumed (d + 2) Z Q 9 [vR (9, 0, 0), vN, vL y, vN, vI a] [] μ := by
    intro n
    induction n with
    | zero =>
      intro a y h1 h2 h3
      rcases h2 with z | z
      · refine wX9_assumed_9 (xif_t (by rw [ti_eq, ti_litm6]; exact z) (h y fun i => ?_))
        rw [← hx, ← h3]
        simp [ach]
      · have := (dp_step h7 z).1; omega
    | succ n ih =>
      intro a y h1 h2 h3
      rcases h2 with z | z
      · refine wX9_assumed_9 (xif_t (by rw [ti_eq, ti_litm6]; exact z) (h y fun i => ?_))
        rw [← hx, ← h3]
        simp [ach, z]
      · obtain ⟨b1, b2, b3, b4⟩ := dp_step h7 z
        have hk : a.toInt = (a.toInt.toNat : Nat) := by omega
        have hkb : a.toInt.toNat < S.nb := by omega
        obtain ⟨s, hs, hs2⟩ := hI.bs hkb
        refine wX9_assumed_9 (xif_f (by rw [ti_eq, ti_litm6]; omega) (m_st hr hbd.2.2 hk hkb fun u hu => m_pa hr hbd.2.2 hk hkb fun p hp => ?_))
        refine ih p _ (by rw [hp]; omega) (by rw [hp]; exact b4) fun i => ?_
        rw [← h3 i, hb_or, hb_one (hu.trans hs) (by omega), hp]
        have n6 : ¬ a.toInt = -6 := by omega
        have e2 : decide (i = s) = decide ((i : Int) = S.B 0 a.toInt.toNat) := decide_eq_decide.mpr (by rw [hs]; omega)
        conv => rhs; unfold ach
        rw [if_neg n6, Bool.or_assoc, e2]
  exact lp 5 x 0 hle hx' fun i => by rw [hb_0]; simp
theorem m_need {l : Int32} {k : Nat} (hr : repR (μ (1, 0, 20)) S) (hI : Inv S) (hl : l.toInt = k) (hk : k < S.nl) (h : ∀ y : Int64, (∀ i, hasb y i = needS S k i) → Q (some (vL y)) μ) : MW G (d + 4) mX9_needed [vR (9, 0, 0), vI l] μ Q := by
  have hbd := hI.bd
  have h48 := hbd.2.1
  refine wX9_needed fun Z => ?_
  have lp : ∀ (n : Nat) (y : Int64) (a : Int32) (X : Nat → Bool), a.toInt = (n : Int) - 1 → n ≤ S.nl → (∀ i, hasb y i = X i) → (∀ i, ndl S n X i = needS S k i) → WS G eX9_needed (d + 4) Z Q 7 [vR (9, 0, 0), vN, vL y, vN, vI a] [] μ := by
    intro n
    induction n with
    | zero =>
      intro y a X h1 h2 h3 h4
      refine wX9_needed_7 (xif_t (by rw [ti_lt, ti_lit0]; omega) (h y fun i => ?_))
      rw [h3, ← h4]
      rfl
    | succ n ih =>
      intro y a X h1 h2 h3 h4
      have ha : a.toInt = (n : Nat) := by omega
      have hd := dec_ok ha (by omega)
      refine wX9_needed_7 (xif_f (by rw [ti_lt, ti_lit0]; omega) (xif_c (fun c => ?_) (fun c => ?_)))
      · rw [test_iff ha (by omega)] at c
        refine m_drt hr hI ha (by omega) fun z hz => m_assumed hr hI ha (by omega) fun w hw => ?_
        refine ih _ _ (fun i => X i || (drt S n i || ach S 5 (S.L 5 n) i)) hd (by omega) (fun i => ?_) (fun i => ?_)
        · rw [hb_or, hb_or, h3, hz, hw]
        · rw [← h4 i]
          conv => rhs; unfold ndl
          rw [if_pos (by rw [← h3]; exact c)]
      · rw [test_iff ha (by omega)] at c
        refine ih _ _ X hd (by omega) h3 (fun i => ?_)
        rw [← h4 i]
        conv => rhs; unfold ndl
        rw [if_neg (by rw [← h3]; exact c)]
  refine lp (k + 1) _ l (fun i => decide (i = k)) (by omega) (by omega) (fun i => hb_one hl (by omega) i) (fun i => rfl)
theorem m_open {dp : Nat → Nat} (hr : repR (μ (1, 0, 20)) S) (hI : Inv S) (h7 : ∀ b, b < S.nb → okB S dp b) (h : ∀ x : Int32, x.toInt = dpI dp S.inn → Q (some (vI x)) μ) : MW G (d + 2) mX9_openBoxes [vR (9, 0, 0)] μ Q := by
  have hbd := hI.bd
  have hb48 := hbd.2.2
  refine wX9_openBoxes fun Z => ?_
  refine up_loop (σ := Int32) (fun i x => WS G eX9_openBoxes (d + 2) Z Q 4 [vR (9, 0, 0), vI x, vI (nI i)] [] μ) (fun i x => x.toInt = cntO S i) S.nb ?_ ?_ 0 _ (by omega) rfl
  · intro i x hi hx ih
    have ei : (nI i).toInt = i := nI_t (by omega)
    have hu := cntO_le S i
    refine wX9_openBoxes_4 ⟨ti_in l2 (by omega), xif_f (by rw [ti_le, ti_cl' l2, hr.2.2.1, ei]; omega) (m_en hr hb48 ei hi fun y hy => xif_c (fun c => ?_) (fun c => ?_))⟩
    · rw [nI_1]
      refine ih _ ?_
      rw [ti_eq, hy, ti_litm6] at c
      unfold cntO
      rw [if_pos c, ti_add (by rw [hx, ti_lit1]; omega) (by rw [hx, ti_lit1]; omega), hx, ti_lit1]
      omega
    · rw [nI_1]
      refine ih _ ?_
      rw [ti_eq, hy, ti_litm6] at c
      unfold cntO
      rw [if_neg c, ti_add (by rw [hx, ti_lit0]; omega) (by rw [hx, ti_lit0]; omega), hx, ti_lit0]
      omega
  · intro x hx
    have ei : (nI S.nb).toInt = S.nb := nI_t (by omega)
    refine wX9_openBoxes_4 ⟨ti_in l2 (by omega), xif_t (by rw [ti_le, ti_cl' l2, hr.2.2.1, ei]; omega) (h _ ?_)⟩
    rw [hx, hI.2.2.2.1, cntO_dp h7 S.nb (Nat.le_refl _)]
end
