/-! trim: both sides -/
section
variable {G : xG} {d : Nat} {μ : xM} {Q : xP} {S : aS} {X : Nat → Bool} {H : List aS} {K : Option aS} {T : aT}
theorem eaS_B {c : Nat} (i x : Nat) (hc : c ≠ 1) : (eaS S X i).B c x = S.B c x := if_neg hc
theorem eaS_1 (i x : Nat) : (eaS S X i).B 1 x = if x < i ∧ yB S X x = true then lastI (S.L 5) (S.B 2) X x S.nl else S.B 1 x := by
  show (if (1 : Nat) = 1 then (if x < i ∧ yB S X x = true then lastI (S.L 5) (S.B 2) X x S.nl else S.B 1 x) else S.B 1 x) = _
  rw [if_pos rfl]
theorem eaS_0 : eaS S X 0 = S := by
  unfold eaS setE
  refine Prod.ext rfl (Prod.ext rfl (Prod.ext rfl ?_))
  funext c x
  show (if c = 1 then (if x < 0 ∧ yB S X x = true then _ else S.B 1 x) else S.B c x) = S.B c x
  by_cases h : c = 1
  · rw [if_pos h, if_neg (fun q => by have := q.1; omega), h]
  · rw [if_neg h]
theorem repR_end {i : Nat} {v : Int32} (hr : repR (μ (1, 0, 20)) (eaS S X i)) (hb : bdS S) (hi : i < S.nb) (hv : v.toInt = if yB S X i = true then lastI (S.L 5) (S.B 2) X i S.nl else S.B 1 i) : repR (xst μ (1, 0, 20) (471 + 3 * i + 1) v (1, 0, 20)) (eaS S X (i + 1)) := by
  obtain ⟨b1, b2, b3⟩ := hb
  obtain ⟨r1, r2, r3, r4, r5, r6⟩ := hr
  have off : ∀ n, n ≠ 471 + 3 * i + 1 → xst μ (1, 0, 20) (471 + 3 * i + 1) v (1, 0, 20) n = μ (1, 0, 20) n := fun n hn => by
    rw [xst_rd, if_neg (fun q => hn q.2)]
  refine ⟨by rw [off _ (by omega)]; exact r1, by rw [off _ (by omega)]; exact r2, by rw [off _ (by omega)]; exact r3, fun c hc x hx => ?_, fun c hc x hx => ?_, fun c hc x hx => ?_⟩
  · have hx : x < S.nf := hx
    rw [off _ (by omega)]
    exact r4 c hc x hx
  · have hx : x < S.nl := hx
    rw [off _ (by omega)]
    exact r5 c hc x hx
  · have hx : x < S.nb := hx
    have h6 := r6 c hc x hx
    by_cases c1 : c = 1
    · subst c1
      rw [eaS_1] at h6 ⊢
      by_cases hxi : x = i
      · subst hxi
        rw [xst_rd, if_pos ⟨rfl, rfl⟩, hv]
        by_cases y : yB S X x = true
        · rw [if_pos y, if_pos ⟨by omega, y⟩]
        · rw [if_neg y, if_neg (fun q => y q.2)]
      · rw [off _ (by omega), h6]
        by_cases y : x < i ∧ yB S X x = true
        · rw [if_pos y, if_pos ⟨by omega, y.2⟩]
        · rw [if_neg y, if_neg (fun q => y ⟨by omega, q.2⟩)]
    · rw [eaS_B _ _ c1] at h6 ⊢
      rw [off _ (by omega)]
      exact h6
theorem repR_fin {μ2 : xM} {v4 v5 : Int32} (hr : repR (μ2 (1, 0, 20)) (mbT (mlT (eaS S X S.nb) S X S.nl) S X S.nb)) (h4 : v4.toInt = rk X S.nl) (h5 : v5.toInt = rk (yB S X) S.nb) (hb : bdS S) : repR (xst (xst μ2 (1, 0, 20) 1 v4) (1, 0, 20) 2 v5 (1, 0, 20)) (trimS S X) := by
  obtain ⟨b1, b2, b3⟩ := hb
  obtain ⟨r1, r2, r3, r4, r5, r6⟩ := hr
  have k1 := rk_le X S.nl
  have k2 := rk_le (yB S X) S.nb
  have off : ∀ n, n ≠ 1 → n ≠ 2 → xst (xst μ2 (1, 0, 20) 1 v4) (1, 0, 20) 2 v5 (1, 0, 20) n = μ2 (1, 0, 20) n := fun n h1 h2 => by
    rw [xst_rd, if_neg (fun q => h2 q.2), xst_rd, if_neg (fun q => h1 q.2)]
  refine ⟨by rw [off _ (by omega) (by omega)]; exact r1, ?_, ?_, fun c hc x hx => ?_, fun c hc x hx => ?_, fun c hc x hx => ?_⟩
  · rw [xst_rd, if_neg (fun q => by have := q.2; omega), xst_rd, if_pos ⟨rfl, rfl⟩]
    exact h4
  · rw [xst_rd, if_pos ⟨rfl, rfl⟩]
    exact h5
  · have hx : x < S.nf := hx
    rw [off _ (by omega) (by omega)]
    exact r4 c hc x hx
  · have hx : x < rk X S.nl := hx
    rw [off _ (by omega) (by omega)]
    refine (r5 c hc x (by show x < S.nl; omega)).trans ?_
    exact if_pos hx
  · have hx : x < rk (yB S X) S.nb := hx
    rw [off _ (by omega) (by omega)]
    refine (r6 c hc x (by show x < S.nb; omega)).trans ?_
    exact if_pos hx
theorem xst_ot {μ : xM} {p q : xI} {k : Nat} {v : Int32} (h : p ≠ q) : xst μ q k v p = μ p := by
  funext n
  rw [xst_rd, if_neg (fun z => h z.1)]
set_option maxHeartbeats 1000000 in
theorem m_loop {y : Int64} {Z : xZ} (hr : repR (μ (1, 0, 20)) S) (hI : Inv S) (hc : clo S X) (hy : ∀ i, i < S.nl → hasb y i = X i) (h : ∀ (x : Int32) (μ' : xM), x.toInt = (S.nl : Int) - rk X S.nl → (∀ q, q ≠ (1, 0, 20) → q ≠ (1, 0, 24) → q ≠ (1, 0, 25) → μ' q = μ q) → repR (μ' (1, 0, 20)) (trimS S X) → Q (some (vI x)) μ') : WS G eX9_trim (d + 5) Z Q 48 [vR (9, 0, 0), vN, vL y, vN, vI (0 : Int32), vI (0 : Int32), vN, vN] [] μ := by
  obtain ⟨b1, b2, b3⟩ := hI.bd
  obtain ⟨dp, h7⟩ := hI.2.2.2.2.2.2.1
  have kl := rk_le X S.nl
  have n1 : (1 : Int32).toNatClampNeg = 1 := rfl
  have n2 : (2 : Int32).toNatClampNeg = 2 := rfl
  have boxes : ∀ (v4 : Int32) (μA : xM), v4.toInt = rk X S.nl → (∀ q, q ≠ (1, 0, 24) → μA q = μ q) → numL S X μA S.nl → WS G eX9_trim (d + 5) Z Q 101 [vR (9, 0, 0), vN, vL y, vN, vI v4, vI (0 : Int32), vI (0 : Int32), vN] [] μA := by
    intro v4 μA h4 eA hL
    refine up_loop (σ := Int32 × xM) (fun i s => WS G eX9_trim (d + 5) Z Q 101 [vR (9, 0, 0), vN, vL y, vN, vI v4, vI s.1, vI (nI i), vN] [] s.2) (fun i s => s.1.toInt = rk (yB S X) i ∧ (∀ q, q ≠ (1, 0, 20) → q ≠ (1, 0, 25) → s.2 q = μA q) ∧ numB S X s.2 i ∧ repR (s.2 (1, 0, 20)) (eaS S X i)) S.nb ?_ ?_ 0 ((0 : Int32), μA) (by omega) ⟨rfl, fun _ _ _ => rfl, fun b hb => by omega, by rw [eaS_0]; show repR (μA (1, 0, 20)) S; rw [eA _ (by decide)]; exact hr⟩
    · rintro i ⟨p, μ1⟩ hi ⟨hp, e, hB, r⟩ ih
      have ei : (nI i).toInt = i := nI_t (by omega)
      have hp : p.toInt = rk (yB S X) i := hp
      have r : repR (μ1 (1, 0, 20)) (eaS S X i) := r
      have hz : (μ1 (1, 0, 20) 2).toInt = S.nb := r.2.2.1
      have kb := rk_le (yB S X) i
      obtain ⟨s, hs, hs2⟩ := hI.bs hi
      have hYX : yB S X i = X s := by unfold yB; rw [hs, Int.toNat_natCast]
      have j1 := lin1 (lin l471 l3 ei (by omega)) l1 (by omega)
      refine wX9_trim_101 ⟨ti_in l2 (by omega), xif_f (by rw [ti_le, n2, hz, ei]; omega) (m_st r b3 ei hi fun x hx => ?_)⟩
      rw [eaS_B _ _ (by omega), hs] at hx
      have r' : ∀ v, repR (xst μ1 (1, 0, 25) i v (1, 0, 20)) (eaS S X i) := fun v => by rw [xst_ot (by decide)]; exact r
      have nB : ∀ (v w : Int32), v.toInt = (if yB S X i = true then (rk (yB S X) i : Int) else -6) → numB S X (xst (xst μ1 (1, 0, 25) i v) (1, 0, 20) (471 + 3 * i + 1) w) (i + 1) := by
        intro v w hv b hb
        rw [xst_ot (by decide), xst_rd]
        by_cases hbi : b = i
        · subst hbi
          rw [if_pos ⟨rfl, rfl⟩]
          exact hv
        · rw [if_neg (fun q => hbi q.2)]
          exact hB b (by omega)
      have fr : ∀ (v w : Int32) (q : xI), q ≠ (1, 0, 20) → q ≠ (1, 0, 25) → xst (xst μ1 (1, 0, 25) i v) (1, 0, 20) (471 + 3 * i + 1) w q = μA q := by
        intro v w q h1 h2
        rw [xst_ot h1, xst_ot h2]
        exact e q h1 h2
      refine xif_c (fun c => ?_) (fun c => ?_)
      · rw [test_iff hx (by omega), hy s hs2, ← hYX] at c
        refine wX9_trim_132 (xif_f (by decide) (wX9_trim_152 ⟨ti_in ei (by omega), xif_f (by decide) ?_⟩))
        rw [ti_cl' ei]
        refine m_last (r' p) hI.bd hI h7 (funext fun x => eaS_B _ _ (by omega)) rfl rfl rfl ei hy fun w hw => ?_
        refine wX9_trim_188 ⟨ti_in j1 (by omega), xif_f (by decide) (wX9_trim_201 ?_)⟩
        rw [ti_cl' j1, nI_1]
        refine ih (p + 1, xst (xst μ1 (1, 0, 25) i p) (1, 0, 20) (471 + 3 * i + 1) w) ⟨?_, fr p w, nB p w (by rw [if_pos c]; exact hp), repR_end (r' p) hI.bd hi (by rw [if_pos c]; exact hw)⟩
        show (p + 1).toInt = _
        rw [rk_s c, ti_add (by rw [hp, ti_lit1]; omega) (by rw [hp, ti_lit1]; omega), hp, ti_lit1]
        omega
      · rw [test_iff hx (by omega), hy s hs2, ← hYX] at c
        refine wX9_trim_132 (xif_t rfl (wX9_trim_152 ⟨ti_in ei (by omega), xif_t rfl ?_⟩))
        rw [ti_cl' ei]
        refine m_en (r' (-6)) b3 ei hi fun w hw => ?_
        refine wX9_trim_188 ⟨ti_in j1 (by omega), xif_t rfl (wX9_trim_201 ?_)⟩
        rw [ti_cl' j1, nI_1]
        refine ih (p + 0, xst (xst μ1 (1, 0, 25) i (-6)) (1, 0, 20) (471 + 3 * i + 1) w) ⟨?_, fr (-6) w, nB (-6) w (by rw [if_neg c]; rfl), repR_end (r' (-6)) hI.bd hi ?_⟩
        · show (p + 0).toInt = _
          rw [rk_n c, ti_add (by rw [hp, ti_lit0]; omega) (by rw [hp, ti_lit0]; omega), hp, ti_lit0]
          omega
        · rw [if_neg c, hw, eaS_1, if_neg (fun q => c q.2)]
    · rintro ⟨p, μ1⟩ ⟨hp, e, hB, r⟩
      have ei : (nI S.nb).toInt = S.nb := nI_t (by omega)
      have hp : p.toInt = rk (yB S X) S.nb := hp
      have r : repR (μ1 (1, 0, 20)) (eaS S X S.nb) := r
      have hz : (μ1 (1, 0, 20) 2).toInt = S.nb := r.2.2.1
      have hz1 : (μ1 (1, 0, 20) 1).toInt = S.nl := r.2.1
      have hL1 : numL S X μ1 S.nl := hL.keep (e _ (by decide) (by decide))
      have hB : numB S X μ1 S.nb := hB
      refine wX9_trim_101 ⟨ti_in l2 (by omega), xif_t (by rw [ti_le, n2, hz, ei]; omega) ⟨ti_in l1 (by omega), ?_⟩⟩
      refine m_mvl r hI hc hI.bd rfl rfl hy hL1 hB fun μ2 e2 r2 => ?_
      refine m_mvb r2 hI hc hI.bd rfl (by funext x; exact eaS_B (S := S) (X := X) (c := 0) S.nb x (by omega)) (by funext x; exact eaS_B (S := S) (X := X) (c := 2) S.nb x (by omega)) (fun b hb hyb => ?_) (hL1.keep (e2 _ (by decide))) (hB.keep (e2 _ (by decide))) fun μ3 e3 r3 => ?_
      · refine (eaS_1 S.nb b).trans ?_
        exact if_pos ⟨hb, hyb⟩
      · refine ⟨ti_in l1 (by omega), ti_in l2 (by omega), ?_⟩
        rw [n1, n2]
        refine h _ _ ?_ (fun q h1 h2 h3 => ?_) (repR_fin r3 h4 hp hI.bd)
        · show (μ1 (1, 0, 20) 1 - v4).toInt = _
          rw [ti_sub (by rw [hz1, h4]; omega) (by rw [hz1, h4]; omega), hz1, h4]
        · rw [xst_ot h1, xst_ot h1, e3 q h1, e2 q h1]
          exact (e q h1 h3).trans (eA q h2)
  refine up_loop (σ := Int32 × xM) (fun i s => WS G eX9_trim (d + 5) Z Q 48 [vR (9, 0, 0), vN, vL y, vN, vI s.1, vI (nI i), vN, vN] [] s.2) (fun i s => s.1.toInt = rk X i ∧ (∀ q, q ≠ (1, 0, 24) → s.2 q = μ q) ∧ numL S X s.2 i) S.nl ?_ ?_ 0 ((0 : Int32), μ) (by omega) ⟨rfl, fun _ _ => rfl, fun b hb => by omega⟩
  · rintro i ⟨p, μ1⟩ hi ⟨hp, e, hL⟩ ih
    have ei : (nI i).toInt = i := nI_t (by omega)
    have hp : p.toInt = rk X i := hp
    have kb := rk_le X i
    have hz : (μ1 (1, 0, 20) 1).toInt = S.nl := by rw [show μ1 (1, 0, 20) = μ (1, 0, 20) from e _ (by decide)]; exact hr.2.1
    have nL : numL S X (xst μ1 (1, 0, 24) i p) (i + 1) := by
      intro b hb
      rw [xst_rd]
      by_cases hbi : b = i
      · subst hbi
        rw [if_pos ⟨rfl, rfl⟩]
        exact hp
      · rw [if_neg (fun q => hbi q.2)]
        exact hL b (by omega)
    have fr : ∀ q, q ≠ (1, 0, 24) → xst μ1 (1, 0, 24) i p q = μ q := fun q hq => by
      rw [xst_ot hq]
      exact e q hq
    refine wX9_trim_48 ⟨ti_in l1 (by omega), xif_f (by rw [ti_le, n1, hz, ei]; omega) ⟨ti_in ei (by omega), xif_c (fun c => ?_) (fun c => ?_)⟩⟩
    · rw [test_iff ei (by omega), hy i hi] at c
      rw [ti_cl' ei]
      refine wX9_trim_86 ?_
      rw [nI_1]
      refine ih (p + 1, xst μ1 (1, 0, 24) i p) ⟨?_, fr, nL⟩
      show (p + 1).toInt = _
      rw [rk_s c, ti_add (by rw [hp, ti_lit1]; omega) (by rw [hp, ti_lit1]; omega), hp, ti_lit1]
      omega
    · rw [test_iff ei (by omega), hy i hi] at c
      rw [ti_cl' ei]
      refine wX9_trim_86 ?_
      rw [nI_1]
      refine ih (p + 0, xst μ1 (1, 0, 24) i p) ⟨?_, fr, nL⟩
      show (p + 0).toInt = _
      rw [rk_n c, ti_add (by rw [hp, ti_lit0]; omega) (by rw [hp, ti_lit0]; omega), hp, ti_lit0]
      omega
  · rintro ⟨p, μ1⟩ ⟨hp, e, hL⟩
    have ei : (nI S.nl).toInt = S.nl := nI_t (by omega)
    have hz : (μ1 (1, 0, 20) 1).toInt = S.nl := by rw [show μ1 (1, 0, 20) = μ (1, 0, 20) from e _ (by decide)]; exact hr.2.1
    exact wX9_trim_48 ⟨ti_in l1 (by omega), xif_t (by rw [ti_le, n1, hz, ei]; omega) (boxes p μ1 hp e hL)⟩
theorem isC_24 {q : xI} (h : isC q) : q ≠ (1, 0, 24) ∧ q ≠ (1, 0, 25) := by
  refine ⟨?_, ?_⟩ <;> rintro rfl <;> exact h.2.2.2 ⟨rfl, by simp⟩
theorem m_trim (a : Int32) (hc : mS μ S H K T) (hI : Inv S) (h : mG μ K T Q (sp_trim S H a.toInt)) : MW G 8 mX9_trim [vR (9, 0, 0), vI a] μ Q := by
  have hR := hc.1
  have h48 := hI.2.1
  unfold sp_trim at h
  refine wX9_trim fun Z => m_isL hR (fun k h1 h2 => xif_f (by decide) ?_) fun z => xif_t rfl ?_
  · rw [cif_t ⟨by omega, by omega⟩, show a.toInt.toNat = k by omega] at h
    refine m_latest hR hI.bd.2.2 fun v hv => xif_c (fun c => ?_) (fun c => ?_)
    · rw [ti_eq, hv, ti_litm6, ← hI.2.2.2.1] at c
      rw [cif_t c] at h
      refine m_ho hR h48 h1 h2 fun x hx => xif_c (fun c2 => ?_) (fun c2 => ?_)
      · rw [ti_eq, hx, ti_litm6] at c2
        rw [cif_t c2] at h
        refine mrecord_ok hI.bd hR hc.2.1 fun μ1 e1 f1 r1 => ?_
        have hR1 : repR (μ1 (1, 0, 20)) S := by rw [e1 _ (by decide) (by decide)]; exact hR
        refine m_need hR1 hI h1 h2 fun y hy => m_loop (d := 3) hR1 hI (clo_need hI h2 c) (fun i _ => hy i) fun x μ2 hx e2 r2 => ?_
        refine h x μ2 hx (fun q hq => ?_) (hc.upd r2 ?_ ?_ ?_ ?_ ?_)
        · rw [e2 q (zC hq).1 (isC_24 hq).1 (isC_24 hq).2, e1 q (zC hq).2.1 (zC hq).2.2]
        · unfold repHM
          rw [e2 (9, 0, 0) (by decide) (by decide) (by decide), e2 (1, 0, 21) (by decide) (by decide) (by decide)]
          exact r1
        · rw [e2 _ (by decide) (by decide) (by decide), e1 _ (by decide) (by decide)]
        · rw [e2 _ (by decide) (by decide) (by decide), e1 _ (by decide) (by decide)]
        · rw [e2 _ (by decide) (by decide) (by decide), f1 _ (by decide)]
        · rw [e2 _ (by decide) (by decide) (by decide), f1 _ (by decide)]
      · rw [ti_eq, hx, ti_litm6] at c2
        rw [cif_f c2] at h
        exact h _ μ rfl frM.rf hc
    · rw [ti_eq, hv, ti_litm6, ← hI.2.2.2.1] at c
      rw [cif_f c] at h
      exact h _ μ rfl frM.rf hc
  · rw [cif_f z] at h
    exact h _ μ rfl frM.rf hc
theorem op_trim (a : Int32) (ok : okO ((0 : Int), S, H, K, T)) : ∃ o : aO, cOp G mX8_trim [vI a] S H K T o ∧ mOp G mX9_trim [vI a] S H K T o ∧ okO o := by
  refine opG (sp_trim S H a.toInt) (fun hw => ?_) ok (fun μ Q hc hI h => c_trim a hc hI h) (fun μ Q hc hI h => m_trim a hc hI h)
  unfold sp_trim
  refine cif_i (P := okW) (fun h1 => cif_i (P := okW) (fun h2 => cif_i (P := okW) (fun h3 => ⟨Inv_trim ok.1 (clo_need ok.1 ?_ h2), okO_take ok.1 ok.2.1⟩) fun _ => hw) fun _ => hw) fun _ => hw
  show a.toInt.toNat < S.nl
  have h1' : vL' S a.toInt := h1
  have g1 := h1'.1
  have g2 := h1'.2
  omega
end
