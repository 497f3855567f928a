/-! trim: the model's side, the moves and the whole -/
def mlT (T : aS) (S : aS) (X : Nat → Bool) (i : Nat) : aS := (T.1, T.F, fun c x => pak X (newL S X c) (S.L c) i x, T.B)
def mbT (T : aS) (S : aS) (X : Nat → Bool) (i : Nat) : aS := (T.1, T.F, T.L, fun c x => pak (yB S X) (newB S X c) (T.B c) i x)
theorem mlT_0 {T S : aS} {X : Nat → Bool} (e : T.L = S.L) : mlT T S X 0 = T := by
  unfold mlT
  refine Prod.ext rfl (Prod.ext rfl (Prod.ext ?_ rfl))
  funext c x
  show pak X (newL S X c) (S.L c) 0 x = T.L c x
  rw [pak_0, e]
theorem mlT_n {T S : aS} {X : Nat → Bool} {i : Nat} (h : ¬ X i = true) : mlT T S X (i + 1) = mlT T S X i := by
  unfold mlT
  refine Prod.ext rfl (Prod.ext rfl (Prod.ext ?_ rfl))
  funext c x
  exact pak_n h x
theorem mlT_s {T S : aS} {X : Nat → Bool} {i : Nat} (h : X i = true) : mlT T S X (i + 1) = setLn (mlT T S X i) (rk X i) fun c => newL S X c i := by
  unfold mlT setLn
  refine Prod.ext rfl (Prod.ext rfl (Prod.ext ?_ rfl))
  funext c x
  exact pak_s h x
theorem mbT_0 {T S : aS} {X : Nat → Bool} : mbT T S X 0 = T := by
  unfold mbT
  refine Prod.ext rfl (Prod.ext rfl (Prod.ext rfl ?_))
  funext c x
  exact pak_0 (Y := yB S X) (f := newB S X c) (g := T.B c) x
theorem mbT_n {T S : aS} {X : Nat → Bool} {i : Nat} (h : ¬ yB S X i = true) : mbT T S X (i + 1) = mbT T S X i := by
  unfold mbT
  refine Prod.ext rfl (Prod.ext rfl (Prod.ext rfl ?_))
  funext c x
  exact pak_n h x
theorem mbT_s {T S : aS} {X : Nat → Bool} {i : Nat} (h : yB S X i = true) : mbT T S X (i + 1) = setBx (mbT T S X i) (rk (yB S X) i) fun c => newB S X c i := by
  unfold mbT setBx
  refine Prod.ext rfl (Prod.ext rfl (Prod.ext rfl ?_))
  funext c x
  exact pak_s h x
def eaS (S : aS) (X : Nat → Bool) (i : Nat) : aS := setE S fun x => if x < i ∧ yB S X x = true then lastI (S.L 5) (S.B 2) X x S.nl else S.B 1 x
section
variable {G : xG} {d : Nat} {μ : xM} {Q : xP} {S : aS} {X : Nat → Bool} {H : List aS} {K : Option aS} {T : aT}
theorem numL.keep {μ' : xM} {n : Nat} (h : numL S X μ n) (e : μ' (1, 0, 24) = μ (1, 0, 24)) : numL S X μ' n := by
  unfold numL
  rw [e]
  exact h
theorem numB.keep {μ' : xM} {n : Nat} (h : numB S X μ n) (e : μ' (1, 0, 25) = μ (1, 0, 25)) : numB S X μ' n := by
  unfold numB
  rw [e]
  exact h
set_option maxHeartbeats 1000000 in
theorem m_mvl {T0 : aS} {y : Int64} (hr : repR (μ (1, 0, 20)) T0) (hI : Inv S) (hc : clo S X) (hb : bdS T0) (en : T0.nl = S.nl) (eL : T0.L = S.L) (hy : ∀ i, i < S.nl → hasb y i = X i) (hL : numL S X μ S.nl) (hB : numB S X μ S.nb) (h : ∀ μ' : xM, (∀ q, q ≠ (1, 0, 20) → μ' q = μ q) → repR (μ' (1, 0, 20)) (mlT T0 S X S.nl) → Q none μ') : MW G (d + 4) mX9_moveLines [vR (9, 0, 0), vL y] μ Q := by
  have h48 := hI.2.1
  have hnb := hI.2.2.1
  obtain ⟨b1, b2, b3⟩ := id hb
  refine wX9_moveLines fun Z => ?_
  refine up_loop (σ := xM) (fun i s => WS G eX9_moveLines (d + 4) Z Q 2 [vR (9, 0, 0), vL y, vN, vI (nI i), vN, vN, vN, vN, vN] [] s) (fun i s => (∀ q, q ≠ (1, 0, 20) → s q = μ q) ∧ repR (s (1, 0, 20)) (mlT T0 S X i)) S.nl ?_ ?_ 0 μ (by omega) ⟨fun _ _ => rfl, by rw [mlT_0 eL]; exact hr⟩
  · rintro i μ1 hi ⟨e, r⟩ ih
    have ei : (nI i).toInt = i := nI_t (by omega)
    have hL1 : numL S X μ1 S.nl := hL.keep (e _ (by decide))
    have hB1 : numB S X μ1 S.nb := hB.keep (e _ (by decide))
    have hz1 : (μ1 (1, 0, 20) 1).toInt = S.nl := r.2.1.trans (by show ((T0.nl : Nat) : Int) = _; rw [en])
    have hTb : bdS (mlT T0 S X i) := hb
    have hTl : (mlT T0 S X i).nl = S.nl := en
    have old : ∀ c, (mlT T0 S X i).L c i = S.L c i := fun c => pak_hi (Y := X) (f := newL S X c) (g := S.L c) (Nat.le_refl i)
    refine wX9_moveLines_2 ⟨ti_in l1 (by omega), xif_f (by rw [ti_le, ti_cl' l1, hz1, ei]; omega) (xif_c (fun c => ⟨ti_in ei (by omega), ?_⟩) (fun c => ?_))⟩
    · rw [test_iff ei (by omega), hy i hi] at c
      have hle := rk_le X i
      have rn : ∀ (x : Int32) (k : Nat), x.toInt = k → k < 3 → ∀ {Q' : xP}, (∀ w : Int32, w.toInt = newL S X (2 + k) i → Q' (some (vI w)) μ1) → MW G (d + 3) mX9_renamed [vR (9, 0, 0), vI (nI i), vI x] μ1 Q' := fun x k hx hk Q' hh => m_renamed r (by omega) hI hc ei hi hTl old c hx hk hL1 hB1 hh
      refine rn 0 0 l0 (by omega) fun u2 hu2 => rn 1 1 l1 (by omega) fun u3 hu3 => rn 2 2 l2 (by omega) fun u4 hu4 => m_ho r (by omega) ei (by omega) fun u5 hu5 => ?_
      rw [old] at hu5
      have tail : ∀ (N w5 : Int32), N.toInt = rk X i → w5.toInt = newL S X 5 i → MW G (d + 3) mX9_formulaOf [vR (9, 0, 0), vI (nI i)] μ1 (xrI fun x10 μ9 => vp_in (((183 : Int32) + ((6 : Int32) * N))) 615 ∧ MW G (d + 3) mX9_ruleOf [vR (9, 0, 0), vI (nI i)] (xst μ9 (1, 0, 20) (((183 : Int32) + ((6 : Int32) * N))).toNatClampNeg x10) (xrI fun x12 μ11 => vp_in ((((183 : Int32) + ((6 : Int32) * N)) + (1 : Int32))) 615 ∧ vp_in ((((183 : Int32) + ((6 : Int32) * N)) + (2 : Int32))) 615 ∧ vp_in ((((183 : Int32) + ((6 : Int32) * N)) + (3 : Int32))) 615 ∧ vp_in ((((183 : Int32) + ((6 : Int32) * N)) + (4 : Int32))) 615 ∧ vp_in ((((183 : Int32) + ((6 : Int32) * N)) + (5 : Int32))) 615 ∧ WS G eX9_moveLines (d + 4) Z Q 2 [vR (9, 0, 0), vL y, vN, vI (nI i + (1 : Int32)), vN, vN, vN, vN, vN] [] (xst (xst (xst (xst (xst μ11 (1, 0, 20) ((((183 : Int32) + ((6 : Int32) * N)) + (1 : Int32))).toNatClampNeg x12) (1, 0, 20) ((((183 : Int32) + ((6 : Int32) * N)) + (2 : Int32))).toNatClampNeg u2) (1, 0, 20) ((((183 : Int32) + ((6 : Int32) * N)) + (3 : Int32))).toNatClampNeg u3) (1, 0, 20) ((((183 : Int32) + ((6 : Int32) * N)) + (4 : Int32))).toNatClampNeg u4) (1, 0, 20) ((((183 : Int32) + ((6 : Int32) * N)) + (5 : Int32))).toNatClampNeg w5))) := by
        intro N w5 hN h5
        have j0 := lin l183 l6 hN (by omega)
        have j1 := lin1 j0 l1 (by omega)
        have j2 := lin1 j0 l2 (by omega)
        have j3 := lin1 j0 l3 (by omega)
        have j4 := lin1 j0 l4 (by omega)
        have j5 := lin1 j0 l5 (by omega)
        have i1 := lin1 (lin l183 l6 ei (by omega)) l1 (by omega)
        rw [ti_cl' j0, ti_cl' j1, ti_cl' j2, ti_cl' j3, ti_cl' j4, ti_cl' j5]
        refine m_lf r (by omega) ei (by omega) fun x10 h10 => ⟨ti_in j0 (by omega), wX9_ruleOf ⟨ti_in i1 (by omega), ?_⟩⟩
        rw [ti_cl' i1, xst_rd, if_neg (fun q => by have := q.2; omega)]
        refine ⟨ti_in j1 (by omega), ti_in j2 (by omega), ti_in j3 (by omega), ti_in j4 (by omega), ti_in j5 (by omega), ?_⟩
        have h1 : (μ1 (1, 0, 20) (183 + 6 * i + 1)).toInt = S.L 1 i := by
          have := r.2.2.2.2.1 1 (by omega) i (by omega)
          rw [old] at this
          exact this
        rw [old] at h10
        generalize μ1 (1, 0, 20) (183 + 6 * i + 1) = x12 at h1
        rw [nI_1]
        refine ih (xst (xst (xst (xst (xst (xst μ1 (1, 0, 20) (183 + 6 * rk X i) x10) (1, 0, 20) (183 + 6 * rk X i + 1) x12) (1, 0, 20) (183 + 6 * rk X i + 2) u2) (1, 0, 20) (183 + 6 * rk X i + 3) u3) (1, 0, 20) (183 + 6 * rk X i + 4) u4) (1, 0, 20) (183 + 6 * rk X i + 5) w5) ⟨fun q hq => ?_, ?_⟩
        · refine Eq.trans ?_ (e q hq)
          funext n
          simp [xst_rd, hq]
        · rw [mlT_s c]
          refine repR.ln r hTb (by omega) (fun n hn => ?_) (fun k hk => ?_)
          · simp only [xst_rd, true_and]
            rw [if_neg (by omega), if_neg (by omega), if_neg (by omega), if_neg (by omega), if_neg (by omega), if_neg (by omega)]
          · have n0 : newL S X 0 i = S.L 0 i := if_pos (by omega)
            have n1 : newL S X 1 i = S.L 1 i := if_pos (by omega)
            simp only [xst_rd, true_and]
            rcases (show k = 0 ∨ k = 1 ∨ k = 2 ∨ k = 3 ∨ k = 4 ∨ k = 5 by omega) with rfl | rfl | rfl | rfl | rfl | rfl
            · rw [if_neg (by omega), if_neg (by omega), if_neg (by omega), if_neg (by omega), if_neg (by omega), if_pos (by omega), h10, n0]
            · rw [if_neg (by omega), if_neg (by omega), if_neg (by omega), if_neg (by omega), if_pos (by omega), h1, n1]
            · rw [if_neg (by omega), if_neg (by omega), if_neg (by omega), if_pos (by omega), hu2]
            · rw [if_neg (by omega), if_neg (by omega), if_pos (by omega), hu3]
            · rw [if_neg (by omega), if_pos (by omega), hu4]
            · rw [if_pos (by omega), h5]
      have hN : (μ1 (1, 0, 24) (nI i).toNatClampNeg).toInt = rk X i := by rw [ti_cl' ei]; exact hL1 i hi
      have n5 : newL S X 5 i = ren (yB S X) (S.L 5 i) := by rw [newL, if_neg (by omega), if_pos rfl]
      refine xif_c (fun c5 => ?_) (fun c5 => ?_)
      · rw [ti_eq, hu5, ti_litm6] at c5
        exact tail _ _ hN (by rw [n5, c5]; rfl)
      · rw [ti_eq, hu5, ti_litm6] at c5
        refine m_ho r (by omega) ei (by omega) fun u6 hu6 => ?_
        rw [old] at hu6
        rcases hI.home hi with z | z
        · exact absurd z c5
        · have hk : u6.toInt = ((S.L 5 i).toNat : Nat) := by omega
          refine ⟨ti_in hk (by omega), tail _ _ hN ?_⟩
          rw [ti_cl' hk, hB1 _ (by omega), if_pos (hc.home c (b := (S.L 5 i).toNat) (by omega) (by omega)), n5, ren, if_neg c5]
    · rw [test_iff ei (by omega), hy i hi] at c
      rw [nI_1]
      exact ih μ1 ⟨e, by rw [mlT_n c]; exact r⟩
  · rintro μ1 ⟨e, r⟩
    have ei : (nI S.nl).toInt = S.nl := nI_t (by omega)
    have hz1 : (μ1 (1, 0, 20) 1).toInt = S.nl := r.2.1.trans (by show ((T0.nl : Nat) : Int) = _; rw [en])
    exact wX9_moveLines_2 ⟨ti_in l1 (by omega), xif_t (by rw [ti_le, ti_cl' l1, hz1, ei]; omega) (h μ1 e r)⟩
theorem m_mvb {T1 : aS} (hr : repR (μ (1, 0, 20)) T1) (hI : Inv S) (hc : clo S X) (hb : bdS T1) (en : T1.nb = S.nb) (eB0 : T1.B 0 = S.B 0) (eB2 : T1.B 2 = S.B 2) (eB1 : ∀ b, b < S.nb → yB S X b = true → T1.B 1 b = lastI (S.L 5) (S.B 2) X b S.nl) (hL : numL S X μ S.nl) (hB : numB S X μ S.nb) (h : ∀ μ' : xM, (∀ q, q ≠ (1, 0, 20) → μ' q = μ q) → repR (μ' (1, 0, 20)) (mbT T1 S X S.nb) → Q none μ') : MW G (d + 2) mX9_moveBoxes [vR (9, 0, 0)] μ Q := by
  have h48 := hI.2.1
  have hnb := hI.2.2.1
  obtain ⟨b1, b2, b3⟩ := id hb
  refine wX9_moveBoxes fun Z => ?_
  refine up_loop (σ := xM) (fun i s => WS G eX9_moveBoxes (d + 2) Z Q 2 [vR (9, 0, 0), vI (nI i), vN, vN, vN, vN] [] s) (fun i s => (∀ q, q ≠ (1, 0, 20) → s q = μ q) ∧ repR (s (1, 0, 20)) (mbT T1 S X i)) S.nb ?_ ?_ 0 μ (by omega) ⟨fun _ _ => rfl, by rw [mbT_0]; exact hr⟩
  · rintro i μ1 hi ⟨e, r⟩ ih
    have ei : (nI i).toInt = i := nI_t (by omega)
    have hL1 : numL S X μ1 S.nl := hL.keep (e _ (by decide))
    have hB1 : numB S X μ1 S.nb := hB.keep (e _ (by decide))
    have hz1 : (μ1 (1, 0, 20) 2).toInt = S.nb := r.2.2.1.trans (by show ((T1.nb : Nat) : Int) = _; rw [en])
    have hTn : (mbT T1 S X i).nb = S.nb := en
    have old : ∀ c, (mbT T1 S X i).B c i = T1.B c i := fun c => pak_hi (Y := yB S X) (f := newB S X c) (g := T1.B c) (Nat.le_refl i)
    have hv := hB1 i hi
    refine wX9_moveBoxes_2 ⟨ti_in l2 (by omega), xif_f (by rw [ti_le, ti_cl' l2, hz1, ei]; omega) ⟨ti_in ei (by omega), ?_⟩⟩
    rw [ti_cl' ei]
    by_cases c : yB S X i = true
    · rw [if_pos c] at hv
      have hle := rk_le (yB S X) i
      obtain ⟨g, g1, g2, g3, g4, g5, g6⟩ := hc.last hI hi c
      obtain ⟨s, hs, hs2⟩ := hI.bs hi
      refine xif_f (by rw [ti_eq, hv, ti_litm6]; omega) ⟨ti_in ei (by omega), m_st r (by omega) ei (by omega) fun x2 h2 => ?_⟩
      rw [old, eB0, hs] at h2
      refine ⟨ti_in h2 (by omega), m_en r (by omega) ei (by omega) fun x4 h4 => ?_⟩
      rw [old, eB1 i hi c, g1] at h4
      refine ⟨ti_in h4 (by omega), m_pa r (by omega) ei (by omega) fun x6 h6 => ?_⟩
      rw [old, eB2] at h6
      rw [ti_cl' h2, ti_cl' h4]
      have v2 := hL1 s hs2
      have v4 := hL1 g g2
      generalize μ1 (1, 0, 24) s = w2 at v2
      generalize μ1 (1, 0, 24) g = w4 at v4
      generalize μ1 (1, 0, 25) i = N at hv
      have j0 := lin l471 l3 hv (by omega)
      have j1 := lin1 j0 l1 (by omega)
      have j2 := lin1 j0 l2 (by omega)
      rw [ti_cl' j0, ti_cl' j1, ti_cl' j2]
      have fin : ∀ w6 : Int32, w6.toInt = newB S X 2 i → WS G eX9_moveBoxes (d + 2) Z Q 2 [vR (9, 0, 0), vI (nI i + 1), vN, vN, vN, vN] [] (xst (xst (xst μ1 (1, 0, 20) (471 + 3 * rk (yB S X) i) w2) (1, 0, 20) (471 + 3 * rk (yB S X) i + 1) w4) (1, 0, 20) (471 + 3 * rk (yB S X) i + 2) w6) := by
        intro w6 hw6
        rw [nI_1]
        refine ih (xst (xst (xst μ1 (1, 0, 20) (471 + 3 * rk (yB S X) i) w2) (1, 0, 20) (471 + 3 * rk (yB S X) i + 1) w4) (1, 0, 20) (471 + 3 * rk (yB S X) i + 2) w6) ⟨fun q hq => ?_, ?_⟩
        · refine Eq.trans ?_ (e q hq)
          funext n
          simp [xst_rd, hq]
        · rw [mbT_s c]
          refine repR.bx r hb (by omega) (fun n hn => ?_) (fun k hk => ?_)
          · simp only [xst_rd, true_and]
            rw [if_neg (by omega), if_neg (by omega), if_neg (by omega)]
          · simp only [xst_rd, true_and]
            rcases (show k = 0 ∨ k = 1 ∨ k = 2 by omega) with rfl | rfl | rfl
            · rw [if_neg (by omega), if_neg (by omega), if_pos (by omega), v2, newB_0 hI hi, hs, Int.toNat_natCast]
            · rw [if_neg (by omega), if_pos (by omega), v4]
              show _ = ren X _
              rw [g1, ren, if_neg (by omega), Int.toNat_natCast]
            · rw [if_pos (by omega), hw6]
      refine xif_c (fun c6 => ⟨ti_in j0 (by omega), ti_in j1 (by omega), ti_in j2 (by omega), fin _ ?_⟩) (fun c6 => m_pa r (by omega) ei (by omega) fun x8 h8 => ?_)
      · rw [ti_eq, h6, ti_litm6] at c6
        show _ = ren (yB S X) _
        rw [c6]
        rfl
      · rw [ti_eq, h6, ti_litm6] at c6
        rw [old, eB2] at h8
        obtain ⟨p1, p2, p3⟩ := hc.par hI hi c c6
        have hk : x8.toInt = ((S.B 2 i).toNat : Nat) := by omega
        refine ⟨ti_in hk (by omega), ti_in j0 (by omega), ti_in j1 (by omega), ti_in j2 (by omega), fin _ ?_⟩
        rw [ti_cl' hk, hB1 _ (by omega), if_pos p3]
        show _ = ren (yB S X) _
        rw [ren, if_neg c6]
    · rw [if_neg c] at hv
      rw [nI_1]
      exact xif_t (by rw [ti_eq, hv]; rfl) (ih μ1 ⟨e, by rw [mbT_n c]; exact r⟩)
  · rintro μ1 ⟨e, r⟩
    have ei : (nI S.nb).toInt = S.nb := nI_t (by omega)
    have hz1 : (μ1 (1, 0, 20) 2).toInt = S.nb := r.2.2.1.trans (by show ((T1.nb : Nat) : Int) = _; rw [en])
    exact wX9_moveBoxes_2 ⟨ti_in l2 (by omega), xif_t (by rw [ti_le, ti_cl' l2, hz1, ei]; omega) (h μ1 e r)⟩
end
