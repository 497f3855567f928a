/-! texts: one character, and the whole buffer; errorPosition: both sides -/
section
variable {G : xG} {d : Nat} {μ : xM} {Q : xP} {S : aS} {H : List aS} {K : Option aS} {T : aT}
theorem m_wants {c a0 : Int32} {w : Nat} {L : pL} {v : Int} {st : mO} (hp : mPs μ (true, w, L) v) (hm : mM μ a0 st) (hl : L.length ≤ 10) (hh : hgt w L ≤ 80) (ht : ∀ (p' : pS) (μ' : xM), stepA w L c.toInt = some p' → frT μ μ' → mPs μ' p' (effA w v st c.toInt).2 → mM μ' a0 (effA w v st c.toInt).1 → Q (some (vI 1)) μ') (hf : stepA w L c.toInt = none → Q (some (vI 0)) μ) : MW G (d + 6) mX9_readOne [vR (9, 0, 0), vI a0, vI c] μ Q := by
  have e126 : (126 : Int32).toInt = 126 := rfl
  have e40 : (40 : Int32).toInt = 40 := rfl
  have e35 : (35 : Int32).toInt = 35 := rfl
  have e97 : (97 : Int32).toInt = 97 := rfl
  have e104 : (104 : Int32).toInt = 104 := rfl
  have e10 : (10 : Int32).toInt = 10 := rfl
  obtain ⟨p1, p2', p3, -⟩ := hp
  have p1 : (μ (9, 0, 0) 14).toInt = (L.length : Nat) := p1
  have p2' : μ (9, 0, 0) 15 = 1 := p2'
  have p3 : mLev μ w L := p3
  have hw := hgt_w w L
  have htop := p3.top
  unfold stepA at ht hf
  unfold effA at ht
  have whole : ∀ (x : Int32) (μ1 : xM) (st1 : mO) (p' : pS), p' = (false, 0, L) → (∀ q, q ≠ (1, 0, 20) → q ≠ (9, 0, 0) → μ1 q = μ q) → (∀ i, i ≠ 17 → μ1 (9, 0, 0) i = μ (9, 0, 0) i) → mM μ1 a0 st1 → (∀ μ' : xM, frT μ μ' → mPs μ' p' (whO (st1, x.toInt) w).2 → mM μ' a0 (whO (st1, x.toInt) w).1 → Q (some (vI 1)) μ') → MW G (d + 5) mX9_isWhole [vR (9, 0, 0), vI a0, vI x] μ1 (xrV fun μ10 => ((1 : Int32) = 0 ∨ (1 : Int32) = 1) ∧ Q (some (vI (1 : Int32))) μ10) := by
    intro x μ1 st1 p' hp' e1 e2 m1 hh'
    subst hp'
    refine m_whole m1 (D := L.length) (w := w) (by rw [e2 14 (by decide)]; exact p1) hl (by rw [e1 _ (by decide) (by decide)]; exact htop) (by omega) fun μ2 g1 g2 g3 g4 g5 g6 g7 => ⟨z11, hh' μ2 ⟨fun q n1 n2 n3 n4 n5 => (g1 q n1 n2 n3).trans (e1 q n1 n2), fun i hi => (g2 i (by omega)).trans (e2 i (by omega))⟩ ⟨?_, g5, ?_, fun _ => g6⟩ g7⟩
    · rw [g2 14 (by omega), e2 14 (by omega)]
      exact p1
    · refine p3.set (fun i hi => ?_) ?_ ?_ ?_
      · rw [g3 i hi]
        exact congrFun (e1 _ (by decide) (by decide)) i
      · rw [g1 _ (by decide) (by decide) (by decide), e1 _ (by decide) (by decide)]
      · rw [g1 _ (by decide) (by decide) (by decide), e1 _ (by decide) (by decide)]
      · rw [g4]; rfl
  refine wX9_readOne (xif_f (by rw [p2']; decide) (in_ok (fun z1 z2 => xif_f (by decide) ?_) (fun z => xif_t rfl ?_)))
  · rw [e97] at z1
    rw [e104] at z2
    simp only [if_neg (show ¬ c.toInt = 126 by omega), if_neg (show ¬ c.toInt = 40 by omega), if_neg (show ¬ (c.toInt = 126 ∨ c.toInt = 40) by omega), if_neg (show ¬ c.toInt = 35 by omega), if_pos (show (c.toInt = 35 ∨ (97 ≤ c.toInt ∧ c.toInt ≤ 104)) by omega)] at ht hf
    have e : (c - 97).toInt = c.toInt - 97 := by rw [ti_sub (by rw [e97]; omega) (by rw [e97]; omega), e97]
    refine m_makes hm fun x μ1 hx e1 e2 m1 => ?_
    rw [e] at hx m1
    refine whole x μ1 _ (false, 0, L) rfl e1 e2 m1 fun μ2 f2 q2 n2 => ?_
    rw [hx] at q2 n2
    exact ht _ μ2 rfl f2 q2 n2
  · rw [e97, e104] at z
    refine xif_c (fun c3 => ?_) fun c3 => xif_c (fun c1 => ?_) fun c1 => xif_c (fun c2 => xif_c (fun c4 => ⟨z01, ?_⟩) fun c4 => ?_) fun c2 => ⟨z01, ?_⟩
    · rw [ti_eq, e35] at c3
      simp only [if_neg (show ¬ c.toInt = 126 by omega), if_neg (show ¬ c.toInt = 40 by omega), if_neg (show ¬ (c.toInt = 126 ∨ c.toInt = 40) by omega), if_pos c3, if_pos (show (c.toInt = 35 ∨ (97 ≤ c.toInt ∧ c.toInt ≤ 104)) by omega)] at ht hf
      refine m_makes hm fun x μ1 hx e1 e2 m1 => ?_
      refine whole x μ1 _ (false, 0, L) rfl e1 e2 m1 fun μ2 f2 q2 n2 => ?_
      rw [hx] at q2 n2
      exact ht _ μ2 rfl f2 q2 n2
    · rw [ti_eq, e126] at c1
      simp only [if_pos c1, if_pos (show (c.toInt = 126 ∨ c.toInt = 40) by omega)] at ht hf
      refine ⟨ti_in p1 (by omega), ti_in p1 (by omega), z11, ?_⟩
      rw [ti_cl' p1]
      have v1 : (μ (1, 0, 26) L.length + 1).toInt = (w + 1 : Nat) := by
        rw [ti_add (by rw [htop, ti_lit1]; omega) (by rw [htop, ti_lit1]; omega), htop, ti_lit1]
        omega
      refine ht _ _ rfl ⟨fun q n1 n2 n3 n4 n5 => xst_ot n3, fun i hi => by rw [xst_ot (by decide)]⟩ ⟨by rw [xst_ot (by decide)]; exact p1, by rw [xst_ot (by decide)]; exact p2', p3.set (fun i hi => ?_) (xst_ot (by decide)) (xst_ot (by decide)) ?_, fun z => (by cases z)⟩ (hm.keep (by rw [xst_ot (by decide)]) (xst_ot (by decide)))
      · rw [xst_rd, if_neg (fun q => hi q.2)]
      · rw [xst_rd, if_pos ⟨rfl, rfl⟩]
        exact v1
    · rw [ti_eq, e40] at c2
      rw [ti_le, e10, p1] at c4
      simp only [if_neg (show ¬ c.toInt = 126 by omega), if_pos c2, if_neg (show ¬ L.length < 10 by omega)] at hf
      exact hf (by first | rfl | trivial)
    · rw [ti_eq, e40] at c2
      rw [ti_le, e10, p1] at c4
      simp only [if_neg (show ¬ c.toInt = 126 by omega), if_pos c2, if_pos (show (c.toInt = 126 ∨ c.toInt = 40) by omega), if_pos (show L.length < 10 by omega)] at ht hf
      have v1 : (μ (9, 0, 0) 14 + 1).toInt = (L.length + 1 : Nat) := by
        rw [ti_add (by rw [p1, ti_lit1]; omega) (by rw [p1, ti_lit1]; omega), p1, ti_lit1]
        omega
      have a1 : xst μ (9, 0, 0) 14 (μ (9, 0, 0) 14 + 1) (9, 0, 0) 14 = μ (9, 0, 0) 14 + 1 := by rw [xst_rd, if_pos ⟨rfl, rfl⟩]
      rw [a1]
      generalize μ (9, 0, 0) 14 + 1 = N at v1
      rw [ti_cl' v1]
      have a2 : xst (xst μ (9, 0, 0) 14 N) (1, 0, 26) (L.length + 1) 0 (9, 0, 0) 14 = N := by rw [xst_ot (by decide), xst_rd, if_pos ⟨rfl, rfl⟩]
      rw [a2, ti_cl' v1]
      refine ⟨ti_in v1 (by omega), ti_in v1 (by omega), z11, ?_⟩
      have of : ∀ i, i ≠ 14 → xst (xst (xst μ (9, 0, 0) 14 N) (1, 0, 26) (L.length + 1) 0) (1, 0, 28) (L.length + 1) (-6) (9, 0, 0) i = μ (9, 0, 0) i := fun i hi => by
        rw [xst_ot (by decide), xst_ot (by decide), xst_rd, if_neg (fun q => hi q.2)]
      refine ht _ _ rfl ⟨fun q n1 n2 n3 n4 n5 => by rw [xst_ot n5, xst_ot n3, xst_ot n2], fun i hi => of i (by omega)⟩ ⟨?_, by rw [of 15 (by omega)]; exact p2', ⟨?_, ?_, fun z => absurd rfl z, p3.cg fun k i hk hi => ?_⟩, fun z => (by cases z)⟩ (hm.keep (of 17 (by omega)) (by rw [xst_ot (by decide), xst_ot (by decide), xst_ot (by decide)]))
      · rw [xst_ot (by decide), xst_ot (by decide), xst_rd, if_pos ⟨rfl, rfl⟩]
        exact v1
      · rw [xst_ot (by decide), xst_rd, if_pos ⟨rfl, rfl⟩]; rfl
      · rw [xst_rd, if_pos ⟨rfl, rfl⟩]; rfl
      · rw [xst_rd, if_neg (fun q => by have := q.2; omega), xst_rd, if_neg (fun q => by have := q.2; omega)]
        refine congrFun (xst_ot ?_) i
        rcases hk with rfl | rfl | rfl <;> decide
    · rw [ti_eq, e35] at c3
      rw [ti_eq, e126] at c1
      rw [ti_eq, e40] at c2
      simp only [if_neg c1, if_neg c2, if_neg (show ¬ (c.toInt = 35 ∨ (97 ≤ c.toInt ∧ c.toInt ≤ 104)) by omega)] at hf
      exact hf (by first | rfl | trivial)
theorem m_cont {c a0 : Int32} {w : Nat} {L : pL} {v : Int} {st : mO} (hp : mPs μ (false, w, L) v) (hm : mM μ a0 st) (hl : L.length ≤ 10) (hh : hgt w L ≤ 80) (ht : ∀ (p' : pS) (μ' : xM), stepB w L v c.toInt = some p' → frT μ μ' → mPs μ' p' (effB L v st).2 → mM μ' a0 (effB L v st).1 → Q (some (vI 1)) μ') (hf : ∀ μ' : xM, stepB w L v c.toInt = none → frT μ μ' → mM μ' a0 st → Q (some (vI 0)) μ') : MW G (d + 6) mX9_readOne [vR (9, 0, 0), vI a0, vI c] μ Q := by
  have e41 : (41 : Int32).toInt = 41 := rfl
  obtain ⟨p1, p2', p3, p4⟩ := hp
  have q4 : (μ (9, 0, 0) 16).toInt = v := p4 rfl
  clear p4
  have p2' : μ (9, 0, 0) 15 = 0 := p2'
  have rf : frT μ μ := ⟨fun _ _ _ _ _ _ => rfl, fun _ _ => rfl⟩
  refine wX9_readOne (xif_t p2' ?_)
  match L, hl, hh, p1, p3, ht, hf with
  | [], hl, hh, p1, p3, ht, hf => exact xif_t (by rw [ti_eq, p1]; rfl) ⟨z01, hf μ rfl rf hm⟩
  | (s, a, w') :: r, hl, hh, p1, p3, ht, hf =>
    have hl : r.length + 1 ≤ 10 := hl
    have hh : w + 1 + hgt w' r ≤ 80 := hh
    have hw' := hgt_w w' r
    have p1 : (μ (9, 0, 0) 14).toInt = (r.length + 1 : Nat) := p1
    obtain ⟨l1', l2', l3', l4'⟩ := p3
    unfold stepB at ht hf
    unfold effB at ht
    dsimp only at ht hf
    refine xif_f (by rw [ti_eq, p1, ti_lit0]; omega) ⟨ti_in p1 (by omega), ?_⟩
    by_cases hs : s = -6
    · simp only [if_pos hs] at ht hf
      refine xif_t (by rw [ti_eq, ti_cl' p1, l2', hs]; rfl) (m_sign fun x hx => ?_)
      rw [ti_cl' p1]
      show _ ∧ _
      have a1 : xst μ (1, 0, 28) (r.length + 1) x (9, 0, 0) = μ (9, 0, 0) := xst_ot (by decide)
      rw [a1, ti_cl' p1]
      have a2 : xst (xst (xst μ (1, 0, 28) (r.length + 1) x) (1, 0, 27) (r.length + 1) (μ (9, 0, 0) 16)) (9, 0, 0) 15 1 (9, 0, 0) 14 = μ (9, 0, 0) 14 := by
        rw [xst_rd, if_neg (fun q => by have := q.2; omega), xst_ot (by decide), xst_ot (by decide)]
      have a3 : xst (xst (xst μ (1, 0, 28) (r.length + 1) x) (1, 0, 27) (r.length + 1) (μ (9, 0, 0) 16)) (9, 0, 0) 15 1 (1, 0, 28) (r.length + 1) = x := by
        rw [xst_ot (by decide), xst_ot (by decide), xst_rd, if_pos ⟨rfl, rfl⟩]
      rw [a2, ti_cl' p1, a3]
      have of : ∀ i, i ≠ 15 → xst (xst (xst μ (1, 0, 28) (r.length + 1) x) (1, 0, 27) (r.length + 1) (μ (9, 0, 0) 16)) (9, 0, 0) 15 1 (9, 0, 0) i = μ (9, 0, 0) i := fun i hi => by
        rw [xst_rd, if_neg (fun q => hi q.2), xst_ot (by decide), xst_ot (by decide)]
      have fr : frT μ (xst (xst (xst μ (1, 0, 28) (r.length + 1) x) (1, 0, 27) (r.length + 1) (μ (9, 0, 0) 16)) (9, 0, 0) 15 1) := ⟨fun q n1 n2 n3 n4 n5 => by rw [xst_ot n2, xst_ot n4, xst_ot n5], fun i hi => of i (by omega)⟩
      have mm : mM (xst (xst (xst μ (1, 0, 28) (r.length + 1) x) (1, 0, 27) (r.length + 1) (μ (9, 0, 0) 16)) (9, 0, 0) 15 1) a0 st := hm.keep (of 17 (by omega)) (by rw [xst_ot (by decide), xst_ot (by decide), xst_ot (by decide)])
      refine ⟨ti_in p1 (by omega), ti_in p1 (by omega), z11, ti_in p1 (by omega), xif_c (fun cc => ⟨z01, ?_⟩) (fun cc => ⟨z11, ?_⟩)⟩
      · rw [ti_eq, hx, ti_litm6] at cc
        exact hf _ (if_pos cc) fr mm
      · rw [ti_eq, hx, ti_litm6] at cc
        refine ht _ _ (if_neg cc) fr ⟨by rw [of 14 (by omega)]; exact p1, by rw [xst_rd, if_pos ⟨rfl, rfl⟩]; rfl, ⟨?_, ?_, fun _ => ?_, l4'.cg fun k i hk hi => ?_⟩, fun z => (by cases z)⟩ mm
        · rw [xst_ot (by decide), xst_ot (by decide), xst_ot (by decide)]
          exact l1'
        · rw [a3]; exact hx
        · rw [xst_ot (by decide), xst_rd, if_pos ⟨rfl, rfl⟩]
          exact q4
        · have hk9 : ((1, 0, k) : xI) ≠ (9, 0, 0) := fun z => by cases z
          rw [xst_ot hk9, xst_rd, if_neg (fun q => by have := q.2; omega), xst_rd, if_neg (fun q => by have := q.2; omega)]
    · simp only [if_neg hs] at ht hf
      refine xif_f (by rw [ti_eq, ti_cl' p1, l2', ti_litm6]; exact hs) (xif_c (fun cc => ⟨ti_in p1 (by omega), ti_in p1 (by omega), ?_⟩) (fun cc => ⟨z01, ?_⟩))
      · rw [ti_eq, e41] at cc
        have l3' := l3' hs
        rw [ti_cl' p1]
        refine m_makes hm fun x μ1 hx e1 e2 m1 => ?_
        rw [l2', l3', q4] at hx m1
        have v1 : (μ1 (9, 0, 0) 14 - 1).toInt = (r.length : Nat) := by
          rw [e2 14 (by omega), ti_sub (by rw [p1, ti_lit1]; omega) (by rw [p1, ti_lit1]; omega), p1, ti_lit1]
          omega
        have of : ∀ i, i ≠ 14 → xst μ1 (9, 0, 0) 14 (μ1 (9, 0, 0) 14 - 1) (9, 0, 0) i = μ1 (9, 0, 0) i := fun i hi => by rw [xst_rd, if_neg (fun q => hi q.2)]
        refine m_whole (m1.keep (of 17 (by omega)) (xst_ot (by decide))) (D := r.length) (w := w') (by rw [xst_rd, if_pos ⟨rfl, rfl⟩]; exact v1) (by omega) (by rw [xst_ot (by decide), e1 _ (by decide) (by decide)]; exact l4'.top) (by omega) fun μ2 g1 g2 g3 g4 g5 g6 g7 => ⟨z11, ?_⟩
        rw [hx] at g6 g7
        refine ht _ μ2 (if_pos cc) ⟨fun q n1 n2 n3 n4 n5 => ?_, fun i hi => ?_⟩ ⟨?_, g5, l4'.set (fun i hi => ?_) ?_ ?_ (by rw [g4]; rfl), fun _ => g6⟩ g7
        · rw [g1 q n1 n2 n3, xst_ot n2, e1 q n1 n2]
        · rw [g2 i (by omega), of i (by omega), e2 i (by omega)]
        · rw [g2 14 (by omega), xst_rd, if_pos ⟨rfl, rfl⟩]
          exact v1
        · rw [g3 i hi, xst_ot (by decide)]
          exact congrFun (e1 _ (by decide) (by decide)) i
        · rw [g1 _ (by decide) (by decide) (by decide), xst_ot (by decide), e1 _ (by decide) (by decide)]
        · rw [g1 _ (by decide) (by decide) (by decide), xst_ot (by decide), e1 _ (by decide) (by decide)]
      · rw [ti_eq, e41] at cc
        exact hf μ (if_neg cc) rf hm
theorem m_buf {a0 : Int32} {st : mO} (h6 : (μ (9, 0, 0) 6).toInt = T.1) (h11 : ∀ i, i < T.1 → (μ (11, 0, 0) i).toInt = T.2 i) (hT : okT T) (hst : st.1 = decide (¬ a0 = 0)) (hr : repR (μ (1, 0, 20)) st.2) (hb : bdS st.2) (h : ∀ (x : Int32) (μ' : xM), x.toInt = errP T → frT μ μ' → mM μ' a0 (rn T T.1 0 p00 0 st).2.2 → (errP T = -6 → (μ' (9, 0, 0) 16).toInt = (rn T T.1 0 p00 0 st).2.1) → Q (some (vI x)) μ') : MW G (d + 7) mX9_readBuffer [vR (9, 0, 0), vI a0] μ Q := by
  have hT70 := hT.1
  refine wX9_readBuffer fun Z => ⟨ti_in l0 (by omega), z11, z01, ?_⟩
  have e0 : (0 : Int32).toNatClampNeg = 0 := rfl
  rw [e0]
  have pos0 : (rn T T.1 0 p00 0 st).1 = errP T := rn_pos _ _ _ _ _ _ rfl rfl rfl
  generalize hR : rn T T.1 0 p00 0 st = R0 at h pos0
  have lp : ∀ (n i : Nat) (p : pS) (v : Int) (st1 : mO) (μ1 : xM), i + n = T.1 → p.2.2.length ≤ 10 → hgt p.2.1 p.2.2 ≤ i → mPs μ1 p v → mM μ1 a0 st1 → frT μ μ1 → rn T n i p v st1 = R0 → WS G eX9_readBuffer (d + 7) Z Q 24 [vR (9, 0, 0), vI a0, vI (nI i)] [] μ1 := by
    intro n
    induction n with
    | zero =>
      intro i p v st1 μ1 hi hl hh hp hm e he
      have ei : (nI i).toInt = i := nI_t (by omega)
      have e6 : (μ1 (9, 0, 0) 6).toInt = T.1 := by rw [e.2 6 (by omega)]; exact h6
      obtain ⟨p1, p2', p3, p4⟩ := hp
      unfold rn at he
      have he1 := (congrArg (fun x : Int × Int × mO => x.1) he).trans pos0
      have he2 := congrArg (fun x : Int × Int × mO => x.2.1) he
      have he3 := congrArg (fun x : Int × Int × mO => x.2.2) he
      dsimp only at he1 he2 he3
      rw [he3] at hm
      refine wX9_readBuffer_24 (xif_t (by rw [ti_le, e6, ei]; omega) ?_)
      by_cases hw : p.1 = true
      · rw [if_pos hw] at p2'
        rw [if_neg (fun q => by rw [hw] at q; cases q.1)] at he1
        refine xif_f (by rw [p2']; decide) (h _ μ1 (e6.trans he1) e hm fun z => ?_)
        rw [z] at he1
        omega
      · rw [if_neg hw] at p2'
        have hw' : p.1 = false := by simpa using hw
        refine xif_t p2' (xif_c (fun c => ?_) (fun c => ?_))
        · rw [ti_le, p1, ti_lit0] at c
          rw [if_pos ⟨hw', by omega⟩] at he1
          exact h _ μ1 he1 e hm fun _ => (p4 hw').trans he2
        · rw [ti_le, p1, ti_lit0] at c
          rw [if_neg (fun q => c (by have := q.2; omega))] at he1
          refine h _ μ1 (e6.trans he1) e hm fun z => ?_
          rw [z] at he1
          omega
    | succ n ih =>
      intro i p v st1 μ1 hi hl hh hp hm e he
      have ei : (nI i).toInt = i := nI_t (by omega)
      have e6 : (μ1 (9, 0, 0) 6).toInt = T.1 := by rw [e.2 6 (by omega)]; exact h6
      have hx : (μ1 (11, 0, 0) i).toInt = T.2 i := by rw [e.1 _ (by decide) (by decide) (by decide) (by decide) (by decide)]; exact h11 i (by omega)
      refine wX9_readBuffer_24 (xif_f (by rw [ti_le, e6, ei]; omega) ⟨ti_in ei (by omega), ?_⟩)
      rw [ti_cl' ei]
      unfold rn at he
      have fail : ∀ μ2 : xM, step p v (T.2 i) = none → frT μ1 μ2 → mM μ2 a0 st1 → Q (some (vI (nI i))) μ2 := by
        intro μ2 hs e2 m2
        rw [hs] at he
        have he1 := (congrArg (fun x : Int × Int × mO => x.1) he).trans pos0
        have he3 := congrArg (fun x : Int × Int × mO => x.2.2) he
        dsimp only at he1 he3
        rw [he3] at m2
        refine h _ μ2 (ei.trans he1) (e.tr e2) m2 fun z => ?_
        rw [z] at he1
        omega
      have go : ∀ (p' : pS) (μ2 : xM), step p v (T.2 i) = some p' → frT μ1 μ2 → mPs μ2 p' (eff p v st1 (T.2 i)).2 → mM μ2 a0 (eff p v st1 (T.2 i)).1 → WS G eX9_readBuffer (d + 7) Z Q 24 [vR (9, 0, 0), vI a0, vI (nI i + 1)] [] μ2 := by
        intro p' μ2 hs e2 q2 m2
        rw [hs] at he
        have hh2 := step_hgt hs
        rw [nI_1]
        exact ih (i + 1) p' _ _ μ2 (by omega) (step_len hs hl) (by omega) q2 m2 (e.tr e2) he
      obtain ⟨w1, w2, L⟩ := p
      cases w1 with
      | true =>
        refine m_wants hp hm hl (by have hh : hgt w2 L ≤ i := hh; omega) (fun p' μ2 hs e2 q2 m2 => xif_f (by decide) ?_) (fun hs => xif_t rfl ?_)
        · rw [hx] at hs q2 m2
          exact go p' μ2 (by unfold step; rw [if_pos rfl]; exact hs) e2 (by unfold eff; rw [if_pos rfl]; exact q2) (by unfold eff; rw [if_pos rfl]; exact m2)
        · rw [hx] at hs
          exact fail μ1 (by unfold step; rw [if_pos rfl]; exact hs) ⟨fun _ _ _ _ _ _ => rfl, fun _ _ => rfl⟩ hm
      | false =>
        refine m_cont hp hm hl (by have hh : hgt w2 L ≤ i := hh; omega) (fun p' μ2 hs e2 q2 m2 => xif_f (by decide) ?_) (fun μ2 hs e2 m2 => xif_t rfl ?_)
        · rw [hx] at hs
          exact go p' μ2 (by unfold step; rw [if_neg (fun z : false = true => by cases z)]; exact hs) e2 (by unfold eff; rw [if_neg (fun z : false = true => by cases z)]; exact q2) (by unfold eff; rw [if_neg (fun z : false = true => by cases z)]; exact m2)
        · rw [hx] at hs
          exact fail μ2 (by unfold step; rw [if_neg (fun z : false = true => by cases z)]; exact hs) e2 m2
  have of : ∀ i, i ≠ 14 → i ≠ 15 → i ≠ 17 → xst (xst (xst (xst μ (9, 0, 0) 14 0) (1, 0, 26) 0 0) (9, 0, 0) 15 1) (9, 0, 0) 17 0 (9, 0, 0) i = μ (9, 0, 0) i := fun i h1 h2 h3 => by
    rw [xst_rd, if_neg (fun q => h3 q.2), xst_rd, if_neg (fun q => h2 q.2), xst_ot (by decide), xst_rd, if_neg (fun q => h1 q.2)]
  have e17 : xst (xst (xst (xst μ (9, 0, 0) 14 0) (1, 0, 26) 0 0) (9, 0, 0) 15 1) (9, 0, 0) 17 0 (9, 0, 0) 17 = 0 := by rw [xst_rd, if_pos ⟨rfl, rfl⟩]
  refine lp T.1 0 p00 0 st _ (by omega) (Nat.zero_le _) (Nat.le_refl _) ⟨?_, ?_, ?_, fun z => (by cases z)⟩ ⟨fun z => ⟨?_, e17⟩, fun z => Or.inl ?_, ?_, hb⟩ ⟨fun q n1 n2 n3 n4 n5 => by rw [xst_ot n2, xst_ot n2, xst_ot n3, xst_ot n2], fun i hi => of i (by omega) (by omega) (by omega)⟩ hR
  · rw [xst_rd, if_neg (fun q => by have := q.2; omega), xst_rd, if_neg (fun q => by have := q.2; omega), xst_ot (by decide), xst_rd, if_pos ⟨rfl, rfl⟩]
    rfl
  · rw [xst_rd, if_neg (fun q => by have := q.2; omega), xst_rd, if_pos ⟨rfl, rfl⟩]
    rfl
  · show (xst (xst (xst (xst μ (9, 0, 0) 14 0) (1, 0, 26) 0 0) (9, 0, 0) 15 1) (9, 0, 0) 17 0 (1, 0, 26) 0).toInt = 0
    rw [xst_ot (by decide), xst_ot (by decide), xst_rd, if_pos ⟨rfl, rfl⟩]
    rfl
  · rw [hst] at z
    exact of_decide_eq_true z
  · rw [hst] at z
    have := of_decide_eq_false z
    exact Classical.not_not.mp this
  · rw [xst_ot (by decide), xst_ot (by decide), xst_ot (by decide), xst_ot (by decide)]
    exact hr
theorem frT_isC {μ' : xM} (e : frT μ μ') (z : μ' (1, 0, 20) = μ (1, 0, 20) ∨ True) : ∀ q, isC q → q ≠ (1, 0, 20) → μ' q = μ q := by
  intro q hq h20
  refine e.1 q h20 (zC hq).2.2 ?_ ?_ ?_ <;> rintro rfl <;> exact hq.2.2.2 ⟨rfl, by simp⟩
theorem mS.frT {μ' : xM} {S' : aS} (h : mS μ S H K T) (e : frT μ μ') (hr : repR (μ' (1, 0, 20)) S') : frM μ μ' ∧ mS μ' S' H K T := by
  obtain ⟨h1, h2, h3, h4, h5⟩ := h
  have o : ∀ q : xI, q ≠ (1, 0, 20) → q ≠ (9, 0, 0) → q ≠ (1, 0, 26) → q ≠ (1, 0, 27) → q ≠ (1, 0, 28) → μ' q = μ q := e.1
  refine ⟨fun q hq => frT_isC e (Or.inr trivial) q hq (zC hq).1, hr, ?_, ?_, ?_, ?_⟩
  · unfold repHM
    rw [e.2 2 (by omega), o (1, 0, 21) (by decide) (by decide) (by decide) (by decide) (by decide)]
    exact h2
  · rw [e.2 4 (by omega), o (1, 0, 22) (by decide) (by decide) (by decide) (by decide) (by decide)]
    exact h3
  · rw [e.2 6 (by omega)]; exact h4
  · rw [o (11, 0, 0) (by decide) (by decide) (by decide) (by decide) (by decide)]; exact h5
theorem cS.err {μ' : xM} (h : cS μ S H K T) (e : ∀ q, q ≠ (6, 0, 0) → μ' q = μ q) (e0 : μ' (6, 0, 0) 0 = μ (6, 0, 0) 0) : frC μ μ' ∧ cS μ' S H K T :=
  h.buf (fun q h1 h2 => e q h2) (by rw [e0]; exact h.2.2.2.1) (by rw [e _ (by decide)]; exact h.2.2.2.2)
theorem op_errorPosition (ok : okO ((0 : Int), S, H, K, T)) : ∃ o : aO, cOp G mX8_errorPosition [] S H K T o ∧ mOp G mX9_errorPosition [] S H K T o ∧ okO o := by
  have hI : Inv S := ok.1
  have hT : okT T := ok.2.2.2
  refine ⟨(errP T, S, H, K, T), ?_, ?_, ok⟩
  · intro μ Q hc h
    refine wX8_errorPosition (c_err (d := 4) hc.2.2.2.1 hc.2.2.2.2 hT fun x μ1 hx e e0 => ?_)
    obtain ⟨f1, f2⟩ := hc.err e e0
    exact h x μ1 hx f1 f2
  · intro μ Q hc h
    refine wX9_errorPosition (m_buf (d := 0) (st := (false, S)) hc.2.2.2.1 hc.2.2.2.2 hT rfl hc.1 hI.bd fun x μ1 hx e hm _ => ?_)
    rw [rn_dead] at hm
    obtain ⟨f1, f2⟩ := hc.frT e hm.2.2.1
    exact h x μ1 hx f1 f2
end
