/-! read: both sides -/
section
variable {G : xG} {d : Nat} {μ : xM} {Q : xP} {S : aS} {H : List aS} {K : Option aS} {T : aT}
theorem repF7 {μ' : xM} (h : repF μ 7 S) (e : ∀ q, q ≠ (7, 0, 0) → q ≠ (1, 0, 15) → q ≠ (1, 0, 16) → μ' q = μ q) : repF μ' 7 S := by
  refine h.keep fun q hq => e q ?_ ?_ ?_
  · rintro rfl; exact nF7 (by decide) (by decide) hq
  · rintro rfl; exact nF7 (by decide) (by decide) hq
  · rintro rfl; exact nF7 (by decide) (by decide) hq
set_option maxHeartbeats 1000000 in
theorem c_build (h6 : (μ (6, 0, 0) 0).toInt = T.1) (h14 : ∀ i, i < T.1 → (μ (1, 0, 14) i).toInt = T.2 i) (hT : okT T) (hr : repF μ 7 S) (hI : Inv S) (hpos : errP T = -6) (ht : ∀ (x : Int32) (μ' : xM), (rn T T.1 0 p00 0 (true, S)).2.2.1 = true → x.toInt = (rn T T.1 0 p00 0 (true, S)).2.1 → 0 ≤ x.toInt → frB μ μ' → repF μ' 7 (rn T T.1 0 p00 0 (true, S)).2.2.2 → Q (some (vI x)) μ') (hf : ∀ μ' : xM, (rn T T.1 0 p00 0 (true, S)).2.2.1 = false → frB μ μ' → Q (some (vI (-4))) μ') : MW G (d + 5) mX1_build [vR (7, 0, 0), vR (6, 0, 0), vR (2, 7, 0)] μ Q := by
  have hT70 := hT.1
  have e126 : (126 : Int32).toInt = 126 := rfl
  have e40 : (40 : Int32).toInt = 40 := rfl
  have e35 : (35 : Int32).toInt = 35 := rfl
  have e41 : (41 : Int32).toInt = 41 := rfl
  have e97 : (97 : Int32).toInt = 97 := rfl
  have em4 : (-4 : Int32).toInt = -4 := rfl
  refine wX1_build fun Z => ?_
  have pos0 : (rn T T.1 0 p00 0 (true, S)).1 = -6 := (rn_pos _ _ _ _ _ _ rfl rfl rfl).trans hpos
  generalize hR : rn T T.1 0 p00 0 (true, S) = R0 at ht hf pos0
  have lp : ∀ (n i : Nat) (p : pS) (v : Int) (S1 : aS) (made : Int32) (μ1 : xM), i + n = T.1 → hgt p.2.1 p.2.2 ≤ i → okRun p v (true, S1) → (p.1 = false → made.toInt = v ∧ p.2.1 = 0) → repF μ1 7 S1 → cStk μ1 p.2.1 p.2.2 → (μ1 (7, 0, 0) 0).toInt = hgt p.2.1 p.2.2 → frB μ μ1 → rn T n i p v (true, S1) = R0 → WS G eX1_build (d + 5) Z Q 11 [vR (7, 0, 0), vR (6, 0, 0), vR (2, 7, 0), vI made, vI (nI i), vN] [] μ1 := by
    intro n
    induction n with
    | zero =>
      intro i p v S1 made μ1 hi hh hok hm hr1 hs hht e he
      have ei : (nI i).toInt = i := nI_t (by omega)
      have e6 : μ1 (6, 0, 0) = μ (6, 0, 0) := e _ (nF7 (by decide) (by decide)) (by decide) (by decide) (by decide)
      unfold rn at he
      have he1 := (congrArg (fun x : Int × Int × mO => x.1) he).trans pos0
      have he2 := congrArg (fun x : Int × Int × mO => x.2.1) he
      have he3 := congrArg (fun x : Int × Int × mO => x.2.2) he
      dsimp only at he1 he2 he3
      have hc : p.1 = false ∧ p.2.2.length = 0 := by
        by_cases c : p.1 = false ∧ p.2.2.length = 0
        · exact c
        · rw [if_neg c] at he1; omega
      obtain ⟨k1, k2, k3⟩ := hok rfl
      have hv := k2 hc.1
      have hmv := (hm hc.1).1
      refine wX1_build_11 (xif_t (by rw [ti_le, e6, h6, ei]; omega) (ht made μ1 ?_ (hmv.trans he2) (by omega) e ?_))
      · rw [← he3]
      · rw [← he3]; exact hr1
    | succ n ih =>
      intro i p v S1 made μ1 hi hh hok hm hr1 hs hht e he
      have ei : (nI i).toInt = i := nI_t (by omega)
      have e6 : μ1 (6, 0, 0) = μ (6, 0, 0) := e _ (nF7 (by decide) (by decide)) (by decide) (by decide) (by decide)
      have hx : (μ1 (1, 0, 14) i).toInt = T.2 i := by rw [e _ (nF7 (by decide) (by decide)) (by decide) (by decide) (by decide)]; exact h14 i (by omega)
      refine wX1_build_11 (xif_f (by rw [ti_le, e6, h6, ei]; omega) (get_in ei (by simp [xlenc]; omega) ?_))
      generalize μ1 (1, 0, 14) i = c at hx
      unfold rn at he
      cases hst : step p v (T.2 i) with
      | none =>
        rw [hst] at he
        have he1 := (congrArg (fun x : Int × Int × mO => x.1) he).trans pos0
        dsimp only at he1
        omega
      | some p' =>
        rw [hst] at he
        have he : rn T n (i + 1) p' (eff p v (true, S1) (T.2 i)).2 (eff p v (true, S1) (T.2 i)).1 = R0 := he
        have hh2 := step_hgt hst
        obtain ⟨hok2, hext⟩ := run_step hok hst
        rw [← hx] at hst he hok2
        obtain ⟨kI, kv, kL⟩ := hok rfl
        have kI : Inv S1 := kI
        have hnf : S1.nf ≤ 60 := kI.1
        have shL : ∀ L : pL, okLv S1 L → ∀ x ∈ L, x.1 = -6 ∨ (3 ≤ x.1 ∧ x.1 ≤ 5) := by
          intro L hL x hx
          rcases hL x hx with z | z
          · exact Or.inl z
          · exact Or.inr ⟨z.1, z.2.1⟩
        -- a formula is made; the negations ahead of it
        have tail : ∀ (S2 : aS) (x : Int32) (μ2 : xM) (w2 : Nat) (L2 : pL), repF μ2 7 S2 → S2.nf ≤ 60 → 0 ≤ x.toInt → cStk μ2 w2 L2 → hgt w2 L2 ≤ 70 → (μ2 (7, 0, 0) 0).toInt = hgt w2 L2 → frB μ μ2 → okLv S1 L2 → p' = (false, 0, L2) → eff p v (true, S1) c.toInt = whO ((true, S2), x.toInt) w2 → MW G (d + 4) mX1_negate [vR (7, 0, 0), vI x, vR (2, 7, 0)] μ2 (xrI fun x10 μ9 => xif (x10 = (-4 : Int32)) (Q (some (vI (-4 : Int32))) μ9) (WS G eX1_build (d + 5) Z Q 11 [vR (7, 0, 0), vR (6, 0, 0), vR (2, 7, 0), vI x10, vI (nI i + (1 : Int32)), vN] [] μ9)) := by
          intro S2 x μ2 w2 L2 g1 g2 g3 g4 g5 g6 g7 g8 g9 g10
          refine wX1_negate (c_neg (shL L2 g8) w2 S2 x μ2 g1 g2 g3 g4 g5 g6 (fun y μ3 a1 a2 a3 a4 a5 a6 a7 a8 => ?_) (fun μ3 a1 a2 => ?_))
          · refine xif_f (by rw [ti_eq, em4]; omega) ?_
            rw [nI_1]
            rw [g10] at he hok2
            have hl : (whO ((true, S2), x.toInt) w2).1 = (true, (whO ((true, S2), x.toInt) w2).1.2) := Prod.ext a1 rfl
            rw [hl] at he hok2
            rw [g9] at he hok2 hh2
            have hh2 : hgt 0 L2 ≤ hgt p.2.1 p.2.2 + 1 := hh2
            exact ih (i + 1) (false, 0, L2) _ _ y μ3 (by omega) (by show hgt 0 L2 ≤ i + 1; omega) hok2 (fun _ => ⟨a2, rfl⟩) a5 a7 a8 (g7.tr a4) he
          · refine xif_t rfl (hf μ3 ?_ (g7.tr a2))
            rw [g10] at he
            have hl : (whO ((true, S2), x.toInt) w2).1 = (false, (whO ((true, S2), x.toInt) w2).1.2) := Prod.ext a1 rfl
            rw [hl] at he
            rw [← he, rn_dead]
        -- no room for it
        have dead : ∀ (μ2 : xM) (q : mO × Int) (w2 : Nat), q.1.1 = false → frB μ μ2 → eff p v (true, S1) c.toInt = whO q w2 → MW G (d + 4) mX1_negate [vR (7, 0, 0), vI (-4), vR (2, 7, 0)] μ2 (xrI fun x10 μ9 => xif (x10 = (-4 : Int32)) (Q (some (vI (-4 : Int32))) μ9) (WS G eX1_build (d + 5) Z Q 11 [vR (7, 0, 0), vR (6, 0, 0), vR (2, 7, 0), vI x10, vI (nI i + (1 : Int32)), vN] [] μ9)) := by
          intro μ2 q w2 h1 h2 h3
          refine wX1_negate fun Z2 => wX1_negate_2 (xif_t rfl (xif_t rfl (hf μ2 ?_ h2)))
          have hq : q = ((false, q.1.2), q.2) := Prod.ext (Prod.ext h1 rfl) rfl
          rw [h3, hq] at he
          have hl : (whO ((false, q.1.2), q.2) w2).1 = (false, q.1.2) := whO_dead _ _
          rw [hl] at he
          rw [← he, rn_dead]
        obtain ⟨w1, w, L⟩ := p
        have hs : cStk μ1 w L := hs
        have hht : (μ1 (7, 0, 0) 0).toInt = (hgt w L : Nat) := hht
        have hh : hgt w L ≤ i := hh
        have kL : okLv S1 L := kL
        -- pushed
        have push : ∀ (μ2 : xM), μ2 = xst (xst μ1 (1, 0, 15) (hgt w L) c) (7, 0, 0) 0 (μ1 (7, 0, 0) 0 + 1) → frB μ μ2 ∧ repF μ2 7 S1 ∧ (μ2 (7, 0, 0) 0).toInt = (hgt w L + 1 : Nat) ∧ μ2 (1, 0, 15) (hgt w L) = c ∧ ∀ k j, (k = 15 ∨ k = 16) → j < hgt w L → μ2 (1, 0, k) j = μ1 (1, 0, k) j := by
          intro μ2 hμ
          subst hμ
          refine ⟨fun q q1 q2 q3 q4 => ?_, repF7 hr1 fun q q2 q3 q4 => ?_, ?_, ?_, fun k j hk hj => ?_⟩
          · rw [xst_ot q2, xst_ot q3]; exact e q q1 q2 q3 q4
          · rw [xst_ot q2, xst_ot q3]
          · rw [xst_rd, if_pos ⟨rfl, rfl⟩, ti_add (by rw [hht, ti_lit1]; omega) (by rw [hht, ti_lit1]; omega), hht, ti_lit1]
            omega
          · rw [xst_ot (by decide), xst_rd, if_pos ⟨rfl, rfl⟩]
          · rw [xst_ot (by rcases hk with rfl | rfl <;> decide), xst_rd, if_neg (fun q => by have := q.2; omega)]
        have pushed : ∀ Q' : xP, Q' none (xst (xst μ1 (1, 0, 15) (hgt w L) c) (7, 0, 0) 0 (μ1 (7, 0, 0) 0 + 1)) → MW G (d + 4) mX1_push [vR (7, 0, 0), vI c] μ1 Q' := by
          intro Q' hq
          refine wX1_push (set_in hht (by simp [xlenc]; omega) ?_)
          show Q' none (xst (xst μ1 (1, 0, 15) (hgt w L) c) (7, 0, 0) 0 (xst μ1 (1, 0, 15) (hgt w L) c (7, 0, 0) 0 + 1))
          rw [xst_ot (show ((7, 0, 0) : xI) ≠ (1, 0, 15) by decide)]
          exact hq
        cases w1 with
        | true =>
          have hst : stepA w L c.toInt = some p' := hst
          have he : rn T n (i + 1) p' (effA w v (true, S1) c.toInt).2 (effA w v (true, S1) c.toInt).1 = R0 := he
          have heff : eff (true, w, L) v (true, S1) c.toInt = effA w v (true, S1) c.toInt := rfl
          have hok2 : okRun p' (effA w v (true, S1) c.toInt).2 (effA w v (true, S1) c.toInt).1 := hok2
          unfold stepA at hst
          unfold effA at he heff hok2
          by_cases c1 : c.toInt = 126
          · rw [if_pos c1] at hst
            injection hst with hst
            rw [if_pos (Or.inl c1)] at he hok2
            refine xif_t (by rw [ti_eq, e126]; exact c1) (pushed _ ?_)
            obtain ⟨f1, f2, f3, f4, f5⟩ := push _ rfl
            show WS G eX1_build (d + 5) Z Q 11 [vR (7, 0, 0), vR (6, 0, 0), vR (2, 7, 0), vI made, vI (nI i + 1), vN] [] _
            rw [nI_1]
            subst hst
            refine ih (i + 1) (true, w + 1, L) v S1 made _ (by omega) (by show hgt (w + 1) L ≤ i + 1; rw [hgt_s]; omega) hok2 (fun z => (by cases z)) f2 (hs.push f5 (by rw [f4]; exact c1)) (by show _ = ((hgt (w + 1) L : Nat) : Int); rw [f3, hgt_s]) f1 he
          · rw [if_neg c1] at hst
            by_cases c2 : c.toInt = 40
            · rw [if_pos c2] at hst
              by_cases c3 : L.length < 10
              · rw [if_pos c3] at hst
                injection hst with hst
                rw [if_pos (Or.inr c2)] at he hok2
                refine xif_f (by rw [ti_eq, e126]; exact c1) (xif_t (by rw [ti_eq, e40]; exact c2) (pushed _ ?_))
                obtain ⟨f1, f2, f3, f4, f5⟩ := push _ rfl
                show WS G eX1_build (d + 5) Z Q 11 [vR (7, 0, 0), vR (6, 0, 0), vR (2, 7, 0), vI made, vI (nI i + 1), vN] [] _
                rw [nI_1]
                subst hst
                refine ih (i + 1) (true, 0, (-6, 0, w) :: L) v S1 made _ (by omega) (by show 0 + 1 + hgt w L ≤ i + 1; omega) hok2 (fun z => (by cases z)) f2 ⟨fun j hj => absurd hj (Nat.not_lt_zero j), ?_, fun z => absurd rfl z, hs.cg f5⟩ (by show _ = ((0 + 1 + hgt w L : Nat) : Int); rw [f3]; omega) f1 he
                rw [f4, if_pos rfl]
                exact c2
              · rw [if_neg c3] at hst; cases hst
            · rw [if_neg c2] at hst
              have n2 : ¬ (c.toInt = 126 ∨ c.toInt = 40) := fun q => by rcases q with z | z <;> omega
              rw [if_neg n2] at he heff hok2
              by_cases c3 : c.toInt = 35 ∨ (97 ≤ c.toInt ∧ c.toInt ≤ 104)
              · rw [if_pos c3] at hst
                injection hst with hst
                have hsg : sgn c.toInt = -6 := by
                  unfold sgn
                  rw [if_neg (by omega), if_neg (by omega), if_neg (by omega)]
                refine xif_f (by rw [ti_eq, e126]; exact c1) (xif_f (by rw [ti_eq, e40]; exact c2) (kind_of fun y hy => xif_t (by rw [ti_eq, hy, hsg]; rfl) (wX1_makeAtEnd (xif_c (fun c4 => ?_) (fun c4 => ?_)))))
                · rw [ti_eq, e35] at c4
                  rw [if_pos c4] at heff
                  refine c_mkO hr1 hnf (fun x μ2 hl hx2 hx0 hb2 e2 r2 => ?_) (fun hl => dead μ1 _ w hl e heff)
                  refine tail _ x μ2 w L r2 hb2 hx0 (hs.cg fun k j hk hj => ?_) (by omega) ?_ ?_ kL hst.symm (heff.trans ?_)
                  · exact congrFun (e2 _ (nF7 (by decide) (by rcases hk with rfl | rfl <;> decide))) j
                  · rw [e2 _ (nF7 (by decide) (by decide))]; exact hht
                  · exact e.tr fun q q1 q2 q3 q4 => e2 q q1
                  · show whO (mkO (true, S1) 1 (-6) (-6)) w = _
                    have : mkO (true, S1) 1 (-6) (-6) = ((true, (mkO (true, S1) 1 (-6) (-6)).1.2), x.toInt) := Prod.ext (Prod.ext hl rfl) hx2.symm
                    rw [this]
                    rfl
                · rw [ti_eq, e35] at c4
                  rw [if_neg c4] at heff
                  have e97c : (c - 97).toInt = c.toInt - 97 := by rw [ti_sub (by rw [e97]; omega) (by rw [e97]; omega), e97]
                  refine xif_f (by rw [ti_eq, e41]; omega) ?_
                  refine c_mkO hr1 hnf (fun x μ2 hl hx2 hx0 hb2 e2 r2 => ?_) (fun hl => dead μ1 _ w hl e (by rw [heff, ← e97c]; rfl))
                  refine tail _ x μ2 w L r2 hb2 hx0 (hs.cg fun k j hk hj => ?_) (by omega) ?_ ?_ kL hst.symm (heff.trans ?_)
                  · exact congrFun (e2 _ (nF7 (by decide) (by rcases hk with rfl | rfl <;> decide))) j
                  · rw [e2 _ (nF7 (by decide) (by decide))]; exact hht
                  · exact e.tr fun q q1 q2 q3 q4 => e2 q q1
                  · rw [← e97c]
                    show whO (mkO (true, S1) 0 (c - 97).toInt (-6)) w = _
                    have : mkO (true, S1) 0 (c - 97).toInt (-6) = ((true, (mkO (true, S1) 0 (c - 97).toInt (-6)).1.2), x.toInt) := Prod.ext (Prod.ext hl rfl) hx2.symm
                    rw [this]
                    rfl
              · rw [if_neg c3] at hst; cases hst
        | false =>
          obtain ⟨m1, m2⟩ := hm rfl
          have m2 : w = 0 := m2
          subst m2
          have hst : stepB 0 L v c.toInt = some p' := hst
          have heff : eff (false, 0, L) v (true, S1) c.toInt = effB L v (true, S1) := rfl
          have he : rn T n (i + 1) p' (effB L v (true, S1)).2 (effB L v (true, S1)).1 = R0 := he
          have hok2 : okRun p' (effB L v (true, S1)).2 (effB L v (true, S1)).1 := hok2
          match L, hst, heff, he, hok2, hs, hht, hh, kL, dead, tail with
          | [], hst, _, _, _, _, _, _, _, _, _ => cases hst
          | (s, a, w') :: r, hst, heff, he, hok2, hs, hht, hh, kL, dead, tail =>
            obtain ⟨-, s2, s3, s4⟩ := hs
            have hht : (μ1 (7, 0, 0) 0).toInt = ((0 + 1 + hgt w' r : Nat) : Int) := hht
            have hh : 0 + 1 + hgt w' r ≤ i := hh
            have kr : okLv S1 r := fun x hx => kL x (by simp [hx])
            have v1 : (μ1 (7, 0, 0) 0 - 1).toInt = (hgt w' r : Nat) := by
              rw [ti_sub (by rw [hht, ti_lit1]; omega) (by rw [hht, ti_lit1]; omega), hht, ti_lit1]
              omega
            unfold stepB at hst
            unfold effB at heff he hok2
            dsimp only at hst heff he hok2
            by_cases c1 : s = -6
            · rw [if_pos c1] at hst he hok2
              by_cases c2 : sgn c.toInt = -6
              · rw [if_pos c2] at hst; cases hst
              · rw [if_neg c2] at hst
                injection hst with hst
                have nc : ¬ c.toInt = 126 ∧ ¬ c.toInt = 40 := by
                  refine ⟨fun z => c2 ?_, fun z => c2 ?_⟩
                  · rw [z]; rfl
                  · rw [z]; rfl
                refine xif_f (by rw [ti_eq, e126]; exact nc.1) (xif_f (by rw [ti_eq, e40]; exact nc.2) (kind_of fun y hy => xif_f (by rw [ti_eq, hy, ti_litm6]; exact c2) (kind_of fun y2 hy2 => set_in v1 (by simp [xlenc]; omega) ?_)))
                show MW G (d + 4) mX5_set [vR (0, 0, 16), vI ((xst μ1 (1, 0, 15) (hgt w' r) y2) (7, 0, 0) 0 - 1), vI made] (xst μ1 (1, 0, 15) (hgt w' r) y2) _
                rw [xst_ot (show ((7, 0, 0) : xI) ≠ (1, 0, 15) by decide)]
                refine set_in v1 (by simp [xlenc]; omega) ?_
                show WS G eX1_build (d + 5) Z Q 11 [vR (7, 0, 0), vR (6, 0, 0), vR (2, 7, 0), vI made, vI (nI i + 1), vN] [] (xst (xst μ1 (1, 0, 15) (hgt w' r) y2) (1, 0, 16) (hgt w' r) made)
                rw [nI_1]
                subst hst
                refine ih (i + 1) (true, 0, (sgn c.toInt, v, w') :: r) v S1 made _ (by omega) (by show 0 + 1 + hgt w' r ≤ i + 1; omega) hok2 (fun z => (by cases z)) (repF7 hr1 fun q q2 q3 q4 => by rw [xst_ot q4, xst_ot q3]) ⟨fun j hj => absurd hj (Nat.not_lt_zero j), ?_, fun _ => ?_, s4.cg fun k j hk hj => ?_⟩ ?_ (e.tr fun q q1 q2 q3 q4 => by rw [xst_ot q4, xst_ot q3]) he
                · rw [xst_ot (by decide), xst_rd, if_pos ⟨rfl, rfl⟩, if_neg c2]
                  exact hy2
                · rw [xst_rd, if_pos ⟨rfl, rfl⟩]
                  exact m1
                · rw [xst_rd, if_neg (fun q => by have := q.2; omega), xst_rd, if_neg (fun q => by have := q.2; omega)]
                · rw [xst_ot (by decide), xst_ot (by decide)]
                  exact hht
            · rw [if_neg c1] at hst heff
              by_cases c2 : c.toInt = 41
              · rw [if_pos c2] at hst
                injection hst with hst
                have s3 := s3 c1
                rw [if_neg c1] at s2
                have hsg : sgn c.toInt = -6 := by rw [c2]; rfl
                refine xif_f (by rw [ti_eq, e126]; omega) (xif_f (by rw [ti_eq, e40]; omega) (kind_of fun y hy => xif_t (by rw [ti_eq, hy, hsg]; rfl) (wX1_makeAtEnd (xif_f (by rw [ti_eq, e35]; omega) (xif_t (by rw [ti_eq, e41]; exact c2) ?_)))))
                have a1 : ∀ x : Int32, xst μ1 (7, 0, 0) 0 x (7, 0, 0) 0 = x := fun x => by rw [xst_rd, if_pos ⟨rfl, rfl⟩]
                rw [a1]
                refine get_in v1 (by simp [xlenc]; omega) ?_
                show MW G (d + 3) mX5_get [vR (0, 0, 16), vI (xst μ1 (7, 0, 0) 0 (μ1 (7, 0, 0) 0 - 1) (7, 0, 0) 0)] (xst μ1 (7, 0, 0) 0 (μ1 (7, 0, 0) 0 - 1)) _
                rw [a1]
                refine get_in v1 (by simp [xlenc]; omega) ?_
                have b5 : xst μ1 (7, 0, 0) 0 (μ1 (7, 0, 0) 0 - 1) (1, 0, 15) = μ1 (1, 0, 15) := xst_ot (by decide)
                have b6 : xst μ1 (7, 0, 0) 0 (μ1 (7, 0, 0) 0 - 1) (1, 0, 16) = μ1 (1, 0, 16) := xst_ot (by decide)
                rw [b5, b6]
                have fr : frB μ (xst μ1 (7, 0, 0) 0 (μ1 (7, 0, 0) 0 - 1)) := e.tr fun q q1 q2 q3 q4 => xst_ot q2
                have hr2 : repF (xst μ1 (7, 0, 0) 0 (μ1 (7, 0, 0) 0 - 1)) 7 S1 := repF7 hr1 fun q q2 q3 q4 => xst_ot q2
                have hst4 : cStk (xst μ1 (7, 0, 0) 0 (μ1 (7, 0, 0) 0 - 1)) w' r := s4.cg fun k j hk hj => by rw [xst_ot (by rcases hk with rfl | rfl <;> decide)]
                have hh4 : (xst μ1 (7, 0, 0) 0 (μ1 (7, 0, 0) 0 - 1) (7, 0, 0) 0).toInt = (hgt w' r : Nat) := by rw [a1]; exact v1
                generalize xst μ1 (7, 0, 0) 0 (μ1 (7, 0, 0) 0 - 1) = μ2 at fr hr2 hst4 hh4
                generalize μ1 (1, 0, 15) (hgt w' r) = sv at s2
                generalize μ1 (1, 0, 16) (hgt w' r) = av at s3
                refine c_mkO hr2 hnf (fun x μ3 hl hx2 hx0 hb2 e2 r2 => ?_) (fun hl => dead μ2 _ w' hl fr (by rw [heff, ← s2, ← s3, ← m1]))
                refine tail _ x μ3 w' r r2 hb2 hx0 (hst4.cg fun k j hk hj => ?_) (by omega) ?_ ?_ kr hst.symm (heff.trans ?_)
                · exact congrFun (e2 _ (nF7 (by decide) (by rcases hk with rfl | rfl <;> decide))) j
                · rw [e2 _ (nF7 (by decide) (by decide))]; exact hh4
                · exact fr.tr fun q q1 q2 q3 q4 => e2 q q1
                · rw [← s2, ← s3, ← m1]
                  have : mkO (true, S1) sv.toInt av.toInt made.toInt = ((true, (mkO (true, S1) sv.toInt av.toInt made.toInt).1.2), x.toInt) := Prod.ext (Prod.ext hl rfl) hx2.symm
                  rw [← this]
              · rw [if_neg c2] at hst; cases hst
  refine lp T.1 0 p00 0 S (-6) _ (by omega) (Nat.le_refl _) (fun _ => ⟨hI, fun z => (by cases z), fun x hx => (by cases hx)⟩) (fun z => (by cases z)) (repF7 hr fun q q2 q3 q4 => xst_ot q2) (fun i hi => absurd hi (Nat.not_lt_zero i)) ?_ (fun q q1 q2 q3 q4 => xst_ot q2) hR
  rw [xst_rd, if_pos ⟨rfl, rfl⟩]
  rfl
end
