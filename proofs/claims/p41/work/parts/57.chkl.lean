/-! the law's check of the lines and boxes: it answers 1 -/
section
variable {S : aS} {dp : Nat → Nat} {l : Nat}
theorem vl0 : vline S dp l 0 = S.L 0 l := by rw [vline, cif_t rfl]
theorem vl1 : vline S dp l 1 = S.L 1 l := by rw [vline, cif_f (by decide), cif_t rfl]
theorem vl2 : vline S dp l 2 = S.L 5 l := by rw [vline, cif_f (by decide), cif_f (by decide), cif_t rfl]
theorem vl3 : vline S dp l 3 = dpI dp (S.L 5 l) := by rw [vline, cif_f (by decide), cif_f (by decide), cif_f (by decide), cif_t rfl]
theorem vl4 : vline S dp l 4 = cif (avL S l) 1 0 := by rw [vline, cif_f (by decide), cif_f (by decide), cif_f (by decide), cif_f (by decide), cif_t rfl]
theorem vl5 : vline S dp l 5 = usr S l S.nl := by rw [vline, cif_f (by decide), cif_f (by decide), cif_f (by decide), cif_f (by decide), cif_f (by decide), cif_t rfl]
theorem vb0 : vbox S l 0 = S.B 0 l := by rw [vbox, cif_t rfl]
theorem vb1 : vbox S l 1 = S.B 1 l := by rw [vbox, cif_f (by decide), cif_t rfl]
theorem vb2 : vbox S l 2 = S.B 2 l := by rw [vbox, cif_f (by decide), cif_f (by decide), cif_t rfl]
theorem vb3 : vbox S l 3 = cif (avB S l) 1 0 := by rw [vbox, cif_f (by decide), cif_f (by decide), cif_f (by decide), cif_t rfl]
end
abbrev lvA (p q r s t : xV) : List xV := [vR (8, 0, 0), vR (1, 0, 23), vR (1, 0, 24), vR (1, 0, 25), vR (1, 0, 26), vR (1, 0, 27), vR (1, 0, 28), vR (1, 0, 29), vR (1, 0, 30), vR (1, 0, 31), vR (1, 0, 32), p, q, r, s, t, vN]
abbrev lvB (p q r : xV) : List xV := [vR (8, 0, 0), vN, vN, vN, vN, vN, vN, vR (1, 0, 29), vR (1, 0, 30), vR (1, 0, 31), vR (1, 0, 32), p, q, r, vN, vN, vN]
section
variable {G : xG} {d : Nat} {μ : xM} {Q : xP} {S : aS} {H : List aS} {K : Option aS} {T : aT}
theorem w_lines (hc : cS μ S H K T) (hw : repW μ S) (hI : Inv S) (h : Q (some (vI 1)) μ) : MW G (d + 6) mL_lines [vR (8, 0, 0), vR (1, 0, 23), vR (1, 0, 24), vR (1, 0, 25), vR (1, 0, 26), vR (1, 0, 27), vR (1, 0, 28), vR (1, 0, 29), vR (1, 0, 30), vR (1, 0, 31), vR (1, 0, 32)] μ Q := by
  have h48 := hI.2.1
  have hb48 := hI.bd.2.2
  have t1 := rt1 hw
  have t2 := rt2 hw
  obtain ⟨dp, h7⟩ := hI.2.2.2.2.2.2.1
  have e0 : (0 : Int32).toInt = (0 : Nat) := rfl
  have e1 : (1 : Int32).toInt = (1 : Nat) := rfl
  have e2 : (2 : Int32).toInt = (2 : Nat) := rfl
  refine wL_lines fun Z => ?_
  -- a word or none
  have opt : ∀ {y x : Int32} {v : Int}, E y.toInt v → x.toInt = v → (0 ≤ y → x = y) ∧ (¬ 0 ≤ y → x = -6) := by
    intro y x v hy hx
    refine ⟨fun c => ?_, fun c => ?_⟩
    · rw [ti_le, ti_lit0] at c
      rcases hy with z | z
      · omega
      · exact ieq hx z.2
    · rw [ti_le, ti_lit0] at c
      rcases hy with z | z
      · exact ieq hx (by rw [ti_litm6]; omega)
      · omega
  have boxes : ∀ r : Int32, r.toInt = cntD S S.nl → WS G eL_lines (d + 6) Z Q 386 (lvB (vI r) (vI (0 : Int32)) (vI (0 : Int32))) [] μ := by
    intro r hr
    refine up_loop (σ := Int32) (fun i v => WS G eL_lines (d + 6) Z Q 386 (lvB (vI r) (vI v) (vI (nI i))) [] μ) (fun i v => v.toInt = cntO S i) S.nb ?_ ?_ 0 _ (by omega) rfl
    · intro n v hn hv ih
      have en : (nI n).toInt = n := nI_t (by omega)
      have vin : vp_in (nI n) 48 := ti_in en (by omega)
      have hle := cntO_le S n
      have q1 := rq hw en hn
      have ih : ∀ v' : Int32, v'.toInt = cntO S (n + 1) → WS G eL_lines (d + 6) Z Q 386 (lvB (vI r) (vI v') (vI (nI n + 1))) [] μ := fun v' hv' => by rw [nI_1]; exact ih v' hv'
      have last : ∀ v' : Int32, v'.toInt = cntO S (n + 1) → ∀ s0 s1 : Int32, s0 = s1 → WS G eL_lines (d + 6) Z Q 481 (lvB (vI r) (vI v') (vI (nI n))) [vI s1, vI s0] μ := by
        intro v' hv' s0 s1 hs
        refine wL_lines_481 (xif_t hs ?_)
        refine k_box 3 hc hI en hn fun x hx => ⟨vin, xif_c (fun c => ?_) (fun c => ⟨vin, ?_⟩)⟩
        · rw [ti_lt, ti_lit0, q1.lt] at c
          rw [vb3, cif_f (fun z => z.1 c)] at hx
          exact wL_lines_518 (xif_t (ieq hx rfl) (ih v' hv'))
        · rw [ti_lt, ti_lit0, q1.lt] at c
          refine w_shut hw hI (rw_ hw en hn) (hI.parX hn) (fun o => xif_f (by decide) ?_) (fun o => xif_t rfl ?_)
          · rw [vb3, cif_f (fun z => o z.2)] at hx
            exact wL_lines_518 (xif_t (ieq hx rfl) (ih v' hv'))
          · rw [vb3, cif_t ⟨c, o⟩] at hx
            exact xif_t (ieq hx rfl) (ih v' hv')
      have mid : ∀ v' : Int32, v'.toInt = cntO S (n + 1) → ∀ s0 s1 : Int32, s0 = s1 → WS G eL_lines (d + 6) Z Q 453 (lvB (vI r) (vI v') (vI (nI n))) [vI s1, vI s0] μ := by
        intro v' hv' s0 s1 hs
        refine wL_lines_453 (xif_t hs ?_)
        refine k_box 2 hc hI en hn fun x hx => ?_
        rw [vb2] at hx
        obtain ⟨o1, o2⟩ := opt (rw_ hw en hn) hx
        exact ⟨vin, xif_c (fun c => ⟨vin, last v' hv' _ _ (o1 c)⟩) (fun c => last v' hv' _ _ (o2 c))⟩
      have start : ∀ s0 s1 : Int32, (s0 + s1).toInt = cntO S (n + 1) → WS G eL_lines (d + 6) Z Q 410 (lvB (vI r) vN (vI (nI n))) [vI s1, vI s0] μ := by
        intro s0 s1 hs
        refine wL_lines_410 ?_
        refine k_box 0 hc hI en hn fun x hx => ⟨vin, xif_t ?_ ?_⟩
        · rw [vb0] at hx
          exact ieq hx (rB0 hw hI en hn)
        · refine k_box 1 hc hI en hn fun x hx => ?_
          rw [vb1] at hx
          obtain ⟨o1, o2⟩ := opt q1 hx
          exact ⟨vin, xif_c (fun c => ⟨vin, mid _ hs _ _ (o1 c)⟩) (fun c => mid _ hs _ _ (o2 c))⟩
      refine wL_lines_386 ⟨ti_in l2 (by omega), xif_f (by rw [ti_le, t2, en]; omega) ⟨vin, xif_c (fun c => start _ _ ?_) (fun c => start _ _ ?_)⟩⟩
      · rw [ti_le, ti_lit0] at c
        unfold cntO
        rw [if_neg (fun z => by have := q1.lt.mpr z; omega), ti_add (by rw [hv, ti_lit0]; omega) (by rw [hv, ti_lit0]; omega), hv, ti_lit0]
        omega
      · rw [ti_le, ti_lit0] at c
        unfold cntO
        rw [if_pos (q1.lt.mp (by omega)), ti_add (by rw [hv, ti_lit1]; omega) (by rw [hv, ti_lit1]; omega), hv, ti_lit1]
        omega
    · intro v hv
      have en : (nI S.nb).toInt = S.nb := nI_t (by omega)
      refine wL_lines_386 ⟨ti_in l2 (by omega), xif_t (by rw [ti_le, t2, en]; omega) ?_⟩
      refine k_lines hc fun x hx => ⟨ti_in l1 (by omega), xif_t (ieq hx t1) ?_⟩
      refine k_boxes hc fun x hx => ⟨ti_in l2 (by omega), xif_t (ieq hx t2) ?_⟩
      refine cdep_ok hc hI h7 fun x hx => xif_t ?_ ?_
      · rw [hI.2.2.2.1, ← cntO_dp h7 S.nb (Nat.le_refl _)] at hx
        exact ieq hx hv
      · exact k_detours hc hI fun x hx => xif_t (ieq hx hr) ⟨z11, h⟩
  refine up_loop (σ := Int32) (fun i r => WS G eL_lines (d + 6) Z Q 6 (lvA (vI r) (vI (nI i)) vN vN vN) [] μ) (fun i r => r.toInt = cntD S i) S.nl ?_ ?_ 0 _ (by omega) rfl
  · intro n r hn hr ih
    have en : (nI n).toInt = n := nI_t (by omega)
    have vin : vp_in (nI n) 48 := ti_in en (by omega)
    have hle := cntD_le S n
    have ih : ∀ r' : Int32, r'.toInt = cntD S (n + 1) → WS G eL_lines (d + 6) Z Q 6 (lvA (vI r') (vI (nI n + 1)) vN vN vN) [] μ := fun r' hr' => by rw [nI_1]; exact ih r' hr'
    have hX := hI.home hn
    have rl : ∀ {i : Nat} {x : Int32}, x.toInt = (if S.L (2 + i) n = -6 then -1 else S.L (2 + i) n) → ∀ {y : Int32}, E y.toInt (S.L (2 + i) n) → (0 ≤ y → x = y) ∧ (¬ 0 ≤ y → x = -1) := by
      intro i x hx y hy
      refine ⟨fun c => ?_, fun c => ?_⟩
      · rw [ti_le, ti_lit0] at c
        rcases hy with z | z
        · omega
        · rw [if_neg (by omega)] at hx; exact ieq hx z.2
      · rw [ti_le, ti_lit0] at c
        rcases hy with z | z
        · rw [if_pos z.1] at hx; exact ieq hx rfl
        · omega
    have p357 : ∀ r' : Int32, r'.toInt = cntD S (n + 1) → ∀ s0 s1 : Int32, s0 = s1 → WS G eL_lines (d + 6) Z Q 357 (lvA (vI r') (vI (nI n)) vN vN vN) [vI s1, vI s0] μ := fun r' hr' s0 s1 hs => wL_lines_357 (xif_t hs (wL_lines_365 (xif_f (by decide) (ih r' hr'))))
    have p330 : ∀ r' : Int32, r'.toInt = cntD S (n + 1) → ∀ s0 s1 : Int32, s0 = s1 → WS G eL_lines (d + 6) Z Q 330 (lvA (vI r') (vI (nI n)) vN vN vN) [vI s1, vI s0] μ := by
      intro r' hr' s0 s1 hs
      refine wL_lines_330 (xif_t hs ?_)
      refine k_reference hc hI en hn e2 (by omega) fun x hx => ?_
      obtain ⟨o1, o2⟩ := rl hx (rc hw en hn)
      exact ⟨vin, xif_c (fun c => ⟨vin, p357 r' hr' _ _ (o1 c)⟩) (fun c => p357 r' hr' _ _ (o2 c))⟩
    have p303 : ∀ r' : Int32, r'.toInt = cntD S (n + 1) → ∀ s0 s1 : Int32, s0 = s1 → WS G eL_lines (d + 6) Z Q 303 (lvA (vI r') (vI (nI n)) vN vN vN) [vI s1, vI s0] μ := by
      intro r' hr' s0 s1 hs
      refine wL_lines_303 (xif_t hs ?_)
      refine k_reference hc hI en hn e1 (by omega) fun x hx => ?_
      obtain ⟨o1, o2⟩ := rl hx (rb hw en hn)
      exact ⟨vin, xif_c (fun c => ⟨vin, p330 r' hr' _ _ (o1 c)⟩) (fun c => p330 r' hr' _ _ (o2 c))⟩
    have p274 : ∀ r' : Int32, r'.toInt = cntD S (n + 1) → WS G eL_lines (d + 6) Z Q 274 (lvA (vI r') (vI (nI n)) vN vN vN) [vI (1 : Int32)] μ := by
      intro r' hr'
      refine wL_lines_274 (xif_f (by decide) ?_)
      refine k_reference hc hI en hn e0 (by omega) fun x hx => ?_
      obtain ⟨o1, o2⟩ := rl hx (ra hw en hn)
      exact ⟨vin, xif_c (fun c => ⟨vin, p303 r' hr' _ _ (o1 c)⟩) (fun c => p303 r' hr' _ _ (o2 c))⟩
    have p212 : ∀ r' by' past : Int32, r'.toInt = cntD S (n + 1) → by'.toInt = usr S n S.nl → past.toInt = byp S n → ∀ s0 s1 : Int32, s0 = s1 → WS G eL_lines (d + 6) Z Q 212 (lvA (vI r') (vI (nI n)) vN (vI by') (vI past)) [vI s1, vI s0] μ := by
      intro r' by' past hr' hby hpast s0 s1 hs
      refine wL_lines_212 (xif_t hs ?_)
      refine k_line 5 hc hI h7 en hn fun x hx => ?_
      rw [vl5] at hx
      refine xif_t (ieq hx hby) ?_
      refine k_bypass hc hI en hn fun x hx => xif_t (ieq hx hpast) ?_
      refine k_needs hc hI en hn fun y hy => ?_
      refine w_needs hw hI en hn fun z hz => xif_t ?_ (p274 r' hr')
      rw [cmp0]
      exact hb_ext fun i _ => by rw [hy, hz]
    have p170 : ∀ r' deep by' past : Int32, r'.toInt = cntD S (n + 1) → deep.toInt = dpI dp (S.L 5 n) → by'.toInt = usr S n S.nl → past.toInt = byp S n → ∀ s0 s1 : Int32, s0 = s1 → WS G eL_lines (d + 6) Z Q 170 (lvA (vI r') (vI (nI n)) (vI deep) (vI by') (vI past)) [vI s1, vI s0] μ := by
      intro r' deep by' past hr' hdeep hby hpast s0 s1 hs
      refine wL_lines_170 (xif_t hs ?_)
      refine k_line 3 hc hI h7 en hn fun x hx => ?_
      rw [vl3] at hx
      refine xif_t (ieq hx hdeep) ?_
      refine k_line 4 hc hI h7 en hn fun x hx => ?_
      rw [vl4] at hx
      refine ⟨vin, w_shut hw hI (rx hw en hn) hX (fun o => xif_f (by decide) (p212 r' by' past hr' hby hpast _ _ ?_)) (fun o => xif_t rfl (p212 r' by' past hr' hby hpast _ _ ?_))⟩
      · rw [cif_f (show ¬ avL S n from o)] at hx; exact ieq hx rfl
      · rw [cif_t (show avL S n from o)] at hx; exact ieq hx rfl
    have p114 : ∀ deep by' past s0 s1 : Int32, (s0 + s1).toInt = cntD S (n + 1) → deep.toInt = dpI dp (S.L 5 n) → by'.toInt = usr S n S.nl → past.toInt = byp S n → WS G eL_lines (d + 6) Z Q 114 (lvA vN (vI (nI n)) (vI deep) (vI by') (vI past)) [vI s1, vI s0] μ := by
      intro deep by' past s0 s1 hr' hdeep hby hpast
      refine wL_lines_114 ?_
      refine k_line 0 hc hI h7 en hn fun x hx => ?_
      rw [vl0] at hx
      refine ⟨vin, xif_t (ieq hx (rL0 hw hI en hn)) ?_⟩
      refine k_line 1 hc hI h7 en hn fun x hx => ?_
      rw [vl1] at hx
      refine ⟨vin, xif_t (ieq hx (rL1 hw hI en hn)) ?_⟩
      refine k_line 2 hc hI h7 en hn fun x hx => ?_
      rw [vl2] at hx
      obtain ⟨o1, o2⟩ := opt (rx hw en hn) hx
      exact ⟨vin, xif_c (fun c => ⟨vin, p170 _ deep by' past hr' hdeep hby hpast _ _ (o1 c)⟩) (fun c => p170 _ deep by' past hr' hdeep hby hpast _ _ (o2 c))⟩
    have p49 : ∀ deep : Int32, deep.toInt = dpI dp (S.L 5 n) → WS G eL_lines (d + 6) Z Q 49 (lvA (vI r) (vI (nI n)) (vI deep) (vI (0 : Int32)) (vI (0 : Int32))) [] μ := by
      intro deep hdeep
      refine up_loop (σ := Int32) (fun i v => WS G eL_lines (d + 6) Z Q 49 (lvA (vI r) (vI (nI n)) (vI deep) (vI v) (vI (nI i))) [] μ) (fun i v => v.toInt = usr S n i) S.nl ?_ ?_ 0 _ (by omega) rfl
      · intro m v hm hv ihm
        have em : (nI m).toInt = m := nI_t (by omega)
        have hul := usr_le S n m
        refine wL_lines_49 ⟨ti_in l1 (by omega), xif_f (by rw [ti_le, t1, em]; omega) ?_⟩
        refine w_direct hw hI em hm fun y hy => ?_
        show WS _ _ _ _ _ _ _ _ _
        rw [xlr_b en (by omega), add_bL, nI_1, hy]
        refine ihm _ ?_
        unfold usr
        by_cases c : drt S m n = true
        · rw [if_pos c, if_pos c, ti_add (by rw [hv, ti_lit1]; omega) (by rw [hv, ti_lit1]; omega), hv, ti_lit1]
          omega
        · rw [if_neg c, if_neg c, ti_add (by rw [hv, ti_lit0]; omega) (by rw [hv, ti_lit0]; omega), hv, ti_lit0]
          omega
      · intro v hv
        have em : (nI S.nl).toInt = S.nl := nI_t (by omega)
        refine wL_lines_49 ⟨ti_in l1 (by omega), xif_t (by rw [ti_le, t1, em]; omega) ?_⟩
        refine w_bypass hw hI en hn fun x hx => ?_
        show xif _ _ _
        have hb := byp_ok (S := S) (l := n) (fun k hk => hI.ref (by omega))
        refine xif_c (fun c => p114 deep v x _ _ ?_ hdeep hv hx) (fun c => p114 deep v x _ _ ?_ hdeep hv hx)
        · rw [ti_le, ti_lit0, hx] at c
          unfold cntD
          rw [if_neg (by omega), ti_add (by rw [hr, ti_lit1]; omega) (by rw [hr, ti_lit1]; omega), hr, ti_lit1]
          omega
        · rw [ti_le, ti_lit0, hx] at c
          have hz : byp S n = -6 := by
            rcases hb with z | z
            · exact z
            · exact absurd z.1 c
          unfold cntD
          rw [if_pos hz, ti_add (by rw [hr, ti_lit0]; omega) (by rw [hr, ti_lit0]; omega), hr, ti_lit0]
          omega
    have p28 : ∀ (m : Nat) (v : Int32) (x : Int) (deep : Int32), E v.toInt x → okX S x → dpI dp x = m → 0 ≤ deep.toInt → deep.toInt + m = dpI dp (S.L 5 n) → WS G eL_lines (d + 6) Z Q 28 (lvA (vI r) (vI (nI n)) (vI deep) (vI (0 : Int32)) (vI v)) [] μ := by
      have h5 := dpI_le h7 hX
      intro m
      induction m with
      | zero =>
        intro v x deep hv hx hm hd hs
        have c : x = -6 := by
          rcases hx with z | z
          · exact z
          · have := (dp_step h7 z).1; omega
        exact wL_lines_28 (xif_t (by rw [ti_lt, ti_lit0, hv.lt]; exact c) (p49 deep (by omega)))
      | succ m ihm =>
        intro v x deep hv hx hm hd hs
        rcases hx with z | z
        · rw [dpI, if_pos z] at hm; omega
        · obtain ⟨b1, b2, b3, b4⟩ := dp_step h7 z
          have hv' : v.toInt = (x.toNat : Nat) := by rw [hv.nn z.1]; omega
          have hxn : x.toNat < S.nb := by omega
          have hc1 : (deep + 1).toInt = deep.toInt + 1 := by rw [ti_add (by rw [ti_lit1]; omega) (by rw [ti_lit1]; omega), ti_lit1]
          refine wL_lines_28 (xif_f (by rw [ti_lt, ti_lit0]; omega) ⟨ti_in hv' (by omega), ?_⟩)
          generalize deep + 1 = deep' at hc1 ⊢
          exact ihm _ (S.B 2 x.toNat) deep' (rw_ hw hv' hxn) b4 (by omega) (by omega) (by omega)
    refine wL_lines_6 ⟨ti_in l1 (by omega), xif_f (by rw [ti_le, t1, en]; omega) ⟨vin, ?_⟩⟩
    exact p28 _ _ (S.L 5 n) 0 (rx hw en hn) hX rfl (by decide) (by rw [ti_lit0]; omega)
  · intro r hr
    have en : (nI S.nl).toInt = S.nl := nI_t (by omega)
    exact wL_lines_6 ⟨ti_in l1 (by omega), xif_t (by rw [ti_le, t1, en]; omega) (boxes r hr)⟩
end
