set_option maxHeartbeats 8000000 in
theorem xstep_sound {G : xG} {E : xE} {d : Nat} {Z : xZ} {Q : xP} {pc : Nat} {i : Instr} {len : Nat} {tg : List Nat} {cst : xV} {r : List xT} {lv st : List xV} {μ : xM} {k : xK} (hE : xEok E) (hmem : (pc, i, len, tg, cst) ∈ E.2.2.1)
    (kN : ∀ lv st μ, k r lv st μ → WS G E (d + 1) Z Q (pc + len) lv st μ)
    (kJ : ∀ t e' r', E.2.2.1.drop t = e' :: r' → ∀ lv st μ, k (E.2.2.1.drop t) lv st μ → WS G E (d + 1) Z Q e'.1 lv st μ)
    (h : xstep (MW G d) E Q (pc, i, len, tg, cst) r lv st μ k) : WS G E (d + 1) Z Q pc lv st μ := by
  obtain ⟨p, e, s, m, args, below, meth, c⟩ := Z
  intro hG hC H locs ls hP hS hl hlo hso
  obtain ⟨hx, hb, hr, hml, hown, hts, hK, hlocks⟩ := id hC
  have hD := xD_wld hG μ
  have hdec : decode E.2.1.2.1 pc = .ok (i, len) := hE.1 _ hmem
  have hch : xchk E (pc, i, len, tg, cst) = true := List.all_eq_true.mp hE.2.1 _ hmem
  have htw : ∀ w, xin w → w.before args s = true := fun w hw => hts w (List.mem_cons_of_mem _ (xin_gw hw))
  cases i
  case iload_n n =>
    simp only [xchk, decide_eq_true_eq] at hch
    obtain ⟨hlen, hi⟩ := hch
    subst hlen
    
    obtain ⟨x, ex, h⟩ := xgI_ex (show xgI lv _ _ from h)
    have h2 := hl.2.2 _ (show xnth lv (xt0 tg) ≠ vN by rw [ex]; intro z; cases z)
    have hq := hlo (xt0 tg)
    rw [ex] at h2 hq
    exact lv_iload_n hx hb hdec hi h2 (kN _ _ _ h hG hC H locs ls hP hS hl hlo ⟨trivial, hso⟩)
  case iload n =>
    simp only [xchk, decide_eq_true_eq] at hch
    obtain ⟨hlen, hi⟩ := hch
    subst hlen
    subst hi
    obtain ⟨x, ex, h⟩ := xgI_ex (show xgI lv _ _ from h)
    have h2 := hl.2.2 _ (show xnth lv (xt0 tg) ≠ vN by rw [ex]; intro z; cases z)
    have hq := hlo (xt0 tg)
    rw [ex] at h2 hq
    exact lv_iload hx hb hdec h2 (kN _ _ _ h hG hC H locs ls hP hS hl hlo ⟨trivial, hso⟩)
  case lload_n n =>
    simp only [xchk, decide_eq_true_eq] at hch
    obtain ⟨hlen, hi⟩ := hch
    subst hlen
    
    obtain ⟨x, ex, h⟩ := xgL_ex (show xgL lv _ _ from h)
    have h2 := hl.2.2 _ (show xnth lv (xt0 tg) ≠ vN by rw [ex]; intro z; cases z)
    have hq := hlo (xt0 tg)
    rw [ex] at h2 hq
    exact lv_lload_n hx hb hdec hi h2 (kN _ _ _ h hG hC H locs ls hP hS hl hlo ⟨trivial, hso⟩)
  case lload n =>
    simp only [xchk, decide_eq_true_eq] at hch
    obtain ⟨hlen, hi⟩ := hch
    subst hlen
    subst hi
    obtain ⟨x, ex, h⟩ := xgL_ex (show xgL lv _ _ from h)
    have h2 := hl.2.2 _ (show xnth lv (xt0 tg) ≠ vN by rw [ex]; intro z; cases z)
    have hq := hlo (xt0 tg)
    rw [ex] at h2 hq
    exact lv_lload hx hb hdec h2 (kN _ _ _ h hG hC H locs ls hP hS hl hlo ⟨trivial, hso⟩)
  case aload_n n =>
    simp only [xchk, decide_eq_true_eq] at hch
    obtain ⟨hlen, hi⟩ := hch
    subst hlen
    
    obtain ⟨x, ex, h⟩ := xgR_ex (show xgR lv _ _ from h)
    have h2 := hl.2.2 _ (show xnth lv (xt0 tg) ≠ vN by rw [ex]; intro z; cases z)
    have hq := hlo (xt0 tg)
    rw [ex] at h2 hq
    exact lv_aload_n hx hb hdec hi h2 (kN _ _ _ h hG hC H locs ls hP hS hl hlo ⟨hq, hso⟩)
  case aload n =>
    simp only [xchk, decide_eq_true_eq] at hch
    obtain ⟨hlen, hi⟩ := hch
    subst hlen
    subst hi
    obtain ⟨x, ex, h⟩ := xgR_ex (show xgR lv _ _ from h)
    have h2 := hl.2.2 _ (show xnth lv (xt0 tg) ≠ vN by rw [ex]; intro z; cases z)
    have hq := hlo (xt0 tg)
    rw [ex] at h2 hq
    exact lv_aload hx hb hdec h2 (kN _ _ _ h hG hC H locs ls hP hS hl hlo ⟨hq, hso⟩)
  case istore_n n =>
    simp only [xchk, decide_eq_true_eq] at hch
    obtain ⟨hlen, hi, hlt⟩ := hch
    subst hlen
    
    obtain ⟨x, s1, rfl, h⟩ := xpI_ex (show xpI st _ from h)
    exact xw_istore_n hx hb hl hlt hdec hi (fun ls' hl' => kN _ _ _ h hG hC H locs ls' hP hS hl' (xlok_set (xlok_clr hlo _) _ trivial) hso.2)
  case istore n =>
    simp only [xchk, decide_eq_true_eq] at hch
    obtain ⟨hlen, hi, hlt⟩ := hch
    subst hlen
    subst hi
    obtain ⟨x, s1, rfl, h⟩ := xpI_ex (show xpI st _ from h)
    exact xw_istore hx hb hl hlt hdec (fun ls' hl' => kN _ _ _ h hG hC H locs ls' hP hS hl' (xlok_set (xlok_clr hlo _) _ trivial) hso.2)
  case lstore_n n =>
    simp only [xchk, decide_eq_true_eq] at hch
    obtain ⟨hlen, hi, hlt⟩ := hch
    subst hlen
    
    obtain ⟨x, s1, rfl, h⟩ := xpL_ex (show xpL st _ from h)
    exact xw_lstore_n hx hb hl hlt hdec hi (fun ls' hl' => kN _ _ _ h hG hC H locs ls' hP hS hl' (xlok_set (xlok_set (xlok_clr hlo _) _ (v := vN) trivial) _ trivial) hso.2)
  case lstore n =>
    simp only [xchk, decide_eq_true_eq] at hch
    obtain ⟨hlen, hi, hlt⟩ := hch
    subst hlen
    subst hi
    obtain ⟨x, s1, rfl, h⟩ := xpL_ex (show xpL st _ from h)
    exact xw_lstore hx hb hl hlt hdec (fun ls' hl' => kN _ _ _ h hG hC H locs ls' hP hS hl' (xlok_set (xlok_set (xlok_clr hlo _) _ (v := vN) trivial) _ trivial) hso.2)
  case astore_n n =>
    simp only [xchk, decide_eq_true_eq] at hch
    obtain ⟨hlen, hi, hlt⟩ := hch
    subst hlen
    
    obtain ⟨x, s1, rfl, h⟩ := xpR_ex (show xpR st _ from h)
    exact xw_astore_n hx hb hl hlt hdec hi (fun ls' hl' => kN _ _ _ h hG hC H locs ls' hP hS hl' (xlok_set (xlok_clr hlo _) _ hso.1) hso.2)
  case astore n =>
    simp only [xchk, decide_eq_true_eq] at hch
    obtain ⟨hlen, hi, hlt⟩ := hch
    subst hlen
    subst hi
    obtain ⟨x, s1, rfl, h⟩ := xpR_ex (show xpR st _ from h)
    exact xw_astore hx hb hl hlt hdec (fun ls' hl' => kN _ _ _ h hG hC H locs ls' hP hS hl' (xlok_set (xlok_clr hlo _) _ hso.1) hso.2)
  case iconst n =>
    simp only [xchk, Bool.and_eq_true, decide_eq_true_eq] at hch
    obtain ⟨hlen, hc⟩ := hch
    subst hlen
    obtain ⟨x, rfl, h⟩ := xcI_ex (show xcI cst _ from h)
    exact lv_iconst hx hb hdec (of_decide_eq_true (show decide (Int32.ofInt n = x) = true from hc)) (kN _ _ _ h hG hC H locs ls hP hS hl hlo ⟨trivial, hso⟩)
  case bipush n =>
    simp only [xchk, Bool.and_eq_true, decide_eq_true_eq] at hch
    obtain ⟨hlen, hc⟩ := hch
    subst hlen
    obtain ⟨x, rfl, h⟩ := xcI_ex (show xcI cst _ from h)
    exact lv_bipush hx hb hdec (of_decide_eq_true (show decide ((Int8.ofInt n).toInt32 = x) = true from hc)) (kN _ _ _ h hG hC H locs ls hP hS hl hlo ⟨trivial, hso⟩)
  case sipush n =>
    simp only [xchk, Bool.and_eq_true, decide_eq_true_eq] at hch
    obtain ⟨hlen, hc⟩ := hch
    subst hlen
    obtain ⟨x, rfl, h⟩ := xcI_ex (show xcI cst _ from h)
    exact lv_sipush hx hb hdec (of_decide_eq_true (show decide ((Int16.ofInt n).toInt32 = x) = true from hc)) (kN _ _ _ h hG hC H locs ls hP hS hl hlo ⟨trivial, hso⟩)
  case lconst n =>
    simp only [xchk, Bool.and_eq_true, decide_eq_true_eq] at hch
    obtain ⟨hlen, hc⟩ := hch
    subst hlen
    obtain ⟨x, rfl, h⟩ := xcL_ex (show xcL cst _ from h)
    exact lv_lconst hx hb hdec (of_decide_eq_true (show decide (Int64.ofNat n.val = x) = true from hc)) (kN _ _ _ h hG hC H locs ls hP hS hl hlo ⟨trivial, hso⟩)
  case ldc n =>
    simp only [xchk, Bool.and_eq_true, decide_eq_true_eq] at hch
    obtain ⟨hlen, hc⟩ := hch
    subst hlen
    obtain ⟨q, hq, eq⟩ := List.any_eq_true.mp hc
    have eq := of_decide_eq_true eq
    obtain ⟨x, rfl, h⟩ := xcI_ex (show xcI cst _ from h)
    have hF := hE.2.2.2.1.2.2.2.1 q hq
    subst eq
    exact lv_ldc hx hb hown (htw _ hF) hdec (kN _ _ _ h hG hC H locs ls hP hS hl hlo ⟨trivial, hso⟩)
  case ldc_w n =>
    simp only [xchk, Bool.and_eq_true, decide_eq_true_eq] at hch
    obtain ⟨hlen, hc⟩ := hch
    subst hlen
    obtain ⟨q, hq, eq⟩ := List.any_eq_true.mp hc
    have eq := of_decide_eq_true eq
    obtain ⟨x, rfl, h⟩ := xcI_ex (show xcI cst _ from h)
    have hF := hE.2.2.2.1.2.2.2.1 q hq
    subst eq
    exact lv_ldcw hx hb hown (htw _ hF) hdec (kN _ _ _ h hG hC H locs ls hP hS hl hlo ⟨trivial, hso⟩)
  case ldc2_w n =>
    simp only [xchk, Bool.and_eq_true, decide_eq_true_eq] at hch
    obtain ⟨hlen, hc⟩ := hch
    subst hlen
    obtain ⟨q, hq, eq⟩ := List.any_eq_true.mp hc
    have eq := of_decide_eq_true eq
    obtain ⟨x, rfl, h⟩ := xcL_ex (show xcL cst _ from h)
    have hF := hE.2.2.2.1.2.2.2.1 q hq
    subst eq
    exact lv_ldc2 hx hb hown (htw _ hF) hdec (kN _ _ _ h hG hC H locs ls hP hS hl hlo ⟨trivial, hso⟩)
  case aconst_null =>
    simp only [xchk, decide_eq_true_eq] at hch
    subst hch
    exact lv_null hx hb hdec (kN _ _ _ h hG hC H locs ls hP hS hl hlo ⟨trivial, hso⟩)
  case iadd =>
    simp only [xchk, decide_eq_true_eq] at hch
    subst hch
    obtain ⟨y, s1, rfl, h⟩ := xpI_ex (show xpI st _ from h)
    obtain ⟨x, s2, rfl, h⟩ := xpI_ex h
    exact lv_iadd hx hb hdec (kN _ _ _ h hG hC H locs ls hP hS hl hlo ⟨trivial, hso.2.2⟩)
  case isub =>
    simp only [xchk, decide_eq_true_eq] at hch
    subst hch
    obtain ⟨y, s1, rfl, h⟩ := xpI_ex (show xpI st _ from h)
    obtain ⟨x, s2, rfl, h⟩ := xpI_ex h
    exact lv_isub hx hb hdec (kN _ _ _ h hG hC H locs ls hP hS hl hlo ⟨trivial, hso.2.2⟩)
  case imul =>
    simp only [xchk, decide_eq_true_eq] at hch
    subst hch
    obtain ⟨y, s1, rfl, h⟩ := xpI_ex (show xpI st _ from h)
    obtain ⟨x, s2, rfl, h⟩ := xpI_ex h
    exact lv_imul hx hb hdec (kN _ _ _ h hG hC H locs ls hP hS hl hlo ⟨trivial, hso.2.2⟩)
  case iand =>
    simp only [xchk, decide_eq_true_eq] at hch
    subst hch
    obtain ⟨y, s1, rfl, h⟩ := xpI_ex (show xpI st _ from h)
    obtain ⟨x, s2, rfl, h⟩ := xpI_ex h
    exact lv_iand hx hb hdec (kN _ _ _ h hG hC H locs ls hP hS hl hlo ⟨trivial, hso.2.2⟩)
  case ior =>
    simp only [xchk, decide_eq_true_eq] at hch
    subst hch
    obtain ⟨y, s1, rfl, h⟩ := xpI_ex (show xpI st _ from h)
    obtain ⟨x, s2, rfl, h⟩ := xpI_ex h
    exact lv_ior hx hb hdec (kN _ _ _ h hG hC H locs ls hP hS hl hlo ⟨trivial, hso.2.2⟩)
  case ixor =>
    simp only [xchk, decide_eq_true_eq] at hch
    subst hch
    obtain ⟨y, s1, rfl, h⟩ := xpI_ex (show xpI st _ from h)
    obtain ⟨x, s2, rfl, h⟩ := xpI_ex h
    exact lv_ixor hx hb hdec (kN _ _ _ h hG hC H locs ls hP hS hl hlo ⟨trivial, hso.2.2⟩)
  case ishl =>
    simp only [xchk, decide_eq_true_eq] at hch
    subst hch
    obtain ⟨y, s1, rfl, h⟩ := xpI_ex (show xpI st _ from h)
    obtain ⟨x, s2, rfl, h⟩ := xpI_ex h
    exact lv_ishl hx hb hdec (kN _ _ _ h hG hC H locs ls hP hS hl hlo ⟨trivial, hso.2.2⟩)
  case ishr =>
    simp only [xchk, decide_eq_true_eq] at hch
    subst hch
    obtain ⟨y, s1, rfl, h⟩ := xpI_ex (show xpI st _ from h)
    obtain ⟨x, s2, rfl, h⟩ := xpI_ex h
    exact lv_ishr hx hb hdec (kN _ _ _ h hG hC H locs ls hP hS hl hlo ⟨trivial, hso.2.2⟩)
  case iushr =>
    simp only [xchk, decide_eq_true_eq] at hch
    subst hch
    obtain ⟨y, s1, rfl, h⟩ := xpI_ex (show xpI st _ from h)
    obtain ⟨x, s2, rfl, h⟩ := xpI_ex h
    exact lv_iushr hx hb hdec rfl (kN _ _ _ h hG hC H locs ls hP hS hl hlo ⟨trivial, hso.2.2⟩)
  case idiv =>
    simp only [xchk, decide_eq_true_eq] at hch
    subst hch
    obtain ⟨y, s1, rfl, h⟩ := xpI_ex (show xpI st _ from h)
    obtain ⟨x, s2, rfl, h⟩ := xpI_ex h
    exact lv_idiv hx hb hdec h.1 (kN _ _ _ h.2 hG hC H locs ls hP hS hl hlo ⟨trivial, hso.2.2⟩)
  case irem =>
    simp only [xchk, decide_eq_true_eq] at hch
    subst hch
    obtain ⟨y, s1, rfl, h⟩ := xpI_ex (show xpI st _ from h)
    obtain ⟨x, s2, rfl, h⟩ := xpI_ex h
    exact lv_irem hx hb hdec h.1 (kN _ _ _ h.2 hG hC H locs ls hP hS hl hlo ⟨trivial, hso.2.2⟩)
  case ladd =>
    simp only [xchk, decide_eq_true_eq] at hch
    subst hch
    obtain ⟨y, s1, rfl, h⟩ := xpL_ex (show xpL st _ from h)
    obtain ⟨x, s2, rfl, h⟩ := xpL_ex h
    exact lv_ladd hx hb hdec (kN _ _ _ h hG hC H locs ls hP hS hl hlo ⟨trivial, hso.2.2⟩)
  case lsub =>
    simp only [xchk, decide_eq_true_eq] at hch
    subst hch
    obtain ⟨y, s1, rfl, h⟩ := xpL_ex (show xpL st _ from h)
    obtain ⟨x, s2, rfl, h⟩ := xpL_ex h
    exact lv_lsub hx hb hdec (kN _ _ _ h hG hC H locs ls hP hS hl hlo ⟨trivial, hso.2.2⟩)
  case land =>
    simp only [xchk, decide_eq_true_eq] at hch
    subst hch
    obtain ⟨y, s1, rfl, h⟩ := xpL_ex (show xpL st _ from h)
    obtain ⟨x, s2, rfl, h⟩ := xpL_ex h
    exact lv_land hx hb hdec (kN _ _ _ h hG hC H locs ls hP hS hl hlo ⟨trivial, hso.2.2⟩)
  case lor =>
    simp only [xchk, decide_eq_true_eq] at hch
    subst hch
    obtain ⟨y, s1, rfl, h⟩ := xpL_ex (show xpL st _ from h)
    obtain ⟨x, s2, rfl, h⟩ := xpL_ex h
    exact lv_lor hx hb hdec (kN _ _ _ h hG hC H locs ls hP hS hl hlo ⟨trivial, hso.2.2⟩)
  case lcmp =>
    simp only [xchk, decide_eq_true_eq] at hch
    subst hch
    obtain ⟨y, s1, rfl, h⟩ := xpL_ex (show xpL st _ from h)
    obtain ⟨x, s2, rfl, h⟩ := xpL_ex h
    exact W.lcmp hx hb hdec (kN _ _ _ h hG hC H locs ls hP hS hl hlo ⟨trivial, hso.2.2⟩)
  case lshl =>
    simp only [xchk, decide_eq_true_eq] at hch
    subst hch
    obtain ⟨y, s1, rfl, h⟩ := xpI_ex (show xpI st _ from h)
    obtain ⟨x, s2, rfl, h⟩ := xpL_ex h
    exact lv_lshl hx hb hdec rfl (kN _ _ _ h hG hC H locs ls hP hS hl hlo ⟨trivial, hso.2.2⟩)
  case lshr =>
    simp only [xchk, decide_eq_true_eq] at hch
    subst hch
    obtain ⟨y, s1, rfl, h⟩ := xpI_ex (show xpI st _ from h)
    obtain ⟨x, s2, rfl, h⟩ := xpL_ex h
    exact lv_lshr hx hb hdec rfl (kN _ _ _ h hG hC H locs ls hP hS hl hlo ⟨trivial, hso.2.2⟩)
  case lushr =>
    simp only [xchk, decide_eq_true_eq] at hch
    subst hch
    obtain ⟨y, s1, rfl, h⟩ := xpI_ex (show xpI st _ from h)
    obtain ⟨x, s2, rfl, h⟩ := xpL_ex h
    exact lv_lushr hx hb hdec rfl (kN _ _ _ h hG hC H locs ls hP hS hl hlo ⟨trivial, hso.2.2⟩)
  case ineg =>
    simp only [xchk, decide_eq_true_eq] at hch
    subst hch
    obtain ⟨x, s1, rfl, h⟩ := xpI_ex (show xpI st _ from h)
    exact lv_ineg hx hb hdec (kN _ _ _ h hG hC H locs ls hP hS hl hlo ⟨trivial, hso.2⟩)
  case i2c =>
    simp only [xchk, decide_eq_true_eq] at hch
    subst hch
    obtain ⟨x, s1, rfl, h⟩ := xpI_ex (show xpI st _ from h)
    exact lv_i2c hx hb hdec rfl (kN _ _ _ h hG hC H locs ls hP hS hl hlo ⟨trivial, hso.2⟩)
  case i2l =>
    simp only [xchk, decide_eq_true_eq] at hch
    subst hch
    obtain ⟨x, s1, rfl, h⟩ := xpI_ex (show xpI st _ from h)
    exact lv_i2l hx hb hdec rfl (kN _ _ _ h hG hC H locs ls hP hS hl hlo ⟨trivial, hso.2⟩)
  case l2i =>
    simp only [xchk, decide_eq_true_eq] at hch
    subst hch
    obtain ⟨x, s1, rfl, h⟩ := xpL_ex (show xpL st _ from h)
    exact lv_l2i hx hb hdec rfl (kN _ _ _ h hG hC H locs ls hP hS hl hlo ⟨trivial, hso.2⟩)
  case iinc n q =>
    simp only [xchk, Bool.and_eq_true, decide_eq_true_eq] at hch
    obtain ⟨⟨hlen, hi, hlt⟩, hc⟩ := hch
    subst hlen
    subst hi
    obtain ⟨y, rfl, h⟩ := xcI_ex (show xcI cst _ from h)
    obtain ⟨x, ex, h⟩ := xgI_ex h
    exact xw_iinc hx hb hl hlt hdec ex (of_decide_eq_true (show decide (Int32.ofInt q = y) = true from hc)) (fun ls' hl' => kN _ _ _ h hG hC H locs ls' hP hS hl' (xlok_set (xlok_clr hlo _) _ trivial) hso)
  case dup =>
    simp only [xchk, decide_eq_true_eq] at hch
    subst hch
    rcases st with _ | ⟨x | x | _ | q, s1⟩
    · exact (show False from h).elim
    · exact lv_dup hx hb hdec rfl (kN _ _ _ h hG hC H locs ls hP hS hl hlo ⟨trivial, hso⟩)
    · exact (show False from h).elim
    · exact (show False from h).elim
    · exact lv_dup hx hb hdec rfl (kN _ _ _ h hG hC H locs ls hP hS hl hlo ⟨hso.1, hso⟩)
  case dup2 =>
    simp only [xchk, decide_eq_true_eq] at hch
    subst hch
    obtain ⟨x, s1, rfl, h⟩ := xpI_ex (show xpI st _ from h)
    obtain ⟨q, s2, rfl, h⟩ := xpR_ex h
    exact lv_dup2_11 hx hb hdec rfl rfl (kN _ _ _ h hG hC H locs ls hP hS hl hlo ⟨trivial, hso.2.1, hso⟩)
  case pop =>
    simp only [xchk, decide_eq_true_eq] at hch
    subst hch
    obtain ⟨x, s1, rfl, h⟩ := xpI_ex (show xpI st _ from h)
    exact lv_pop hx hb hdec rfl (kN _ _ _ h hG hC H locs ls hP hS hl hlo hso.2)
  case ifCond cnd o =>
    simp only [xchk, Bool.and_eq_true, decide_eq_true_eq] at hch
    obtain ⟨hlen, hc⟩ := hch
    subst hlen
    obtain ⟨e', r', he, ht⟩ := xtgt_ok hc
    cases cnd
    case eq =>
      obtain ⟨x, s1, rfl, h⟩ := xpI_ex (show xpI st _ from h)
      exact lv_if_eq hx hb hdec ht (fun c1 => kJ _ e' r' he _ _ _ (h.1 c1) hG hC H locs ls hP hS hl hlo hso.2) (fun c1 => kN _ _ _ (h.2 c1) hG hC H locs ls hP hS hl hlo hso.2)
    case ne =>
      obtain ⟨x, s1, rfl, h⟩ := xpI_ex (show xpI st _ from h)
      exact lv_if_ne hx hb hdec ht (fun c1 => kJ _ e' r' he _ _ _ (h.2 c1) hG hC H locs ls hP hS hl hlo hso.2) (fun c1 => kN _ _ _ (h.1 c1) hG hC H locs ls hP hS hl hlo hso.2)
    case lt =>
      obtain ⟨x, s1, rfl, h⟩ := xpI_ex (show xpI st _ from h)
      exact lv_if_lt hx hb hdec ht (fun c1 => kJ _ e' r' he _ _ _ (h.1 c1) hG hC H locs ls hP hS hl hlo hso.2) (fun c1 => kN _ _ _ (h.2 c1) hG hC H locs ls hP hS hl hlo hso.2)
    case ge =>
      obtain ⟨x, s1, rfl, h⟩ := xpI_ex (show xpI st _ from h)
      exact lv_if_ge hx hb hdec ht (fun c1 => kJ _ e' r' he _ _ _ (h.1 c1) hG hC H locs ls hP hS hl hlo hso.2) (fun c1 => kN _ _ _ (h.2 c1) hG hC H locs ls hP hS hl hlo hso.2)
    case gt =>
      obtain ⟨x, s1, rfl, h⟩ := xpI_ex (show xpI st _ from h)
      exact lv_if_gt hx hb hdec ht (fun c1 => kJ _ e' r' he _ _ _ (h.1 c1) hG hC H locs ls hP hS hl hlo hso.2) (fun c1 => kN _ _ _ (h.2 c1) hG hC H locs ls hP hS hl hlo hso.2)
    case le =>
      obtain ⟨x, s1, rfl, h⟩ := xpI_ex (show xpI st _ from h)
      exact lv_if_le hx hb hdec ht (fun c1 => kJ _ e' r' he _ _ _ (h.1 c1) hG hC H locs ls hP hS hl hlo hso.2) (fun c1 => kN _ _ _ (h.2 c1) hG hC H locs ls hP hS hl hlo hso.2)
  case if_icmp cnd o =>
    simp only [xchk, Bool.and_eq_true, decide_eq_true_eq] at hch
    obtain ⟨hlen, hc⟩ := hch
    subst hlen
    obtain ⟨e', r', he, ht⟩ := xtgt_ok hc
    cases cnd
    case eq =>
      obtain ⟨y, s1, rfl, h⟩ := xpI_ex (show xpI st _ from h)
      obtain ⟨x, s2, rfl, h⟩ := xpI_ex h
      exact lv_icmp_eq hx hb hdec ht (fun c1 => kJ _ e' r' he _ _ _ (h.1 c1) hG hC H locs ls hP hS hl hlo hso.2.2) (fun c1 => kN _ _ _ (h.2 c1) hG hC H locs ls hP hS hl hlo hso.2.2)
    case ne =>
      obtain ⟨y, s1, rfl, h⟩ := xpI_ex (show xpI st _ from h)
      obtain ⟨x, s2, rfl, h⟩ := xpI_ex h
      exact lv_icmp_ne hx hb hdec ht (fun c1 => kJ _ e' r' he _ _ _ (h.2 c1) hG hC H locs ls hP hS hl hlo hso.2.2) (fun c1 => kN _ _ _ (h.1 c1) hG hC H locs ls hP hS hl hlo hso.2.2)
    case lt =>
      obtain ⟨y, s1, rfl, h⟩ := xpI_ex (show xpI st _ from h)
      obtain ⟨x, s2, rfl, h⟩ := xpI_ex h
      exact lv_icmp_lt hx hb hdec ht (fun c1 => kJ _ e' r' he _ _ _ (h.1 c1) hG hC H locs ls hP hS hl hlo hso.2.2) (fun c1 => kN _ _ _ (h.2 c1) hG hC H locs ls hP hS hl hlo hso.2.2)
    case ge =>
      obtain ⟨y, s1, rfl, h⟩ := xpI_ex (show xpI st _ from h)
      obtain ⟨x, s2, rfl, h⟩ := xpI_ex h
      exact lv_icmp_ge hx hb hdec ht (fun c1 => kJ _ e' r' he _ _ _ (h.1 c1) hG hC H locs ls hP hS hl hlo hso.2.2) (fun c1 => kN _ _ _ (h.2 c1) hG hC H locs ls hP hS hl hlo hso.2.2)
    case gt =>
      obtain ⟨y, s1, rfl, h⟩ := xpI_ex (show xpI st _ from h)
      obtain ⟨x, s2, rfl, h⟩ := xpI_ex h
      exact lv_icmp_gt hx hb hdec ht (fun c1 => kJ _ e' r' he _ _ _ (h.1 c1) hG hC H locs ls hP hS hl hlo hso.2.2) (fun c1 => kN _ _ _ (h.2 c1) hG hC H locs ls hP hS hl hlo hso.2.2)
    case le =>
      obtain ⟨y, s1, rfl, h⟩ := xpI_ex (show xpI st _ from h)
      obtain ⟨x, s2, rfl, h⟩ := xpI_ex h
      exact lv_icmp_le hx hb hdec ht (fun c1 => kJ _ e' r' he _ _ _ (h.1 c1) hG hC H locs ls hP hS hl hlo hso.2.2) (fun c1 => kN _ _ _ (h.2 c1) hG hC H locs ls hP hS hl hlo hso.2.2)
  case ifnull o =>
    simp only [xchk, decide_eq_true_eq] at hch
    subst hch
    obtain ⟨q, s1, rfl, h⟩ := xpR_ex (show xpR st _ from h)
    exact lv_ifnull hx hb hdec (kN _ _ _ h hG hC H locs ls hP hS hl hlo hso.2)
  case goto o =>
    simp only [xchk, Bool.and_eq_true, decide_eq_true_eq] at hch
    obtain ⟨hlen, hc⟩ := hch
    subst hlen
    obtain ⟨e', r', he, ht⟩ := xtgt_ok hc
    exact lv_goto hx hb hdec ht (kJ _ e' r' he _ _ _ h hG hC H locs ls hP hS hl hlo hso)
  case tableswitch dd lo hi offs =>
    rcases tg with _ | ⟨t, ts⟩
    · simp [xchk] at hch
    simp only [xchk, Bool.and_eq_true, decide_eq_true_eq] at hch
    obtain ⟨⟨hd1, hts1⟩, hsz, hlo1, hhi1⟩ := hch
    obtain ⟨x, s1, rfl, h⟩ := xpI_ex (show xpI st _ from h)
    obtain ⟨hlen1, hget⟩ := xtgts_get _ _ hts1
    have hlen2 : offs.size = ts.length := by simpa using hlen1
    have h : xtsw x lo ts _ _ := h
    rcases xtsw_ex ts lo h with ⟨j, t', e1, e2, e3⟩ | ⟨e1, e2⟩
    · obtain ⟨o, ho, hot⟩ := hget j t' e1
      obtain ⟨e', r', he, ht⟩ := xtgt_ok hot
      have hj : j < ts.length := (List.getElem?_eq_some_iff.mp e1).1
      have hxi : x.toInt = lo + (j : Int) := xofI e2 (by omega) (by omega)
      refine lv_tableIn hx hb hdec (by rw [hxi]; omega) (by rw [hxi]; omega) (off := o) ?_ ht (kJ _ e' r' he _ _ _ e3 hG hC H locs ls hP hS hl hlo hso.2)
      rw [hxi, show lo + (j : Int) - lo = (j : Int) by omega, Int.toNat_natCast]
      simpa using ho
    · obtain ⟨e', r', he, ht⟩ := xtgt_ok hd1
      refine lv_tableOut hx hb hdec ?_ ht (kJ _ e' r' he _ _ _ e2 hG hC H locs ls hP hS hl hlo hso.2)
      rcases Int.lt_or_le x.toInt lo with q | q
      · exact Or.inl q
      · rcases Int.lt_or_le hi x.toInt with q2 | q2
        · exact Or.inr q2
        · exfalso
          refine e1 (x.toInt - lo).toNat (by omega) ?_
          rw [show lo + ((x.toInt - lo).toNat : Int) = x.toInt by omega]
          exact (Int32.ofInt_toInt x).symm
  case lookupswitch dd ps =>
    rcases tg with _ | ⟨t, ts⟩
    · simp [xchk] at hch
    simp only [xchk, Bool.and_eq_true] at hch
    obtain ⟨⟨⟨hd1, hts1⟩, hky⟩, hsrt⟩ := hch
    obtain ⟨x, s1, rfl, h⟩ := xpI_ex (show xpI st _ from h)
    have h : xlsw x ps.toList ts _ _ := h
    rcases xlsw_ex (d := dd) ps.toList ts hts1 hky h with ⟨o, t', e1, e2, e3⟩ | ⟨e1, e2⟩
    · obtain ⟨e', r', he, ht⟩ := xtgt_ok e2
      exact lv_lookup hx hb hdec hsrt e1 ht (kJ _ e' r' he _ _ _ e3 hG hC H locs ls hP hS hl hlo hso.2)
    · obtain ⟨e', r', he, ht⟩ := xtgt_ok hd1
      exact lv_lookup hx hb hdec hsrt e1 ht (kJ _ e' r' he _ _ _ e2 hG hC H locs ls hP hS hl hlo hso.2)
  case getfield n =>
    simp only [xchk, Bool.and_eq_true, decide_eq_true_eq] at hch
    obtain ⟨hlen, hc⟩ := hch
    subst hlen
    obtain ⟨f, hf, ef⟩ := List.any_eq_true.mp hc
    obtain ⟨e1, e2, e3⟩ := of_decide_eq_true ef
    obtain ⟨C, T, N, hc1, hkN, hlink, -⟩ := hE.2.2.2.1.1 f hf
    rw [e2] at hc1
    rw [e3] at hkN
    rw [e1, e3] at hlink
    obtain ⟨hu, -, -⟩ := xcl_ok _ C T N hc1
    obtain ⟨q, s1, rfl, h⟩ := xpR_ex (show xpR st _ from h)
    obtain ⟨fs, ho, h⟩ := xfld_ex h
    have hq : xok q = true := hso.1
    obtain ⟨n1, hn1, hw1⟩ := xwld_get (ad := G.2.1) (cA := G.2.2.2) μ hq
    rw [xcell_obj ho] at hw1
    rcases h with ⟨hk, h⟩ | ⟨r1, hk, h⟩
    · exact va_get (D := G.2.2.1) (v := .int (μ q (xt1 tg))) hx hb hts (fun w hw => List.mem_cons_of_mem _ (xin_gw (hu w hw))) hown hK hP n1 hw1 hc1 _ hkN (htw _ hlink) (fun _ h9 => h9) (by have := xfs_int (ad := G.2.1) (f := μ q) fs 0 _ hk; rwa [Nat.zero_add] at this) hdec (kN _ _ _ h hG hC H locs ls hP hS hl hlo ⟨trivial, hso.2⟩)
    · exact va_get (D := G.2.2.1) (v := .ref (G.2.1 r1)) hx hb hts (fun w hw => List.mem_cons_of_mem _ (xin_gw (hu w hw))) hown hK hP n1 hw1 hc1 _ hkN (htw _ hlink) (fun _ h9 => h9) (xfs_ref fs 0 _ hk) hdec (kN _ _ _ h hG hC H locs ls hP hS hl hlo ⟨xobj_ok hq ho (List.mem_of_getElem? hk), hso.2⟩)
  case putfield n =>
    simp only [xchk, Bool.and_eq_true, decide_eq_true_eq] at hch
    obtain ⟨hlen, hc⟩ := hch
    subst hlen
    obtain ⟨f, hf, ef⟩ := List.any_eq_true.mp hc
    obtain ⟨e1, e2, e3, e4⟩ := of_decide_eq_true ef
    obtain ⟨C, T, N, hc1, hkN, hlink, hkI, hkZ⟩ := hE.2.2.2.1.1 f hf
    rw [e2] at hc1
    rw [e3] at hkN hkI hkZ
    rw [e1, e3] at hlink
    obtain ⟨hu, ⟨ty0, hty⟩, hnm⟩ := xcl_ok _ C T N hc1
    obtain ⟨x, s0, rfl, h⟩ := xpI_ex (show xpI st _ from h)
    obtain ⟨q, s1, rfl, h⟩ := xpR_ex h
    obtain ⟨fs, ho, h⟩ := xfld_ex h
    have hq : xok q = true := hso.2.1
    obtain ⟨n1, hn1, hw1⟩ := xwld_get (ad := G.2.1) (cA := G.2.2.2) μ hq
    rw [xcell_obj ho] at hw1
    rcases h with ⟨hk, h⟩ | ⟨r1, hk, h⟩
    · have hkl : xt1 tg < (xfs G.2.1 (μ q) 0 fs).length := by rw [xfs_len]; exact (List.getElem?_eq_some_iff.mp hk).1
      have key : ∀ (ty : FieldType), (T (xt1 tg)).2.2.2 = false → parseFieldDescriptor (T (xt1 tg)).2.2.1 = some ty → narrow ty (.int x) = .int x → fits ty (.int x) = true → k r lv s1 (xst μ q (xt1 tg) x) → W p G.1 e (xrm (d + 1)) s m args below meth c H locs 0 0 (MQ below (xQc G Q) args s 0 0 (xA G.2.1)) (F0 m pc ls ((vI x :: vR q :: s1).map (xrv G.2.1))) := by
        intro ty h1 h2 h3 h4 h5
        refine va_put (D := G.2.2.1) (v := .int x) (ty := ty) hx hb hts (fun w hw => List.mem_cons_of_mem _ (xin_gw (hu w hw))) ty0 hty hnm hown hK hP hD hS n1 hw1 hc1 _ hkN (htw _ hlink) (fun _ h9 => h9) h1 h2 h3 h4 hkl hdec (fun H1 locs1 hP1 hD1 hS1 => ?_)
        rw [xwld_put hn1 ho hk] at hP1
        exact kN _ _ _ h5 hG hC H1 locs1 ls hP1 hS1 hl hlo hso.2.2
      rcases cst with v | v
      · obtain ⟨h1, h2⟩ := hkZ e4
        have h : (x = 0 ∨ x = 1) ∧ k r lv s1 (xst μ q (xt1 tg) x) := h
        refine key .boolean h1 (by rw [h2]; decide +kernel) ?_ ?_ h.2 <;> rcases h.1 with rfl | rfl <;> rfl
      · obtain ⟨h1, h2⟩ := hkI e4
        exact key .int h1 (by rw [h2]; decide +kernel) rfl rfl h
    · exact h.elim
  case arraylength =>
    simp only [xchk, decide_eq_true_eq] at hch
    subst hch
    obtain ⟨q, s1, rfl, h⟩ := xpR_ex (show xpR st _ from h)
    obtain ⟨t, ty, x, hcl, htys, h⟩ := xal_ex (ad := G.2.1) (cA := G.2.2.2) (μ := μ) h
    have hq : xok q = true := hso.1
    obtain ⟨n1, hn1, hw1⟩ := xwld_get (ad := G.2.1) (cA := G.2.2.2) μ hq
    rw [hcl] at hw1
    exact va_alen hx hb hK hP n1 t hw1 htys rfl hdec (kN _ _ _ h hG hC H locs ls hP hS hl hlo ⟨trivial, hso.2⟩)
  case iaload =>
    simp only [xchk, decide_eq_true_eq] at hch
    subst hch
    obtain ⟨j, s1, rfl, h⟩ := xpI_ex (show xpI st _ from h)
    obtain ⟨q, s2, rfl, h⟩ := xpR_ex h
    obtain ⟨n, ha, hin, h⟩ := xax_ex h
    have hq : xok q = true := hso.2.1
    obtain ⟨n1, hn1, hw1⟩ := xwld_get (ad := G.2.1) (cA := G.2.2.2) μ hq
    rw [xcell_arr ha] at hw1
    exact va_iald hx hb hK hP n1 0 hw1 rfl hin hdec (kN _ _ _ h hG hC H locs ls hP hS hl hlo ⟨trivial, hso.2.2⟩)
  case baload =>
    simp only [xchk, decide_eq_true_eq] at hch
    subst hch
    obtain ⟨j, s1, rfl, h⟩ := xpI_ex (show xpI st _ from h)
    obtain ⟨q, s2, rfl, h⟩ := xpR_ex h
    obtain ⟨n, ha, hin, h⟩ := xax_ex h
    have hq : xok q = true := hso.2.1
    obtain ⟨n1, hn1, hw1⟩ := xwld_get (ad := G.2.1) (cA := G.2.2.2) μ hq
    rw [xcell_arr ha] at hw1
    exact va_zald hx hb hK hP n1 1 hw1 rfl hin hdec (kN _ _ _ h hG hC H locs ls hP hS hl hlo ⟨trivial, hso.2.2⟩)
  case caload =>
    simp only [xchk, decide_eq_true_eq] at hch
    subst hch
    obtain ⟨j, s1, rfl, h⟩ := xpI_ex (show xpI st _ from h)
    obtain ⟨q, s2, rfl, h⟩ := xpR_ex h
    obtain ⟨n, ha, hin, h⟩ := xax_ex h
    have hq : xok q = true := hso.2.1
    obtain ⟨n1, hn1, hw1⟩ := xwld_get (ad := G.2.1) (cA := G.2.2.2) μ hq
    rw [xcell_arr ha] at hw1
    exact va_cald hx hb hK hP n1 2 hw1 rfl hin hdec (kN _ _ _ h hG hC H locs ls hP hS hl hlo ⟨trivial, hso.2.2⟩)
  case iastore =>
    simp only [xchk, decide_eq_true_eq] at hch
    subst hch
    obtain ⟨x, s0, rfl, h⟩ := xpI_ex (show xpI st _ from h)
    obtain ⟨j, s1, rfl, h⟩ := xpI_ex h
    obtain ⟨q, s2, rfl, h⟩ := xpR_ex h
    obtain ⟨n, ha, hin, h⟩ := xax_ex h
    have hq : xok q = true := hso.2.2.1
    obtain ⟨n1, hn1, hw1⟩ := xwld_get (ad := G.2.1) (cA := G.2.2.2) μ hq
    rw [xcell_arr ha] at hw1
    refine va_iast hx hb hK hP hD hS n1 0 hw1 rfl hin hdec (fun H1 locs1 hP1 hD1 hS1 => ?_)
    rw [xwld_arr hn1 ha] at hP1
    exact kN _ _ _ h hG hC H1 locs1 ls hP1 hS1 hl hlo hso.2.2.2
  case bastore =>
    simp only [xchk, decide_eq_true_eq] at hch
    subst hch
    obtain ⟨x, s0, rfl, h⟩ := xpI_ex (show xpI st _ from h)
    obtain ⟨j, s1, rfl, h⟩ := xpI_ex h
    obtain ⟨q, s2, rfl, h⟩ := xpR_ex h
    obtain ⟨n, ha, hin, h⟩ := xax_ex h
    have hq : xok q = true := hso.2.2.1
    obtain ⟨n1, hn1, hw1⟩ := xwld_get (ad := G.2.1) (cA := G.2.2.2) μ hq
    rw [xcell_arr ha] at hw1
    refine va_zast hx hb hK hP hD hS n1 1 hw1 rfl hin hdec (fun H1 locs1 hP1 hD1 hS1 => ?_)
    rw [xwld_arr hn1 ha] at hP1
    exact kN _ _ _ h hG hC H1 locs1 ls hP1 hS1 hl hlo hso.2.2.2
  case castore =>
    simp only [xchk, decide_eq_true_eq] at hch
    subst hch
    obtain ⟨x, s0, rfl, h⟩ := xpI_ex (show xpI st _ from h)
    obtain ⟨j, s1, rfl, h⟩ := xpI_ex h
    obtain ⟨q, s2, rfl, h⟩ := xpR_ex h
    obtain ⟨n, ha, hin, h⟩ := xax_ex h
    have hq : xok q = true := hso.2.2.1
    obtain ⟨n1, hn1, hw1⟩ := xwld_get (ad := G.2.1) (cA := G.2.2.2) μ hq
    rw [xcell_arr ha] at hw1
    refine va_cast hx hb hK hP hD hS n1 2 hw1 rfl hin hdec (fun H1 locs1 hP1 hD1 hS1 => ?_)
    rw [xwld_arr hn1 ha] at hP1
    exact kN _ _ _ h hG hC H1 locs1 ls hP1 hS1 hl hlo hso.2.2.2
  case aaload =>
    simp only [xchk, decide_eq_true_eq] at hch
    subst hch
    obtain ⟨j, s1, rfl, h⟩ := xpI_ex (show xpI st _ from h)
    obtain ⟨q, s2, rfl, h⟩ := xpR_ex h
    have hq : xok q = true := hso.2.1
    obtain ⟨k1, j1, c1⟩ := q
    have hk1 : k1 = 10 := by
      unfold xrg at h
      split at h
      · rename_i heq; cases heq; rfl
      · exact h.elim
    subst hk1
    have h : vp_in j 5 ∧ k r lv (vR (4, 2 + j.toNatClampNeg, 0) :: s2) μ := h
    obtain ⟨n1, hn1, hw1⟩ := xwld_get (ad := G.2.1) (cA := G.2.2.2) μ hq
    have hlt : j.toNatClampNeg < 5 := Nat.not_le.mp fun z => h.1 (Or.inr z)
    exact va_aldq hx hb hK hP n1 3 hw1 rfl h.1 hdec (kN _ _ _ h.2 hG hC H locs ls hP hS hl hlo ⟨by show xok _ = true; simp [xok]; omega, hso.2.2⟩)
  case invokevirtual n =>
    simp only [xchk, Bool.and_eq_true, decide_eq_true_eq] at hch
    obtain ⟨hlen, hc⟩ := hch
    subst hlen
    obtain ⟨qe, rr, hd1, h⟩ := xfind_ex (show xfind _ _ _ from h)
    have hc : decide (qe.1 = n) && decide (qe.2.1 = xt1 tg) = true := by
      have hc := hc
      unfold xme at hc
      rw [hd1] at hc
      exact hc
    simp only [Bool.and_eq_true, decide_eq_true_eq] at hc
    obtain ⟨B1, s1, rfl, hB1, h⟩ := xargs_ex _ _ _ _ h
    obtain ⟨q, s2, rfl, h⟩ := xpR_ex h
    obtain ⟨⟨fs, ho⟩, h⟩ := xro_ex h
    obtain ⟨h8, h⟩ := xif8_ex h
    obtain ⟨⟨T, N, hcl⟩, ⟨hml1, hcode, hini, hn1, hn2, hpar, h21⟩, hinst, hsel⟩ := hE.2.2.2.1.2.1 qe (xdrop_mem hd1)
    rw [hc.2] at hcl
    rw [hc.1] at hml1
    rw [List.append_nil] at h
    obtain ⟨hso1, hso2⟩ := xoks_app hso
    have hq : xok q = true := hso2.1
    have hM := h hG (fun v hv => by
      rcases List.mem_cons.mp hv with rfl | hv
      · exact hq
      · exact xoks_mem hso1 v (List.mem_reverse.mpr hv))
    obtain ⟨n2, hn2', hw2⟩ := xwld_get (ad := G.2.1) (cA := G.2.2.2) μ hq
    rw [xcell_obj ho] at hw2
    have hgood : GoodIn (xws E.2.1) (xws qe.2.2) := by
      intro w hw
      rcases List.mem_cons.mp hw with rfl | hw
      · exact ⟨List.mem_cons_of_mem _ (xin_gw hcode), xgood (xin_gw hcode)⟩
      · exact ⟨List.mem_cons_of_mem _ hw, xgood hw⟩
    refine xcall_go (va_runV (As := B1.map (xrv G.2.1)) (rest := s2.map (xrv G.2.1)) (b := G.2.1 q) ⟨hx, hb, hml, hown, hts⟩ hM ⟨callB_of qe.2.2.2.2.2.2 hts hgood rfl rfl rfl (htw _ hini) (htw _ hml1) ⟨hn1, hn2, hpar⟩ ⟨Nat.le_refl _, by show 8 + (qe.2.2.2.2.1 + 11) + 40 * d ≤ 40 * (d + 1); omega⟩, htw _ hinst, htw _ hsel⟩ ⟨xblind G _ μ, va_recv hK hP (ci := xt1 tg) (q0 := n2) hcl hw2, fun U hU hW => ⟨rfl, by rw [hU]; exact hP, va_K.moved hW.alike hK⟩⟩ rfl (by rw [List.length_map]; exact hB1) hl.1 (by simp [xrv]) (lv_room (by rw [xcats_eq]; exact h8)) hdec ⟨Nat.le_refl _, Nat.le_refl _⟩) hS (fun r1 μ' H1 locs1 hq1 hv1 hP1 hS1 => ?_)
    obtain ⟨st', hk', est, hok'⟩ := xret_ex (ad := G.2.1) hq1
    rw [est]
    exact kN _ _ _ hk' hG hC H1 locs1 ls hP1 hS1 hl hlo (hok' hso2.2 hv1)
  case invokestatic n =>
    simp only [xchk, Bool.and_eq_true, decide_eq_true_eq] at hch
    obtain ⟨hlen, hc⟩ := hch
    subst hlen
    simp only [xstep] at h
    split at h
    · rename_i h0
      rw [h0] at hc
      obtain ⟨qe, rr, hd1, h⟩ := xfind_ex h
      have hc : decide (qe.1 = n) = true := by
        have hc : xme0 _ _ _ = true := hc
        unfold xme0 at hc
        rw [hd1] at hc
        exact hc
      simp only [decide_eq_true_eq] at hc
      obtain ⟨B1, s1, rfl, hB1, h⟩ := xargs_ex _ _ _ _ h
      obtain ⟨h8, h⟩ := xif8_ex h
      obtain ⟨⟨hml1, hcode, hini, hn1, hn2, hpar, h21⟩, hstat⟩ := hE.2.2.2.1.2.2.1 qe (xdrop_mem hd1)
      rw [hc] at hml1
      rw [List.append_nil] at h
      obtain ⟨hso1, hso2⟩ := xoks_app hso
      have hM := h hG (fun v hv => xoks_mem hso1 v (List.mem_reverse.mpr hv))
      have hgood : GoodIn (xws E.2.1) (xws qe.2.2) := by
        intro w hw
        rcases List.mem_cons.mp hw with rfl | hw
        · exact ⟨List.mem_cons_of_mem _ (xin_gw hcode), xgood (xin_gw hcode)⟩
        · exact ⟨List.mem_cons_of_mem _ hw, xgood hw⟩
      refine xcall_go (va_runS (As := B1.map (xrv G.2.1)) (rest := s1.map (xrv G.2.1)) ⟨hx, hb, hml, hown, hts⟩ hM ⟨callB_of qe.2.2.2.2.2.2 hts hgood rfl rfl rfl (htw _ hini) (htw _ hml1) ⟨hn1, hn2, hpar⟩ ⟨Nat.le_refl _, by show 8 + (qe.2.2.2.2.1 + 11) + 40 * d ≤ 40 * (d + 1); omega⟩, htw _ hstat⟩ ⟨xblind G _ μ, fun U hU hW => ⟨rfl, by rw [hU]; exact hP, va_K.moved hW.alike hK⟩⟩ rfl (by rw [List.length_map]; exact hB1) hl.1 (by simp) (lv_room (by rw [xcats_eq]; exact h8)) hdec ⟨Nat.le_refl _, Nat.le_refl _⟩) hS (fun r1 μ' H1 locs1 hq1 hv1 hP1 hS1 => ?_)
      obtain ⟨st', hk', est, hok'⟩ := xret_ex (ad := G.2.1) hq1
      rw [est]
      exact kN _ _ _ hk' hG hC H1 locs1 ls hP1 hS1 hl hlo (hok' hso2 hv1)
    · rename_i h0
      rw [h0] at hc
      obtain ⟨q, hq, eq⟩ := List.any_eq_true.mp (show List.any _ _ = true from hc)
      have eq := of_decide_eq_true eq
      have hF := (hE.2.2.2.1.2.2.2.2 q hq).1 (by rw [eq])
      rw [eq] at hF
      obtain ⟨f1, f2, f3, f4⟩ := hF
      obtain ⟨y, s1, rfl, h⟩ := xpI_ex h
      obtain ⟨x, s2, rfl, h⟩ := xpI_ex h
      obtain ⟨h8, h⟩ := xif8_ex h
      exact va_mmin hx hb (hml.trans hl.1.symm) hown (htw _ f1) (htw _ f2) (htw _ f3) (htw _ f4) (Nat.le_add_left 1 d) (by rw [xcats_eq]; show xcats s2 + 13 ≤ 40 * (d + 1); omega) (Nat.le_refl _) (Nat.le_refl _) hdec (kN _ _ _ h hG hC H locs ls hP hS hl hlo ⟨trivial, hso.2.2⟩)
    · rename_i h0 h1
      have hc : List.any E.2.2.2.2.2.2.2.2 (fun q => decide (q = (n, 2))) = true := by
        split at hc
        · rename_i z; exact absurd z h0
        · rename_i z; exact absurd z h1
        · exact hc
      obtain ⟨q, hq, eq⟩ := List.any_eq_true.mp hc
      have eq := of_decide_eq_true eq
      have hF := (hE.2.2.2.1.2.2.2.2 q hq).2 (by rw [eq])
      rw [eq] at hF
      obtain ⟨f1, f2, f3, f4⟩ := hF
      obtain ⟨z, s1, rfl, h⟩ := xpI_ex h
      obtain ⟨dp, s2, rfl, h⟩ := xpI_ex h
      obtain ⟨qb, s3, rfl, h⟩ := xpR_ex h
      obtain ⟨sp, s4, rfl, h⟩ := xpI_ex h
      obtain ⟨qa, s5, rfl, h⟩ := xpR_ex h
      obtain ⟨za, ha, h⟩ := xax_ex h
      obtain ⟨zb, hb1, h⟩ := xax_ex h
      rcases s5 with _ | ⟨v, s5⟩
      · obtain ⟨g1, g2, g3, g4, g5, h⟩ := (show _ ∧ _ ∧ _ ∧ _ ∧ _ ∧ _ from h)
        have hqb : xok qb = true := hso.2.2.1
        have hqa : xok qa = true := hso.2.2.2.2.1
        obtain ⟨na, hna, hwa⟩ := xwld_get (ad := G.2.1) (cA := G.2.2.2) μ hqa
        obtain ⟨nb, hnb, hwb⟩ := xwld_get (ad := G.2.1) (cA := G.2.2.2) μ hqb
        rw [xcell_arr ha] at hwa
        rw [xcell_arr hb1] at hwb
        refine va_copyi hx hb (hml.trans hl.1.symm) hown (htw _ f1) (htw _ f2) (htw _ f3) (htw _ f4) hK hP hD hS na nb 0 0 hwa hwb rfl rfl rfl g1 g2 g3 g4 g5 (fun _ _ => rfl) (Nat.le_add_left 1 d) (by rw [show (List.map (fun v => Value.category v) (List.map (xrv G.2.1) [])).sum = 0 from rfl]; show 0 + (nativeFrameWords "java/lang/System" "arraycopy" 5 + 11) ≤ 40 * (d + 1); exact Nat.le_trans xnat_le (by omega)) hdec (fun H1 locs1 hP1 hD1 hS1 => ?_)
        rw [xwld_cpy hnb hb1] at hP1
        exact kN _ _ _ h hG hC H1 locs1 ls hP1 hS1 hl hlo trivial
      · exact (show False from h).elim
  case ireturn =>
    simp only [xchk, decide_eq_true_eq] at hch
    subst hch
    obtain ⟨x, s1, rfl, h⟩ := xpI_ex (show xpI st _ from h)
    rcases s1 with _ | ⟨v, s1⟩
    · have h : xri E.2.1.2.2.2.1 x (Q (some (vI x)) μ) := h
      unfold xri at h
      split at h
      · rename_i hrt
        exact W.iret hx hb (hr.trans hrt) (fun t ht hW => ⟨⟨some (vI x), μ, h, rfl, fun v hv => by cases hv; exact trivial, by rw [xB, ht]; exact ⟨hP, va_K.moved hW.alike hK⟩⟩, hS.F ht⟩) hS.2.2 hdec hlocks
      · rename_i hrt
        exact W.zret hx hb (hr.trans hrt) (by rcases h.1 with rfl | rfl <;> rfl) (fun t ht hW => ⟨⟨some (vI x), μ, h.2, rfl, fun v hv => by cases hv; exact trivial, by rw [xB, ht]; exact ⟨hP, va_K.moved hW.alike hK⟩⟩, hS.F ht⟩) hS.2.2 hdec hlocks
      · exact h.elim
    · exact (show False from h).elim
  case lreturn =>
    simp only [xchk, decide_eq_true_eq] at hch
    subst hch
    obtain ⟨x, s1, rfl, h⟩ := xpL_ex (show xpL st _ from h)
    rcases s1 with _ | ⟨v, s1⟩
    · have h : xrl E.2.1.2.2.2.1 (Q (some (vL x)) μ) := h
      unfold xrl at h
      split at h
      · rename_i hrt
        exact W.lret hx hb (hr.trans hrt) (fun t ht hW => ⟨⟨some (vL x), μ, h, rfl, fun v hv => by cases hv; exact trivial, by rw [xB, ht]; exact ⟨hP, va_K.moved hW.alike hK⟩⟩, hS.F ht⟩) hS.2.2 hdec hlocks
      · exact h.elim
    · exact (show False from h).elim
  case areturn =>
    simp only [xchk, decide_eq_true_eq] at hch
    subst hch
    have key : ∀ q : Option xI, st = [.inr (.inr q)] → W p G.1 e (xrm (d + 1)) s m args below meth c H locs 0 0 (MQ below (xQc G Q) args s 0 0 (xA G.2.1)) (F0 m pc ls (st.map (xrv G.2.1))) := by
      intro q hq
      subst hq
      have h : xra E.2.1.2.2.2.1 (Q (some (.inr (.inr q))) μ) := h
      unfold xra at h
      split at h
      · rename_i nm hrt
        refine W.aret (v := xrv G.2.1 (.inr (.inr q))) hx hb (hr.trans hrt) (Or.inl ⟨_, rfl⟩) ?_ (fun t ht hW => ⟨⟨some (.inr (.inr q)), μ, h, rfl, fun v hv => by cases hv; exact hso.1, by rw [xB, ht]; exact ⟨hP, va_K.moved hW.alike hK⟩⟩, hS.F ht⟩) hS.2.2 hdec hlocks
        cases q with
        | none => exact Or.inl rfl
        | some q => exact Or.inr ⟨_, rfl⟩
      · exact h.elim
    rcases st with _ | ⟨x | x | q, _ | ⟨v, s1⟩⟩ <;> first | exact (show False from h).elim | exact key _ rfl
  case return_ =>
    simp only [xchk, decide_eq_true_eq] at hch
    subst hch
    rcases st with _ | ⟨v, s1⟩
    · have h : xrn E.2.1.2.2.2.1 (Q none μ) := h
      unfold xrn at h
      split at h
      · rename_i hrt
        exact W.vret hx hb (hr.trans hrt) (fun t ht hW => ⟨⟨none, μ, h, rfl, fun v hv => by cases hv, by rw [xB, ht]; exact ⟨hP, va_K.moved hW.alike hK⟩⟩, hS.F ht⟩) hS.2.2 hdec hlocks
      · exact h.elim
    · exact (show False from h).elim
  all_goals exact (show False from h).elim
