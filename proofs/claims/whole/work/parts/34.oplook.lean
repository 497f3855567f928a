/-! lines, line, reference, boxes, box, depth, needs, bypass, detours: both sides -/
noncomputable def vline (S : aS) (dp : Nat → Nat) (l : Nat) (p : Int32) : Int := cif (p = 0) (S.L 0 l) (cif (p = 1) (S.L 1 l) (cif (p = 2) (S.L 5 l) (cif (p = 3) (dpI dp (S.L 5 l) : Int) (cif (p = 4) (cif (avL S l) 1 0) (cif (p = 5) (usr S l S.nl : Int) (-2))))))
noncomputable def vbox (S : aS) (l : Nat) (p : Int32) : Int := cif (p = 0) (S.B 0 l) (cif (p = 1) (S.B 1 l) (cif (p = 2) (S.B 2 l) (cif (p = 3) (cif (avB S l) 1 0) (-2))))
def vref (S : aS) (l : Nat) (p : Int) : Int := if 0 ≤ p ∧ p ≤ 2 then (if S.L (2 + p.toNat) l = -6 then -1 else S.L (2 + p.toNat) l) else -1
/-- what a line leads to -/
def byp (S : aS) (l : Nat) : Int := if S.L 1 l = 2 then S.L 2 l else if S.L 1 l = 4 ∧ S.L 1 (S.L 2 l).toNat = 3 then S.L 2 (S.L 2 l).toNat else if S.L 1 l = 5 ∧ S.L 1 (S.L 2 l).toNat = 3 then S.L 3 (S.L 2 l).toNat else -6
def cntD (S : aS) : Nat → Nat
  | 0 => 0
  | n + 1 => if byp S n = -6 then cntD S n else cntD S n + 1
theorem cntD_le (S : aS) : ∀ n, cntD S n ≤ n
  | 0 => Nat.le_refl _
  | n + 1 => by
    unfold cntD
    have := cntD_le S n
    split <;> omega
theorem byp_ok {S : aS} {l : Nat} (h : ∀ k, k ≤ l → okRef S k) : byp S l = -6 ∨ okLR l (byp S l) := by
  have hl := h l (Nat.le_refl _)
  unfold byp
  by_cases c2 : S.L 1 l = 2
  · rw [if_pos c2]
    rcases hl with ⟨h1, h2, h3, h4⟩ | ⟨h1, h2, h3, h4⟩ | ⟨h1, h2, h3, h4⟩ | ⟨h1, h2, h3, h4⟩ | ⟨h1, h2, h3, h4⟩
    · omega
    · omega
    · exact Or.inr h2
    · omega
    · omega
  · rw [if_neg c2]
    have src : S.L 1 l = 4 ∨ S.L 1 l = 5 → okLR l (S.L 2 l) := by
      intro c
      rcases hl with ⟨h1, h2, h3, h4⟩ | ⟨h1, h2, h3, h4⟩ | ⟨h1, h2, h3, h4⟩ | ⟨h1, h2, h3, h4⟩ | ⟨h1, h2, h3, h4⟩
      · omega
      · omega
      · exact h2
      · omega
      · omega
    have two : okLR l (S.L 2 l) → S.L 1 (S.L 2 l).toNat = 3 → okLR l (S.L 2 (S.L 2 l).toNat) ∧ okLR l (S.L 3 (S.L 2 l).toNat) := by
      intro hs c3
      have h1' := hs.1
      have h2' := hs.2
      rcases h (S.L 2 l).toNat (by omega) with ⟨h1, h2, h3, h4⟩ | ⟨h1, h2, h3, h4⟩ | ⟨h1, h2, h3, h4⟩ | ⟨h1, h2, h3, h4⟩ | ⟨h1, h2, h3, h4⟩
      · omega
      · have a1 := h2.1
        have a2 := h2.2
        have b1 := h3.1
        have b2 := h3.2
        exact ⟨⟨a1, by omega⟩, ⟨b1, by omega⟩⟩
      · omega
      · omega
      · omega
    by_cases c4 : S.L 1 l = 4 ∧ S.L 1 (S.L 2 l).toNat = 3
    · rw [if_pos c4]
      exact Or.inr (two (src (Or.inl c4.1)) c4.2).1
    · rw [if_neg c4]
      by_cases c5 : S.L 1 l = 5 ∧ S.L 1 (S.L 2 l).toNat = 3
      · rw [if_pos c5]
        exact Or.inr (two (src (Or.inr c5.1)) c5.2).2
      · rw [if_neg c5]
        exact Or.inl rfl
theorem okRef.src {S : aS} {l : Nat} (hl : okRef S l) (c : S.L 1 l = 4 ∨ S.L 1 l = 5) : okLR l (S.L 2 l) := by
  rcases hl with ⟨h1, h2, h3, h4⟩ | ⟨h1, h2, h3, h4⟩ | ⟨h1, h2, h3, h4⟩ | ⟨h1, h2, h3, h4⟩ | ⟨h1, h2, h3, h4⟩
  · omega
  · omega
  · exact h2
  · omega
  · omega
section
variable {G : xG} {d : Nat} {μ : xM} {Q : xP} {S : aS} {H : List aS} {K : Option aS} {T : aT}
theorem by_ok {l : Int32} {k : Nat} (hr : repP μ 0 S) (h48 : S.nl ≤ 48) (hok : okRef S k) (hl : l.toInt = k) (hk : k < S.nl) (h : ∀ x : Int32, x.toInt = byp S k → Q (some (vI x)) μ) : MW G (d + 2) mX4_bypassOf [vR (3, 0, 0), vI l] μ Q := by
  have e2 : (2 : Int32).toInt = 2 := rfl
  have e3 : (3 : Int32).toInt = 3 := rfl
  have e4 : (4 : Int32).toInt = 4 := rfl
  have e5 : (5 : Int32).toInt = 5 := rfl
  refine wX4_bypassOf (c_ru hr h48 hl hk fun x hx => c_r0 hr h48 hl hk fun y hy => xif_c (fun c2 => h y ?_) fun c2 => xif_c (fun c4 => ?_) fun c4 => xif_c (fun c5 => ?_) fun c5 => h _ ?_)
  · rw [ti_eq, hx, e2] at c2
    rw [byp, if_pos c2, hy]
  · rw [ti_eq, hx, e2] at c2
    rw [ti_eq, hx, e4] at c4
    have hs := hok.src (Or.inl c4)
    have hs1 := hs.1
    have hs2 := hs.2
    have hyk : y.toInt = ((S.L 2 k).toNat : Nat) := by rw [hy]; omega
    refine c_ru hr h48 hyk (by omega) fun z hz => xif_c (fun c3 => c_r0 hr h48 hyk (by omega) fun w hw => h w ?_) fun c3 => xif_f (by rw [ti_eq, hx, e5]; omega) (h _ ?_)
    · rw [ti_eq, hz, e3] at c3
      rw [byp, if_neg c2, if_pos ⟨c4, c3⟩, hw]
    · rw [ti_eq, hz, e3] at c3
      rw [byp, if_neg c2, if_neg (fun q => c3 q.2), if_neg (fun q => c3 q.2)]
      rfl
  · rw [ti_eq, hx, e2] at c2
    rw [ti_eq, hx, e4] at c4
    rw [ti_eq, hx, e5] at c5
    have hs := hok.src (Or.inr c5)
    have hs1 := hs.1
    have hs2 := hs.2
    have hyk : y.toInt = ((S.L 2 k).toNat : Nat) := by rw [hy]; omega
    refine c_ru hr h48 hyk (by omega) fun z hz => xif_c (fun c3 => c_r1 hr h48 hyk (by omega) fun w hw => h w ?_) fun c3 => h _ ?_
    · rw [ti_eq, hz, e3] at c3
      rw [byp, if_neg c2, if_neg (fun q => c4 q.1), if_pos ⟨c5, c3⟩, hw]
    · rw [ti_eq, hz, e3] at c3
      rw [byp, if_neg c2, if_neg (fun q => c3 q.2), if_neg (fun q => c3 q.2)]
      rfl
  · rw [ti_eq, hx, e2] at c2
    rw [ti_eq, hx, e4] at c4
    rw [ti_eq, hx, e5] at c5
    rw [byp, if_neg c2, if_neg (fun q => c4 q.1), if_neg (fun q => c5 q.1)]
    rfl
theorem m_by {l : Int32} {k : Nat} (hr : repR (μ (1, 0, 20)) S) (h48 : S.nl ≤ 48) (hok : okRef S k) (hl : l.toInt = k) (hk : k < S.nl) (h : ∀ x : Int32, x.toInt = byp S k → Q (some (vI x)) μ) : MW G (d + 2) mX9_bypassOf [vR (9, 0, 0), vI l] μ Q := by
  have e2 : (2 : Int32).toInt = 2 := rfl
  have e3 : (3 : Int32).toInt = 3 := rfl
  have e4 : (4 : Int32).toInt = 4 := rfl
  have e5 : (5 : Int32).toInt = 5 := rfl
  refine wX9_bypassOf (m_ru hr h48 hl hk fun x hx => m_ref hr h48 hl hk l0 (by omega) fun y hy => xif_c (fun c2 => h y ?_) fun c2 => xif_c (fun c4 => ?_) fun c4 => xif_c (fun c5 => ?_) fun c5 => h _ ?_)
  · rw [ti_eq, hx, e2] at c2
    rw [byp, if_pos c2, hy]
  · rw [ti_eq, hx, e2] at c2
    rw [ti_eq, hx, e4] at c4
    have hs := hok.src (Or.inl c4)
    have hs1 := hs.1
    have hs2 := hs.2
    have hyk : y.toInt = ((S.L 2 k).toNat : Nat) := by rw [hy]; show S.L 2 k = _; omega
    refine m_ru hr h48 hyk (by omega) fun z hz => xif_c (fun c3 => xif_t (by rw [ti_eq, hx, e4]; exact c4) (m_ref hr h48 hyk (by omega) l0 (by omega) fun w hw => h w ?_)) fun c3 => h _ ?_
    · rw [ti_eq, hz, e3] at c3
      rw [byp, if_neg c2, if_pos ⟨c4, c3⟩, hw]
    · rw [ti_eq, hz, e3] at c3
      rw [byp, if_neg c2, if_neg (fun q => c3 q.2), if_neg (fun q => c3 q.2)]
      rfl
  · rw [ti_eq, hx, e2] at c2
    rw [ti_eq, hx, e4] at c4
    rw [ti_eq, hx, e5] at c5
    have hs := hok.src (Or.inr c5)
    have hs1 := hs.1
    have hs2 := hs.2
    have hyk : y.toInt = ((S.L 2 k).toNat : Nat) := by rw [hy]; show S.L 2 k = _; omega
    refine m_ru hr h48 hyk (by omega) fun z hz => xif_c (fun c3 => xif_f (by rw [ti_eq, hx, e4]; exact c4) (m_ref hr h48 hyk (by omega) l1 (by omega) fun w hw => h w ?_)) fun c3 => h _ ?_
    · rw [ti_eq, hz, e3] at c3
      rw [byp, if_neg c2, if_neg (fun q => c4 q.1), if_pos ⟨c5, c3⟩, hw]
    · rw [ti_eq, hz, e3] at c3
      rw [byp, if_neg c2, if_neg (fun q => c3 q.2), if_neg (fun q => c3 q.2)]
      rfl
  · rw [ti_eq, hx, e2] at c2
    rw [ti_eq, hx, e4] at c4
    rw [ti_eq, hx, e5] at c5
    rw [byp, if_neg c2, if_neg (fun q => c4 q.1), if_neg (fun q => c5 q.1)]
    rfl
theorem op_lines (ok : okO ((0 : Int), S, H, K, T)) : ∃ o : aO, cOp G mX8_lines [] S H K T o ∧ mOp G mX9_lines [] S H K T o ∧ okO o := by
  refine ⟨(S.nl, S, H, K, T), ?_, ?_, ok⟩
  · intro μ Q hc h
    exact wX8_lines (h _ _ hc.1.2.1 frC.rf hc)
  · intro μ Q hc h
    exact wX9_lines ⟨ti_in l1 (by omega), h _ _ hc.1.2.1 frM.rf hc⟩
theorem op_boxes (ok : okO ((0 : Int), S, H, K, T)) : ∃ o : aO, cOp G mX8_boxes [] S H K T o ∧ mOp G mX9_boxes [] S H K T o ∧ okO o := by
  refine ⟨(S.nb, S, H, K, T), ?_, ?_, ok⟩
  · intro μ Q hc h
    exact wX8_boxes (h _ _ hc.1.2.2.1 frC.rf hc)
  · intro μ Q hc h
    exact wX9_boxes ⟨ti_in l2 (by omega), h _ _ hc.1.2.2.1 frM.rf hc⟩
theorem op_line (a p : Int32) (ok : okO ((0 : Int), S, H, K, T)) : ∃ o : aO, cOp G mX8_line [vI a, vI p] S H K T o ∧ mOp G mX9_line [vI a, vI p] S H K T o ∧ okO o := by
  have hI : Inv S := ok.1
  have h48 := hI.2.1
  have hb48 := hI.bd.2.2
  obtain ⟨dp, h7⟩ := hI.2.2.2.2.2.2.1
  refine ⟨(cif (vL' S a.toInt) (vline S dp a.toInt.toNat p) (-1), S, H, K, T), ?_, ?_, ok⟩
  · intro μ Q hc h
    have hP := hc.1.2
    refine wX8_line (hasL_ok hP (fun k h1 h2 => xif_f (by decide) ?_) fun z => xif_t rfl (h _ _ (by rw [cif_f z]; rfl) frC.rf hc))
    have hk : a.toInt.toNat = k := by omega
    have hv : vL' S a.toInt := ⟨by omega, by omega⟩
    rw [cif_t hv, hk] at h
    have hX := hI.home h2
    refine ⟨fun z => c_lf hP h48 h1 h2 fun x hx => h x μ ?_ frC.rf hc, fun n0 => ⟨fun z => c_ru hP h48 h1 h2 fun x hx => h x μ ?_ frC.rf hc, fun n1 => ⟨fun z => c_ho hP h48 h1 h2 fun x hx => h x μ ?_ frC.rf hc, fun n2 => ⟨fun z => c_ho hP h48 h1 h2 fun x hx => nest_ok hP hb48 h7 (by rw [hx]; exact hX) fun y hy => h y μ ?_ frC.rf hc, fun n3 => ⟨fun z => avL_ok hP hI h1 h2 (fun q => xif_f (by decide) (h _ μ ?_ frC.rf hc)) (fun q => xif_t rfl (h _ μ ?_ frC.rf hc)), fun n4 => ⟨fun z => users_ok hP hI h1 h2 fun x hx => h x μ ?_ frC.rf hc, fun n5 => h _ μ ?_ frC.rf hc⟩⟩⟩⟩⟩⟩
    · rw [vline, cif_t z]; exact hx
    · rw [vline, cif_f n0, cif_t z]; exact hx
    · rw [vline, cif_f n0, cif_f n1, cif_t z]; exact hx
    · rw [vline, cif_f n0, cif_f n1, cif_f n2, cif_t z, ← hx]; exact hy
    · rw [vline, cif_f n0, cif_f n1, cif_f n2, cif_f n3, cif_t z, cif_t q]; rfl
    · rw [vline, cif_f n0, cif_f n1, cif_f n2, cif_f n3, cif_t z, cif_f q]; rfl
    · rw [vline, cif_f n0, cif_f n1, cif_f n2, cif_f n3, cif_f n4, cif_t z]; exact hx
    · rw [vline, cif_f n0, cif_f n1, cif_f n2, cif_f n3, cif_f n4, cif_f n5]; rfl
  · intro μ Q hc h
    have hR := hc.1
    refine wX9_line (m_isL hR (fun k h1 h2 => xif_f (by decide) ?_) fun z => xif_t rfl (h _ _ (by rw [cif_f z]; rfl) frM.rf hc))
    have hk : a.toInt.toNat = k := by omega
    have hv : vL' S a.toInt := ⟨by omega, by omega⟩
    rw [cif_t hv, hk] at h
    refine ⟨fun z => m_lf hR h48 h1 h2 fun x hx => h x μ ?_ frM.rf hc, fun n0 => ⟨fun z => m_ru hR h48 h1 h2 fun x hx => h x μ ?_ frM.rf hc, fun n1 => ⟨fun z => m_ho hR h48 h1 h2 fun x hx => h x μ ?_ frM.rf hc, fun n2 => ⟨fun z => m_depth hR hI h7 h1 h2 fun y hy => h y μ ?_ frM.rf hc, fun n3 => ⟨fun z => m_avL hR hI h1 h2 (fun q => xif_f (by decide) (h _ μ ?_ frM.rf hc)) (fun q => xif_t rfl (h _ μ ?_ frM.rf hc)), fun n4 => ⟨fun z => m_users hR hI h1 h2 fun x hx => h x μ ?_ frM.rf hc, fun n5 => h _ μ ?_ frM.rf hc⟩⟩⟩⟩⟩⟩
    · rw [vline, cif_t z]; exact hx
    · rw [vline, cif_f n0, cif_t z]; exact hx
    · rw [vline, cif_f n0, cif_f n1, cif_t z]; exact hx
    · rw [vline, cif_f n0, cif_f n1, cif_f n2, cif_t z]; exact hy
    · rw [vline, cif_f n0, cif_f n1, cif_f n2, cif_f n3, cif_t z, cif_t q]; rfl
    · rw [vline, cif_f n0, cif_f n1, cif_f n2, cif_f n3, cif_t z, cif_f q]; rfl
    · rw [vline, cif_f n0, cif_f n1, cif_f n2, cif_f n3, cif_f n4, cif_t z]; exact hx
    · rw [vline, cif_f n0, cif_f n1, cif_f n2, cif_f n3, cif_f n4, cif_f n5]; rfl
theorem op_box (a p : Int32) (ok : okO ((0 : Int), S, H, K, T)) : ∃ o : aO, cOp G mX8_box [vI a, vI p] S H K T o ∧ mOp G mX9_box [vI a, vI p] S H K T o ∧ okO o := by
  have hI : Inv S := ok.1
  have hb48 := hI.bd.2.2
  refine ⟨(cif (vB S a.toInt) (vbox S a.toInt.toNat p) (-1), S, H, K, T), ?_, ?_, ok⟩
  · intro μ Q hc h
    have hP := hc.1.2
    refine wX8_box (hasB_ok hP (fun k h1 h2 => xif_f (by decide) ?_) fun z => xif_t rfl (h _ _ (by rw [cif_f z]; rfl) frC.rf hc))
    have hk : a.toInt.toNat = k := by omega
    have hv : vB S a.toInt := ⟨by omega, by omega⟩
    rw [cif_t hv, hk] at h
    refine ⟨fun z => c_st hP hb48 h1 h2 fun x hx => h x μ ?_ frC.rf hc, fun n0 => ⟨fun z => c_en hP hb48 h1 h2 fun x hx => h x μ ?_ frC.rf hc, fun n1 => ⟨fun z => c_pa hP hb48 h1 h2 fun x hx => h x μ ?_ frC.rf hc, fun n2 => ⟨fun z => avB_ok hP hI h1 h2 (fun q => xif_f (by decide) (h _ μ ?_ frC.rf hc)) (fun q => xif_t rfl (h _ μ ?_ frC.rf hc)), fun n3 => h _ μ ?_ frC.rf hc⟩⟩⟩⟩
    · rw [vbox, cif_t z]; exact hx
    · rw [vbox, cif_f n0, cif_t z]; exact hx
    · rw [vbox, cif_f n0, cif_f n1, cif_t z]; exact hx
    · rw [vbox, cif_f n0, cif_f n1, cif_f n2, cif_t z, cif_t q]; rfl
    · rw [vbox, cif_f n0, cif_f n1, cif_f n2, cif_t z, cif_f q]; rfl
    · rw [vbox, cif_f n0, cif_f n1, cif_f n2, cif_f n3]; rfl
  · intro μ Q hc h
    have hR := hc.1
    refine wX9_box (m_isB hR (fun k h1 h2 => xif_f (by decide) ?_) fun z => xif_t rfl (h _ _ (by rw [cif_f z]; rfl) frM.rf hc))
    have hk : a.toInt.toNat = k := by omega
    have hv : vB S a.toInt := ⟨by omega, by omega⟩
    rw [cif_t hv, hk] at h
    refine ⟨fun z => m_st hR hb48 h1 h2 fun x hx => h x μ ?_ frM.rf hc, fun n0 => ⟨fun z => m_en hR hb48 h1 h2 fun x hx => h x μ ?_ frM.rf hc, fun n1 => ⟨fun z => m_pa hR hb48 h1 h2 fun x hx => h x μ ?_ frM.rf hc, fun n2 => ⟨fun z => m_avB hR hI h1 h2 (fun q => xif_f (by decide) (h _ μ ?_ frM.rf hc)) (fun q => xif_t rfl (h _ μ ?_ frM.rf hc)), fun n3 => h _ μ ?_ frM.rf hc⟩⟩⟩⟩
    · rw [vbox, cif_t z]; exact hx
    · rw [vbox, cif_f n0, cif_t z]; exact hx
    · rw [vbox, cif_f n0, cif_f n1, cif_t z]; exact hx
    · rw [vbox, cif_f n0, cif_f n1, cif_f n2, cif_t z, cif_t q]; rfl
    · rw [vbox, cif_f n0, cif_f n1, cif_f n2, cif_t z, cif_f q]; rfl
    · rw [vbox, cif_f n0, cif_f n1, cif_f n2, cif_f n3]; rfl
theorem refAt_out {l x : Int32} (hi : ¬ (0 ≤ x.toInt ∧ x.toInt ≤ 2)) (h : Q (some (vI (-6))) μ) : MW G (d + 1) mX4_referenceAt [vR (3, 0, 0), vI l, vI x] μ Q := by
  refine wX4_referenceAt ⟨fun z => ?_, fun n0 => ⟨fun z => ?_, fun n1 => ⟨fun z => ?_, fun n2 => h⟩⟩⟩
  all_goals exact absurd (by rw [z]; decide) hi
theorem op_reference (a p : Int32) (ok : okO ((0 : Int), S, H, K, T)) : ∃ o : aO, cOp G mX8_reference [vI a, vI p] S H K T o ∧ mOp G mX9_reference [vI a, vI p] S H K T o ∧ okO o := by
  have hI : Inv S := ok.1
  have h48 := hI.2.1
  have e2 : (2 : Int32).toInt = 2 := rfl
  refine ⟨(cif (vL' S a.toInt) (vref S a.toInt.toNat p.toInt) (-1), S, H, K, T), ?_, ?_, ok⟩
  · intro μ Q hc h
    have hP := hc.1.2
    refine wX8_reference (hasL_ok hP (fun k h1 h2 => xif_f (by decide) ?_) fun z => xif_t rfl (h _ _ (by rw [cif_f z]; rfl) frC.rf hc))
    have hk : a.toInt.toNat = k := by omega
    have hv : vL' S a.toInt := ⟨by omega, by omega⟩
    rw [cif_t hv, hk] at h
    by_cases hp : 0 ≤ p.toInt ∧ p.toInt ≤ 2
    · have hpk : p.toInt = (p.toInt.toNat : Nat) := by omega
      refine refAt_ok hP hI h1 h2 hpk (by omega) fun y hy => xif_c (fun c => h _ μ ?_ frC.rf hc) (fun c => h _ μ ?_ frC.rf hc)
      · rw [ti_eq, hy, ti_litm6] at c
        rw [vref, if_pos hp, if_pos c]; rfl
      · rw [ti_eq, hy, ti_litm6] at c
        rw [vref, if_pos hp, if_neg c]; exact hy
    · refine refAt_out hp (xif_t rfl (h _ μ ?_ frC.rf hc))
      rw [vref, if_neg hp]; rfl
  · intro μ Q hc h
    have hR := hc.1
    refine wX9_reference (m_isL hR (fun k h1 h2 => xif_f (by decide) ?_) fun z => xif_t rfl (h _ _ (by rw [cif_f z]; rfl) frM.rf hc))
    have hk : a.toInt.toNat = k := by omega
    have hv : vL' S a.toInt := ⟨by omega, by omega⟩
    rw [cif_t hv, hk] at h
    refine in_ok (fun z1 z2 => xif_f (by decide) ?_) (fun z => xif_t rfl (h _ μ ?_ frM.rf hc))
    · rw [ti_lit0] at z1
      rw [e2] at z2
      have hp : 0 ≤ p.toInt ∧ p.toInt ≤ 2 := ⟨z1, z2⟩
      have hpk : p.toInt = (p.toInt.toNat : Nat) := by omega
      refine m_ref hR h48 h1 h2 hpk (by omega) fun y hy => xif_c (fun c => h _ μ ?_ frM.rf hc) (fun c => m_ref hR h48 h1 h2 hpk (by omega) fun w hw => h _ μ ?_ frM.rf hc)
      · rw [ti_eq, hy, ti_litm6] at c
        rw [vref, if_pos hp, if_pos c]; rfl
      · rw [ti_eq, hy, ti_litm6] at c
        rw [vref, if_pos hp, if_neg c]; exact hw
    · rw [ti_lit0, e2] at z
      rw [vref, if_neg z]; rfl
theorem cdep_ok {dp : Nat → Nat} (hc : cS μ S H K T) (hI : Inv S) (h7 : ∀ b, b < S.nb → okB S dp b) (h : ∀ x : Int32, x.toInt = dpI dp S.inn → Q (some (vI x)) μ) : MW G (d + 3) mX8_depth [vR (8, 0, 0)] μ Q := by
  have hP := hc.1.2
  refine wX8_depth (nest_ok hP hI.bd.2.2 h7 ?_ fun y hy => h y ?_)
  · rw [hP.2.2.1]
    rcases hI.innX with z | ⟨b, z1, z2, z3⟩
    · exact Or.inl z
    · exact Or.inr ⟨by omega, by omega⟩
  · rw [hy, hP.2.2.1]
theorem op_depth (ok : okO ((0 : Int), S, H, K, T)) : ∃ o : aO, cOp G mX8_depth [] S H K T o ∧ mOp G mX9_depth [] S H K T o ∧ okO o := by
  have hI : Inv S := ok.1
  obtain ⟨dp, h7⟩ := hI.2.2.2.2.2.2.1
  refine ⟨(dpI dp S.inn, S, H, K, T), ?_, ?_, ok⟩
  · intro μ Q hc h
    exact cdep_ok hc hI h7 fun y hy => h y μ hy frC.rf hc
  · intro μ Q hc h
    exact wX9_depth (m_open hc.1 hI h7 fun y hy => h y μ hy frM.rf hc)
theorem op_bypass (a : Int32) (ok : okO ((0 : Int), S, H, K, T)) : ∃ o : aO, cOp G mX8_bypass [vI a] S H K T o ∧ mOp G mX9_bypass [vI a] S H K T o ∧ okO o := by
  have hI : Inv S := ok.1
  have h48 := hI.2.1
  refine ⟨(cif (vL' S a.toInt) (byp S a.toInt.toNat) (-1), S, H, K, T), ?_, ?_, ok⟩
  · intro μ Q hc h
    refine wX8_bypass (hasL_ok hc.1.2 (fun k h1 h2 => xif_f (by decide) (by_ok hc.1.2 h48 (hI.2.2.2.2.2.1 k h2).2.2.1 h1 h2 fun x hx => h x μ ?_ frC.rf hc)) fun z => xif_t rfl (h _ _ (by rw [cif_f z]; rfl) frC.rf hc))
    have hk : a.toInt.toNat = k := by omega
    rw [cif_t ⟨by omega, by omega⟩, hk]
    exact hx
  · intro μ Q hc h
    refine wX9_bypass (m_isL hc.1 (fun k h1 h2 => xif_f (by decide) (m_by hc.1 h48 (hI.2.2.2.2.2.1 k h2).2.2.1 h1 h2 fun x hx => h x μ ?_ frM.rf hc)) fun z => xif_t rfl (h _ _ (by rw [cif_f z]; rfl) frM.rf hc))
    have hk : a.toInt.toNat = k := by omega
    rw [cif_t ⟨by omega, by omega⟩, hk]
    exact hx
theorem op_detours (ok : okO ((0 : Int), S, H, K, T)) : ∃ o : aO, cOp G mX8_detours [] S H K T o ∧ mOp G mX9_detours [] S H K T o ∧ okO o := by
  have hI : Inv S := ok.1
  have h48 := hI.2.1
  refine ⟨(cntD S S.nl, S, H, K, T), ?_, ?_, ok⟩
  · intro μ Q hc h
    have hr := hc.1.2
    refine wX8_detours (wX4_countDetours fun Z => ?_)
    refine up_loop (σ := Int32) (fun i x => WS G eX4_countDetours 7 Z _ 4 [vR (3, 0, 0), vI x, vI (nI i)] [] μ) (fun i x => x.toInt = cntD S i) S.nl ?_ ?_ 0 _ (by omega) rfl
    · intro i x hi hx ih
      have ei : (nI i).toInt = i := nI_t (by omega)
      have hu := cntD_le S i
      refine wX4_countDetours_4 (xif_f (by rw [ti_le, hr.1, ei]; omega) (by_ok hr h48 (hI.2.2.2.2.2.1 i hi).2.2.1 ei hi fun y hy => xif_c (fun c => ?_) (fun c => ?_)))
      · rw [nI_1]
        refine ih _ ?_
        rw [ti_eq, hy, ti_litm6] at c
        unfold cntD
        rw [if_pos c, hx]
      · rw [nI_1]
        refine ih _ ?_
        rw [ti_eq, hy, ti_litm6] at c
        unfold cntD
        rw [if_neg c, ti_add (by rw [hx, ti_lit1]; omega) (by rw [hx, ti_lit1]; omega), hx, ti_lit1]
        omega
    · intro x hx
      have ei : (nI S.nl).toInt = S.nl := nI_t (by omega)
      exact wX4_countDetours_4 (xif_t (by rw [ti_le, hr.1, ei]; omega) (h _ μ hx frC.rf hc))
  · intro μ Q hc h
    have hr := hc.1
    refine wX9_detours fun Z => ?_
    refine up_loop (σ := Int32) (fun i x => WS G eX9_detours 8 Z Q 4 [vR (9, 0, 0), vI x, vI (nI i)] [] μ) (fun i x => x.toInt = cntD S i) S.nl ?_ ?_ 0 _ (by omega) rfl
    · intro i x hi hx ih
      have ei : (nI i).toInt = i := nI_t (by omega)
      have hu := cntD_le S i
      refine wX9_detours_4 ⟨ti_in l1 (by omega), xif_f (by rw [ti_le, ti_cl' l1, hr.2.1, ei]; omega) (m_by hr h48 (hI.2.2.2.2.2.1 i hi).2.2.1 ei hi fun y hy => xif_c (fun c => ?_) (fun c => ?_))⟩
      · rw [nI_1]
        refine ih _ ?_
        rw [ti_eq, hy, ti_litm6] at c
        unfold cntD
        rw [if_pos c, ti_add (by rw [hx, ti_lit0]; omega) (by rw [hx, ti_lit0]; omega), hx, ti_lit0]
        omega
      · rw [nI_1]
        refine ih _ ?_
        rw [ti_eq, hy, ti_litm6] at c
        unfold cntD
        rw [if_neg c, ti_add (by rw [hx, ti_lit1]; omega) (by rw [hx, ti_lit1]; omega), hx, ti_lit1]
        omega
    · intro x hx
      have ei : (nI S.nl).toInt = S.nl := nI_t (by omega)
      exact wX9_detours_4 ⟨ti_in l1 (by omega), xif_t (by rw [ti_le, ti_cl' l1, hr.2.1, ei]; omega) (h _ μ hx frM.rf hc)⟩
/-- the same for a call that answers a long -/
def simL (G : xG) (D1 D2 : xD) (args : List xV) : Prop := ∀ μ, SIM μ → MW G 8 D1 (vR (8, 0, 0) :: args) μ fun r μ1 => ∃ x : Int64, r = some (vL x) ∧ MW G 8 D2 (vR (9, 0, 0) :: args) μ1 fun r' μ2 => r' = some (vL x) ∧ SIM μ2
theorem op_needs (a : Int32) : simL G mX8_needs mX9_needs [vI a] := by
  intro μ hsim
  obtain ⟨S, H, K, T, hI, i2, i3, i4, hc, hm⟩ := id hsim
  refine wX8_needs (hasL_ok hc.1.2 (fun k h1 h2 => xif_f (by decide) (need_ok hc.1.2 hI h1 h2 fun y hy => ⟨y, rfl, ?_⟩)) fun z => xif_t rfl ⟨-1, rfl, ?_⟩)
  · refine wX9_needs (m_isL hm.1 (fun k' h1' h2' => xif_f (by decide) (m_need hm.1 hI h1 h2 fun w hw => ⟨?_, hsim⟩)) fun z => absurd ⟨by omega, by omega⟩ z)
    have : w = y := hb_ext fun i _ => by rw [hw, hy]
    rw [this]
  · exact wX9_needs (m_isL hm.1 (fun k' h1' h2' => absurd ⟨by omega, by omega⟩ z) fun _ => xif_t rfl ⟨rfl, hsim⟩)
end
