/-! undo, save, restore, append, clearText: both sides -/
section
variable {G : xG} {d : Nat} {μ : xM} {Q : xP} {S : aS} {H : List aS} {K : Option aS} {T : aT}
theorem op_undo (ok : okO ((0 : Int), S, H, K, T)) : ∃ o : aO, cOp G mX8_undo [] S H K T o ∧ mOp G mX9_undo [] S H K T o ∧ okO o := by
  cases H with
  | nil =>
    refine ⟨(-3, S, [], K, T), ?_, ?_, ok⟩
    · intro μ Q hc h
      obtain ⟨n, n1, n2, n3, -⟩ := hc.2.1
      exact wX8_undo (xif_t (by rw [ti_eq, n3]; rfl) (h _ μ rfl frC.rf hc))
    · intro μ Q hc h
      have n3 := hc.2.1.1
      exact wX9_undo fun Z => xif_t (by rw [ti_eq, n3]; rfl) (h _ μ rfl frM.rf hc)
  | cons P H =>
    refine ⟨((H.length : Int), P, H, K, T), ?_, ?_, ok.2.1 P (by simp), fun h hh => ok.2.1 h (by simp [hh]), ok.2.2⟩
    · intro μ Q hc h
      obtain ⟨n, n1, n2, n3, -⟩ := id hc.2.1
      refine wX8_undo (xif_f (by rw [ti_eq, n3, ti_lit0, List.length_cons]; omega) (takeBack_ok hc.2.1 fun μ1 e1 r1 r2 => ?_))
      obtain ⟨f1, f2⟩ := hc.upd r1 r2 (fun q h1 h2 => e1 q (fun z => by
        rcases z with z | z
        · exact h2 (Or.inl z)
        · exact h1 z))
      obtain ⟨m, m1, m2, m3, -⟩ := id r2
      exact h _ μ1 m3 f1 f2
    · intro μ Q hc h
      refine mundo_ok hc.2.1 fun x μ1 e1 f1 r1 r2 hx => h x μ1 hx (fun q hq => e1 q (zC hq).1 (zC hq).2.2) (hc.upd r1 r2 (e1 _ (by decide) (by decide)) (e1 _ (by decide) (by decide)) (f1 _ (by decide)) (f1 _ (by decide)))
theorem op_save (ok : okO ((0 : Int), S, H, K, T)) : ∃ o : aO, cOp G mX8_save [] S H K T o ∧ mOp G mX9_save [] S H K T o ∧ okO o := by
  have hI : Inv S := ok.1
  refine ⟨((S.nl : Int), S, H, some S, T), ?_, ?_, ok.1, ok.2.1, fun k hk => ?_, ok.2.2.2⟩
  · intro μ Q hc h
    refine wX8_save (copyS (by decide) fun μ1 e1 r1 => ⟨z11, ?_⟩)
    have o0 : ∀ q, ownS 0 q → xst μ1 (8, 0, 0) 8 1 q = μ q := fun q hq => by
      rw [xst_ot (fun z => own_ne hq 8 0 0 (by omega) z)]
      exact e1 q fun z => by have := own_apart hq z; omega
    have oH : ∀ q, ownH q → xst μ1 (8, 0, 0) 8 1 q = μ q := fun q hq => by
      have n8 : q ≠ (8, 0, 0) := by
        rintro rfl
        rcases hq with z | ⟨j, h1, h2, h3⟩
        · cases z
        · exact own_ne h3 8 0 0 (by omega) rfl
      rw [xst_ot n8]
      exact e1 q fun z => ownH_not1 z hq
    have n14 : ¬ ownS 1 (1, 0, 14) := by
      intro z
      rcases z with (z | z) | (z | z) <;> simp at z
    have n6 : ¬ ownS 1 (6, 0, 0) := fun z => own_ne z 6 0 0 (by omega) rfl
    obtain ⟨h1, h2, h3, h4, h5⟩ := hc
    refine h _ (xst μ1 (8, 0, 0) 8 1) ?_ (fun q hq => ?_) ⟨h1.keep o0, h2.keep oH, ⟨?_, (r1 S hI.bd h1).keep fun q hq => ?_⟩, ?_, ?_⟩
    · rw [o0 (3, 0, 0) (Or.inr (Or.inl rfl))]
      exact h1.2.1
    · have n8 : q ≠ (8, 0, 0) := by
        rintro rfl
        exact hq ⟨by decide, by decide, by decide, by decide⟩
      rw [xst_ot n8]
      exact e1 q fun z => hq (ownS_isC z)
    · rw [xst_rd, if_pos ⟨rfl, rfl⟩]
    · exact xst_ot (fun z => own_ne hq 8 0 0 (by omega) z)
    · rw [xst_ot (by decide), e1 _ n6]
      exact h4
    · rw [xst_ot (by decide), e1 _ n14]
      exact h5
  · intro μ Q hc h
    obtain ⟨h1, h2, h3, h4, h5⟩ := hc
    refine msave_ok hI.bd h1 fun x μ1 e1 f1 f4 r1 hx => h x μ1 hx (fun q hq => e1 q ?_ (zC hq).2.2) ⟨?_, ?_, ⟨f4, r1⟩, ?_, ?_⟩
    · rintro rfl
      exact hq.2.2.2 ⟨rfl, by simp⟩
    · rw [e1 _ (by decide) (by decide)]; exact h1
    · unfold repHM
      rw [f1 2 (by decide), e1 (1, 0, 21) (by decide) (by decide)]
      exact h2
    · rw [f1 6 (by decide)]; exact h4
    · rw [e1 _ (by decide) (by decide)]; exact h5
  · have : S = k := by injection hk
    rw [← this]; exact ok.1
theorem op_restore (ok : okO ((0 : Int), S, H, K, T)) : ∃ o : aO, cOp G mX8_restore [] S H K T o ∧ mOp G mX9_restore [] S H K T o ∧ okO o := by
  have hI : Inv S := ok.1
  cases K with
  | none =>
    refine ⟨(-3, S, H, none, T), ?_, ?_, ok⟩
    · intro μ Q hc h
      have h3 : μ (8, 0, 0) 8 = 0 := hc.2.2.1
      exact wX8_restore (xif_t h3 (h _ μ rfl frC.rf hc))
    · intro μ Q hc h
      have h3 : μ (9, 0, 0) 4 = 0 := hc.2.2.1
      exact wX9_restore fun Z => xif_t h3 (h _ μ rfl frM.rf hc)
  | some k =>
    have hk : Inv k := ok.2.2.1 k rfl
    refine ⟨((k.nl : Int), k, (S :: H).take 5, some k, T), ?_, ?_, hk, okO_take ok.1 ok.2.1, ok.2.2⟩
    · intro μ Q hc h
      obtain ⟨k1, k2⟩ := hc.2.2.1
      refine wX8_restore (xif_f (by rw [k1]; decide) (record_ok hI.bd hc.1 hc.2.1 fun μ1 e1 r1 => copyS (by decide) fun μ2 e2 r2 => ?_))
      have rk := r2 k hk.bd (k2.keep fun q hq => e1 q (ownH_not1 hq))
      obtain ⟨f1, f2⟩ := hc.upd (μ' := μ2) (S' := k) (H' := (S :: H).take 5) rk (r1.keep fun q hq => e2 q fun z => ownH_not0 z hq) (fun q h1 h2 => by rw [e2 q h1, e1 q h2])
      exact h _ μ2 rk.2.1 f1 f2
    · intro μ Q hc h
      obtain ⟨k1, k2⟩ := hc.2.2.1
      refine mrestore_ok hI.bd hc.1 hc.2.1 hk.bd k2 k1 fun x μ1 e1 f1 r1 r2 hx => h x μ1 hx (fun q hq => e1 q (zC hq).1 (zC hq).2.1 (zC hq).2.2) (hc.upd r1 r2 ?_ ?_ ?_ ?_)
      · exact e1 _ (by decide) (by decide) (by decide)
      · exact e1 _ (by decide) (by decide) (by decide)
      · exact f1 _ (by decide)
      · exact f1 _ (by decide)
/-- the buffer alone moves: the class's side -/
theorem cS.buf {μ' : xM} {T' : aT} (h : cS μ S H K T) (e : ∀ q, q ≠ (1, 0, 14) → q ≠ (6, 0, 0) → μ' q = μ q) (h6 : (μ' (6, 0, 0) 0).toInt = T'.1) (h14 : ∀ i, i < T'.1 → (μ' (1, 0, 14) i).toInt = T'.2 i) : frC μ μ' ∧ cS μ' S H K T' := by
  have n14 : ∀ j, ¬ ownS j (1, 0, 14) := by
    intro j z
    rcases z with (z | z) | (z | z) <;> simp at z
  have n6 : ∀ j, ¬ ownS j (6, 0, 0) := fun j z => own_ne z 6 0 0 (by omega) rfl
  have oS : ∀ j q, ownS j q → μ' q = μ q := fun j q hq => e q (fun z => n14 j (z ▸ hq)) (fun z => n6 j (z ▸ hq))
  obtain ⟨h1, h2, h3, h4, h5⟩ := h
  refine ⟨fun q hq => e q (fun z => hq ?_) (fun z => hq ?_), h1.keep (oS 0), h2.keep fun q hq => ?_, ?_, h6, h14⟩
  · rw [z]; exact ⟨by decide, by decide, by decide, by decide⟩
  · rw [z]; exact ⟨by decide, by decide, by decide, by decide⟩
  · rcases hq with z | ⟨j, -, -, z⟩
    · exact e q (by rw [z]; decide) (by rw [z]; decide)
    · exact oS j q z
  · cases K with
    | none => show μ' _ _ = _; rw [e _ (by decide) (by decide)]; exact h3
    | some k => exact ⟨by rw [e _ (by decide) (by decide)]; exact h3.1, h3.2.keep (oS 1)⟩
theorem char_id : ∀ n, n < 128 → vp_nar .char (xi2c (nI n)) = nI n := by decide +kernel
def apT (T : aT) (a : Int) : aT := (T.1 + 1, fun i => if i = T.1 then a else T.2 i)
noncomputable def sp_append (T : aT) (a : Int) : Int × aT := cif (33 ≤ a ∧ a ≤ 126) (cif (T.1 = 70) (-4, T) ((T.1 : Int) + 1, apT T a)) (-2, T)
theorem op_append (a : Int32) (ok : okO ((0 : Int), S, H, K, T)) : ∃ o : aO, cOp G mX8_append [vI a] S H K T o ∧ mOp G mX9_append [vI a] S H K T o ∧ okO o := by
  have hT : okT T := ok.2.2.2
  have e33 : (33 : Int32).toInt = 33 := rfl
  have e126 : (126 : Int32).toInt = 126 := rfl
  have e70 : (70 : Int32).toInt = 70 := rfl
  have hT70 := hT.1
  refine ⟨((sp_append T a.toInt).1, S, H, K, (sp_append T a.toInt).2), ?_, ?_, ok.1, ok.2.1, ok.2.2.1, ?_⟩
  · intro μ Q hc h
    unfold sp_append at h
    have h4 := hc.2.2.2.1
    refine wX8_append (xif_c (fun c1 => ?_) (fun c1 => xif_c (fun c2 => xif_c (fun c3 => ?_) (fun c3 => ?_)) (fun c2 => ?_)))
    · rw [ti_lt, e33] at c1
      rw [cif_f (by omega)] at h
      exact h _ μ rfl frC.rf hc
    · rw [ti_lt, e33] at c1
      rw [ti_le, e126] at c2
      rw [ti_lt, h4, e70] at c3
      rw [cif_t (by omega), cif_f (by omega)] at h
      have ea : (μ (6, 0, 0) 0 + 1).toInt = (T.1 : Int) + 1 := by
        rw [ti_add (by rw [h4, ti_lit1]; omega) (by rw [h4, ti_lit1]; omega), h4, ti_lit1]
      refine wX0_add (set_in h4 (by simp [xlenc]; omega) ?_)
      show Q (some (vI (xst (xst μ (1, 0, 14) T.1 a) (6, 0, 0) 0 (xst μ (1, 0, 14) T.1 a (6, 0, 0) 0 + 1) (6, 0, 0) 0))) (xst (xst μ (1, 0, 14) T.1 a) (6, 0, 0) 0 (xst μ (1, 0, 14) T.1 a (6, 0, 0) 0 + 1))
      rw [xst_ot (show ((6, 0, 0) : xI) ≠ (1, 0, 14) by decide)]
      obtain ⟨f1, f2⟩ := hc.buf (μ' := xst (xst μ (1, 0, 14) T.1 a) (6, 0, 0) 0 (μ (6, 0, 0) 0 + 1)) (T' := apT T a.toInt) (fun q h1 h2 => by rw [xst_ot h2, xst_ot h1]) (by rw [xst_rd, if_pos ⟨rfl, rfl⟩, ea]; rfl) (fun i hi => by
        have hi : i < T.1 + 1 := hi
        rw [xst_ot (show ((1, 0, 14) : xI) ≠ (6, 0, 0) by decide), xst_rd]
        show _ = if i = T.1 then a.toInt else T.2 i
        by_cases hit : i = T.1
        · rw [if_pos ⟨rfl, hit⟩, if_pos hit]
        · rw [if_neg (fun z => hit z.2), if_neg hit]
          exact hc.2.2.2.2 i (by omega))
      refine h _ _ ?_ f1 f2
      rw [xst_rd, if_pos ⟨rfl, rfl⟩, ea]
    · rw [ti_lt, e33] at c1
      rw [ti_le, e126] at c2
      rw [ti_lt, h4, e70] at c3
      rw [cif_t (by omega), cif_t (by omega)] at h
      exact h _ μ rfl frC.rf hc
    · rw [ti_le, e126] at c2
      rw [cif_f (by omega)] at h
      exact h _ μ rfl frC.rf hc
  · intro μ Q hc h
    unfold sp_append at h
    obtain ⟨h1, h2, h3, h4, h5⟩ := id hc
    refine wX9_append (in_ok (fun z1 z2 => xif_f (by decide) (xif_c (fun c3 => ?_) (fun c3 => ⟨ti_in h4 (by rw [ti_eq, h4, e70] at c3; omega), ?_⟩))) (fun z => xif_t rfl ?_))
    · rw [e33] at z1
      rw [e126] at z2
      rw [ti_eq, h4, e70] at c3
      rw [cif_t (by omega), cif_t (by omega)] at h
      exact h _ μ rfl frM.rf hc
    · rw [e33] at z1
      rw [e126] at z2
      rw [ti_eq, h4, e70] at c3
      rw [cif_t (by omega), cif_f (by omega)] at h
      have ea : (μ (9, 0, 0) 6 + 1).toInt = (T.1 : Int) + 1 := by
        rw [ti_add (by rw [h4, ti_lit1]; omega) (by rw [h4, ti_lit1]; omega), h4, ti_lit1]
      have ha : a = nI a.toInt.toNat := of_ti (by omega) (by omega)
      have hn : (vp_nar .char (xi2c a)) = a := by
        rw [ha]
        exact char_id _ (by omega)
      rw [hn, ti_cl' h4, xst_ot (show ((9, 0, 0) : xI) ≠ (11, 0, 0) by decide)]
      have v6 : (xst (xst μ (11, 0, 0) T.1 a) (9, 0, 0) 6 (μ (9, 0, 0) 6 + 1) (9, 0, 0) 6).toInt = ((T.1 + 1 : Nat) : Int) := by
        rw [xst_rd, if_pos ⟨rfl, rfl⟩, ea]
        omega
      have o9 : ∀ i, i ≠ 6 → xst (xst μ (11, 0, 0) T.1 a) (9, 0, 0) 6 (μ (9, 0, 0) 6 + 1) (9, 0, 0) i = μ (9, 0, 0) i := fun i hi => by
        rw [xst_rd, if_neg (fun z => hi z.2), xst_ot (by decide)]
      refine h _ _ ?_ (fun q hq => ?_) ⟨?_, ?_, ?_, v6, fun i hi => ?_⟩
      · exact v6.trans (by omega)
      · rw [xst_ot (zC hq).2.2, xst_ot (fun z => hq.2.1 (by rw [z]))]
      · rw [xst_ot (by decide), xst_ot (by decide)]; exact h1
      · unfold repHM
        rw [o9 2 (by decide), xst_ot (show ((1, 0, 21) : xI) ≠ (9, 0, 0) by decide), xst_ot (show ((1, 0, 21) : xI) ≠ (11, 0, 0) by decide)]
        exact h2
      · cases K with
        | none => show _ = _; rw [o9 4 (by decide)]; exact h3
        | some k => exact ⟨by rw [o9 4 (by decide)]; exact h3.1, by rw [xst_ot (by decide), xst_ot (by decide)]; exact h3.2⟩
      · have hi : i < T.1 + 1 := hi
        rw [xst_ot (show ((11, 0, 0) : xI) ≠ (9, 0, 0) by decide), xst_rd]
        show _ = if i = T.1 then a.toInt else T.2 i
        by_cases hit : i = T.1
        · rw [if_pos ⟨rfl, hit⟩, if_pos hit]
        · rw [if_neg (fun z => hit z.2), if_neg hit]
          exact h5 i (by omega)
    · rw [e33, e126] at z
      rw [cif_f z] at h
      exact h _ μ rfl frM.rf hc
  · show okT (sp_append T a.toInt).2
    unfold sp_append
    refine cif_i (P := fun w : Int × aT => okT w.2) (fun h1 => cif_i (P := fun w : Int × aT => okT w.2) (fun _ => hT) (fun h2 => ?_)) (fun _ => hT)
    refine ⟨by show T.1 + 1 ≤ 70; omega, fun i hi => ?_⟩
    have hi : i < T.1 + 1 := hi
    show 33 ≤ (if i = T.1 then a.toInt else T.2 i) ∧ (if i = T.1 then a.toInt else T.2 i) ≤ 126
    by_cases hit : i = T.1
    · rw [if_pos hit]; exact h1
    · rw [if_neg hit]; exact hT.2 i (by omega)
theorem op_clearText (ok : okO ((0 : Int), S, H, K, T)) : ∃ o : aO, cOp G mX8_clearText [] S H K T o ∧ mOp G mX9_clearText [] S H K T o ∧ okO o := by
  refine ⟨((T.1 : Int), S, H, K, (0, T.2)), ?_, ?_, ok.1, ok.2.1, ok.2.2.1, Nat.zero_le _, fun i hi => absurd hi (Nat.not_lt_zero i)⟩
  · intro μ Q hc h
    obtain ⟨f1, f2⟩ := hc.buf (μ' := xst μ (6, 0, 0) 0 0) (T' := (0, T.2)) (fun q h1 h2 => xst_ot h2) (by rw [xst_rd, if_pos ⟨rfl, rfl⟩]; rfl) (fun i hi => absurd hi (Nat.not_lt_zero i))
    exact wX8_clearText (h _ _ hc.2.2.2.1 f1 f2)
  · intro μ Q hc h
    obtain ⟨h1, h2, h3, h4, h5⟩ := id hc
    have o9 : ∀ i, i ≠ 6 → xst μ (9, 0, 0) 6 0 (9, 0, 0) i = μ (9, 0, 0) i := fun i hi => by
      rw [xst_rd, if_neg (fun z => hi z.2)]
    refine wX9_clearText (h _ _ h4 (fun q hq => xst_ot (zC hq).2.2) ⟨?_, ?_, ?_, ?_, fun i hi => absurd hi (Nat.not_lt_zero i)⟩)
    · rw [xst_ot (by decide)]; exact h1
    · unfold repHM
      rw [o9 2 (by decide), xst_ot (show ((1, 0, 21) : xI) ≠ (9, 0, 0) by decide)]
      exact h2
    · cases K with
      | none => show _ = _; rw [o9 4 (by decide)]; exact h3
      | some k => exact ⟨by rw [o9 4 (by decide)]; exact h3.1, by rw [xst_ot (by decide)]; exact h3.2⟩
    · rw [xst_rd, if_pos ⟨rfl, rfl⟩]; rfl
end
