/-! read: both sides -/
section
variable {G : xG} {d : Nat} {μ : xM} {Q : xP} {S : aS} {H : List aS} {K : Option aS} {T : aT}
theorem ownF7_isC {q : xI} (h : ownF 7 q) : isC q := ownS_isC (Or.inl h)
theorem cS.draft {μ' : xM} (hc : cS μ S H K T) (e : ∀ q, q ≠ (6, 0, 0) → ¬ ownF 7 q → q ≠ (7, 0, 0) → q ≠ (1, 0, 15) → q ≠ (1, 0, 16) → μ' q = μ q) (e6 : μ' (6, 0, 0) 0 = μ (6, 0, 0) 0) : frC μ μ' ∧ cS μ' S H K T := by
  have i7 : isC (7, 0, 0) := ⟨by decide, by decide, by decide, by decide⟩
  have i6 : isC (6, 0, 0) := ⟨by decide, by decide, by decide, by decide⟩
  have i15 : isC (1, 0, 15) := ⟨by decide, by decide, by decide, by decide⟩
  have i16 : isC (1, 0, 16) := ⟨by decide, by decide, by decide, by decide⟩
  refine ⟨fun q hq => e q ?_ (fun z => hq (ownF7_isC z)) ?_ ?_ ?_, hc.scr (fun q hq => e q ?_ ?_ ?_ ?_ ?_) e6⟩
  · rintro rfl; exact hq i6
  · rintro rfl; exact hq i7
  · rintro rfl; exact hq i15
  · rintro rfl; exact hq i16
  all_goals have no : ∀ j, j < 7 → ownS j q → ¬ ownF 7 q := fun j hj h1 h2 => by have := own_apart h1 (Or.inl h2); omega
  all_goals have ne : ∀ j (a b c : Nat), (a = 0 ∨ 4 ≤ a) → ownS j q → q ≠ (a, b, c) := fun j a b c ha h1 => own_ne h1 a b c ha
  · rintro rfl
    rcases hq with z | z | z | z | z
    · exact own_ne z 6 0 0 (by omega) rfl
    · exact own_ne z 6 0 0 (by omega) rfl
    · rcases z with z | ⟨j, h1, h2, h3⟩
      · cases z
      · exact own_ne h3 6 0 0 (by omega) rfl
    · cases z
    · cases z
  · intro hF
    rcases hq with z | z | z | z | z
    · exact no 0 (by omega) z hF
    · exact no 1 (by omega) z hF
    · rcases z with z | ⟨j, h1, h2, h3⟩
      · rw [z] at hF; exact nF7 (by decide) (by decide) hF
      · exact no j h2 h3 hF
    · rw [z] at hF; exact nF7 (by decide) (by decide) hF
    · rw [z] at hF; exact nF7 (by decide) (by decide) hF
  · rintro rfl
    rcases hq with z | z | z | z | z
    · exact own_ne z 7 0 0 (by omega) rfl
    · exact own_ne z 7 0 0 (by omega) rfl
    · rcases z with z | ⟨j, h1, h2, h3⟩
      · cases z
      · exact own_ne h3 7 0 0 (by omega) rfl
    · cases z
    · cases z
  · exact scr12 (by decide) hq
  · exact scr12 (by decide) hq
theorem repR.back {z z' : Nat → Int32} {S2 : aS} (hr : repR z S2) (he : ext S S2) (h0 : (z' 0).toInt = S.nf) (e : ∀ i, i ≠ 0 → z' i = z i) : repR z' S := by
  obtain ⟨a1, a2, a3, a4, a5⟩ := he
  obtain ⟨r1, r2, r3, r4, r5, r6⟩ := hr
  have n1 : S2.nl = S.nl := by show S2.1.2.1 = _; rw [a1]
  have n2 : S2.nb = S.nb := by show S2.1.2.2.1 = _; rw [a1]
  refine ⟨h0, by rw [e 1 (by omega), r2, n1], by rw [e 2 (by omega), r3, n2], fun c hc f hf => ?_, fun c hc l hl => ?_, fun c hc b hb => ?_⟩
  · rw [e _ (by omega), r4 c hc f (by omega), a5 c f hf]
  · rw [e _ (by omega), r5 c hc l (by omega), a3]
  · rw [e _ (by omega), r6 c hc b (by omega), a4]
def rdR (S : aS) (T : aT) : Int × Int × mO := rn T T.1 0 p00 0 (true, S)
def sp_read (S : aS) (H : List aS) (K : Option aS) (T : aT) : aO := if errP T = -6 then (if (rdR S T).2.2.1 = true then ((rdR S T).2.1, (rdR S T).2.2.2, (S :: H).take 5, K, (0, T.2)) else (-4, S, H, K, T)) else (-5, S, H, K, T)
theorem rd_ok (hI : Inv S) : (errP T = -6 → okV (rdR S T).2.2 (rdR S T).2.1) ∧ ext S (rdR S T).2.2.2 := by
  obtain ⟨a, b⟩ := rn_ok (T := T) T.1 0 p00 0 (true, S) (fun _ => ⟨hI, fun z => (by cases z), fun x hx => (by cases hx)⟩)
  exact ⟨fun z => a ((rn_pos _ _ _ _ _ _ rfl rfl rfl).trans z), b⟩
theorem op_read (ok : okO ((0 : Int), S, H, K, T)) : ∃ o : aO, cOp G mX8_read [] S H K T o ∧ mOp G mX9_read [] S H K T o ∧ okO o := by
  have hI : Inv S := ok.1
  have hT : okT T := ok.2.2.2
  obtain ⟨okR, exR⟩ := rd_ok (T := T) hI
  refine ⟨sp_read S H K T, ?_, ?_, ?_⟩
  · intro μ Q hc h
    unfold sp_read at h
    refine wX8_read (c_err (d := 4) hc.2.2.2.1 hc.2.2.2.2 hT fun x μ1 hx e e0 => xif_c (fun c => ?_) (fun c => ?_))
    · rw [ti_eq, hx, ti_litm6] at c
      simp only [if_pos c] at h
      have n6 : ∀ j, ¬ ownF j (6, 0, 0) := fun j z => by
        rcases z with z | z
        · cases z
        · have := z.1; simp at this
      have hr1 : repF μ1 0 S := hc.1.1.keep fun q hq => e q fun z => n6 0 (z ▸ hq)
      refine copyF (by decide) fun μ3 e3 r3 => ?_
      have o3 : ∀ q, ¬ ownF 7 q → q ≠ (6, 0, 0) → μ3 q = μ q := fun q h1 h2 => (e3 q h1).trans (e q h2)
      have e36 : μ3 (6, 0, 0) 0 = μ (6, 0, 0) 0 := by rw [e3 _ (n6 7)]; exact e0
      refine c_build (d := 2) (T := T) (by rw [e36]; exact hc.2.2.2.1) (fun i hi => ?_) hT (r3 S hI.1 hr1) hI c (fun y μ4 a1 a2 a3 a4 a5 => ?_) (fun μ4 a1 a4 => ?_)
      · rw [o3 _ (nF7 (by decide) (by decide)) (by decide)]
        exact hc.2.2.2.2 i hi
      · obtain ⟨f1, f2⟩ := hc.draft (μ' := μ4) (fun q h1 h2 h3 h4 h5 => (a4 q h2 h3 h4 h5).trans (o3 q h2 h1)) (by rw [a4 _ (n6 7) (by decide) (by decide) (by decide)]; exact e36)
        have hd : (rdR S T).2.2.1 = true := a1
        simp only [if_pos hd] at h
        refine xif_t (by rw [ti_le, ti_lit0]; exact a3) (record_ok hI.bd f2.1 f2.2.1 fun μ6 e6 r6 => copyF (by decide) fun μ7 e7 r7 => ?_)
        obtain ⟨k1, k2, k3⟩ := okR c hd
        have k1 : Inv (rdR S T).2.2.2 := k1
        have n7H : ∀ q, ownF 7 q → ¬ ownH q := by
          intro q hq z
          rcases z with z | ⟨j, h1, h2, h3⟩
          · rw [z] at hq; exact nF7 (by decide) (by decide) hq
          · have := own_apart h3 (Or.inl hq); omega
        have rF : repF μ7 0 (rdR S T).2.2.2 := r7 _ k1.1 (a5.keep fun q hq => e6 q (n7H q hq))
        have rP : repP μ7 0 (rdR S T).2.2.2 := by
          obtain ⟨b1, b2, b3, b4, b5⟩ := exR
          have rP0 : repP μ7 0 S := f2.1.2.keep fun q hq => by
            rw [e7 q (fun z => ownF_notP hq z), e6 q (ownH_not0 (Or.inr hq))]
          obtain ⟨r1, r2, r3', r4, r5⟩ := rP0
          refine ⟨?_, ?_, ?_, fun c hc l hl => ?_, fun c hc b hb => ?_⟩
          · rw [r1]; show _ = (((rdR S T).2.2.2.1.2.1 : Nat) : Int); rw [b1]
          · rw [r2]; show _ = (((rdR S T).2.2.2.1.2.2.1 : Nat) : Int); rw [b1]
          · rw [r3']; show _ = (rdR S T).2.2.2.1.2.2.2; rw [b1]
          · have hl : l < (rdR S T).2.2.2.1.2.1 := hl
            rw [b1] at hl
            rw [b3]
            exact r4 c hc l hl
          · have hb : b < (rdR S T).2.2.2.1.2.2.1 := hb
            rw [b1] at hb
            rw [b4]
            exact r5 c hc b hb
        obtain ⟨g1, g2⟩ := f2.upd (μ' := μ7) (S' := (rdR S T).2.2.2) (H' := (S :: H).take 5) ⟨rF, rP⟩ (r6.keep fun q hq => e7 q fun z => ownH_not0 (Or.inl z) hq) (fun q h1 h2 => by rw [e7 q (fun z => h1 (Or.inl z)), e6 q h2])
        obtain ⟨p1, p2⟩ := g2.buf (μ' := xst μ7 (6, 0, 0) 0 0) (T' := (0, T.2)) (fun q h1 h2 => xst_ot h2) (by rw [xst_rd, if_pos ⟨rfl, rfl⟩]; rfl) (fun i hi => absurd hi (Nat.not_lt_zero i))
        exact h y _ a2 (f1.tr (g1.tr p1)) p2
      · obtain ⟨f1, f2⟩ := hc.draft (μ' := μ4) (fun q h1 h2 h3 h4 h5 => (a4 q h2 h3 h4 h5).trans (o3 q h2 h1)) (by rw [a4 _ (n6 7) (by decide) (by decide) (by decide)]; exact e36)
        have hd : ¬ (rdR S T).2.2.1 = true := by
          show ¬ (rn T T.1 0 p00 0 (true, S)).2.2.1 = true
          rw [a1]; decide
        simp only [if_neg hd] at h
        exact xif_f (by decide) (h _ μ4 rfl f1 f2)
    · rw [ti_eq, hx, ti_litm6] at c
      simp only [if_neg c] at h
      obtain ⟨f1, f2⟩ := hc.err e e0
      exact h _ μ1 rfl f1 f2
  · intro μ Q hc h
    unfold sp_read at h
    have n0 : (0 : Int32).toNatClampNeg = 0 := rfl
    refine wX9_read (m_buf (d := 0) (st := (false, S)) hc.2.2.2.1 hc.2.2.2.2 hT rfl hc.1 hI.bd fun x μ1 hx e hm _ => ?_)
    rw [rn_dead] at hm
    have hr1 : repR (μ1 (1, 0, 20)) S := hm.2.2.1
    obtain ⟨f1, f2⟩ := hc.frT e hr1
    refine xif_c (fun c => ⟨ti_in l0 (by omega), ?_⟩) (fun c => ?_)
    · rw [ti_eq, hx, ti_litm6] at c
      simp only [if_pos c] at h
      refine m_buf (d := 0) (st := (true, S)) f2.2.2.2.1 f2.2.2.2.2 hT rfl hr1 hI.bd fun y μ3 hy e3 hm3 hv => ⟨ti_in l0 (by omega), ti_in l0 (by omega), ?_⟩
      have hv := hv c
      rw [n0]
      have hm3 : mM μ3 1 (rdR S T).2.2 := hm3
      obtain ⟨q1, q2, q3, q4⟩ := hm3
      have a17 : xst μ3 (1, 0, 20) 0 (μ1 (1, 0, 20) 0) (9, 0, 0) = μ3 (9, 0, 0) := xst_ot (by decide)
      rw [a17]
      have rb : repR (xst μ3 (1, 0, 20) 0 (μ1 (1, 0, 20) 0) (1, 0, 20)) S := q3.back exR (by rw [xst_rd, if_pos ⟨rfl, rfl⟩]; exact hr1.1) fun i hi => by rw [xst_rd, if_neg (fun z => hi z.2)]
      have e33 : frT μ1 (xst μ3 (1, 0, 20) 0 (μ1 (1, 0, 20) 0)) := ⟨fun q n1 n2 n3 n4 n5 => by rw [xst_ot n1]; exact e3.1 q n1 n2 n3 n4 n5, fun i hi => by rw [a17]; exact e3.2 i hi⟩
      obtain ⟨g1, g2⟩ := f2.frT e33 rb
      by_cases hd : (rdR S T).2.2.1 = true
      · simp only [if_pos hd] at h
        refine xif_t (q1 hd).2 (mrecord_ok hI.bd rb g2.2.1 fun μ5 e5 f5 r5 => ⟨ti_in l0 (by omega), ?_⟩)
        have o9 : ∀ i, i ≠ 6 → xst (xst μ5 (1, 0, 20) 0 (μ3 (1, 0, 20) 0)) (9, 0, 0) 6 0 (9, 0, 0) i = μ5 (9, 0, 0) i := fun i hi => by
          rw [xst_rd, if_neg (fun z => hi z.2), xst_ot (by decide)]
        have ot : ∀ q, q ≠ (9, 0, 0) → q ≠ (1, 0, 20) → xst (xst μ5 (1, 0, 20) 0 (μ3 (1, 0, 20) 0)) (9, 0, 0) 6 0 q = μ5 q := fun q n1 n2 => by rw [xst_ot n1, xst_ot n2]
        obtain ⟨w1, w2, w3, w4, w5⟩ := g2
        refine h _ _ ?_ (f1.tr (g1.tr fun q hq => ?_)) ⟨?_, ?_, ?_, ?_, fun i hi => absurd hi (Nat.not_lt_zero i)⟩
        · rw [o9 16 (by omega), f5 16 (by omega), a17]
          exact hv
        · rw [ot q (zC hq).2.2 (zC hq).1]
          exact e5 q (zC hq).2.1 (zC hq).2.2
        · have ez : ∀ i, xst (xst μ5 (1, 0, 20) 0 (μ3 (1, 0, 20) 0)) (9, 0, 0) 6 0 (1, 0, 20) i = μ3 (1, 0, 20) i := fun i => by
            rw [xst_ot (by decide), xst_rd]
            by_cases hi : i = 0
            · rw [if_pos ⟨rfl, hi⟩, hi]
            · rw [if_neg (fun z => hi z.2), e5 _ (by decide) (by decide), xst_rd, if_neg (fun z => hi z.2)]
          have : xst (xst μ5 (1, 0, 20) 0 (μ3 (1, 0, 20) 0)) (9, 0, 0) 6 0 (1, 0, 20) = μ3 (1, 0, 20) := funext ez
          rw [this]
          exact q3
        · unfold repHM
          rw [o9 2 (by omega), ot (1, 0, 21) (by decide) (by decide)]
          exact r5
        · rw [o9 4 (by omega), f5 4 (by omega), ot (1, 0, 22) (by decide) (by decide), e5 (1, 0, 22) (by decide) (by decide)]
          exact w3
        · rw [xst_rd, if_pos ⟨rfl, rfl⟩]; rfl
      · simp only [if_neg hd] at h
        have hd' : (rdR S T).2.2.1 = false := by simpa using hd
        refine xif_f ?_ (h _ _ rfl (f1.tr g1) g2)
        rcases q2 hd' with z | z
        · exact absurd z (by decide)
        · exact z
    · rw [ti_eq, hx, ti_litm6] at c
      simp only [if_neg c] at h
      exact h _ μ1 rfl f1 f2
  · unfold sp_read
    by_cases c : errP T = -6
    · rw [if_pos c]
      by_cases hd : (rdR S T).2.2.1 = true
      · rw [if_pos hd]
        exact ⟨(okR c hd).1, okO_take ok.1 ok.2.1, ok.2.2.1, Nat.zero_le _, fun i hi => absurd hi (Nat.not_lt_zero i)⟩
      · rw [if_neg hd]; exact ok
    · rw [if_neg c]; exact ok
end
