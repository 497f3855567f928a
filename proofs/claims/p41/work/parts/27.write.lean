/-! writing a line: both sides; the order of a state is kept -/
noncomputable def cif {α : Type} (p : Prop) (a b : α) : α := @ite α p (Classical.propDecidable p) a b
theorem cif_t {α : Type} {p : Prop} {a b : α} (h : p) : cif p a b = a := @if_pos p (Classical.propDecidable p) h α a b
theorem cif_f {α : Type} {p : Prop} {a b : α} (h : ¬ p) : cif p a b = b := @if_neg p (Classical.propDecidable p) h α a b
theorem cif_i {α : Type} {P : α → Prop} {p : Prop} {a b : α} (ha : p → P a) (hb : ¬ p → P b) : P (cif p a b) := by
  by_cases h : p
  · rw [cif_t h]; exact ha h
  · rw [cif_f h]; exact hb h
abbrev aW : Type := Int × aS × List aS
noncomputable def wr (S : aS) (H : List aS) (r f a b c : Int) : aW := cif (S.nl < 48) ((S.nl : Int), addL S f r a b c, (S :: H).take 5) (-4, S, H)
noncomputable def wm (S : aS) (H : List aS) (k l r : Int) (ru a b : Int) : aW := cif (S.nl < 48) (cif (roomS S k l r) ((S.nl : Int), addL (mkS S k l r).2 (mkS S k l r).1 ru a b (-6), (S :: H).take 5) (-4, S, H)) (-4, S, H)
/-- of a result: all is in order -/
def okW (w : aW) : Prop := Inv w.2.1 ∧ ∀ h ∈ w.2.2, Inv h
def okRV (S : aS) (l : Nat) (r a b c : Int) : Prop :=
  ((r = 0 ∨ r = 1) ∧ a = -6 ∧ b = -6 ∧ c = -6) ∨
  ((r = 3 ∨ r = 9 ∨ r = 11) ∧ okLR l a ∧ okLR l b ∧ c = -6) ∨
  ((r = 2 ∨ r = 4 ∨ r = 5 ∨ r = 6 ∨ r = 12 ∨ r = 13) ∧ okLR l a ∧ b = -6 ∧ c = -6) ∨
  (r = 7 ∧ okLR l a ∧ okBR S l b ∧ okBR S l c) ∨
  ((r = 8 ∨ r = 10) ∧ okBR S l a ∧ b = -6 ∧ c = -6)
theorem Inv.innX {S : aS} (h : Inv S) : S.inn = -6 ∨ ∃ b : Nat, S.inn = b ∧ b < S.nb ∧ S.B 1 b = -6 := by
  rw [h.2.2.2.1]
  exact latO_ok S S.nb
theorem Inv_addL {S : aS} {f r a b c : Int} (h : Inv S) (hl : S.nl < 48) (hf : 0 ≤ f ∧ f < S.nf) (hr : okRV S S.nl r a b c) : Inv (addL S f r a b c) := by
  have hX := h.innX
  obtain ⟨h1, h2, h3, h4, h5, h6, ⟨dp, h7⟩, h8⟩ := h
  have old : ∀ k x, x < S.nl → (addL S f r a b c).L k x = S.L k x := fun k x hx => by rw [addL_L, if_neg (by omega)]
  have lat : ∀ n, latO (addL S f r a b c) n = latO S n := latO_cg (S := addL S f r a b c) (S' := S) rfl
  refine ⟨h1, by rw [addL_nl]; omega, by rw [addL_nl]; show S.nb ≤ _; omega, h4.trans (lat _).symm, h5, fun x hx => ?_, ⟨dp, fun y hy => ?_⟩, h8⟩
  · rw [addL_nl] at hx
    by_cases hxn : x = S.nl
    · subst hxn
      have e : ∀ k, (addL S f r a b c).L k S.nl = if k = 0 then f else if k = 1 then r else if k = 2 then a else if k = 3 then b else if k = 4 then c else S.inn := fun k => by rw [addL_L, if_pos rfl]
      refine ⟨by rw [e]; exact hf.1, by rw [e]; exact hf.2, ?_, ?_⟩
      · unfold okRef
        rw [e, e, e, e]
        exact hr
      · rw [e]
        rcases hX with z | ⟨b', z1, z2, z3⟩
        · exact Or.inl z
        · refine Or.inr ?_
          have := (h7 b' z2).2.1
          simp only [z1]
          refine ⟨by simp, (show (b' : Int) < S.nb by omega), ?_, Or.inl z3⟩
          show S.B 0 b' ≤ S.nl
          omega
    · obtain ⟨a1, a2, a3, a4⟩ := h6 x (by omega)
      refine ⟨by rw [old _ _ (by omega)]; exact a1, by rw [old _ _ (by omega)]; exact a2, ?_, by rw [old _ _ (by omega)]; exact a4⟩
      unfold okRef at a3 ⊢
      rw [old _ _ (by omega), old _ _ (by omega), old _ _ (by omega), old _ _ (by omega)]
      exact a3
  · have hy : y < S.nb := hy
    obtain ⟨a1, a2, a3, a4, a5, a6, a7, a8⟩ := h7 y hy
    refine ⟨a1, by rw [addL_nl]; show S.B 0 y < _; omega, ?_, ?_, fun z => (a5 z).trans (lat _).symm, a6, a7, a8⟩
    · rw [show (addL S f r a b c).B = S.B from rfl, old _ _ (by omega)]; exact a3
    · rcases a4 with z | ⟨z1, z2⟩
      · exact Or.inl z
      · exact Or.inr ⟨z1, by rw [addL_nl]; show S.B 1 y < _; omega⟩
theorem okRV_cg {S S' : aS} {l : Nat} {r a b c : Int} (h : okRV S l r a b c) (e1 : S'.B = S.B) (e2 : S'.nb = S.nb) : okRV S' l r a b c := by
  unfold okRV okBR at *
  rw [e1, e2]
  exact h
theorem okW_wr {S : aS} {H : List aS} {r f a b c : Int} (h : okW ((0 : Int), S, H)) (hf : 0 ≤ f ∧ f < S.nf) (hr : okRV S S.nl r a b c) : okW (wr S H r f a b c) := by
  unfold wr
  refine cif_i (P := okW) (fun hl => ⟨Inv_addL h.1 hl hf hr, okO_take h.1 h.2⟩) (fun _ => h)
theorem okW_wm {S : aS} {H : List aS} {k l r ru a b : Int} (h : okW ((0 : Int), S, H)) (hF : S.nf < 60 → okF (addF S k l r) S.nf) (hr : okRV S S.nl ru a b (-6)) : okW (wm S H k l r ru a b) := by
  have hI : Inv S := h.1
  unfold wm
  refine cif_i (P := okW) (fun hl => cif_i (P := okW) (fun hm => ⟨?_, okO_take h.1 h.2⟩) (fun _ => h)) (fun _ => h)
  show Inv (addL (mkS S k l r).2 (mkS S k l r).1 ru a b (-6))
  unfold mkS
  by_cases hc : findS S k l r = -6
  · rw [if_pos hc]
    have hlt : S.nf < 60 := by
      rcases hm with z | z
      · exact z
      · exact absurd hc z
    exact Inv_addL (Inv_add hI hlt (hF hlt)) hl ⟨by show (0 : Int) ≤ S.nf; omega, by rw [addF_nf]; show (S.nf : Int) < _; omega⟩ (okRV_cg hr rfl rfl)
  · rw [if_neg hc]
    refine Inv_addL hI hl ?_ hr
    rcases findS_ok S k l r with z | ⟨f, z1, z2, z3⟩
    · exact absurd z hc
    · show 0 ≤ findS S k l r ∧ _
      rw [z1]
      exact ⟨by omega, (show (f : Int) < S.nf by omega)⟩
section
variable {G : xG} {d : Nat} {μ : xM} {Q : xP} {S : aS} {H : List aS} {K : Option aS} {T : aT}
theorem ownF_notP {j : Nat} {q : xI} (h : ownP j q) : ¬ ownF j q := by
  rintro z
  rcases h with rfl | h
  · rcases z with z | z <;> simp at z
  · rcases z with rfl | z
    · simp at h
    · omega
theorem c_wr {r f a b c : Int32} (hc : cS μ S H K T) (hI : Inv S) (h : ∀ (x : Int32) (μ' : xM), x.toInt = (wr S H r.toInt f.toInt a.toInt b.toInt c.toInt).1 → frC μ μ' → cS μ' (wr S H r.toInt f.toInt a.toInt b.toInt c.toInt).2.1 (wr S H r.toInt f.toInt a.toInt b.toInt c.toInt).2.2 K T → Q (some (vI x)) μ') : MW G (d + 5) mX8_write [vR (8, 0, 0), vI r, vI f, vI a, vI b, vI c] μ Q := by
  have hP := hc.1.2
  unfold wr at h
  refine wX8_write (full_ok hP (fun hl => ?_) (fun hl => ?_))
  · rw [cif_f hl] at h
    exact xif_f (by decide) (h _ μ rfl frC.rf hc)
  · rw [cif_t hl] at h
    refine xif_t rfl (record_ok hI.bd hc.1 hc.2.1 fun μ1 e1 r1 => ?_)
    have hP1 : repP μ1 0 S := hP.keep fun q hq => e1 q (ownH_not0 (Or.inr hq))
    refine addLine_ok hP1 hI.bd hl fun x μ2 hx e2 r2 => ?_
    obtain ⟨f1, f2⟩ := hc.upd (μ' := μ2) (S' := addL S f.toInt r.toInt a.toInt b.toInt c.toInt) (H' := (S :: H).take 5) ⟨(hc.1.1.keep (μ' := μ2) fun q hq => by rw [e2 q (fun z => ownF_notP z hq), e1 q (ownH_not0 (Or.inl hq))]), r2⟩ (r1.keep fun q hq => e2 q fun z => ownH_not0 (Or.inr z) hq) (fun q h1 h2 => by rw [e2 q (fun z => h1 (Or.inr z)), e1 q h2])
    exact h x μ2 hx f1 f2
theorem c_wm {k l r ru a b : Int32} (hc : cS μ S H K T) (hI : Inv S) (h : ∀ (x : Int32) (μ' : xM), x.toInt = (wm S H k.toInt l.toInt r.toInt ru.toInt a.toInt b.toInt).1 → frC μ μ' → cS μ' (wm S H k.toInt l.toInt r.toInt ru.toInt a.toInt b.toInt).2.1 (wm S H k.toInt l.toInt r.toInt ru.toInt a.toInt b.toInt).2.2 K T → Q (some (vI x)) μ') : MW G (d + 5) mX8_writeMade [vR (8, 0, 0), vI ru, vI k, vI l, vI r, vI a, vI b] μ Q := by
  have hP := hc.1.2
  have hF := hc.1.1
  unfold wm at h
  refine wX8_writeMade (full_ok hP (fun hl => ?_) (fun hl => ?_))
  · rw [cif_f hl] at h
    exact xif_f (by decide) (h _ μ rfl frC.rf hc)
  · rw [cif_t hl] at h
    refine xif_t rfl (room_ok hF hI.1 (fun hm => xif_f (by decide) ?_) (fun hm => xif_t rfl ?_))
    · rw [cif_t hm] at h
      refine record_ok hI.bd hc.1 hc.2.1 fun μ1 e1 r1 => ?_
      have hF1 : repF μ1 0 S := hF.keep fun q hq => e1 q (ownH_not0 (Or.inl hq))
      refine make_ok hF1 hI.1 hm fun y μ2 hy e2 r2 => ?_
      have hP2 : repP μ2 0 (mkS S k.toInt l.toInt r.toInt).2 := mkS_P (hP.keep fun q hq => by rw [e2 q (ownF_notP hq), e1 q (ownH_not0 (Or.inr hq))])
      have hnl : (mkS S k.toInt l.toInt r.toInt).2.nl = S.nl := by unfold mkS; split <;> rfl
      have hb2 : bdS (mkS S k.toInt l.toInt r.toInt).2 := by
        obtain ⟨b1, b2, b3⟩ := hI.bd
        unfold mkS
        by_cases hcc : findS S k.toInt l.toInt r.toInt = -6
        · rw [if_pos hcc]
          have hlt : S.nf < 60 := by
            rcases hm with z | z
            · exact z
            · exact absurd hcc z
          exact ⟨by rw [addF_nf]; omega, b2, b3⟩
        · rw [if_neg hcc]; exact ⟨b1, b2, b3⟩
      refine addLine_ok hP2 hb2 (by omega) fun x μ3 hx e3 r3 => ?_
      rw [hy, ti_litm6] at r3
      obtain ⟨f1, f2⟩ := hc.upd (μ' := μ3) (S' := addL (mkS S k.toInt l.toInt r.toInt).2 (mkS S k.toInt l.toInt r.toInt).1 ru.toInt a.toInt b.toInt (-6)) (H' := (S :: H).take 5) ⟨(r2.keep (μ' := μ3) fun q hq => by rw [e3 q (fun z => ownF_notP z hq)]), r3⟩ (r1.keep fun q hq => by rw [e3 q fun z => ownH_not0 (Or.inr z) hq, e2 q fun z => ownH_not0 (Or.inl z) hq]) (fun q h1 h2 => by rw [e3 q (fun z => h1 (Or.inr z)), e2 q (fun z => h1 (Or.inl z)), e1 q h2])
      exact h x μ3 (by rw [hx, hnl]) f1 f2
    · rw [cif_f hm] at h
      exact h _ μ rfl frC.rf hc
theorem zC {q : xI} (h : isC q) : q ≠ (1, 0, 20) ∧ q ≠ (1, 0, 21) ∧ q ≠ (9, 0, 0) := by
  refine ⟨?_, ?_, ?_⟩ <;> rintro rfl
  · exact h.2.2.2 ⟨rfl, by simp⟩
  · exact h.2.2.2 ⟨rfl, by simp⟩
  · exact h.1 rfl
end
