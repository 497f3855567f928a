/-! the law's trim: from where its two rows are made to its end -/
abbrev lvT (l p q r : xV) : List xV := [vR (1, 0, 23), vR (1, 0, 24), vR (1, 0, 25), vR (1, 0, 26), vR (1, 0, 27), vR (1, 0, 28), vR (1, 0, 29), vR (1, 0, 30), vR (1, 0, 31), vR (1, 0, 32), l, vN, vR (1, 0, 33), vR (1, 0, 34), p, q, r, vN, vN]
abbrev lvU (l p q r : xV) : List xV := [vR (1, 0, 23), vR (1, 0, 24), vR (1, 0, 25), vR (1, 0, 26), vR (1, 0, 27), vR (1, 0, 28), vN, vN, vN, vR (1, 0, 32), l, vN, vR (1, 0, 33), vR (1, 0, 34), p, q, r, vN, vN]
abbrev lvN : List xV := [vN, vN, vN, vN, vN, vN, vN, vN, vN, vN, vN, vN, vN, vN, vN, vN, vN, vN, vN]
def TI (μ : xM) (S : aS) (X : Nat → Bool) (i1 i2 : Nat) (g : Nat → Nat) (m : xM) : Prop :=
  m (1, 0, 32) = μ (1, 0, 32) ∧ frM μ m ∧ (∀ c, c < 3 → m (1, 0, 20 + c) = μ (1, 0, 20 + c)) ∧ (∀ j, j < i1 → (m (1, 0, 33) j).toInt = rk X j) ∧ (∀ j, j < i2 → (m (1, 0, 34) j).toInt = rk (yB S X) j) ∧
  (∀ c, c < 3 → ∀ x, x < S.nb → E (m (1, 0, 29 + c) x).toInt (pak (yB S X) (newB S X c) (S.B c) i2 x)) ∧
  (∀ c, c < 6 → ∀ x, x < S.nl → E (m (1, 0, 23 + c) x).toInt (pak X (newL S X c) (S.L c) (g c) x))
section
variable {μ m : xM} {S : aS} {X : Nat → Bool} {i1 i2 : Nat} {g : Nat → Nat}
theorem xst_o {a b k : Nat} {v : Int32} (h : a ≠ b) : xst m (1, 0, b) k v (1, 0, a) = m (1, 0, a) := by
  funext i
  rw [xst_rd, if_neg]
  rintro ⟨z, -⟩
  injection z with _ z
  injection z with _ z
  exact h z
theorem xst_s {b k i : Nat} {v : Int32} : xst m (1, 0, b) k v (1, 0, b) i = if i = k then v else m (1, 0, b) i := by
  rw [xst_rd]
  by_cases h : i = k <;> simp [h]
theorem TI.cg {g' : Nat → Nat} (h : TI μ S X i1 i2 g m) (e : ∀ c, c < 6 → g c = g' c) : TI μ S X i1 i2 g' m := by
  obtain ⟨h1, h2, h3, h4, h5, h6, h7⟩ := h
  exact ⟨h1, h2, h3, h4, h5, h6, fun c hc x hx => by rw [← e c hc]; exact h7 c hc x hx⟩
theorem TI.start (hw : repW μ S) : TI μ S X 0 0 (fun _ => 0) μ := by
  refine ⟨rfl, frM.rf, fun _ _ => rfl, fun j h => absurd h (Nat.not_lt_zero _), fun j h => absurd h (Nat.not_lt_zero _), fun c hc x hx => ?_, fun c hc x hx => ?_⟩
  · rw [pak_0]; exact hw.2.2.2 c hc x hx
  · rw [pak_0]; exact hw.2.2.1 c hc x hx
theorem TI.to {v : Int32} (h : TI μ S X i1 i2 g m) (hv : v.toInt = rk X i1) : TI μ S X (i1 + 1) i2 g (xst m (1, 0, 33) i1 v) := by
  obtain ⟨h1, h2, h3, h4, h5, h6, h7⟩ := h
  refine ⟨by rw [xst_o (by omega)]; exact h1, h2.tr (frM_xst (by omega)), fun c hc => by rw [xst_o (by omega)]; exact h3 c hc, fun j hj => ?_, fun j hj => by rw [xst_o (by omega)]; exact h5 j hj, fun c hc x hx => by rw [xst_o (by omega)]; exact h6 c hc x hx, fun c hc x hx => by rw [xst_o (by omega)]; exact h7 c hc x hx⟩
  rw [xst_s]
  by_cases e : j = i1
  · rw [if_pos e, e]; exact hv
  · rw [if_neg e]; exact h4 j (by omega)
theorem TI.rdB {n : Int32} {i c : Nat} (h : TI μ S X i1 i g m) (hn : n.toInt = i) (hi : i < S.nb) (hc : c < 3) : E (m (1, 0, 29 + c) n.toNatClampNeg).toInt (S.B c i) := by
  have := h.2.2.2.2.2.1 c hc i hi
  rw [pak_hi (Nat.le_refl _)] at this
  rw [ti_cl' hn]; exact this
theorem TI.rdL {n : Int32} {i c : Nat} (h : TI μ S X i1 i2 g m) (hn : n.toInt = i) (hi : i < S.nl) (hc : c < 6) (hg : g c ≤ i) : E (m (1, 0, 23 + c) n.toNatClampNeg).toInt (S.L c i) := by
  have := h.2.2.2.2.2.2 c hc i hi
  rw [pak_hi hg] at this
  rw [ti_cl' hn]; exact this
theorem TI.rdT {n : Int32} {i : Nat} (h : TI μ S X i1 i2 g m) (hn : n.toInt = i) (hi : i < i1) : (m (1, 0, 33) n.toNatClampNeg).toInt = rk X i := by
  rw [ti_cl' hn]; exact h.2.2.2.1 i hi
theorem TI.rdX {n : Int32} {i : Nat} (h : TI μ S X i1 i2 g m) (hn : n.toInt = i) (hi : i < i2) : (m (1, 0, 34) n.toNatClampNeg).toInt = rk (yB S X) i := by
  rw [ti_cl' hn]; exact h.2.2.2.2.1 i hi
/-- a box that goes -/
theorem TI.gone {v : Int32} (h : TI μ S X i1 i2 g m) (hv : v.toInt = rk (yB S X) i2) (hy : ¬ yB S X i2 = true) : TI μ S X i1 (i2 + 1) g (xst m (1, 0, 34) i2 v) := by
  obtain ⟨h1, h2, h3, h4, h5, h6, h7⟩ := h
  refine ⟨by rw [xst_o (by omega)]; exact h1, h2.tr (frM_xst (by omega)), fun c hc => by rw [xst_o (by omega)]; exact h3 c hc, fun j hj => by rw [xst_o (by omega)]; exact h4 j hj, fun j hj => ?_, fun c hc x hx => by rw [xst_o (by omega), pak_n hy]; exact h6 c hc x hx, fun c hc x hx => by rw [xst_o (by omega)]; exact h7 c hc x hx⟩
  rw [xst_s]
  by_cases e : j = i2
  · rw [if_pos e, e]; exact hv
  · rw [if_neg e]; exact h5 j (by omega)
/-- a box that stays -/
theorem TI.stay {v a b c' : Int32} (h : TI μ S X i1 i2 g m) (hv : v.toInt = rk (yB S X) i2) (hy : yB S X i2 = true) (ha : E a.toInt (newB S X 0 i2)) (hb : E b.toInt (newB S X 1 i2)) (hc' : E c'.toInt (newB S X 2 i2)) : TI μ S X i1 (i2 + 1) g (xst (xst (xst (xst m (1, 0, 34) i2 v) (1, 0, 29) (rk (yB S X) i2) a) (1, 0, 30) (rk (yB S X) i2) b) (1, 0, 31) (rk (yB S X) i2) c') := by
  obtain ⟨h1, h2, h3, h4, h5, h6, h7⟩ := h
  have o : ∀ a', a' ≠ 29 → a' ≠ 30 → a' ≠ 31 → a' ≠ 34 → xst (xst (xst (xst m (1, 0, 34) i2 v) (1, 0, 29) (rk (yB S X) i2) a) (1, 0, 30) (rk (yB S X) i2) b) (1, 0, 31) (rk (yB S X) i2) c' (1, 0, a') = m (1, 0, a') := fun a' n1 n2 n3 n4 => by rw [xst_o n3, xst_o n2, xst_o n1, xst_o n4]
  refine ⟨by rw [o 32 (by omega) (by omega) (by omega) (by omega)]; exact h1, h2.tr ((((frM_xst (by omega)).tr (frM_xst (by omega))).tr (frM_xst (by omega))).tr (frM_xst (by omega))), fun c hc => by rw [o _ (by omega) (by omega) (by omega) (by omega)]; exact h3 c hc, fun j hj => by rw [o 33 (by omega) (by omega) (by omega) (by omega)]; exact h4 j hj, fun j hj => ?_, fun c hc x hx => ?_, fun c hc x hx => by rw [o _ (by omega) (by omega) (by omega) (by omega)]; exact h7 c hc x hx⟩
  · rw [xst_o (by omega), xst_o (by omega), xst_o (by omega), xst_s]
    by_cases e : j = i2
    · rw [if_pos e, e]; exact hv
    · rw [if_neg e]; exact h5 j (by omega)
  · rw [pak_s hy]
    have h6 := h6 c hc x hx
    rcases (show c = 0 ∨ c = 1 ∨ c = 2 by omega) with rfl | rfl | rfl
    · show E (xst (xst (xst (xst m (1, 0, 34) i2 v) (1, 0, 29) (rk (yB S X) i2) a) (1, 0, 30) (rk (yB S X) i2) b) (1, 0, 31) (rk (yB S X) i2) c' (1, 0, 29) x).toInt _
      rw [xst_o (by omega), xst_o (by omega), xst_s]
      by_cases e : x = rk (yB S X) i2
      · rw [if_pos e, if_pos e]; exact ha
      · rw [if_neg e, if_neg e, xst_o (by omega)]; exact h6
    · show E (xst (xst (xst (xst m (1, 0, 34) i2 v) (1, 0, 29) (rk (yB S X) i2) a) (1, 0, 30) (rk (yB S X) i2) b) (1, 0, 31) (rk (yB S X) i2) c' (1, 0, 30) x).toInt _
      rw [xst_o (by omega), xst_s]
      by_cases e : x = rk (yB S X) i2
      · rw [if_pos e, if_pos e]; exact hb
      · rw [if_neg e, if_neg e, xst_o (by omega), xst_o (by omega)]; exact h6
    · show E (xst (xst (xst (xst m (1, 0, 34) i2 v) (1, 0, 29) (rk (yB S X) i2) a) (1, 0, 30) (rk (yB S X) i2) b) (1, 0, 31) (rk (yB S X) i2) c' (1, 0, 31) x).toInt _
      rw [xst_s]
      by_cases e : x = rk (yB S X) i2
      · rw [if_pos e, if_pos e]; exact hc'
      · rw [if_neg e, if_neg e, xst_o (by omega), xst_o (by omega), xst_o (by omega)]; exact h6
/-- a line's word, moved -/
theorem TI.setL {v : Int32} {i c : Nat} (h : TI μ S X i1 i2 g m) (hc : c < 6) (hg : g c = i) (hx : X i = true) (hv : E v.toInt (newL S X c i)) : TI μ S X i1 i2 (fun k => if k = c then i + 1 else g k) (xst m (1, 0, 23 + c) (rk X i) v) := by
  obtain ⟨h1, h2, h3, h4, h5, h6, h7⟩ := h
  refine ⟨by rw [xst_o (by omega)]; exact h1, h2.tr (frM_xst (by omega)), fun k hk => by rw [xst_o (by omega)]; exact h3 k hk, fun j hj => by rw [xst_o (by omega)]; exact h4 j hj, fun j hj => by rw [xst_o (by omega)]; exact h5 j hj, fun k hk x hx => by rw [xst_o (by omega)]; exact h6 k hk x hx, fun k hk x hxl => ?_⟩
  show E _ (pak X (newL S X k) (S.L k) (if k = c then i + 1 else g k) x)
  by_cases e : k = c
  · subst e
    have := h7 k hk x hxl
    rw [if_pos rfl, xst_s, pak_s hx]
    by_cases e2 : x = rk X i
    · rw [if_pos e2, if_pos e2]; exact hv
    · rw [if_neg e2, if_neg e2, ← hg]; exact this
  · rw [if_neg e, xst_o (by omega)]; exact h7 k hk x hxl
/-- the end: the rows stand for the trimmed state -/
theorem TI.fin {v w : Int32} (hw : repW μ S) (h : TI μ S X i1 S.nb (fun _ => S.nl) m) (hv : v.toInt = rk X S.nl) (hw2 : w.toInt = rk (yB S X) S.nb) : repW (xst (xst m (1, 0, 32) 1 v) (1, 0, 32) 2 w) (trimS S X) := by
  obtain ⟨h1, h2, h3, h4, h5, h6, h7⟩ := h
  have hl := rk_le X S.nl
  have hb := rk_le (yB S X) S.nb
  refine ⟨⟨?_, ?_, ?_⟩, fun c hc f hf => ?_, fun c hc f hf => ?_, fun c hc f hf => ?_⟩
  · rw [xst_s, if_neg (by omega), xst_s, if_neg (by omega), h1]; exact hw.1.1
  · rw [xst_s, if_neg (by omega), xst_s, if_pos rfl, hv]; rfl
  · rw [xst_s, if_pos rfl, hw2]; rfl
  · rw [xst_o (by omega), xst_o (by omega), h3 c hc]; exact hw.2.1 c hc f hf
  · have hf : f < rk X S.nl := hf
    have := h7 c hc f (by omega)
    unfold pak at this
    rw [if_pos hf] at this
    rw [xst_o (by omega), xst_o (by omega)]
    exact this
  · have hf : f < rk (yB S X) S.nb := hf
    have := h6 c hc f (by omega)
    unfold pak at this
    rw [if_pos hf] at this
    rw [xst_o (by omega), xst_o (by omega)]
    exact this
theorem renE {Z : Nat → Bool} {v : Int} {w : Int32} (h0 : 0 ≤ v) (hw : w.toInt = rk Z v.toNat) : E w.toInt (ren Z v) := by
  unfold ren
  rw [if_neg (by omega), hw]
  exact E.of (by omega)
theorem ren6 {Z : Nat → Bool} : ren Z (-6) = -6 := rfl
end
