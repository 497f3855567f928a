/-! premise, repeat, fromTwo, fromOne, toFormula, fromBox, cases: both sides -/
def cG (μ : xM) (K : Option aS) (T : aT) (Q : xP) (w : aW) : Prop := ∀ (x : Int32) (μ' : xM), x.toInt = w.1 → frC μ μ' → cS μ' w.2.1 w.2.2 K T → Q (some (vI x)) μ'
abbrev vF (S : aS) (x : Int) : Prop := 0 ≤ x ∧ x < S.nf
abbrev vL' (S : aS) (x : Int) : Prop := 0 ≤ x ∧ x < S.nl
abbrev vB (S : aS) (x : Int) : Prop := 0 ≤ x ∧ x < S.nb
noncomputable def sp_premise (S : aS) (H : List aS) (f : Int) : aW := cif (vF S f) (cif (S.inn = -6) (wr S H 0 f (-6) (-6) (-6)) (-3, S, H)) (-1, S, H)
noncomputable def sp_repeat (S : aS) (H : List aS) (l : Int) : aW := cif (vL' S l) (cif (avL S l.toNat) (wr S H 2 (S.L 0 l.toNat) l (-6) (-6)) (-3, S, H)) (-1, S, H)
noncomputable def sp_two' (S : aS) (H : List aS) (r a b A B : Int) : aW := cif (S.F 0 A.toNat = (if r = 9 then 5 else 2)) (cif (S.F 1 A.toNat = B) (cif (r = 9) (wr S H 9 (S.F 2 A.toNat) a b (-6)) (wm S H 1 (-6) (-6) 11 a b)) (-3, S, H)) (-3, S, H)
noncomputable def sp_two (S : aS) (H : List aS) (r a b : Int) : aW := cif (avL S a.toNat) (cif (avL S b.toNat) (cif (r = 3) (wm S H 3 (S.L 0 a.toNat) (S.L 0 b.toNat) 3 a b) (sp_two' S H r a b (S.L 0 a.toNat) (S.L 0 b.toNat))) (-3, S, H)) (-3, S, H)
noncomputable def sp_fromTwo (S : aS) (H : List aS) (r a b : Int) : aW := cif (vL' S a) (cif (vL' S b) (cif (r = 3 ∨ r = 9 ∨ r = 11) (sp_two S H r a b) (-2, S, H)) (-1, S, H)) (-1, S, H)
def fits1 (S : aS) (r : Int) (A : Nat) : Prop := (r = 13 ∧ S.F 0 A = 2 ∧ S.F 0 (S.F 1 A).toNat = 2) ∨ (¬ r = 13 ∧ S.F 0 A = 3)
def tkv (S : aS) (r : Int) (A : Nat) : Int := if r = 13 then S.F 1 (S.F 1 A).toNat else if r = 4 then S.F 1 A else S.F 2 A
noncomputable def sp_one (S : aS) (H : List aS) (r l : Int) : aW := cif (avL S l.toNat ∧ fits1 S r (S.L 0 l.toNat).toNat) (wr S H r (tkv S r (S.L 0 l.toNat).toNat) l (-6) (-6)) (-3, S, H)
noncomputable def sp_fromOne (S : aS) (H : List aS) (r l : Int) : aW := cif (vL' S l) (cif (r = 4 ∨ r = 5 ∨ r = 13) (sp_one S H r l) (-2, S, H)) (-1, S, H)
def fitsT (S : aS) (r A f : Int) : Prop := (r = 6 ∧ S.F 0 f.toNat = 4 ∧ (S.F 1 f.toNat = A ∨ S.F 2 f.toNat = A)) ∨ (¬ r = 6 ∧ S.F 0 A.toNat = 1)
noncomputable def sp_toF (S : aS) (H : List aS) (r l f : Int) : aW := cif (avL S l.toNat ∧ fitsT S r (S.L 0 l.toNat) f) (wr S H r f l (-6) (-6)) (-3, S, H)
noncomputable def sp_toFormula (S : aS) (H : List aS) (r l f : Int) : aW := cif (vL' S l) (cif (vF S f) (cif (r = 6 ∨ r = 12) (sp_toF S H r l f) (-2, S, H)) (-1, S, H)) (-1, S, H)
abbrev asm (S : aS) (b : Nat) : Int := S.L 0 (S.B 0 b).toNat
abbrev con (S : aS) (b : Nat) : Int := S.L 0 (S.B 1 b).toNat
noncomputable def sp_box (S : aS) (H : List aS) (r b : Int) : aW := cif (avB S b.toNat) (cif (r = 8) (wm S H 5 (asm S b.toNat) (con S b.toNat) 8 b (-6)) (cif (S.F 0 (con S b.toNat).toNat = 1) (wm S H 2 (asm S b.toNat) (-6) 10 b (-6)) (-3, S, H))) (-3, S, H)
noncomputable def sp_fromBox (S : aS) (H : List aS) (r b : Int) : aW := cif (vB S b) (cif (r = 8 ∨ r = 10) (sp_box S H r b) (-2, S, H)) (-1, S, H)
def fitsC (S : aS) (A : Nat) (a b : Nat) : Prop := S.F 0 A = 4 ∧ S.F 1 A = asm S a ∧ S.F 2 A = asm S b ∧ con S a = con S b
noncomputable def sp_cases (S : aS) (H : List aS) (l a b : Int) : aW := cif (vL' S l) (cif (vB S a) (cif (vB S b) (cif (avL S l.toNat ∧ avB S a.toNat ∧ avB S b.toNat ∧ fitsC S (S.L 0 l.toNat).toNat a.toNat b.toNat) (wr S H 7 (con S a.toNat) l a b) (-3, S, H)) (-1, S, H)) (-1, S, H)) (-1, S, H)
theorem Inv.lf {S : aS} (h : Inv S) {l : Nat} (hl : l < S.nl) : ∃ A : Nat, S.L 0 l = A ∧ A < S.nf := ⟨(S.L 0 l).toNat, by have := (h.2.2.2.2.2.1 l hl).1; omega, by have := (h.2.2.2.2.2.1 l hl).1; have := (h.2.2.2.2.2.1 l hl).2.1; omega⟩
theorem Inv.fl {S : aS} (h : Inv S) {f : Nat} (hf : f < S.nf) (hk : 2 ≤ S.F 0 f) : ∃ A : Nat, S.F 1 f = A ∧ A < f := by
  rcases h.2.2.2.2.1 f hf with z | z | z | z
  · omega
  · omega
  · exact ⟨(S.F 1 f).toNat, by omega, by omega⟩
  · exact ⟨(S.F 1 f).toNat, by omega, by omega⟩
theorem Inv.fr {S : aS} (h : Inv S) {f : Nat} (hf : f < S.nf) (hk : 3 ≤ S.F 0 f) : ∃ A : Nat, S.F 2 f = A ∧ A < f := by
  rcases h.2.2.2.2.1 f hf with z | z | z | z
  · omega
  · omega
  · omega
  · exact ⟨(S.F 2 f).toNat, by omega, by omega⟩
theorem Inv.bs {S : aS} (h : Inv S) {b : Nat} (hb : b < S.nb) : ∃ l : Nat, S.B 0 b = l ∧ l < S.nl := by
  obtain ⟨dp, h7⟩ := h.2.2.2.2.2.2.1
  have := h7 b hb
  exact ⟨(S.B 0 b).toNat, by have := this.1; omega, by have h1 := this.1; have h2 := this.2.1; omega⟩
theorem Inv.be {S : aS} (h : Inv S) {b : Nat} (hb : b < S.nb) (hc : ¬ S.B 1 b = -6) : ∃ l : Nat, S.B 1 b = l ∧ l < S.nl := by
  obtain ⟨dp, h7⟩ := h.2.2.2.2.2.2.1
  obtain ⟨a1, a2, a3, a4, -⟩ := h7 b hb
  rcases a4 with z | z
  · exact absurd z hc
  · exact ⟨(S.B 1 b).toNat, by omega, by omega⟩
section
variable {G : xG} {d : Nat} {μ : xM} {Q : xP} {S : aS} {H : List aS} {K : Option aS} {T : aT}
theorem c_F {c : Nat} {x : Int32} {k : Nat} (hr : repF μ 0 S) (hb : S.nf ≤ 60) (hc : c < 3) (hx : x.toInt = k) (hk : k < S.nf) (h : ∀ y : Int32, y.toInt = S.F c k → Q (some (vI y)) μ) : MW G (d + 1) mX5_get [vR (0, 0, c), vI x] μ Q := by
  refine get_in hx ?_ (h _ (hr.2 c hc k hk))
  rcases (show c = 0 ∨ c = 1 ∨ c = 2 by omega) with rfl | rfl | rfl <;> simp [xlenc] <;> omega
theorem kind_ok {x n : Int32} {k : Nat} (hr : repF μ 0 S) (hb : S.nf ≤ 60) (hx : x.toInt = k) (hk : k < S.nf) (ht : S.F 0 k = n.toInt → Q (some (vI 1)) μ) (hf : ¬ S.F 0 k = n.toInt → Q (some (vI 0)) μ) : MW G (d + 2) mX2_isOfKind [vR (2, 0, 0), vI x, vI n] μ Q := by
  refine wX2_isOfKind (c_F hr hb (by omega) hx hk fun y hy => xif_c (fun c1 => ⟨z11, ht ?_⟩) (fun c1 => ⟨z01, hf ?_⟩))
  · rw [ti_eq, hy] at c1; exact c1
  · rw [ti_eq, hy] at c1; exact c1
theorem c_premise (a : Int32) (hc : cS μ S H K T) (hI : Inv S) (h : cG μ K T Q (sp_premise S H a.toInt)) : MW G 8 mX8_premise [vR (8, 0, 0), vI a] μ Q := by
  unfold sp_premise at h
  refine wX8_premise (has_ok hc.1.1 (fun k h1 h2 => xif_f (by decide) ?_) fun z => xif_t rfl ?_)
  · rw [cif_t ⟨by omega, by omega⟩] at h
    refine xif_c (fun c1 => ?_) (fun c1 => ?_)
    · rw [ti_eq, hc.1.2.2.2.1, ti_litm6] at c1
      rw [cif_t c1] at h
      exact c_wr hc hI h
    · rw [ti_eq, hc.1.2.2.2.1, ti_litm6] at c1
      rw [cif_f c1] at h
      exact h _ μ rfl frC.rf hc
  · rw [cif_f z] at h
    exact h _ μ rfl frC.rf hc
theorem c_repeat (a : Int32) (hc : cS μ S H K T) (hI : Inv S) (h : cG μ K T Q (sp_repeat S H a.toInt)) : MW G 8 mX8_repeat [vR (8, 0, 0), vI a] μ Q := by
  have hP := hc.1.2
  unfold sp_repeat at h
  refine wX8_repeat (hasL_ok hP (fun k h1 h2 => xif_f (by decide) ?_) fun z => xif_t rfl ?_)
  · rw [cif_t ⟨by omega, by omega⟩] at h
    have hk : a.toInt.toNat = k := by omega
    rw [hk] at h
    refine avL_ok hP hI h1 h2 (fun c1 => xif_f (by decide) ?_) (fun c1 => xif_t rfl ?_)
    · rw [cif_t c1] at h
      refine c_lf hP hI.2.1 h1 h2 fun x hx => ?_
      rw [← hx] at h
      exact c_wr hc hI h
    · rw [cif_f c1] at h
      exact h _ μ rfl frC.rf hc
  · rw [cif_f z] at h
    exact h _ μ rfl frC.rf hc
theorem c_fromTwo (r a b : Int32) (hc : cS μ S H K T) (hI : Inv S) (h : cG μ K T Q (sp_fromTwo S H r.toInt a.toInt b.toInt)) : MW G 8 mX8_fromTwo [vR (8, 0, 0), vI r, vI a, vI b] μ Q := by
  have hP := hc.1.2
  have hF := hc.1.1
  have e3 : (3 : Int32).toInt = 3 := rfl
  have e9 : (9 : Int32).toInt = 9 := rfl
  have e11 : (11 : Int32).toInt = 11 := rfl
  have J2 : ∀ (Z : xZ) (n x y : Int32) (A : Nat), x.toInt = A → A < S.nf → n.toInt = (if r.toInt = 9 then 5 else 2) → cG μ K T Q (sp_two' S H r.toInt a.toInt b.toInt x.toInt y.toInt) → WS G eX8_fromTwo 8 Z Q 142 [vR (8, 0, 0), vI r, vI a, vI b, vI x, vI y, vN] [vI n] μ := by
    intro Z n x y A hA hA2 hn h
    unfold sp_two' at h
    have hx : x.toInt.toNat = A := by omega
    rw [hx] at h
    refine wX8_fromTwo_142 (kind_ok hF hI.1 hA hA2 (fun c1 => xif_f (by decide) ?_) (fun c1 => xif_t rfl ?_))
    · rw [hn] at c1
      rw [cif_t c1] at h
      have hge : 2 ≤ S.F 0 A := by rw [c1]; split <;> omega
      refine c_F hF hI.1 (by omega) hA hA2 fun w hw => xif_c (fun c2 => ?_) (fun c2 => ?_)
      · rw [ti_eq, hw] at c2
        rw [cif_t c2] at h
        refine xif_c (fun c3 => ?_) (fun c3 => ?_)
        · rw [ti_eq, e9] at c3
          rw [cif_t c3] at h
          refine c_F hF hI.1 (by omega) hA hA2 fun v hv => ?_
          rw [← hv] at h
          exact c_wr hc hI h
        · rw [ti_eq, e9] at c3
          rw [cif_f c3] at h
          exact c_wm hc hI h
      · rw [ti_eq, hw] at c2
        rw [cif_f c2] at h
        exact h _ μ rfl frC.rf hc
    · rw [hn] at c1
      rw [cif_f c1] at h
      exact h _ μ rfl frC.rf hc
  have J : ∀ (Z : xZ) (i j : Nat), a.toInt = i → i < S.nl → b.toInt = j → j < S.nl → cG μ K T Q (sp_two S H r.toInt a.toInt b.toInt) → WS G eX8_fromTwo 8 Z Q 50 [vR (8, 0, 0), vI r, vI a, vI b, vN, vN, vN] [] μ := by
    intro Z i j ha ha2 hb hb2 h
    unfold sp_two at h
    have hi : a.toInt.toNat = i := by omega
    have hj : b.toInt.toNat = j := by omega
    rw [hi, hj] at h
    refine wX8_fromTwo_50 (avL_ok hP hI ha ha2 (fun c1 => xif_f (by decide) (avL_ok hP hI hb hb2 (fun c2 => xif_f (by decide) ?_) (fun c2 => xif_t rfl ?_))) (fun c1 => xif_t rfl ?_))
    · rw [cif_t c1, cif_t c2] at h
      obtain ⟨A, hA, hA2⟩ := hI.lf ha2
      refine c_lf hP hI.2.1 ha ha2 fun x hx => c_lf hP hI.2.1 hb hb2 fun y hy => xif_c (fun c3 => ?_) (fun c3 => ?_)
      · rw [ti_eq, e3] at c3
        rw [cif_t c3, ← hx, ← hy] at h
        exact c_wm hc hI h
      · rw [ti_eq, e3] at c3
        rw [cif_f c3, ← hx, ← hy] at h
        refine xif_c (fun c4 => J2 Z _ x y A (by rw [hx, hA]) hA2 ?_ h) (fun c4 => J2 Z _ x y A (by rw [hx, hA]) hA2 ?_ h)
        · rw [ti_eq, e9] at c4; rw [if_pos c4]; rfl
        · rw [ti_eq, e9] at c4; rw [if_neg c4]; rfl
    · rw [cif_t c1, cif_f c2] at h
      exact h _ μ rfl frC.rf hc
    · rw [cif_f c1] at h
      exact h _ μ rfl frC.rf hc
  unfold sp_fromTwo at h
  refine wX8_fromTwo fun Z => hasL_ok hP (fun k h1 h2 => xif_f (by decide) (hasL_ok hP (fun k' h3 h4 => xif_f (by decide) ?_) fun z => xif_t rfl ?_)) fun z => xif_t rfl ?_
  · rw [cif_t ⟨by omega, by omega⟩, cif_t ⟨by omega, by omega⟩] at h
    refine xif_c (fun c1 => J Z k k' h1 h2 h3 h4 ?_) (fun c1 => xif_c (fun c2 => J Z k k' h1 h2 h3 h4 ?_) (fun c2 => xif_c (fun c3 => J Z k k' h1 h2 h3 h4 ?_) (fun c3 => ?_)))
    · rw [ti_eq, e3] at c1; rw [cif_t (Or.inl c1)] at h; exact h
    · rw [ti_eq, e9] at c2; rw [cif_t (Or.inr (Or.inl c2))] at h; exact h
    · rw [ti_eq, e11] at c3; rw [cif_t (Or.inr (Or.inr c3))] at h; exact h
    · rw [ti_eq, e3] at c1; rw [ti_eq, e9] at c2; rw [ti_eq, e11] at c3
      rw [cif_f (by omega)] at h
      exact h _ μ rfl frC.rf hc
  · rw [cif_t ⟨by omega, by omega⟩, cif_f z] at h
    exact h _ μ rfl frC.rf hc
  · rw [cif_f z] at h
    exact h _ μ rfl frC.rf hc
theorem okF_n {S : aS} {k a b : Int} (h : (k = 0 ∧ 0 ≤ a ∧ a ≤ 7 ∧ b = -6) ∨ (k = 1 ∧ a = -6 ∧ b = -6) ∨ (k = 2 ∧ 0 ≤ a ∧ a < S.nf ∧ b = -6) ∨ (3 ≤ k ∧ k ≤ 5 ∧ 0 ≤ a ∧ a < S.nf ∧ 0 ≤ b ∧ b < S.nf)) : okF (addF S k a b) S.nf := by
  unfold okF
  simp only [addF_F, if_true]
  simpa using h
end
