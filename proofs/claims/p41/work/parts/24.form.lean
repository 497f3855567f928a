/-! calls as conditions on both sides; the formulas' calls -/
abbrev aO : Type := Int × aS × List aS × Option aS × aT
def okO (o : aO) : Prop := Inv o.2.1 ∧ (∀ h ∈ o.2.2.1, Inv h) ∧ (∀ k, o.2.2.2.1 = some k → Inv k) ∧ okT o.2.2.2.2
/-- the class's call answers o -/
def cOp (G : xG) (D : xD) (args : List xV) (S : aS) (H : List aS) (K : Option aS) (T : aT) (o : aO) : Prop :=
  ∀ (μ : xM) (Q : xP), cS μ S H K T → (∀ (x : Int32) (μ' : xM), x.toInt = o.1 → frC μ μ' → cS μ' o.2.1 o.2.2.1 o.2.2.2.1 o.2.2.2.2 → Q (some (vI x)) μ') → MW G 8 D (vR (8, 0, 0) :: args) μ Q
theorem ownH_not0 {q : xI} (h : ownS 0 q) : ¬ ownH q := by
  rintro (rfl | ⟨j, h1, h2, h3⟩)
  · exact own_ne h 5 0 0 (by omega) rfl
  · have := own_apart h h3; omega
theorem ownH_not1 {q : xI} (h : ownS 1 q) : ¬ ownH q := by
  rintro (rfl | ⟨j, h1, h2, h3⟩)
  · exact own_ne h 5 0 0 (by omega) rfl
  · have := own_apart h h3; omega
/-- the present state and the history move, the rest stays -/
theorem cS.upd {μ μ' : xM} {S S' : aS} {H H' : List aS} {K : Option aS} {T : aT} (h : cS μ S H K T) (hS : repC μ' 0 S') (hH : repH μ' H') (e : ∀ q, ¬ ownS 0 q → ¬ ownH q → μ' q = μ q) : frC μ μ' ∧ cS μ' S' H' K T := by
  obtain ⟨h1, h2, h3, h4, h5⟩ := h
  have nx : ∀ a b c : Nat, (4 ≤ a ∨ a = 0) → a ≠ 5 → (∀ j, ¬ ownS j (a, b, c)) ∧ ¬ ownH (a, b, c) := by
    intro a b c ha h5'
    have n1 : ∀ j, ¬ ownS j (a, b, c) := fun j z => own_ne z a b c (by omega) rfl
    refine ⟨n1, ?_⟩
    rintro (z | ⟨j, -, -, z⟩)
    · cases z; omega
    · exact n1 j z
  have e6 := e (6, 0, 0) ((nx 6 0 0 (by omega) (by omega)).1 0) (nx 6 0 0 (by omega) (by omega)).2
  have e8 := e (8, 0, 0) ((nx 8 0 0 (by omega) (by omega)).1 0) (nx 8 0 0 (by omega) (by omega)).2
  have n14 : ∀ j, ¬ ownS j (1, 0, 14) := by
    intro j z
    rcases z with (z | z) | (z | z) <;> simp at z
  have e14 := e (1, 0, 14) (n14 0) (by
    rintro (z | ⟨j, -, -, z⟩)
    · cases z
    · exact n14 j z)
  refine ⟨fun q hq => e q (fun z => hq (ownS_isC z)) (fun z => hq (ownH_isC z)), hS, hH, ?_, by rw [e6]; exact h4, by rw [e14]; exact h5⟩
  cases K with
  | none => show μ' _ _ = _; rw [e8]; exact h3
  | some k => exact ⟨by rw [e8]; exact h3.1, h3.2.keep fun q hq => e q (fun z => by have := own_apart hq z; omega) (ownH_not1 hq)⟩
def mk1 (S : aS) (H : List aS) (k l r : Int) : Int × aS × List aS := if S.nf < 60 ∨ findS S k l r ≠ -6 then ((mkS S k l r).1, (mkS S k l r).2, (S :: H).take 5) else (-4, S, H)
theorem mk1_t {S : aS} {H : List aS} {k l r : Int} (h : roomS S k l r) : mk1 S H k l r = ((mkS S k l r).1, (mkS S k l r).2, (S :: H).take 5) := if_pos h
theorem mk1_f {S : aS} {H : List aS} {k l r : Int} (h : ¬ roomS S k l r) : mk1 S H k l r = (-4, S, H) := if_neg h
theorem mkS_P {μ : xM} {S : aS} {k l r : Int} (h : repP μ 0 S) : repP μ 0 (mkS S k l r).2 := by
  unfold mkS
  split
  · exact h
  · exact h
section
variable {G : xG} {d : Nat} {μ : xM} {Q : xP} {S : aS} {H : List aS} {K : Option aS} {T : aT}
theorem c_mk1 {k l r : Int32} (hc : cS μ S H K T) (hI : Inv S) (h : ∀ (x : Int32) (μ' : xM), x.toInt = (mk1 S H k.toInt l.toInt r.toInt).1 → frC μ μ' → cS μ' (mk1 S H k.toInt l.toInt r.toInt).2.1 (mk1 S H k.toInt l.toInt r.toInt).2.2 K T → Q (some (vI x)) μ') : MW G (d + 5) mX8_makeFormula [vR (8, 0, 0), vI k, vI l, vI r] μ Q := by
  have hF := hc.1.1
  refine wX8_makeFormula (room_ok hF hI.1 (fun hr => xif_f (by decide) ?_) (fun hr => xif_t rfl ?_))
  · rw [mk1_t hr] at h
    refine record_ok hI.bd hc.1 hc.2.1 fun μ1 e1 r1 => ?_
    have hF1 : repF μ1 0 S := hF.keep fun q hq => e1 q (ownH_not0 (Or.inl hq))
    refine make_ok hF1 hI.1 hr fun x μ2 hx e2 r2 => ?_
    have hP2 : repP μ2 0 S := hc.1.2.keep fun q hq => by
      rw [e2 q (fun z => ?_), e1 q (ownH_not0 (Or.inr hq))]
      rcases hq with rfl | hq
      · rcases z with z | z <;> simp at z
      · rcases z with rfl | z
        · simp at hq
        · omega
    obtain ⟨f1, f2⟩ := hc.upd (μ' := μ2) (S' := (mkS S k.toInt l.toInt r.toInt).2) (H' := (S :: H).take 5) ⟨r2, mkS_P hP2⟩ (r1.keep fun q hq => e2 q fun z => ownH_not0 (Or.inl z) hq) (fun q h1 h2 => by rw [e2 q (fun z => h1 (Or.inl z)), e1 q h2])
    exact h x μ2 hx f1 f2
  · rw [mk1_f hr] at h
    exact h _ μ rfl frC.rf hc
-- the model
theorem lin {A B x : Int32} {a b k : Nat} (hA : A.toInt = a) (hB : B.toInt = b) (hx : x.toInt = k) (hs : a + b * k < 100000) : (A + B * x).toInt = (a + b * k : Nat) := by
  have h1 : (B * x).toInt = (b * k : Nat) := by
    have hbk : ((b : Int) * (k : Int)) = ((b * k : Nat) : Int) := by push_cast; rfl
    rw [ti_mul (by rw [hB, hx, hbk]; omega) (by rw [hB, hx, hbk]; omega), hB, hx, hbk]
  rw [ti_add (by rw [hA, h1]; omega) (by rw [hA, h1]; omega), hA, h1]
  omega
theorem lin1 {A c : Int32} {a k : Nat} (hA : A.toInt = a) (hc : c.toInt = k) (hs : a + k < 100000) : (A + c).toInt = (a + k : Nat) := by
  rw [ti_add (by rw [hA, hc]; omega) (by rw [hA, hc]; omega), hA, hc]
  omega
theorem l3 : (3 : Int32).toInt = (3 : Nat) := rfl
theorem l1 : (1 : Int32).toInt = (1 : Nat) := rfl
theorem l2 : (2 : Int32).toInt = (2 : Nat) := rfl
theorem l0 : (0 : Int32).toInt = (0 : Nat) := rfl
end
