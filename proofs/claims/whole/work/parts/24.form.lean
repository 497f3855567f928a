/-! calls as conditions on both sides; the formulas' calls -/
abbrev aO : Type := Int × aS × List aS × Option aS × aT
def okO (o : aO) : Prop := Inv o.2.1 ∧ (∀ h ∈ o.2.2.1, Inv h) ∧ (∀ k, o.2.2.2.1 = some k → Inv k) ∧ okT o.2.2.2.2
/-- the class's call answers o -/
def cOp (G : xG) (D : xD) (args : List xV) (S : aS) (H : List aS) (K : Option aS) (T : aT) (o : aO) : Prop :=
  ∀ (μ : xM) (Q : xP), cS μ S H K T → (∀ (x : Int32) (μ' : xM), x.toInt = o.1 → frC μ μ' → cS μ' o.2.1 o.2.2.1 o.2.2.2.1 o.2.2.2.2 → Q (some (vI x)) μ') → MW G 8 D (vR (8, 0, 0) :: args) μ Q
/-- the model's call answers o -/
def mOp (G : xG) (D : xD) (args : List xV) (S : aS) (H : List aS) (K : Option aS) (T : aT) (o : aO) : Prop :=
  ∀ (μ : xM) (Q : xP), mS μ S H K T → (∀ (x : Int32) (μ' : xM), x.toInt = o.1 → frM μ μ' → mS μ' o.2.1 o.2.2.1 o.2.2.2.1 o.2.2.2.2 → Q (some (vI x)) μ') → MW G 8 D (vR (9, 0, 0) :: args) μ Q
/-- both answer alike, and stand for one thing again -/
def simI (G : xG) (D1 D2 : xD) (args : List xV) : Prop := ∀ μ, SIM μ → MW G 8 D1 (vR (8, 0, 0) :: args) μ fun r μ1 => ∃ x : Int32, r = some (vI x) ∧ MW G 8 D2 (vR (9, 0, 0) :: args) μ1 fun r' μ2 => r' = some (vI x) ∧ SIM μ2
theorem sim_of {G : xG} {D1 D2 : xD} {args : List xV} (h : ∀ S H K T, okO ((0 : Int), S, H, K, T) → ∃ o : aO, cOp G D1 args S H K T o ∧ mOp G D2 args S H K T o ∧ okO o) : simI G D1 D2 args := by
  intro μ ⟨S, H, K, T, i1, i2, i3, i4, hc, hm⟩
  obtain ⟨o, ho1, ho2, ok⟩ := h S H K T ⟨i1, i2, i3, i4⟩
  refine ho1 μ _ hc fun x μ1 hx hf hc1 => ⟨x, rfl, ?_⟩
  refine ho2 μ1 _ (hm.keep hf) fun y μ2 hy hf2 hm2 => ⟨?_, ?_⟩
  · have : y = x := Int32.toInt_inj.mp (hy.trans hx.symm)
    rw [this]
  · exact ⟨_, _, _, _, ok.1, ok.2.1, ok.2.2.1, ok.2.2.2, hc1.keep hf2, hm2⟩
theorem ownH_not0 {q : xI} (h : ownS 0 q) : ¬ ownH q := by
  rintro (rfl | ⟨j, h1, h2, h3⟩)
  · exact own_ne h 5 0 0 (by omega) rfl
  · have := own_apart h h3; omega
theorem ownH_not1 {q : xI} (h : ownS 1 q) : ¬ ownH q := by
  rintro (rfl | ⟨j, h1, h2, h3⟩)
  · exact own_ne h 5 0 0 (by omega) rfl
  · have := own_apart h h3; omega
/-- the present state and the history move, the rest stays -/
theorem cS.upd {μ μ' : xM} {S S' : aS} {H H' : List aS} {K : Option aS} {T : aT} (h : cS μ S H K T) (hS : repC μ' 0 S') (hH : repH μ' H') (e : ∀ q, ¬ ownS 0 q → ¬ ownH q → μ' q = μ q) : frC μ μ' ∧ cS μ' S' H' K T := by
  obtain ⟨h1, h2, h3, h4, h5⟩ := h
  have nx : ∀ a b c : Nat, (4 ≤ a ∨ a = 0) → a ≠ 5 → (∀ j, ¬ ownS j (a, b, c)) ∧ ¬ ownH (a, b, c) := by
    intro a b c ha h5'
    have n1 : ∀ j, ¬ ownS j (a, b, c) := fun j z => own_ne z a b c (by omega) rfl
    refine ⟨n1, ?_⟩
    rintro (z | ⟨j, -, -, z⟩)
    · cases z; omega
    · exact n1 j z
  have e6 := e (6, 0, 0) ((nx 6 0 0 (by omega) (by omega)).1 0) (nx 6 0 0 (by omega) (by omega)).2
  have e8 := e (8, 0, 0) ((nx 8 0 0 (by omega) (by omega)).1 0) (nx 8 0 0 (by omega) (by omega)).2
  have n14 : ∀ j, ¬ ownS j (1, 0, 14) := by
    intro j z
    rcases z with (z | z) | (z | z) <;> simp at z
  have e14 := e (1, 0, 14) (n14 0) (by
    rintro (z | ⟨j, -, -, z⟩)
    · cases z
    · exact n14 j z)
  refine ⟨fun q hq => e q (fun z => hq (ownS_isC z)) (fun z => hq (ownH_isC z)), hS, hH, ?_, by rw [e6]; exact h4, by rw [e14]; exact h5⟩
  cases K with
  | none => show μ' _ _ = _; rw [e8]; exact h3
  | some k => exact ⟨by rw [e8]; exact h3.1, h3.2.keep fun q hq => e q (fun z => by have := own_apart hq z; omega) (ownH_not1 hq)⟩
theorem mS.upd {μ μ' : xM} {S S' : aS} {H H' : List aS} {K : Option aS} {T : aT} (h : mS μ S H K T) (hS : repR (μ' (1, 0, 20)) S') (hH : repHM μ' H') (e22 : μ' (1, 0, 22) = μ (1, 0, 22)) (e11 : μ' (11, 0, 0) = μ (11, 0, 0)) (e4 : μ' (9, 0, 0) 4 = μ (9, 0, 0) 4) (e6 : μ' (9, 0, 0) 6 = μ (9, 0, 0) 6) : mS μ' S' H' K T := by
  obtain ⟨h1, h2, h3, h4, h5⟩ := h
  refine ⟨hS, hH, ?_, by rw [e6]; exact h4, by rw [e11]; exact h5⟩
  rw [e22, e4]
  exact h3
def mk1 (S : aS) (H : List aS) (k l r : Int) : Int × aS × List aS := if S.nf < 60 ∨ findS S k l r ≠ -6 then ((mkS S k l r).1, (mkS S k l r).2, (S :: H).take 5) else (-4, S, H)
theorem mk1_t {S : aS} {H : List aS} {k l r : Int} (h : roomS S k l r) : mk1 S H k l r = ((mkS S k l r).1, (mkS S k l r).2, (S :: H).take 5) := if_pos h
theorem mk1_f {S : aS} {H : List aS} {k l r : Int} (h : ¬ roomS S k l r) : mk1 S H k l r = (-4, S, H) := if_neg h
theorem mkS_P {μ : xM} {S : aS} {k l r : Int} (h : repP μ 0 S) : repP μ 0 (mkS S k l r).2 := by
  unfold mkS
  split
  · exact h
  · exact h
section
variable {G : xG} {d : Nat} {μ : xM} {Q : xP} {S : aS} {H : List aS} {K : Option aS} {T : aT}
theorem c_mk1 {k l r : Int32} (hc : cS μ S H K T) (hI : Inv S) (h : ∀ (x : Int32) (μ' : xM), x.toInt = (mk1 S H k.toInt l.toInt r.toInt).1 → frC μ μ' → cS μ' (mk1 S H k.toInt l.toInt r.toInt).2.1 (mk1 S H k.toInt l.toInt r.toInt).2.2 K T → Q (some (vI x)) μ') : MW G (d + 5) mX8_makeFormula [vR (8, 0, 0), vI k, vI l, vI r] μ Q := by
  have hF := hc.1.1
  refine wX8_makeFormula (room_ok hF hI.1 (fun hr => xif_f (by decide) ?_) (fun hr => xif_t rfl ?_))
  · rw [mk1_t hr] at h
    refine record_ok hI.bd hc.1 hc.2.1 fun μ1 e1 r1 => ?_
    have hF1 : repF μ1 0 S := hF.keep fun q hq => e1 q (ownH_not0 (Or.inl hq))
    refine make_ok hF1 hI.1 hr fun x μ2 hx e2 r2 => ?_
    have hP2 : repP μ2 0 S := hc.1.2.keep fun q hq => by
      rw [e2 q (fun z => ?_), e1 q (ownH_not0 (Or.inr hq))]
      rcases hq with rfl | hq
      · rcases z with z | z <;> simp at z
      · rcases z with rfl | z
        · simp at hq
        · omega
    obtain ⟨f1, f2⟩ := hc.upd (μ' := μ2) (S' := (mkS S k.toInt l.toInt r.toInt).2) (H' := (S :: H).take 5) ⟨r2, mkS_P hP2⟩ (r1.keep fun q hq => e2 q fun z => ownH_not0 (Or.inl z) hq) (fun q h1 h2 => by rw [e2 q (fun z => h1 (Or.inl z)), e1 q h2])
    exact h x μ2 hx f1 f2
  · rw [mk1_f hr] at h
    exact h _ μ rfl frC.rf hc
-- the model
theorem lin {A B x : Int32} {a b k : Nat} (hA : A.toInt = a) (hB : B.toInt = b) (hx : x.toInt = k) (hs : a + b * k < 100000) : (A + B * x).toInt = (a + b * k : Nat) := by
  have h1 : (B * x).toInt = (b * k : Nat) := by
    have hbk : ((b : Int) * (k : Int)) = ((b * k : Nat) : Int) := by push_cast; rfl
    rw [ti_mul (by rw [hB, hx, hbk]; omega) (by rw [hB, hx, hbk]; omega), hB, hx, hbk]
  rw [ti_add (by rw [hA, h1]; omega) (by rw [hA, h1]; omega), hA, h1]
  omega
theorem lin1 {A c : Int32} {a k : Nat} (hA : A.toInt = a) (hc : c.toInt = k) (hs : a + k < 100000) : (A + c).toInt = (a + k : Nat) := by
  rw [ti_add (by rw [hA, hc]; omega) (by rw [hA, hc]; omega), hA, hc]
  omega
theorem l3 : (3 : Int32).toInt = (3 : Nat) := rfl
theorem l1 : (1 : Int32).toInt = (1 : Nat) := rfl
theorem l2 : (2 : Int32).toInt = (2 : Nat) := rfl
theorem l0 : (0 : Int32).toInt = (0 : Nat) := rfl
theorem m_isF {f : Int32} (hr : repR (μ (1, 0, 20)) S) (ht : ∀ k : Nat, f.toInt = k → k < S.nf → Q (some (vI 1)) μ) (hf : ¬ (0 ≤ f.toInt ∧ f.toInt < S.nf) → Q (some (vI 0)) μ) : MW G (d + 1) mX9_isFormula [vR (9, 0, 0), vI f] μ Q := by
  refine wX9_isFormula (xif_c (fun c1 => ⟨z01, hf ?_⟩) fun c1 => ⟨ti_in l0 (by omega), xif_c (fun c2 => ⟨z01, hf ?_⟩) fun c2 => ⟨z11, ht f.toInt.toNat ?_ ?_⟩⟩)
  all_goals simp only [ti_lt, ti_le, ti_lit0, ti_cl' l0, hr.1] at *
  all_goals omega
theorem m_kind {f : Int32} {k : Nat} (hr : repR (μ (1, 0, 20)) S) (hb : S.nf ≤ 60) (hf : f.toInt = k) (hk : k < S.nf) (h : ∀ x : Int32, x.toInt = S.F 0 k → Q (some (vI x)) μ) : MW G (d + 1) mX9_kind [vR (9, 0, 0), vI f] μ Q := by
  have e := lin l3 l3 hf (by omega)
  refine wX9_kind ⟨ti_in e (by omega), ?_⟩
  rw [ti_cl' e]
  exact h _ (hr.2.2.2.1 0 (by omega) k hk)
theorem m_left {f : Int32} {k : Nat} (hr : repR (μ (1, 0, 20)) S) (hb : S.nf ≤ 60) (hf : f.toInt = k) (hk : k < S.nf) (h : ∀ x : Int32, x.toInt = S.F 1 k → Q (some (vI x)) μ) : MW G (d + 1) mX9_left [vR (9, 0, 0), vI f] μ Q := by
  have e := lin1 (lin l3 l3 hf (by omega)) l1 (by omega)
  refine wX9_left ⟨ti_in e (by omega), ?_⟩
  rw [ti_cl' e]
  exact h _ (hr.2.2.2.1 1 (by omega) k hk)
theorem m_right {f : Int32} {k : Nat} (hr : repR (μ (1, 0, 20)) S) (hb : S.nf ≤ 60) (hf : f.toInt = k) (hk : k < S.nf) (h : ∀ x : Int32, x.toInt = S.F 2 k → Q (some (vI x)) μ) : MW G (d + 1) mX9_right [vR (9, 0, 0), vI f] μ Q := by
  have e := lin1 (lin l3 l3 hf (by omega)) l2 (by omega)
  refine wX9_right ⟨ti_in e (by omega), ?_⟩
  rw [ti_cl' e]
  exact h _ (hr.2.2.2.1 2 (by omega) k hk)
set_option maxHeartbeats 1000000 in
theorem m_find {k l r : Int32} (hr : repR (μ (1, 0, 20)) S) (hb : S.nf ≤ 60) (h : ∀ x : Int32, x.toInt = findS S k.toInt l.toInt r.toInt → Q (some (vI x)) μ) : MW G (d + 2) mX9_find [vR (9, 0, 0), vI k, vI l, vI r] μ Q := by
  refine wX9_find fun Z => ?_
  refine up_loop (σ := Unit) (fun i _ => WS G eX9_find (d + 2) Z Q 3 [vR (9, 0, 0), vI k, vI l, vI r, vI (nI i)] [] μ) (fun i _ => fnd S k.toInt l.toInt r.toInt (S.nf - i) i = findS S k.toInt l.toInt r.toInt) S.nf ?_ ?_ 0 () (by omega) rfl
  · intro i _ hi h1 ih
    have ei : (nI i).toInt = i := nI_t (by omega)
    rw [show S.nf - i = (S.nf - (i + 1)) + 1 by omega] at h1
    unfold fnd at h1
    have nxt : ¬ (S.F 0 i = k.toInt ∧ S.F 1 i = l.toInt ∧ S.F 2 i = r.toInt) → WS G eX9_find (d + 2) Z Q 3 [vR (9, 0, 0), vI k, vI l, vI r, vI (nI i + 1)] [] μ := by
      intro hn
      rw [if_neg hn] at h1
      rw [nI_1]
      exact ih () h1
    refine wX9_find_3 ⟨ti_in l0 (by omega), xif_f (by rw [ti_le, ti_cl' l0, hr.1, ei]; omega) ?_⟩
    refine m_kind hr hb ei hi fun x hx => xif_c (fun c1 => ?_) (fun c1 => nxt fun z => c1 ?_)
    · refine m_left hr hb ei hi fun y hy => xif_c (fun c2 => ?_) (fun c2 => nxt fun z => c2 ?_)
      · refine m_right hr hb ei hi fun w hw => xif_c (fun c3 => ?_) (fun c3 => nxt fun z => c3 ?_)
        · rw [ti_eq] at c1 c2 c3
          rw [if_pos ⟨hx ▸ c1, hy ▸ c2, hw ▸ c3⟩] at h1
          exact h _ (by rw [ei, ← h1])
        · rw [ti_eq, hw]; exact z.2.2
      · rw [ti_eq, hy]; exact z.2.1
    · rw [ti_eq, hx]; exact z.1
  · intro _ h1
    rw [Nat.sub_self] at h1
    have ei : (nI S.nf).toInt = S.nf := nI_t (by omega)
    exact wX9_find_3 ⟨ti_in l0 (by omega), xif_t (by rw [ti_le, ti_cl' l0, hr.1, ei]; omega) (h _ (by rw [← h1]; rfl))⟩
theorem m_room {k l r : Int32} (hr : repR (μ (1, 0, 20)) S) (hb : S.nf ≤ 60) (ht : roomS S k.toInt l.toInt r.toInt → Q (some (vI 1)) μ) (hf : ¬ roomS S k.toInt l.toInt r.toInt → Q (some (vI 0)) μ) : MW G (d + 3) mX9_hasRoom [vR (9, 0, 0), vI k, vI l, vI r] μ Q := by
  have e60 : (60 : Int32).toInt = 60 := rfl
  refine wX9_hasRoom ⟨ti_in l0 (by omega), xif_c (fun c1 => ⟨z11, ht (Or.inl ?_)⟩) fun c1 => m_find hr hb fun x hx => ?_⟩
  · rw [ti_lt, ti_cl' l0, hr.1, e60] at c1; omega
  · rw [ti_lt, ti_cl' l0, hr.1, e60] at c1
    refine xif_c (fun c2 => ⟨z01, hf ?_⟩) (fun c2 => ⟨z11, ht (Or.inr ?_)⟩)
    · rw [ti_eq, hx, ti_litm6] at c2
      rintro (z | z)
      · omega
      · exact z c2
    · rw [ti_eq, hx, ti_litm6] at c2; exact c2
theorem repR_add {z z' : Nat → Int32} {k l r : Int32} (hr : repR z S) (hb : bdS S) (hl : S.nf < 60) (h0 : (z' 0).toInt = (S.nf : Int) + 1) (hk : z' (3 + 3 * S.nf) = k) (hl1 : z' (3 + 3 * S.nf + 1) = l) (hr1 : z' (3 + 3 * S.nf + 2) = r) (e : ∀ i, i ≠ 0 → i ≠ 3 + 3 * S.nf → i ≠ 3 + 3 * S.nf + 1 → i ≠ 3 + 3 * S.nf + 2 → z' i = z i) : repR z' (addF S k.toInt l.toInt r.toInt) := by
  obtain ⟨b1, b2, b3⟩ := hb
  obtain ⟨r1, r2, r3, r4, r5, r6⟩ := hr
  refine ⟨h0, by rw [e 1 (by omega) (by omega) (by omega) (by omega)]; exact r2, by rw [e 2 (by omega) (by omega) (by omega) (by omega)]; exact r3, fun c hc f hf => ?_, fun c hc x hx => ?_, fun c hc b hb => ?_⟩
  · rw [addF_F]
    rw [addF_nf] at hf
    by_cases hfn : f = S.nf
    · rw [if_pos hfn, hfn]
      rcases (show c = 0 ∨ c = 1 ∨ c = 2 by omega) with rfl | rfl | rfl
      · rw [Nat.add_zero, hk]; rfl
      · rw [hl1]; rfl
      · rw [hr1]; rfl
    · rw [if_neg hfn, e _ (by omega) (by omega) (by omega) (by omega)]
      exact r4 c hc f (by omega)
  · rw [e _ (by omega) (by omega) (by omega) (by omega)]
    exact r5 c hc x hx
  · have hb : b < S.nb := hb
    rw [e _ (by omega) (by omega) (by omega) (by omega)]
    exact r6 c hc b hb
theorem m_make {k l r : Int32} (hr : repR (μ (1, 0, 20)) S) (hb : bdS S) (hroom : roomS S k.toInt l.toInt r.toInt) (h : ∀ (x : Int32) (μ' : xM), x.toInt = (mkS S k.toInt l.toInt r.toInt).1 → (∀ q, q ≠ (1, 0, 20) → μ' q = μ q) → repR (μ' (1, 0, 20)) (mkS S k.toInt l.toInt r.toInt).2 → Q (some (vI x)) μ') : MW G (d + 3) mX9_make [vR (9, 0, 0), vI k, vI l, vI r] μ Q := by
  unfold mkS at h
  refine wX9_make (m_find hr hb.1 fun x hx => xif_c (fun c1 => ?_) (fun c1 => ?_))
  · rw [ti_eq, hx, ti_litm6] at c1
    have hlt : S.nf < 60 := by
      rcases hroom with z | z
      · exact z
      · exact absurd c1 z
    rw [if_pos c1] at h
    have e0 : (0 : Int32).toNatClampNeg = 0 := rfl
    rw [e0]
    have z0 := hr.1
    have i0 := lin l3 l3 z0 (by omega)
    have i1 := lin1 i0 l1 (by omega)
    have i2 := lin1 i0 l2 (by omega)
    rw [ti_cl' i0, ti_cl' i1, ti_cl' i2]
    have ea : (μ (1, 0, 20) 0 + 1).toInt = (S.nf : Int) + 1 := by
      rw [ti_add (by rw [z0, ti_lit1]; omega) (by rw [z0, ti_lit1]; omega), z0, ti_lit1]
    have v0 : ∀ (a b c : Nat) (u v w : Int32), a ≠ 0 → b ≠ 0 → c ≠ 0 → xst (xst (xst μ (1, 0, 20) a u) (1, 0, 20) b v) (1, 0, 20) c w (1, 0, 20) 0 = μ (1, 0, 20) 0 := by
      intro a b c u v w h1 h2 h3
      rw [xst_rd, if_neg (fun q => h3 q.2.symm), xst_rd, if_neg (fun q => h2 q.2.symm), xst_rd, if_neg (fun q => h1 q.2.symm)]
    rw [v0 _ _ _ _ _ _ (by omega) (by omega) (by omega)]
    refine ⟨ti_in l0 (by omega), ti_in i0 (by omega), ti_in i1 (by omega), ti_in i2 (by omega), ti_in l0 (by omega), ti_in l0 (by omega), ti_in l0 (by omega), h _ _ ?_ (fun q hq => ?_) (repR_add hr hb hlt ?_ ?_ ?_ ?_ (fun i n0 n1 n2 n3 => ?_))⟩
    · rw [xst_rd, if_pos ⟨rfl, rfl⟩, ti_sub (by rw [ea, ti_lit1]; omega) (by rw [ea, ti_lit1]; omega), ea, ti_lit1]
      show _ = (S.nf : Int)
      omega
    · funext i
      simp [xst_rd, hq]
    · rw [xst_rd, if_pos ⟨rfl, rfl⟩, ea]
    · rw [xst_rd, if_neg (fun q => by have := q.2; omega), xst_rd, if_neg (fun q => by have := q.2; omega), xst_rd, if_neg (fun q => by have := q.2; omega), xst_rd, if_pos ⟨rfl, rfl⟩]
    · rw [xst_rd, if_neg (fun q => by have := q.2; omega), xst_rd, if_neg (fun q => by have := q.2; omega), xst_rd, if_pos ⟨rfl, rfl⟩]
    · rw [xst_rd, if_neg (fun q => by have := q.2; omega), xst_rd, if_pos ⟨rfl, rfl⟩]
    · rw [xst_rd, if_neg (fun q => n0 q.2), xst_rd, if_neg (fun q => n3 q.2), xst_rd, if_neg (fun q => n2 q.2), xst_rd, if_neg (fun q => n1 q.2)]
  · rw [ti_eq, hx, ti_litm6] at c1
    rw [if_neg c1] at h
    exact h x μ hx (fun _ _ => rfl) hr
theorem m_mk1 {k l r : Int32} (hc : mS μ S H K T) (hI : Inv S) (h : ∀ (x : Int32) (μ' : xM), x.toInt = (mk1 S H k.toInt l.toInt r.toInt).1 → frM μ μ' → mS μ' (mk1 S H k.toInt l.toInt r.toInt).2.1 (mk1 S H k.toInt l.toInt r.toInt).2.2 K T → Q (some (vI x)) μ') : MW G (d + 4) mX9_makeOne [vR (9, 0, 0), vI k, vI l, vI r] μ Q := by
  have hF := hc.1
  refine wX9_makeOne (m_room hF hI.1 (fun hr => xif_f (by decide) ?_) (fun hr => xif_t rfl ?_))
  · rw [mk1_t hr] at h
    refine mrecord_ok hI.bd hF hc.2.1 fun μ1 e1 f1 r1 => ?_
    have hF1 : repR (μ1 (1, 0, 20)) S := by rw [e1 _ (by decide) (by decide)]; exact hF
    refine m_make hF1 hI.bd hr fun x μ2 hx e2 r2 => h x μ2 hx (fun q hq => ?_) (hc.upd r2 ?_ ?_ ?_ ?_ ?_)
    · rw [e2 q (fun z => by rw [z] at hq; exact hq.2.2.2 ⟨rfl, by simp⟩), e1 q (fun z => by rw [z] at hq; exact hq.2.2.2 ⟨rfl, by simp⟩) (fun z => by rw [z] at hq; exact hq.1 rfl)]
    · unfold repHM
      rw [e2 (9, 0, 0) (by decide), e2 (1, 0, 21) (by decide)]
      exact r1
    · rw [e2 _ (by decide), e1 _ (by decide) (by decide)]
    · rw [e2 _ (by decide), e1 _ (by decide) (by decide)]
    · rw [e2 _ (by decide), f1 _ (by decide)]
    · rw [e2 _ (by decide), f1 _ (by decide)]
  · rw [mk1_f hr] at h
    exact h _ μ rfl frM.rf hc
end
