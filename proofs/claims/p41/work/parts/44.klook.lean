/-! the class's looking calls, at any depth, with what they answer -/
theorem openX {S : aS} (hI : Inv S) : okX S S.inn := by
  rcases hI.innX with z | ⟨b, z1, z2, z3⟩
  · exact Or.inl z
  · exact Or.inr ⟨by omega, by omega⟩
section
variable {G : xG} {d : Nat} {μ : xM} {Q : xP} {S : aS} {H : List aS} {K : Option aS} {T : aT}
theorem k_formulas (hc : cS μ S H K T) (h : ∀ x : Int32, x.toInt = S.nf → Q (some (vI x)) μ) : MW G (d + 1) mX8_formulas [vR (8, 0, 0)] μ Q := wX8_formulas (h _ hc.1.1.1)
theorem k_part {n p : Int32} {f c : Nat} (hc : cS μ S H K T) (hI : Inv S) (hn : n.toInt = f) (hf : f < S.nf) (hp : p.toInt = c) (hc3 : c < 3) (h : ∀ x : Int32, x.toInt = S.F c f → Q (some (vI x)) μ) : MW G (d + 2) mX8_part [vR (8, 0, 0), vI n, vI p] μ Q := by
  have hb := hI.1
  refine wX8_part (has_ok hc.1.1 (fun k hk1 hk2 => xif_f (by decide) ?_) fun z => absurd (by omega) z)
  have key : ∀ c', c' < 3 → c' = c → MW G (d + 1) mX5_get [vR (0, 0, c'), vI n] μ (xrI fun x4 μ3 => Q (some (vI x4)) μ3) := by
    intro c' h1 h2
    subst h2
    refine get_in hk1 ?_ (h _ ?_)
    · rcases (show c' = 0 ∨ c' = 1 ∨ c' = 2 by omega) with rfl | rfl | rfl <;> simp [xlenc] <;> omega
    · rw [hc.1.1.2 c' hc3 k hk2, show k = f by omega]
  refine ⟨fun z => key 0 (by omega) ?_, fun n0 => ⟨fun z => key 1 (by omega) ?_, fun n1 => ⟨fun z => key 2 (by omega) ?_, fun n2 => ?_⟩⟩⟩
  · rw [z] at hp; have : (0 : Int32).toInt = 0 := rfl; omega
  · rw [z] at hp; have : (1 : Int32).toInt = 1 := rfl; omega
  · rw [z] at hp; have : (2 : Int32).toInt = 2 := rfl; omega
  · rw [ti_eq] at n0 n1 n2
    have e0 : (0 : Int32).toInt = 0 := rfl
    have e1 : (1 : Int32).toInt = 1 := rfl
    have e2 : (2 : Int32).toInt = 2 := rfl
    omega
theorem k_noPart {n p : Int32} (hc : cS μ S H K T) (hn : n.toInt = S.nf) (h : Q (some (vI (-1))) μ) : MW G (d + 2) mX8_part [vR (8, 0, 0), vI n, vI p] μ Q :=
  wX8_part (has_ok hc.1.1 (fun k hk1 hk2 => by omega) fun _ => xif_t rfl h)
theorem k_isTrue {a p : Int32} {f v : Nat} (hc : cS μ S H K T) (hI : Inv S) (ha : a.toInt = f) (hf : f < S.nf) (hp : p.toInt = v) (hv : v < 256) (h : ∀ (x : Int32) (μ' : xM), x.toInt = (if evS S v f = true then 1 else 0) → (∀ q, q ≠ (1, 0, 13) → μ' q = μ q) → cS μ' S H K T → Q (some (vI x)) μ') : MW G (d + 4) mX8_isTrue [vR (8, 0, 0), vI a, vI p] μ Q := by
  have h60 := hI.1
  have e256 : (256 : Int32).toInt = 256 := rfl
  refine wX8_isTrue (has_ok hc.1.1 (fun k h1 h2 => xif_f (by decide) (xif_f ?_ (xif_t ?_ ⟨by decide, ?_⟩))) fun z => absurd (by omega) z)
  · rw [ti_lt, ti_lit0]; omega
  · rw [ti_lt, e256]; omega
  · have hk : k = f := by omega
    subst hk
    have ep := of_ti (x := p) (k := v) hp (by omega)
    obtain ⟨d1, d2⟩ := vdiv v hv
    rw [← ep] at d1 d2
    rw [d2, d1]
    refine eval_ok hc.1.1 hI (nI_t (by omega)) (show v / 32 < 8 by omega) fun μ' e1 e2 => get_in h1 (by simp [xlenc]; omega) ⟨by decide, ?_⟩
    obtain ⟨f1, f2⟩ := hc.sc13 (by omega) e1
    rw [iu_and _ (by omega), e2 k h2 _ (by omega), show 32 * (v / 32) + v % 32 = v by omega]
    refine h _ μ' ?_ e1 f2
    cases evS S v k <;> rfl
theorem k_lines (hc : cS μ S H K T) (h : ∀ x : Int32, x.toInt = S.nl → Q (some (vI x)) μ) : MW G (d + 1) mX8_lines [vR (8, 0, 0)] μ Q := wX8_lines (h _ hc.1.2.1)
theorem k_boxes (hc : cS μ S H K T) (h : ∀ x : Int32, x.toInt = S.nb → Q (some (vI x)) μ) : MW G (d + 1) mX8_boxes [vR (8, 0, 0)] μ Q := wX8_boxes (h _ hc.1.2.2.1)
theorem k_line {dp : Nat → Nat} {a : Int32} {l : Nat} (p : Int32) (hc : cS μ S H K T) (hI : Inv S) (h7 : ∀ b, b < S.nb → okB S dp b) (ha : a.toInt = l) (hl : l < S.nl) (h : ∀ x : Int32, x.toInt = vline S dp l p → Q (some (vI x)) μ) : MW G (d + 5) mX8_line [vR (8, 0, 0), vI a, vI p] μ Q := by
  have h48 := hI.2.1
  have hb48 := hI.bd.2.2
  have hP := hc.1.2
  refine wX8_line (hasL_ok hP (fun k h1 h2 => xif_f (by decide) ?_) fun z => absurd (by omega) z)
  have hk : k = l := by omega
  subst hk
  have hX := hI.home h2
  refine ⟨fun z => c_lf hP h48 h1 h2 fun x hx => h x ?_, fun n0 => ⟨fun z => c_ru hP h48 h1 h2 fun x hx => h x ?_, fun n1 => ⟨fun z => c_ho hP h48 h1 h2 fun x hx => h x ?_, fun n2 => ⟨fun z => c_ho hP h48 h1 h2 fun x hx => nest_ok hP hb48 h7 (by rw [hx]; exact hX) fun y hy => h y ?_, fun n3 => ⟨fun z => avL_ok hP hI h1 h2 (fun q => xif_f (by decide) (h _ ?_)) (fun q => xif_t rfl (h _ ?_)), fun n4 => ⟨fun z => users_ok hP hI h1 h2 fun x hx => h x ?_, fun n5 => h _ ?_⟩⟩⟩⟩⟩⟩
  · rw [vline, cif_t z]; exact hx
  · rw [vline, cif_f n0, cif_t z]; exact hx
  · rw [vline, cif_f n0, cif_f n1, cif_t z]; exact hx
  · rw [vline, cif_f n0, cif_f n1, cif_f n2, cif_t z, ← hx]; exact hy
  · rw [vline, cif_f n0, cif_f n1, cif_f n2, cif_f n3, cif_t z, cif_t q]; rfl
  · rw [vline, cif_f n0, cif_f n1, cif_f n2, cif_f n3, cif_t z, cif_f q]; rfl
  · rw [vline, cif_f n0, cif_f n1, cif_f n2, cif_f n3, cif_f n4, cif_t z]; exact hx
  · rw [vline, cif_f n0, cif_f n1, cif_f n2, cif_f n3, cif_f n4, cif_f n5]; rfl
theorem k_box {a : Int32} {l : Nat} (p : Int32) (hc : cS μ S H K T) (hI : Inv S) (ha : a.toInt = l) (hl : l < S.nb) (h : ∀ x : Int32, x.toInt = vbox S l p → Q (some (vI x)) μ) : MW G (d + 4) mX8_box [vR (8, 0, 0), vI a, vI p] μ Q := by
  have hb48 := hI.bd.2.2
  have hP := hc.1.2
  refine wX8_box (hasB_ok hP (fun k h1 h2 => xif_f (by decide) ?_) fun z => absurd (by omega) z)
  have hk : k = l := by omega
  subst hk
  refine ⟨fun z => c_st hP hb48 h1 h2 fun x hx => h x ?_, fun n0 => ⟨fun z => c_en hP hb48 h1 h2 fun x hx => h x ?_, fun n1 => ⟨fun z => c_pa hP hb48 h1 h2 fun x hx => h x ?_, fun n2 => ⟨fun z => avB_ok hP hI h1 h2 (fun q => xif_f (by decide) (h _ ?_)) (fun q => xif_t rfl (h _ ?_)), fun n3 => h _ ?_⟩⟩⟩⟩
  · rw [vbox, cif_t z]; exact hx
  · rw [vbox, cif_f n0, cif_t z]; exact hx
  · rw [vbox, cif_f n0, cif_f n1, cif_t z]; exact hx
  · rw [vbox, cif_f n0, cif_f n1, cif_f n2, cif_t z, cif_t q]; rfl
  · rw [vbox, cif_f n0, cif_f n1, cif_f n2, cif_t z, cif_f q]; rfl
  · rw [vbox, cif_f n0, cif_f n1, cif_f n2, cif_f n3]; rfl
theorem k_reference {a p : Int32} {l i : Nat} (hc : cS μ S H K T) (hI : Inv S) (ha : a.toInt = l) (hl : l < S.nl) (hp : p.toInt = i) (hi : i < 3) (h : ∀ x : Int32, x.toInt = (if S.L (2 + i) l = -6 then -1 else S.L (2 + i) l) → Q (some (vI x)) μ) : MW G (d + 3) mX8_reference [vR (8, 0, 0), vI a, vI p] μ Q := by
  have hP := hc.1.2
  refine wX8_reference (hasL_ok hP (fun k h1 h2 => xif_f (by decide) ?_) fun z => absurd (by omega) z)
  have hk : k = l := by omega
  subst hk
  refine refAt_ok hP hI h1 h2 hp hi fun y hy => xif_c (fun c => h _ ?_) (fun c => h _ ?_)
  · rw [ti_eq, hy, ti_litm6] at c
    rw [if_pos c]; rfl
  · rw [ti_eq, hy, ti_litm6] at c
    rw [if_neg c]; exact hy
theorem k_bypass {a : Int32} {l : Nat} (hc : cS μ S H K T) (hI : Inv S) (ha : a.toInt = l) (hl : l < S.nl) (h : ∀ x : Int32, x.toInt = byp S l → Q (some (vI x)) μ) : MW G (d + 3) mX8_bypass [vR (8, 0, 0), vI a] μ Q := by
  refine wX8_bypass (hasL_ok hc.1.2 (fun k h1 h2 => xif_f (by decide) (by_ok hc.1.2 hI.2.1 (hI.2.2.2.2.2.1 k h2).2.2.1 h1 h2 fun x hx => h x ?_)) fun z => absurd (by omega) z)
  rw [hx, show k = l by omega]
theorem k_needs {a : Int32} {l : Nat} (hc : cS μ S H K T) (hI : Inv S) (ha : a.toInt = l) (hl : l < S.nl) (h : ∀ y : Int64, (∀ i, hasb y i = needS S l i) → Q (some (vL y)) μ) : MW G (d + 5) mX8_needs [vR (8, 0, 0), vI a] μ Q := by
  refine wX8_needs (hasL_ok hc.1.2 (fun k h1 h2 => xif_f (by decide) (need_ok hc.1.2 hI h1 h2 fun y hy => h y ?_)) fun z => absurd (by omega) z)
  intro i
  rw [hy, show k = l by omega]
theorem k_detours (hc : cS μ S H K T) (hI : Inv S) (h : ∀ x : Int32, x.toInt = cntD S S.nl → Q (some (vI x)) μ) : MW G (d + 4) mX8_detours [vR (8, 0, 0)] μ Q := by
  have h48 := hI.2.1
  have hr := hc.1.2
  refine wX8_detours (wX4_countDetours fun Z => ?_)
  refine up_loop (σ := Int32) (fun i x => WS G eX4_countDetours (d + 3) Z _ 4 [vR (3, 0, 0), vI x, vI (nI i)] [] μ) (fun i x => x.toInt = cntD S i) S.nl ?_ ?_ 0 _ (by omega) rfl
  · intro i x hi hx ih
    have ei : (nI i).toInt = i := nI_t (by omega)
    have hu := cntD_le S i
    refine wX4_countDetours_4 (xif_f (by rw [ti_le, hr.1, ei]; omega) (by_ok hr h48 (hI.2.2.2.2.2.1 i hi).2.2.1 ei hi fun y hy => xif_c (fun c => ?_) (fun c => ?_)))
    · rw [nI_1]
      refine ih _ ?_
      rw [ti_eq, hy, ti_litm6] at c
      unfold cntD
      rw [if_pos c, hx]
    · rw [nI_1]
      refine ih _ ?_
      rw [ti_eq, hy, ti_litm6] at c
      unfold cntD
      rw [if_neg c, ti_add (by rw [hx, ti_lit1]; omega) (by rw [hx, ti_lit1]; omega), hx, ti_lit1]
      omega
  · intro x hx
    have ei : (nI S.nl).toInt = S.nl := nI_t (by omega)
    exact wX4_countDetours_4 (xif_t (by rw [ti_le, hr.1, ei]; omega) (h _ hx))
theorem k_failure {a : Int32} {l A : Nat} (hc : cS μ S H K T) (hI : Inv S) (ha : a.toInt = l) (hl : l < S.nl) (hA : S.L 0 l = A) (hA2 : A < S.nf) (h : ∀ (x : Int32) (μ' : xM), x.toInt = fv (flt S (fun i => prm S i || ach S 5 (S.L 5 l) i) A) 256 0 → (∀ q, q ≠ (1, 0, 13) → μ' q = μ q) → cS μ' S H K T → Q (some (vI x)) μ') : MW G (d + 5) mX8_failure [vR (8, 0, 0), vI a] μ Q := by
  have h48 := hI.2.1
  have hP := hc.1.2
  refine wX8_failure (hasL_ok hP (fun k h1 h2 => xif_f (by decide) ?_) fun z => absurd (by omega) z)
  have hk : k = l := by omega
  subst hk
  refine c_ho hP h48 h1 h2 fun x hx => c_lf hP h48 h1 h2 fun y hy => lowest_ok hc.1 hI (by rw [hx]; exact hI.home h2) (hy.trans hA) hA2 fun z μ' hz e => ?_
  obtain ⟨f1, f2⟩ := hc.sc13 (by omega) e
  exact h z μ' (by rw [hz, hx]) e f2
theorem k_counterexample {a : Int32} {f : Nat} (hc : cS μ S H K T) (hI : Inv S) (ha : a.toInt = f) (hf : f < S.nf) (h : ∀ (x : Int32) (μ' : xM), x.toInt = fv (flt S (fun i => prm S i || ach S 5 S.inn i) f) 256 0 → (∀ q, q ≠ (1, 0, 13) → μ' q = μ q) → cS μ' S H K T → Q (some (vI x)) μ') : MW G (d + 5) mX8_counterexample [vR (8, 0, 0), vI a] μ Q := by
  have hP := hc.1.2
  refine wX8_counterexample (has_ok hc.1.1 (fun k h1 h2 => xif_f (by decide) ?_) fun z => absurd (by omega) z)
  have hk : k = f := by omega
  subst hk
  refine lowest_ok hc.1 hI (by rw [hP.2.2.1]; exact openX hI) h1 h2 fun z μ' hz e => ?_
  obtain ⟨f1, f2⟩ := hc.sc13 (by omega) e
  exact h z μ' (by rw [hz, hP.2.2.1]) e f2
/-- shorten -/
theorem k_shorten (hc : cS μ S H K T) (hI : Inv S) (h : ∀ (x : Int32) (μ' : xM), x.toInt = (shA (S, 0) S.nl).2 → frC μ μ' → cS μ' (shA (S, 0) S.nl).1 ((S :: H).take 5) K T → Q (some (vI x)) μ') : MW G 8 mX8_shorten [vR (8, 0, 0)] μ Q := by
  have okA := shA_ok hI S.nl (Nat.le_refl _)
  refine wX8_shorten (record_ok hI.bd hc.1 hc.2.1 fun μ1 e1 r1 => ?_)
  have hP1 : repP μ1 0 S := hc.1.2.keep fun q hq => e1 q (ownH_not0 (Or.inr hq))
  refine bd_ok hP1 hI fun x μ2 hx e2 r2 => ?_
  obtain ⟨f1, f2⟩ := hc.updP (S' := (shA (S, 0) S.nl).1) e1 r1 e2 (hc.1.1.cg okA.2.1 okA.2.2.1) r2
  exact h x μ2 hx f1 f2
/-- atom, falsum, not, pair -/
theorem k_atom {a : Int32} (hc : cS μ S H K T) (hI : Inv S) (ha : 0 ≤ a.toInt ∧ a.toInt < 8) (h : ∀ (x : Int32) (μ' : xM), x.toInt = (mk1 S H 0 a.toInt (-6)).1 → frC μ μ' → cS μ' (mk1 S H 0 a.toInt (-6)).2.1 (mk1 S H 0 a.toInt (-6)).2.2 K T → Q (some (vI x)) μ') : MW G 8 mX8_atom [vR (8, 0, 0), vI a] μ Q := by
  have e8 : (8 : Int32).toInt = 8 := rfl
  exact wX8_atom (xif_f (by rw [ti_lt, ti_lit0]; omega) (xif_t (by rw [ti_lt, e8]; omega) (c_mk1 hc hI fun x μ' hx hf hc' => h x μ' hx hf hc')))
theorem k_falsum (hc : cS μ S H K T) (hI : Inv S) (h : ∀ (x : Int32) (μ' : xM), x.toInt = (mk1 S H 1 (-6) (-6)).1 → frC μ μ' → cS μ' (mk1 S H 1 (-6) (-6)).2.1 (mk1 S H 1 (-6) (-6)).2.2 K T → Q (some (vI x)) μ') : MW G 8 mX8_falsum [vR (8, 0, 0)] μ Q :=
  wX8_falsum (c_mk1 hc hI fun x μ' hx hf hc' => h x μ' hx hf hc')
theorem k_not {a : Int32} (hc : cS μ S H K T) (hI : Inv S) (ha : vF S a.toInt) (h : ∀ (x : Int32) (μ' : xM), x.toInt = (mk1 S H 2 a.toInt (-6)).1 → frC μ μ' → cS μ' (mk1 S H 2 a.toInt (-6)).2.1 (mk1 S H 2 a.toInt (-6)).2.2 K T → Q (some (vI x)) μ') : MW G 8 mX8_not [vR (8, 0, 0), vI a] μ Q :=
  wX8_not (has_ok hc.1.1 (fun k _ _ => xif_f (by decide) (c_mk1 hc hI fun x μ' hx hf hc' => h x μ' hx hf hc')) fun z => absurd ha z)
theorem k_pair {k a b : Int32} (hc : cS μ S H K T) (hI : Inv S) (hk : 3 ≤ k.toInt ∧ k.toInt ≤ 5) (ha : vF S a.toInt) (hb : vF S b.toInt) (h : ∀ (x : Int32) (μ' : xM), x.toInt = (mk1 S H k.toInt a.toInt b.toInt).1 → frC μ μ' → cS μ' (mk1 S H k.toInt a.toInt b.toInt).2.1 (mk1 S H k.toInt a.toInt b.toInt).2.2 K T → Q (some (vI x)) μ') : MW G 8 mX8_pair [vR (8, 0, 0), vI k, vI a, vI b] μ Q := by
  have e3 : (3 : Int32).toInt = 3 := rfl
  have e5 : (5 : Int32).toInt = 5 := rfl
  exact wX8_pair (has_ok hc.1.1 (fun _ _ _ => xif_f (by decide) (has_ok hc.1.1 (fun _ _ _ => xif_f (by decide) (xif_f (by rw [ti_lt, e3]; omega) (xif_t (by rw [ti_le, e5]; omega) (c_mk1 hc hI fun x μ' hx hf hc' => h x μ' hx hf hc')))) fun z => absurd hb z)) fun z => absurd ha z)
end
