/-! the law's body: a formula, a premise, a box that is opened, closed, a shortening -/
section
variable {G : xG} {Z : xZ} {Q : xP} {e g : Int32} {μ : xM} {S : aS}
theorem la_348 (en : En G Z Q e g) (ok : Ok μ S) : WS G eL_law (8 + 1) Z Q 348 (lb [vI e, vN, vI g, vN, vN, vN, vN, vN, vN, vN, vN, vN, vN, vN, vN, vN, vN, vN]) [vI 1] μ := wL_law_348 (en S μ ok)
theorem la_324 {x y : Int32} (en : En G Z Q e g) (ok : Ok μ S) (h : (0 ≤ y.toInt ∧ x.toInt = y.toInt) ∨ (y.toInt < 0 ∧ x.toInt = -4)) : WS G eL_law (8 + 1) Z Q 324 (lb [vI e, vN, vI g, vN, vN, vN, vN, vN, vN, vI y, vN, vN, vN, vN, vN, vN, vN, vN]) [vI x] μ := by
  have em4 : (-4 : Int32).toInt = -4 := rfl
  refine wL_law_324 (xif_c (fun c => wL_law_340 (xif_t ?_ (la_348 en ok))) fun c => wL_law_340 (xif_t ?_ (la_348 en ok)))
  · rw [ti_le, ti_lit0] at c
    rw [ti_eq]; omega
  · rw [ti_le, ti_lit0] at c
    rw [ti_eq, em4]; omega
/-- a formula is made on both sides -/
theorem la_253 {k l r : Int32} {kk ll rr : Int} (en : En G Z Q e g) (ok : Ok μ S) (hk : k.toInt = kk) (hl : E l.toInt ll) (hr : E r.toInt rr) (hv : (kk = 0 ∧ 0 ≤ ll ∧ ll ≤ 7 ∧ rr = -6) ∨ (kk = 1 ∧ ll = -6 ∧ rr = -6) ∨ (kk = 2 ∧ 0 ≤ ll ∧ ll < S.nf ∧ rr = -6) ∨ (3 ≤ kk ∧ kk ≤ 5 ∧ 0 ≤ ll ∧ ll < S.nf ∧ 0 ≤ rr ∧ rr < S.nf)) : WS G eL_law (8 + 1) Z Q 253 (lb [vI e, vN, vI g, vN, vN, vN, vI k, vI l, vN, vN, vN, vN, vN, vN, vN, vN, vN, vN]) [vI r] μ := by
  obtain ⟨hI, hs, hw, H, K, T, hc⟩ := ok
  have e2 : (2 : Int32).toInt = 2 := rfl
  have hF : okF (addF S kk ll rr) S.nf := okF_n hv
  have C : ∀ (y : Int32) (μ1 : xM), cS μ1 S H K T → (∀ (x : Int32) (μ2 : xM), x.toInt = (mk1 S H kk ll rr).1 → frC μ1 μ2 → cS μ2 (mk1 S H kk ll rr).2.1 (mk1 S H kk ll rr).2.2 K T → WS G eL_law (8 + 1) Z Q 324 (lb [vI e, vN, vI g, vN, vN, vN, vN, vN, vN, vI y, vN, vN, vN, vN, vN, vN, vN, vN]) [vI x] μ2) →
      xif (k = 0) (MW G 8 mX8_atom [vR (8, 0, 0), vI l] μ1 (xrI fun x4 μ3 => WS G eL_law (8 + 1) Z Q 324 (lb [vI e, vN, vI g, vN, vN, vN, vN, vN, vN, vI y, vN, vN, vN, vN, vN, vN, vN, vN]) [vI x4] μ3)) (xif (k = 1) (MW G 8 mX8_falsum [vR (8, 0, 0)] μ1 (xrI fun x4 μ3 => WS G eL_law (8 + 1) Z Q 324 (lb [vI e, vN, vI g, vN, vN, vN, vN, vN, vN, vI y, vN, vN, vN, vN, vN, vN, vN, vN]) [vI x4] μ3)) (xif (k = 2) (MW G 8 mX8_not [vR (8, 0, 0), vI l] μ1 (xrI fun x4 μ3 => WS G eL_law (8 + 1) Z Q 324 (lb [vI e, vN, vI g, vN, vN, vN, vN, vN, vN, vI y, vN, vN, vN, vN, vN, vN, vN, vN]) [vI x4] μ3)) (MW G 8 mX8_pair [vR (8, 0, 0), vI k, vI l, vI r] μ1 (xrI fun x4 μ3 => WS G eL_law (8 + 1) Z Q 324 (lb [vI e, vN, vI g, vN, vN, vN, vN, vN, vN, vI y, vN, vN, vN, vN, vN, vN, vN, vN]) [vI x4] μ3)))) := by
    intro y μ1 hc1 h
    refine xif_c (fun c => ?_) fun c0 => xif_c (fun c => ?_) fun c1 => xif_c (fun c => ?_) fun c2 => ?_
    · rw [ti_eq, hk, ti_lit0] at c
      have q : 0 ≤ ll ∧ ll ≤ 7 ∧ rr = -6 := by omega
      have el := hl.nn q.1
      rw [c, ← el, q.2.2] at h
      exact k_atom hc1 hI (by omega) h
    · rw [ti_eq, hk, ti_lit1] at c
      have q : ll = -6 ∧ rr = -6 := by omega
      rw [c, q.1, q.2] at h
      exact k_falsum hc1 hI h
    · rw [ti_eq, hk, e2] at c
      have q : 0 ≤ ll ∧ ll < S.nf ∧ rr = -6 := by omega
      have el := hl.nn q.1
      rw [c, ← el, q.2.2] at h
      exact k_not hc1 hI (by show 0 ≤ l.toInt ∧ l.toInt < S.nf; omega) h
    · rw [ti_eq, hk, ti_lit0] at c0
      rw [ti_eq, hk, ti_lit1] at c1
      rw [ti_eq, hk, e2] at c2
      have q : 3 ≤ kk ∧ kk ≤ 5 ∧ 0 ≤ ll ∧ ll < S.nf ∧ 0 ≤ rr ∧ rr < S.nf := by omega
      have el := hl.nn q.2.2.1
      have er := hr.nn q.2.2.2.2.1
      rw [← hk, ← el, ← er] at h
      exact k_pair hc1 hI (by omega) (by show 0 ≤ l.toInt ∧ l.toInt < S.nf; omega) (by show 0 ≤ r.toInt ∧ r.toInt < S.nf; omega) h
  refine wL_law_253 (w_make hw hI (Or.inr ⟨by omega, hk⟩) hl hr (fun hroom y μ1 hy fr hw1 => C y μ1 (hc.keep fr) fun x μ2 hx fc hc2 => ?_) fun hroom => C _ μ hc fun x μ2 hx fc hc2 => ?_)
  · rw [mk1_t hroom] at hx hc2
    obtain ⟨n, hn, -, -⟩ := mkS_new S kk ll rr
    exact la_324 en (Ok.of (Inv_mkS hI hroom hF) (Snd_mkS hI hs) hw1 fc hc2) (Or.inl ⟨by rw [hy, hn]; omega, by rw [hx, hy]⟩)
  · rw [mk1_f hroom] at hx hc2
    exact la_324 en (Ok.of hI hs hw fc hc2) (Or.inr ⟨by decide, hx⟩)
theorem la_154 {h : Int32} (en : En G Z Q e g) (ok : Ok μ S) : WS G eL_law (8 + 1) Z Q 154 (lb [vI e, vI h, vI g, vN, vN, vN, vN, vN, vN, vN, vN, vN, vN, vN, vN, vN, vN, vN]) [] μ := by
  have hI := ok.1
  have hw := ok.2.2.1
  have t0 := rt0 hw
  have e2 : (2 : Int32).toInt = 2 := rfl
  have e3 : (3 : Int32).toInt = 3 := rfl
  have e4 : (4 : Int32).toInt = 4 := rfl
  have e6 : (6 : Int32).toInt = 6 := rfl
  have e8 : (8 : Int32).toInt = 8 := rfl
  have em1 : (-1 : Int32).toInt = -1 := rfl
  have none : E (-1 : Int32).toInt (-6) := E.none
  have vi0 : vp_in (0 : Int32) 3 := ti_in l0 (by omega)
  -- left is there
  have R : ∀ (s l : Int32) (ll : Int), E l.toInt ll → (s.toInt = 0 ∧ 0 ≤ ll ∧ ll ≤ 7) ∨ (s.toInt = 1 ∧ ll = -6) ∨ (2 ≤ s.toInt ∧ s.toInt ≤ 5 ∧ 0 ≤ ll ∧ ll < S.nf) → WS G eL_law (8 + 1) Z Q 229 (lb [vI e, vI h, vI g, vN, vN, vN, vI s, vN, vN, vN, vN, vN, vN, vN, vN, vN, vN, vN]) [vI l] μ := by
    intro s l ll hl hv
    refine wL_law_229 (xif_c (fun c => ⟨vi0, w_low ?_ fun x h1 h2 => ?_⟩) fun c => ?_)
    · rw [ti_le, e3] at c
      rw [t0]; omega
    · rw [ti_le, e3] at c
      rw [t0] at h2
      exact la_253 (rr := x.toInt) en ok rfl hl (E.of h1) (by omega)
    · rw [ti_le, e3] at c
      exact la_253 en ok rfl hl none (by omega)
  -- the sort is there
  have P : ∀ (s : Int32), (s.toInt = 0 ∨ (0 ≤ s.toInt ∧ s.toInt ≤ 5 ∧ 3 ≤ S.nf)) → WS G eL_law (8 + 1) Z Q 175 (lb [vI e, vI h, vI g, vN, vN, vN, vN, vN, vN, vN, vN, vN, vN, vN, vN, vN, vN, vN]) [vI s] μ := by
    intro s hs
    have low : ∀ n : Int32, 0 < n.toInt → n.toInt ≤ 8 → s.toInt = 0 → WS G eL_law (8 + 1) Z Q 207 (lb [vI e, vI h, vI g, vN, vN, vN, vI s, vN, vN, vN, vN, vN, vN, vN, vN, vN, vN, vN]) [vI n, vI (h >>> ((8 : Int32) &&& 31))] μ := fun n h1 h2 h3 => wL_law_207 (w_low h1 fun x h4 h5 => R s x x.toInt (E.of h4) (by omega))
    refine wL_law_175 (xif_c (fun c => ⟨vi0, w_low ?_ fun x h1 h2 => R s x x.toInt (E.of h1) ?_⟩) fun c => xif_c (fun c2 => ⟨vi0, xif_c (fun _ => low 4 (by decide) (by decide) ?_) fun _ => low 8 (by decide) (by decide) ?_⟩) fun c2 => R s (-1) (-6) none ?_)
    · rw [ti_le, e2] at c
      rw [t0]; omega
    · rw [ti_le, e2] at c
      rw [t0] at h2; omega
    · rw [ti_eq, ti_lit0] at c2; exact c2
    · rw [ti_eq, ti_lit0] at c2; exact c2
    · rw [ti_eq, ti_lit0] at c2
      rw [ti_le, e2] at c
      omega
  refine wL_law_154 ⟨vi0, xif_c (fun c => w_low (by decide) fun x h1 h2 => P x ?_) fun c => P 0 (Or.inl rfl)⟩
  rw [ti_le, t0, e3] at c
  rw [e6] at h2
  omega
/-- is the proof full -/
def fullI (S : aS) (fl : Int32) : Prop := (fl = 0 → S.nl < 48) ∧ (¬ fl = 0 → S.nl = 48)
theorem la_451 (en : En G Z Q e g) (ok : Ok μ S) : WS G eL_law (8 + 1) Z Q 451 (lb [vI e, vN, vI g, vN, vN, vN, vN, vN, vN, vN, vN, vN, vN, vN, vN, vN, vN, vN]) [vI 1] μ := wL_law_451 (en S μ ok)
theorem fit0 {f : Int} : fitV S S.nl f 0 S.inn (-6) (-6) (-6) := by unfold fitV; simp
/-- a premise -/
theorem la_388 {fl f o : Int32} (en : En G Z Q e g) (ok : Ok μ S) (hfl : fullI S fl) (hf : vF S f.toInt) (ho : (o = 0 ∧ S.inn = -6) ∨ (¬ o = 0 ∧ ¬ S.inn = -6)) : WS G eL_law (8 + 1) Z Q 388 (lb [vI e, vN, vI g, vN, vI fl, vN, vI f, vN, vN, vN, vN, vN, vN, vN, vN, vN, vN, vN]) [vI o] μ := by
  obtain ⟨hI, hs, hw, H, K, T, hc⟩ := ok
  have sp : ∀ {w : aW} {μ1 : xM} {y : Int32} {S' : aS} {H' : List aS}, cif (S.inn = -6) (wr S H 0 f.toInt (-6) (-6) (-6)) (-3, S, H) = w → cS μ1 S H K T → y.toInt = w.1 → w.2.1 = S' → w.2.2 = H' → Inv S' → Snd S' → repW μ1 S' → WS G eL_law (8 + 1) Z Q 433 (lb [vI e, vN, vI g, vN, vN, vN, vI f, vN, vN, vN, vN, vN, vN, vN, vN, vN, vN, vN]) [vI y] μ1 := by
    intro w μ1 y S' H' hw1 hc1 hy e1 e2 i1 i2 i3
    refine wL_law_433 (c_premise f hc1 hI fun x μ' hx fc hc2 => ?_)
    have e0 : sp_premise S H f.toInt = w := by unfold sp_premise; rw [cif_t hf, hw1]
    rw [e0] at hx hc2
    rw [e1, e2] at hc2
    exact xif_t (by rw [ti_eq, hx, hy]) (la_451 en (Ok.of i1 i2 i3 fc hc2))
  refine wL_law_388 (xif_c (fun c => xif_c (fun c1 => ?_) fun c1 => ?_) fun c => ?_)
  · have hin : S.inn = -6 := by rcases ho with z | z; exact z.2; exact absurd c z.1
    have hl := hfl.1 c1
    refine w_write (A := 0) (B := 0) (C := 0) hw hI hl (E.of hf.1) (rr := 0) (Or.inr ⟨by decide, rfl⟩) rfl (by decide) (by decide) (by decide) E.none E.none E.none fun x μ1 hx fr hw1 => ?_
    refine sp (S' := addL S f.toInt 0 (-6) (-6) (-6)) (H' := (S :: H).take 5) (cif_t hin) (hc.keep fr) ?_ ?_ ?_ (Inv_addL hI hl hf (Or.inl ⟨Or.inl rfl, rfl, rfl, rfl⟩)) (Snd_addL hI hs hf (Or.inl ⟨Or.inl rfl, rfl, rfl, rfl⟩) (by decide) fit0 ⟨rch_n, rch_n, rch_n⟩) hw1
    · unfold wr; rw [cif_t hl]; exact hx
    · unfold wr; rw [cif_t hl]
    · unfold wr; rw [cif_t hl]
  · have hin : S.inn = -6 := by rcases ho with z | z; exact z.2; exact absurd c z.1
    have hl := hfl.2 c1
    refine sp (S' := S) (H' := H) (cif_t hin) hc ?_ ?_ ?_ hI hs hw
    · unfold wr; rw [cif_f (by omega)]; rfl
    · unfold wr; rw [cif_f (by omega)]
    · unfold wr; rw [cif_f (by omega)]
  · have hin : ¬ S.inn = -6 := by rcases ho with z | z; exact absurd z.1 c; exact z.2
    exact sp (S' := S) (H' := H) (cif_f hin) hc rfl rfl rfl hI hs hw
/-- a shortening -/
theorem la_765 (en : En G Z Q e g) (ok : Ok μ S) : WS G eL_law (8 + 1) Z Q 765 (lb [vI e, vN, vI g, vN, vN, vN, vN, vN, vN, vN, vN, vN, vN, vN, vN, vN, vN, vN]) [vI 1] μ := wL_law_765 (en S μ ok)
/-- a box that is closed -/
theorem la_715 (en : En G Z Q e g) (ok : Ok μ S) : WS G eL_law (8 + 1) Z Q 715 (lb [vI e, vN, vI g, vN, vN, vN, vN, vN, vN, vN, vN, vN, vN, vN, vN, vN, vN, vN]) [vI 1] μ := wL_law_715 (en S μ ok)
theorem repW_close {b : Nat} {v : Int32} (hw : repW μ S) (hb : S.inn = b) (hv : v.toInt = (S.nl : Int) - 1) (hl : 0 < S.nl) : repW (xst μ (1, 0, 30) b v) (closeS S) := by
  obtain ⟨h1, h2, h3, h4⟩ := hw
  refine ⟨by rw [x30]; exact h1, fun c hc f hf => ?_, fun c hc f hf => ?_, fun c hc f hf => ?_⟩
  · rw [xst_rd, if_neg (by rintro ⟨z, -⟩; injection z with _ z; injection z; omega)]; exact h2 c hc f hf
  · rw [xst_rd, if_neg (by rintro ⟨z, -⟩; injection z with _ z; injection z; omega)]; exact h3 c hc f hf
  · rw [closeS_B, xst_rd]
    by_cases q : (f : Int) = S.inn ∧ c = 1
    · rw [if_pos q, if_pos ⟨by rw [q.2], by omega⟩, hv]
      exact E.of (by omega)
    · rw [if_neg q, if_neg ?_]
      · exact h4 c hc f hf
      · rintro ⟨z, z2⟩
        injection z with _ z
        injection z
        exact q ⟨by omega, by omega⟩
theorem la_707 {x y : Int32} (en : En G Z Q e g) (ok : Ok μ S) (h : x.toInt = y.toInt) : WS G eL_law (8 + 1) Z Q 707 (lb [vI e, vN, vI g, vN, vN, vN, vN, vN, vN, vN, vN, vN, vN, vN, vN, vN, vN, vN]) [vI y, vI x] μ := wL_law_707 (xif_t (ti_eq.mpr h) (la_715 en ok))
theorem la_673n {x : Int32} (en : En G Z Q e g) (ok : Ok μ S) (h : S.inn = -6 ∨ ¬ S.L 5 (S.nl - 1) = S.inn) : WS G eL_law (8 + 1) Z Q 673 (lb [vI e, vN, vI g, vN, vN, vN, vI x, vN, vN, vN, vN, vN, vN, vN, vN, vN, vN, vN]) [vI 0] μ := by
  obtain ⟨hI, hs, hw, H, K, T, hc⟩ := ok
  refine wL_law_673 (xif_t rfl (wL_law_691 (c_close hc hI fun y μ' hy fc hc2 => xif_t rfl ?_)))
  unfold sp_close at hy hc2
  rw [cif_t h] at hy hc2
  exact la_707 en (Ok.of hI hs hw fc hc2) hy
theorem la_673y {x : Int32} {b : Nat} (en : En G Z Q e g) (ok : Ok μ S) (hb : S.inn = b) (hbn : b < S.nb) (hop : S.B 1 b = -6) (hx : x.toInt = b) (hh : S.L 5 (S.nl - 1) = S.inn) : WS G eL_law (8 + 1) Z Q 673 (lb [vI e, vN, vI g, vN, vN, vN, vI x, vN, vN, vN, vN, vN, vN, vN, vN, vN, vN, vN]) [vI 1] μ := by
  obtain ⟨hI, hs, hw, H, K, T, hc⟩ := ok
  have h48 := hI.2.1
  have hb48 := hI.bd.2.2
  have hnb := hI.2.2.1
  have t1 := rt1 hw
  have hl : 0 < S.nl := by omega
  have ev : (μ (1, 0, 32) (1 : Int32).toNatClampNeg - 1).toInt = (S.nl : Int) - 1 := by rw [ti_sub (by rw [t1, ti_lit1]; omega) (by rw [t1, ti_lit1]; omega), t1, ti_lit1]
  refine wL_law_673 (xif_f (by decide) ⟨ti_in l1 (by omega), ti_in hx (by omega), wL_law_691 ?_⟩)
  rw [ti_cl' hx]
  have hn : ¬ (S.inn = -6 ∨ ¬ S.L 5 (S.nl - 1) = S.inn) := by
    rintro (z | z)
    · omega
    · exact z hh
  refine c_close (hc.keep (frM_xst (by omega))) hI fun y μ' hy fc hc2 => xif_f (by decide) ?_
  unfold sp_close at hy hc2
  rw [cif_f hn] at hy hc2
  exact la_707 en (Ok.of (Inv_close hI hb (hh.trans hb)) (Snd_close hI hs hb hbn hop (hh.trans hb) hl) (repW_close hw hb ev hl) fc hc2) (by rw [hy, hx]; exact hb)
/-- a box that is opened -/
theorem la_628 (en : En G Z Q e g) (ok : Ok μ S) : WS G eL_law (8 + 1) Z Q 628 (lb [vI e, vN, vI g, vN, vN, vN, vN, vN, vN, vN, vN, vN, vN, vN, vN, vN, vN, vN]) [vI 1] μ := wL_law_628 (en S μ ok)
theorem repW_box {x : Int32} (hw : repW μ S) (hI : Inv S) (hl : S.nl < 48) (hx : E x.toInt S.inn) {v0 v2 : Int32} (h0 : v0.toInt = S.nl) (h2 : v2.toInt = S.nb + 1) : repW (xst (xst (xst (xst μ (1, 0, 29) S.nb v0) (1, 0, 30) S.nb (-1)) (1, 0, 31) S.nb x) (1, 0, 32) 2 v2) (boxS S) := by
  obtain ⟨⟨a1, a2, a3⟩, h2', h3, h4⟩ := hw
  refine ⟨⟨?_, ?_, ?_⟩, fun c hc f hf => ?_, fun c hc f hf => ?_, fun c hc f hf => ?_⟩
  · rw [xst_rd, if_neg (by omega), x31, x30, x29]; exact a1
  · rw [xst_rd, if_neg (by omega), x31, x30, x29]; exact a2
  · rw [xself, h2]; rfl
  · rw [xst_rd, if_neg (by rintro ⟨z, -⟩; injection z with _ z; injection z; omega), xst_rd, if_neg (by rintro ⟨z, -⟩; injection z with _ z; injection z; omega), xst_rd, if_neg (by rintro ⟨z, -⟩; injection z with _ z; injection z; omega), xst_rd, if_neg (by rintro ⟨z, -⟩; injection z with _ z; injection z; omega)]
    exact h2' c hc f hf
  · rw [xst_rd, if_neg (by rintro ⟨z, -⟩; injection z with _ z; injection z; omega), xst_rd, if_neg (by rintro ⟨z, -⟩; injection z with _ z; injection z; omega), xst_rd, if_neg (by rintro ⟨z, -⟩; injection z with _ z; injection z; omega), xst_rd, if_neg (by rintro ⟨z, -⟩; injection z with _ z; injection z; omega)]
    exact h3 c hc f hf
  · rw [boxS_B]
    have hf : f < S.nb + 1 := hf
    by_cases q : f = S.nb
    · subst q
      rw [if_pos rfl]
      rcases (show c = 0 ∨ c = 1 ∨ c = 2 by omega) with rfl | rfl | rfl
      · rw [if_pos rfl]
        simp [xst_rd, h0]
        exact E.of (by omega)
      · simp [xst_rd]
        exact E.none
      · simp [xst_rd]
        exact hx
    · rw [if_neg q]
      have c32 : ¬ (29 + c = 32) := by omega
      simp [xst_rd, q, c32]
      exact h4 c hc f (by omega)
theorem la_612 {dp : Nat → Nat} {f y : Int32} {S' : aS} (en : En G Z Q e g) (hI : Inv S) (h7 : ∀ b, b < S.nb → okB S dp b) {H : List aS} {K : Option aS} {T : aT} (hc : cS μ S H K T) (hf : vF S f.toInt) (hi : Inv S') (hs : Snd S') (hw : repW μ S') (h : (y.toInt = -4 ∧ S' = S ∧ (S.nl = 48 ∨ dpI dp S.inn = 5)) ∨ (y.toInt = S.nl ∧ S' = openS S f.toInt ∧ S.nl < 48 ∧ dpI dp S.inn < 5)) : WS G eL_law (8 + 1) Z Q 612 (lb [vI e, vN, vI g, vN, vN, vN, vI f, vN, vN, vI y, vN, vN, vN, vN, vN, vN, vN, vN]) [] μ := by
  refine wL_law_612 (c_open f hc hI h7 fun x μ' hx fc hc2 => ?_)
  unfold sp_open at hx hc2
  rw [cif_t hf] at hx hc2
  rcases h with ⟨h1, rfl, h3⟩ | ⟨h1, rfl, h3, h4⟩
  · have e1 : cif (S'.nl < 48) (cif (dpI dp S'.inn < 5) ((S'.nl : Int), openS S' f.toInt, (S' :: H).take 5) (-4, S', H)) (-4, S', H) = (-4, S', H) := by
      rcases h3 with z | z
      · exact cif_f (by omega)
      · by_cases q : S'.nl < 48
        · rw [cif_t q, cif_f (by omega)]
        · exact cif_f q
    rw [e1] at hx hc2
    exact xif_t (by rw [ti_eq, hx, h1]) (la_628 en (Ok.of hi hs hw fc hc2))
  · rw [cif_t h3, cif_t h4] at hx hc2
    exact xif_t (by rw [ti_eq, hx, h1]) (la_628 en (Ok.of hi hs hw fc hc2))
theorem la_482 {fl f : Int32} (en : En G Z Q e g) (ok : Ok μ S) (hfl : fullI S fl) (hf : vF S f.toInt) : WS G eL_law (8 + 1) Z Q 482 (lb [vI e, vN, vI g, vN, vI fl, vN, vI f, vI 0, vI 0, vN, vN, vN, vN, vN, vN, vN, vN, vN]) [] μ := by
  obtain ⟨hI, hs, hw, H, K, T, hc⟩ := ok
  have h48 := hI.2.1
  have hb48 := hI.bd.2.2
  have hnb := hI.2.2.1
  have t1 := rt1 hw
  have t2 := rt2 hw
  obtain ⟨dp, h7⟩ := id hI.2.2.2.2.2.2.1
  have h5 := dpI_le h7 (openX hI)
  have e5 : (5 : Int32).toInt = 5 := rfl
  have vi2 : vp_in (2 : Int32) 3 := ti_in l2 (by omega)
  have vi1 : vp_in (1 : Int32) 3 := ti_in l1 (by omega)
  have no : (S.nl = 48 ∨ dpI dp S.inn = 5) → WS G eL_law (8 + 1) Z Q 526 (lb [vI e, vN, vI g, vN, vN, vN, vI f, vN, vN, vN, vN, vN, vN, vN, vN, vN, vN, vN]) [] μ := fun h => wL_law_526 (wL_law_531 (xif_f (by decide) (la_612 (y := -4) en hI h7 hc hf hI hs hw (Or.inl ⟨rfl, rfl, h⟩))))
  refine up_loop (σ := Int32) (fun i r => WS G eL_law (8 + 1) Z Q 482 (lb [vI e, vN, vI g, vN, vI fl, vN, vI f, vI r, vI (nI i), vN, vN, vN, vN, vN, vN, vN, vN, vN]) [] μ) (fun i r => r.toInt = cntO S i) S.nb ?_ ?_ 0 0 (by omega) rfl
  · intro n v hn hv ih
    have en' : (nI n).toInt = n := nI_t (by omega)
    have vin : vp_in (nI n) 48 := ti_in en' (by omega)
    have q1 := rq hw en' hn
    have hle := cntO_le S n
    have ih : ∀ v' : Int32, v'.toInt = cntO S (n + 1) → WS G eL_law (8 + 1) Z Q 482 (lb [vI e, vN, vI g, vN, vI fl, vN, vI f, vI v', vI (nI n + 1), vN, vN, vN, vN, vN, vN, vN, vN, vN]) [] μ := fun v' h => by rw [nI_1]; exact ih v' h
    refine wL_law_482 ⟨vi2, xif_f (by rw [ti_le, t2, en']; omega) ⟨vin, xif_c (fun c => wL_law_506 (ih _ ?_)) fun c => wL_law_506 (ih _ ?_)⟩⟩
    · rw [ti_le, ti_lit0] at c
      unfold cntO
      rw [if_neg (fun z => by have := q1.lt.mpr z; omega), ti_add (by rw [hv, ti_lit0]; omega) (by rw [hv, ti_lit0]; omega), hv, ti_lit0]
      omega
    · rw [ti_le, ti_lit0] at c
      unfold cntO
      rw [if_pos (q1.lt.mp (by omega)), ti_add (by rw [hv, ti_lit1]; omega) (by rw [hv, ti_lit1]; omega), hv, ti_lit1]
      omega
  · intro v hv
    have en' : (nI S.nb).toInt = S.nb := nI_t (by omega)
    rw [cntO_dp h7 S.nb (Nat.le_refl _), ← hI.2.2.2.1] at hv
    refine wL_law_482 ⟨vi2, xif_t (by rw [ti_le, t2, en']; omega) (xif_c (fun c1 => xif_c (fun c2 => no (Or.inr ?_)) fun c2 => ?_) fun c1 => no (Or.inl (hfl.2 c1)))⟩
    · rw [ti_eq, hv, e5] at c2; omega
    · rw [ti_eq, hv, e5] at c2
      have hl := hfl.1 c1
      have hd : dpI dp S.inn < 5 := by omega
      refine wL_law_531 (xif_t rfl (w_latest hw hI fun x hx => ?_))
      rw [← hI.2.2.2.1] at hx
      have en2 : (μ (1, 0, 32) (2 : Int32).toNatClampNeg).toNatClampNeg = S.nb := ti_cl' t2
      have vib : vp_in (μ (1, 0, 32) (2 : Int32).toNatClampNeg) 48 := ti_in t2 (by omega)
      show _ ∧ _ ∧ _ ∧ _ ∧ _ ∧ _ ∧ _ ∧ _ ∧ _ ∧ _
      simp only [x29, x30, x31, en2]
      refine ⟨vi2, vi1, vib, vi2, vib, vi2, vib, vi2, vi2, ?_⟩
      have e2' : (μ (1, 0, 32) (2 : Int32).toNatClampNeg + 1).toInt = S.nb + 1 := by rw [ti_add (by rw [t2, ti_lit1]; omega) (by rw [t2, ti_lit1]; omega), t2, ti_lit1]
      have hwb := repW_box hw hI hl hx t1 e2'
      refine w_writeW (S := boxS S) (A := 0) (B := 0) (C := 0) hwb (by show S.nb + 1 ≤ 48; omega) ?_ hl (E.of hf.1) (rr := 1) (Or.inr ⟨by decide, rfl⟩) rfl (by decide) (by decide) (by decide) E.none E.none E.none fun y μ1 hy fr hw1 => ?_
      · show (S.nb : Int) = latO (boxS S) (S.nb + 1)
        unfold latO
        rw [if_pos (by rw [boxS_B, if_pos rfl, if_neg (by omega), if_pos rfl])]
      · have fr' : frM μ μ1 := ((((frM_xst (by omega)).tr (frM_xst (by omega))).tr (frM_xst (by omega))).tr (frM_xst (by omega))).tr fr
        exact la_612 en hI h7 (hc.keep fr') hf (Inv_open hI h7 hl hd hf) (Snd_open hI hs hf) hw1 (Or.inr ⟨hy, rfl, hl, hd⟩)
end
