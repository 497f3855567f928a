/-! trim: the model's side -/
def setBx (T : aS) (p : Nat) (f : Nat → Int) : aS := (T.1, T.F, T.L, fun c x => if x = p then f c else T.B c x)
theorem setBx_B (T : aS) (p : Nat) (f : Nat → Int) (c x : Nat) : (setBx T p f).B c x = if x = p then f c else T.B c x := rfl
theorem repR.ln {z z' : Nat → Int32} {T : aS} {p : Nat} {f : Nat → Int} (hr : repR z T) (hb : bdS T) (hp : p < T.nl) (e : ∀ i, (i < 183 + 6 * p ∨ 183 + 6 * p + 5 < i) → z' i = z i) (n : ∀ c, c < 6 → (z' (183 + 6 * p + c)).toInt = f c) : repR z' (setLn T p f) := by
  obtain ⟨b1, b2, b3⟩ := hb
  obtain ⟨r1, r2, r3, r4, r5, r6⟩ := hr
  refine ⟨by rw [e 0 (by omega)]; exact r1, by rw [e 1 (by omega)]; exact r2, by rw [e 2 (by omega)]; exact r3, fun c hc x hx => ?_, fun c hc x hx => ?_, fun c hc x hx => ?_⟩
  · have hx : x < T.nf := hx
    rw [e _ (by omega)]
    exact r4 c hc x hx
  · have hx : x < T.nl := hx
    rw [setLn_L]
    by_cases h : x = p
    · rw [if_pos h, h]
      exact n c hc
    · rw [if_neg h, e _ (by omega)]
      exact r5 c hc x hx
  · have hx : x < T.nb := hx
    rw [e _ (by omega)]
    exact r6 c hc x hx
theorem repR.bx {z z' : Nat → Int32} {T : aS} {p : Nat} {f : Nat → Int} (hr : repR z T) (hb : bdS T) (hp : p < T.nb) (e : ∀ i, (i < 471 + 3 * p ∨ 471 + 3 * p + 2 < i) → z' i = z i) (n : ∀ c, c < 3 → (z' (471 + 3 * p + c)).toInt = f c) : repR z' (setBx T p f) := by
  obtain ⟨b1, b2, b3⟩ := hb
  obtain ⟨r1, r2, r3, r4, r5, r6⟩ := hr
  refine ⟨by rw [e 0 (by omega)]; exact r1, by rw [e 1 (by omega)]; exact r2, by rw [e 2 (by omega)]; exact r3, fun c hc x hx => ?_, fun c hc x hx => ?_, fun c hc x hx => ?_⟩
  · have hx : x < T.nf := hx
    rw [e _ (by omega)]
    exact r4 c hc x hx
  · have hx : x < T.nl := hx
    rw [e _ (by omega)]
    exact r5 c hc x hx
  · have hx : x < T.nb := hx
    rw [setBx_B]
    by_cases h : x = p
    · rw [if_pos h, h]
      exact n c hc
    · rw [if_neg h, e _ (by omega)]
      exact r6 c hc x hx
theorem repR.cgT {z : Nat → Int32} {T T' : aS} (hr : repR z T) (e1 : T'.nf = T.nf) (e2 : T'.nl = T.nl) (e3 : T'.nb = T.nb) (eF : T'.F = T.F) (eL : ∀ c, c < 6 → ∀ l, l < T.nl → T'.L c l = T.L c l) (eB : ∀ c, c < 3 → ∀ b, b < T.nb → T'.B c b = T.B c b) : repR z T' := by
  obtain ⟨r1, r2, r3, r4, r5, r6⟩ := hr
  refine ⟨by rw [e1]; exact r1, by rw [e2]; exact r2, by rw [e3]; exact r3, fun c hc x hx => ?_, fun c hc x hx => ?_, fun c hc x hx => ?_⟩
  · rw [e1] at hx
    rw [eF]
    exact r4 c hc x hx
  · rw [e2] at hx
    rw [eL c hc x hx]
    exact r5 c hc x hx
  · rw [e3] at hx
    rw [eB c hc x hx]
    exact r6 c hc x hx
section
variable {G : xG} {d : Nat} {μ : xM} {Q : xP} {S : aS} {X : Nat → Bool} {H : List aS} {K : Option aS} {T : aT}
theorem m_lies {T : aS} {dp : Nat → Nat} {l x : Int32} {k b : Nat} (hr : repR (μ (1, 0, 20)) T) (hb : bdS T) (h7 : ∀ b, b < S.nb → okB S dp b) (e2 : T.B 2 = S.B 2) (en : T.nb = S.nb) (hl : l.toInt = k) (hk : k < T.nl) (hX : okX S (T.L 5 k)) (hx : x.toInt = b) (ht : lies (S.B 2) 5 (T.L 5 k) b = true → Q (some (vI 1)) μ) (hf : ¬ lies (S.B 2) 5 (T.L 5 k) b = true → Q (some (vI 0)) μ) : MW G (d + 2) mX9_liesIn [vR (9, 0, 0), vI l, vI x] μ Q := by
  obtain ⟨b1, b2, b3⟩ := hb
  refine wX9_liesIn fun Z => m_ho hr b2 hl hk fun v hv => ?_
  have lp : ∀ (n : Nat) (a : Int32), dpI dp a.toInt ≤ n → okX S a.toInt → (lies (S.B 2) 5 (T.L 5 k) b = true ↔ lies (S.B 2) n a.toInt b = true) → WS G eX9_liesIn (d + 2) Z Q 6 [vR (9, 0, 0), vN, vI x, vI a] [] μ := by
    have z6 : ∀ (n : Nat) (a : Int32), a.toInt = -6 → (lies (S.B 2) 5 (T.L 5 k) b = true ↔ lies (S.B 2) n a.toInt b = true) → WS G eX9_liesIn (d + 2) Z Q 6 [vR (9, 0, 0), vN, vI x, vI a] [] μ := by
      intro n a h1 h2
      refine wX9_liesIn_6 (xif_t (by rw [ti_eq, ti_litm6]; exact h1) (xif_f (by rw [ti_eq, h1, hx]; omega) ⟨z01, hf fun q => ?_⟩))
      have := h2.mp q
      rw [h1] at this
      cases n with
      | zero => cases this
      | succ n => unfold lies at this; rw [if_pos rfl] at this; cases this
    intro n
    induction n with
    | zero =>
      intro a h1 h2 h3
      rcases h2 with z | z
      · exact z6 0 a z h3
      · have := (dp_step h7 z).1; omega
    | succ n ih =>
      intro a h1 h2 h3
      rcases h2 with z | z
      · exact z6 (n + 1) a z h3
      · obtain ⟨c1, c2, c3, c4⟩ := dp_step h7 z
        have ha : a.toInt = (a.toInt.toNat : Nat) := by omega
        have un : lies (S.B 2) (n + 1) a.toInt b = (decide (a.toInt = (b : Int)) || lies (S.B 2) n (S.B 2 a.toInt.toNat) b) := by
          conv => lhs; unfold lies
          rw [if_neg (by omega)]
        rw [un] at h3
        refine wX9_liesIn_6 (xif_f (by rw [ti_eq, ti_litm6]; omega) (xif_c (fun c => xif_t c ⟨z11, ht (h3.mpr ?_)⟩) fun c => ?_))
        · rw [ti_eq, hx] at c
          simp [c]
        · rw [ti_eq, hx] at c
          refine m_pa hr b3 ha (by omega) fun p hp => ?_
          rw [e2] at hp
          refine ih p (by rw [hp]; omega) (by rw [hp]; exact c4) ?_
          rw [h3, hp]
          simp [c]
  exact lp 5 v (by rw [hv]; exact dpI_le h7 hX) (by rw [hv]; exact hX) (by rw [hv])
theorem m_last {T : aS} {dp : Nat → Nat} {x : Int32} {b : Nat} {y : Int64} (hr : repR (μ (1, 0, 20)) T) (hb : bdS T) (hI : Inv S) (h7 : ∀ b, b < S.nb → okB S dp b) (e2 : T.B 2 = S.B 2) (eL : T.L = S.L) (en : T.nb = S.nb) (el : T.nl = S.nl) (hx : x.toInt = b) (hy : ∀ i, i < S.nl → hasb y i = X i) (h : ∀ w : Int32, w.toInt = lastI (S.L 5) (S.B 2) X b S.nl → Q (some (vI w)) μ) : MW G (d + 3) mX9_lastIn [vR (9, 0, 0), vI x, vL y] μ Q := by
  obtain ⟨b1, b2, b3⟩ := id hb
  have h48 := hI.2.1
  refine wX9_lastIn fun Z => ?_
  refine up_loop (σ := Int32) (fun i s => WS G eX9_lastIn (d + 3) Z Q 7 [vR (9, 0, 0), vI x, vL y, vN, vI s, vI (nI i)] [] μ) (fun i s => s.toInt = lastI (S.L 5) (S.B 2) X b i) S.nl ?_ ?_ 0 (-6 : Int32) (by omega) rfl
  · intro i s hi hs ih
    have ei : (nI i).toInt = i := nI_t (by omega)
    refine wX9_lastIn_7 ⟨ti_in l1 (by omega), xif_f (by rw [ti_le, ti_cl' l1, hr.2.1, ei, el]; omega) (xif_c (fun c => ?_) (fun c => ?_))⟩
    · rw [test_iff ei (by omega), hy i hi] at c
      refine m_lies hr hb h7 e2 en ei (by omega) (by rw [eL]; exact hI.home hi) hx (fun q => xif_f (by decide) ?_) (fun q => xif_t rfl ?_)
      · rw [eL] at q
        rw [nI_1]
        refine ih _ ?_
        unfold lastI
        rw [if_pos ⟨c, q⟩, ei]
      · rw [eL] at q
        rw [nI_1]
        refine ih _ ?_
        unfold lastI
        rw [if_neg (fun z => q z.2), hs]
    · rw [test_iff ei (by omega), hy i hi] at c
      rw [nI_1]
      refine ih _ ?_
      unfold lastI
      rw [if_neg (fun z => c z.1), hs]
  · intro s hs
    have ei : (nI S.nl).toInt = S.nl := nI_t (by omega)
    exact wX9_lastIn_7 ⟨ti_in l1 (by omega), xif_t (by rw [ti_le, ti_cl' l1, hr.2.1, ei, el]; omega) (h _ hs)⟩
/-- the rows of new numbers -/
def numL (S : aS) (X : Nat → Bool) (μ : xM) (i : Nat) : Prop := ∀ l, l < i → (μ (1, 0, 24) l).toInt = rk X l
def numB (S : aS) (X : Nat → Bool) (μ : xM) (i : Nat) : Prop := ∀ b, b < i → (μ (1, 0, 25) b).toInt = if yB S X b = true then (rk (yB S X) b : Int) else -6
theorem m_renamed {T : aS} {l x : Int32} {i k : Nat} (hr : repR (μ (1, 0, 20)) T) (h48 : T.nl ≤ 48) (hI : Inv S) (hc : clo S X) (hl : l.toInt = i) (hi : i < S.nl) (eT : T.nl = S.nl) (hold : ∀ c, T.L c i = S.L c i) (hX : X i = true) (hx : x.toInt = k) (hk : k < 3) (hL : numL S X μ S.nl) (hB : numB S X μ S.nb) (h : ∀ w : Int32, w.toInt = newL S X (2 + k) i → Q (some (vI w)) μ) : MW G (d + 3) mX9_renamed [vR (9, 0, 0), vI l, vI x] μ Q := by
  have hnb := hI.2.2.1
  have h48' := hI.2.1
  have hbx : isBx T i k = isBx S i k := by unfold isBx; rw [hold]
  refine wX9_renamed (m_ref hr h48 hl (by omega) hx hk fun v hv => ?_)
  rw [hold] at hv
  rcases refcase (hI.2.2.2.2.2.1 i hi).2.2.1 hk with ⟨c1, c2, c3⟩ | ⟨c1, c2⟩ | ⟨c1, c2, c3⟩
  · have c21 := c2.1
    have c22 := c2.2
    have hvk : v.toInt = ((S.L (2 + k) i).toNat : Nat) := by omega
    refine xif_f (by rw [ti_eq, hv, ti_litm6]; omega) (m_toBox' hr h48 hl (by omega) hx (fun z => by rw [hbx, c3] at z; cases z) fun _ => xif_t rfl ⟨ti_in hvk (by omega), ?_⟩)
    rw [ti_cl' hvk]
    refine h _ ?_
    rw [hL _ (by omega), newL_ref hk, if_neg (by rw [c3]; decide), ren, if_neg (by omega)]
  · refine xif_t (by rw [ti_eq, hv, c2]; rfl) (h _ ?_)
    rw [new_none hk c2]
    rfl
  · have hY := ref_Y hI hc hX hk c3 c2
    obtain ⟨d1, d2, d3, d4⟩ := c2
    have hvk : v.toInt = ((S.L (2 + k) i).toNat : Nat) := by omega
    refine xif_f (by rw [ti_eq, hv, ti_litm6]; omega) (m_toBox' hr h48 hl (by omega) hx (fun _ => xif_f (by decide) ⟨ti_in hvk (by omega), ?_⟩) fun z => by rw [hbx, c3] at z; cases z)
    rw [ti_cl' hvk]
    refine h _ ?_
    rw [hB _ (by omega), if_pos hY, newL_ref hk, if_pos c3, ren, if_neg (by omega)]
end
