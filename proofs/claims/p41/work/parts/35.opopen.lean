/-! open and close: both sides -/
def boxS (S : aS) : aS := ((S.nf, S.nl, S.nb + 1, (S.nb : Int)), S.F, S.L, fun c b => if b = S.nb then (if c = 0 then (S.nl : Int) else if c = 1 then -6 else S.inn) else S.B c b)
def openS (S : aS) (f : Int) : aS := addL (boxS S) f 1 (-6) (-6) (-6)
def closeS (S : aS) : aS := ((S.nf, S.nl, S.nb, S.B 2 S.inn.toNat), S.F, S.L, fun c b => if (b : Int) = S.inn ∧ c = 1 then (S.nl : Int) - 1 else S.B c b)
theorem boxS_B (S : aS) (c b : Nat) : (boxS S).B c b = if b = S.nb then (if c = 0 then (S.nl : Int) else if c = 1 then -6 else S.inn) else S.B c b := rfl
theorem closeS_B (S : aS) (c b : Nat) : (closeS S).B c b = if (b : Int) = S.inn ∧ c = 1 then (S.nl : Int) - 1 else S.B c b := rfl
theorem latO_lt {S S' : aS} : ∀ n, (∀ b, b < n → (S.B 1 b = -6 ↔ S'.B 1 b = -6)) → latO S n = latO S' n
  | 0, _ => rfl
  | n + 1, h => by
    unfold latO
    by_cases c : S.B 1 n = -6
    · rw [if_pos c, if_pos ((h n (by omega)).mp c)]
    · rw [if_neg c, if_neg (fun q => c ((h n (by omega)).mpr q)), latO_lt n fun b hb => h b (by omega)]
theorem boxS_old {S : aS} {c b : Nat} (h : b < S.nb) : (boxS S).B c b = S.B c b := by rw [boxS_B, if_neg (by omega)]
theorem lat_box (S : aS) : latO (boxS S) (S.nb + 1) = S.nb := by
  unfold latO
  rw [if_pos (by rw [boxS_B, if_pos rfl, if_neg (by omega), if_pos rfl])]
theorem okBR_mono {S S' : aS} {l : Nat} {x : Int} (h : okBR S l x) (hn : S.nb ≤ S'.nb) (e : ∀ b, b < S.nb → 0 ≤ S.B 1 b → S'.B 1 b = S.B 1 b) : okBR S' l x := by
  obtain ⟨h1, h2, h3, h4⟩ := h
  have := e x.toNat (by omega) h3
  exact ⟨h1, by omega, by rw [this]; exact h3, by rw [this]; exact h4⟩
theorem okRef_mono {S S' : aS} {l : Nat} (h : okRef S l) (hL : S'.L = S.L) (hn : S.nb ≤ S'.nb) (e : ∀ b, b < S.nb → 0 ≤ S.B 1 b → S'.B 1 b = S.B 1 b) : okRef S' l := by
  unfold okRef at *
  rw [hL]
  rcases h with h | h | h | ⟨h1, h2, h3, h4⟩ | ⟨h1, h2, h3⟩
  · exact Or.inl h
  · exact Or.inr (Or.inl h)
  · exact Or.inr (Or.inr (Or.inl h))
  · exact Or.inr (Or.inr (Or.inr (Or.inl ⟨h1, h2, okBR_mono h3 hn e, okBR_mono h4 hn e⟩)))
  · exact Or.inr (Or.inr (Or.inr (Or.inr ⟨h1, okBR_mono h2 hn e, h3⟩)))
theorem Inv_open {S : aS} {f : Int} {dp : Nat → Nat} (h : Inv S) (h7 : ∀ b, b < S.nb → okB S dp b) (hl : S.nl < 48) (hd : dpI dp S.inn < 5) (hf : 0 ≤ f ∧ f < S.nf) : Inv (openS S f) := by
  have hX := h.innX
  obtain ⟨h1, h2, h3, h4, h5, h6, -, h8⟩ := h
  have nb' : (openS S f).nb = S.nb + 1 := rfl
  have nl' : (openS S f).nl = S.nl + 1 := rfl
  have Bo : ∀ c b, (openS S f).B c b = (boxS S).B c b := fun _ _ => rfl
  have Lo : ∀ k x, x < S.nl → (openS S f).L k x = S.L k x := fun k x hx => by
    show (addL (boxS S) f 1 (-6) (-6) (-6)).L k x = _
    rw [addL_L, if_neg (by show ¬ x = S.nl; omega)]
    rfl
  have Ln : ∀ k, (openS S f).L k S.nl = if k = 0 then f else if k = 1 then 1 else if k = 2 then -6 else if k = 3 then -6 else if k = 4 then -6 else (S.nb : Int) := fun k => by
    show (addL (boxS S) f 1 (-6) (-6) (-6)).L k S.nl = _
    rw [addL_L, if_pos (show S.nl = (boxS S).nl from rfl)]
    rfl
  have lat : ∀ n, latO (openS S f) n = latO (boxS S) n := latO_cg (S := openS S f) (S' := boxS S) rfl
  have latlt : ∀ n, n ≤ S.nb → latO (boxS S) n = latO S n := fun n hn => latO_lt n fun b hb => by rw [boxS_old (by omega)]
  have hst : ∀ b, b < S.nb → S.B 0 b < S.nl := fun b hb => (h7 b hb).2.1
  refine ⟨h1, by rw [nl']; omega, by rw [nl', nb']; omega, ?_, h5, fun x hx => ?_, ⟨fun b => if b = S.nb then dpI dp S.inn + 1 else dp b, fun y hy => ?_⟩, fun b b' hb hb' => ?_⟩
  · show (S.nb : Int) = latO (openS S f) (S.nb + 1)
    rw [lat, lat_box]
  · rw [nl'] at hx
    by_cases hxn : x = S.nl
    · subst hxn
      refine ⟨by rw [Ln]; exact hf.1, by rw [Ln]; exact hf.2, ?_, ?_⟩
      · refine Or.inl ?_
        rw [Ln, Ln, Ln, Ln]
        exact ⟨Or.inr rfl, rfl, rfl, rfl⟩
      · refine Or.inr ?_
        rw [Ln, Bo, Bo]
        show 0 ≤ (S.nb : Int) ∧ (S.nb : Int) < ((S.nb + 1 : Nat) : Int) ∧ (boxS S).B 0 (S.nb : Int).toNat ≤ _ ∧ ((boxS S).B 1 (S.nb : Int).toNat = -6 ∨ _)
        rw [Int.toNat_natCast, boxS_B, boxS_B, if_pos rfl, if_pos rfl, if_pos rfl, if_neg (by omega), if_pos rfl]
        exact ⟨by omega, by omega, by omega, Or.inl rfl⟩
    · obtain ⟨a1, a2, a3, a4⟩ := h6 x (by omega)
      have a3' : okRef (boxS S) x := okRef_mono a3 rfl (by show S.nb ≤ S.nb + 1; omega) fun b hb _ => boxS_old hb
      refine ⟨by rw [Lo _ _ (by omega)]; exact a1, by rw [Lo _ _ (by omega)]; exact a2, ?_, ?_⟩
      · unfold okRef at a3' ⊢
        rw [Lo _ _ (by omega), Lo _ _ (by omega), Lo _ _ (by omega), Lo _ _ (by omega)]
        exact a3'
      · rw [Lo _ _ (by omega), nb']
        rcases a4 with z | ⟨z1, z2, z3, z4⟩
        · exact Or.inl z
        · refine Or.inr ⟨z1, by omega, ?_, ?_⟩
          · rw [Bo, boxS_old (by omega)]; exact z3
          · rw [Bo, boxS_old (by omega)]; exact z4
  · rw [nb'] at hy
    by_cases hyn : y = S.nb
    · subst hyn
      have B0 : (openS S f).B 0 S.nb = S.nl := by rw [Bo, boxS_B, if_pos rfl, if_pos rfl]
      have B1 : (openS S f).B 1 S.nb = -6 := by rw [Bo, boxS_B, if_pos rfl, if_neg (by omega), if_pos rfl]
      have B2 : (openS S f).B 2 S.nb = S.inn := by rw [Bo, boxS_B, if_pos rfl, if_neg (by omega), if_neg (by omega)]
      have D : (fun b => if b = S.nb then dpI dp S.inn + 1 else dp b) S.nb = dpI dp S.inn + 1 := if_pos rfl
      refine ⟨by rw [B0]; omega, by rw [B0, nl']; omega, ?_, Or.inl B1, fun _ => ?_, by rw [D]; omega, by rw [D]; omega, ?_⟩
      · rw [B0, Int.toNat_natCast, Ln]; rfl
      · rw [B2, lat, latlt _ (Nat.le_refl _)]; exact h4
      · rw [B1, B2, D]
        rcases hX with z | ⟨b', z1, z2, z3⟩
        · exact Or.inl ⟨z, by rw [dpI, if_pos z]⟩
        · refine Or.inr ⟨by omega, by omega, ?_, Or.inl ?_⟩
          · show dpI dp S.inn + 1 = (if S.inn.toNat = S.nb then dpI dp S.inn + 1 else dp S.inn.toNat) + 1
            rw [if_neg (by omega), dpI, if_neg (by omega)]
          · rw [Bo, z1, Int.toNat_natCast, boxS_old z2]; exact z3
    · have hyb : y < S.nb := by omega
      obtain ⟨a1, a2, a3, a4, a5, a6, a7, a8⟩ := h7 y hyb
      have E : ∀ c, (openS S f).B c y = S.B c y := fun c => by rw [Bo, boxS_old hyb]
      have D : (fun b => if b = S.nb then dpI dp S.inn + 1 else dp b) y = dp y := if_neg hyn
      refine ⟨by rw [E]; exact a1, by rw [E, nl']; omega, ?_, ?_, ?_, by rw [D]; exact a6, by rw [D]; exact a7, ?_⟩
      · rw [E, Lo _ _ (by omega)]; exact a3
      · rw [E, E, nl']
        rcases a4 with z | ⟨z1, z2⟩
        · exact Or.inl z
        · exact Or.inr ⟨z1, by omega⟩
      · intro z
        rw [E] at z
        rw [E, lat, latlt _ (by omega)]
        exact a5 z
      · rw [E, E, D]
        rcases a8 with z | ⟨z1, z2, z3, z4⟩
        · exact Or.inl z
        · refine Or.inr ⟨z1, z2, ?_, ?_⟩
          · show _ = (if (S.B 2 y).toNat = S.nb then dpI dp S.inn + 1 else dp (S.B 2 y).toNat) + 1
            rw [if_neg (by omega)]; exact z3
          · rw [Bo, boxS_old (by omega)]; exact z4
  · rw [nb'] at hb'
    rw [Bo, Bo]
    by_cases hbn : b' = S.nb
    · subst hbn
      rw [boxS_old hb, boxS_B, if_pos rfl, if_pos rfl]
      exact hst b hb
    · rw [boxS_old (by omega), boxS_old (by omega)]
      exact h8 b b' hb (by omega)
/-- above the latest open box all are closed -/
theorem latO_above {S : aS} : ∀ n (b : Nat), latO S n = b → ∀ x, b < x → x < n → ¬ S.B 1 x = -6
  | 0, b, h, x, h1, h2 => by omega
  | n + 1, b, h, x, h1, h2 => by
    unfold latO at h
    by_cases c : S.B 1 n = -6
    · rw [if_pos c] at h; omega
    · rw [if_neg c] at h
      by_cases hx : x = n
      · subst hx; exact c
      · exact latO_above n b h x h1 (by omega)
theorem latO_close {S S' : aS} {b : Nat} (hb : S'.B 1 b ≠ -6) (he : ∀ x, x ≠ b → S'.B 1 x = S.B 1 x) : ∀ n, latO S n = b → latO S' n = latO S b
  | 0, h => by unfold latO at h; omega
  | n + 1, h => by
    unfold latO at h
    by_cases c : S.B 1 n = -6
    · rw [if_pos c] at h
      have : n = b := by omega
      subst this
      conv => lhs; unfold latO
      rw [if_neg hb]
      exact latO_lt n fun x hx => by rw [he x (by omega)]
    · rw [if_neg c] at h
      have hnb : n ≠ b := by
        rintro rfl
        rcases latO_ok S n with z | ⟨b', z1, z2, z3⟩
        · omega
        · omega
      conv => lhs; unfold latO
      rw [if_neg (by rw [he n hnb]; exact c)]
      exact latO_close hb he n h
theorem Inv_close {S : aS} (h : Inv S) {b : Nat} (hb : S.inn = b) (hh : S.L 5 (S.nl - 1) = b) : Inv (closeS S) := by
  have hX := h.innX
  obtain ⟨h1, h2, h3, h4, h5, h6, ⟨dp, h7⟩, h8⟩ := h
  obtain ⟨hbn, hbo⟩ : b < S.nb ∧ S.B 1 b = -6 := by
    rcases hX with z | ⟨b', z1, z2, z3⟩
    · omega
    · have : b' = b := by omega
      subst this
      exact ⟨z2, z3⟩
  have Bb : (closeS S).B 1 b = (S.nl : Int) - 1 := by rw [closeS_B, if_pos ⟨hb.symm, rfl⟩]
  have Be : ∀ x, x ≠ b → (closeS S).B 1 x = S.B 1 x := fun x hx => by rw [closeS_B, if_neg (fun q => hx (by omega))]
  have Bc : ∀ c x, c ≠ 1 → (closeS S).B c x = S.B c x := fun c x hc => by rw [closeS_B, if_neg (fun q => hc q.2)]
  have hn1 : (closeS S).B 1 b ≠ -6 := by rw [Bb]; omega
  have low : ∀ n, n ≤ b → latO (closeS S) n = latO S n := fun n hn => latO_lt n fun x hx => by rw [Be x (by omega)]
  have hab := latO_above S.nb b (by rw [← h4, hb])
  have a5b := (h7 b hbn).2.2.2.2.1 hbo
  refine ⟨h1, h2, h3, ?_, h5, fun x hx => ?_, ⟨dp, fun y hy => ?_⟩, fun y y' hy hy' => ?_⟩
  · show S.B 2 S.inn.toNat = latO (closeS S) S.nb
    rw [latO_close hn1 Be S.nb (by rw [← h4, hb]), hb, Int.toNat_natCast]
    exact a5b
  · obtain ⟨a1, a2, a3, a4⟩ := h6 x hx
    refine ⟨a1, a2, okRef_mono a3 rfl (Nat.le_refl _) fun y _ hy => Be y ?_, ?_⟩
    · rintro rfl; omega
    · show S.L 5 x = -6 ∨ _
      rcases a4 with z | ⟨z1, z2, z3, z4⟩
      · exact Or.inl z
      · refine Or.inr ⟨z1, z2, by rw [Bc _ _ (by omega)]; exact z3, ?_⟩
        show (closeS S).B 1 (S.L 5 x).toNat = -6 ∨ (x : Int) ≤ (closeS S).B 1 (S.L 5 x).toNat
        have hx : x < S.nl := hx
        by_cases hxb : (S.L 5 x).toNat = b
        · rw [hxb, Bb]; omega
        · rw [Be _ hxb]; exact z4
  · have hy : y < S.nb := hy
    obtain ⟨a1, a2, a3, a4, a5, a6, a7, a8⟩ := h7 y hy
    have par1 : ∀ p : Int, 0 ≤ p → p < y → (S.B 1 p.toNat = -6 ∨ (0 ≤ S.B 1 y ∧ S.B 1 y ≤ S.B 1 p.toNat)) → p = S.B 2 y → ((closeS S).B 1 p.toNat = -6 ∨ (0 ≤ (closeS S).B 1 y ∧ (closeS S).B 1 y ≤ (closeS S).B 1 p.toNat)) := by
      intro p p1 p2 p3 p4
      by_cases hyb : y = b
      · subst hyb
        refine Or.inl ?_
        rw [Be _ (by omega)]
        rcases p3 with z | z
        · exact z
        · omega
      · by_cases hpb : p.toNat = b
        · refine Or.inr ?_
          have hcl : ¬ S.B 1 y = -6 := hab y (by omega) hy
          rw [Be y hyb, hpb, Bb]
          rcases a4 with z | ⟨z1, z2⟩
          · exact absurd z hcl
          · omega
        · rw [Be y hyb, Be _ hpb]; exact p3
    refine ⟨by rw [Bc _ _ (by omega)]; exact a1, by rw [Bc _ _ (by omega)]; exact a2, by rw [Bc _ _ (by omega)]; exact a3, ?_, ?_, a6, a7, ?_⟩
    · rw [Bc 0 _ (by omega)]
      by_cases hyb : y = b
      · subst hyb
        refine Or.inr ?_
        rw [Bb]
        exact ⟨by omega, (show (S.nl : Int) - 1 < S.nl by omega)⟩
      · rw [Be y hyb]; exact a4
    · intro z
      rw [Bc 2 _ (by omega)]
      have hyb : y ≠ b := by rintro rfl; exact hn1 z
      rw [Be y hyb] at z
      have : y < b := by
        rcases Nat.lt_or_ge y b with q | q
        · exact q
        · exact absurd z (hab y (by omega) hy)
      rw [low y (by omega)]
      exact a5 z
    · rw [Bc 2 _ (by omega)]
      rcases a8 with z | ⟨z1, z2, z3, z4⟩
      · exact Or.inl z
      · exact Or.inr ⟨z1, z2, z3, par1 _ z1 z2 z4 rfl⟩
  · rw [Bc _ _ (by omega), Bc _ _ (by omega)]
    exact h8 y y' hy hy'
section
variable {G : xG} {d j : Nat} {μ : xM} {Q : xP} {S : aS} {H : List aS} {K : Option aS} {T : aT}
theorem openBox_ok {f : Int32} (hr : repP μ j S) (hb : bdS S) (hnb : S.nb ≤ S.nl) (hl : S.nl < 48) (h : ∀ (x : Int32) (μ' : xM), x.toInt = S.nl → (∀ q, ¬ ownP j q → μ' q = μ q) → repP μ' j (openS S f.toInt) → Q (some (vI x)) μ') : MW G (d + 3) mX4_openBox [vR (3, j, 0), vI f] μ Q := by
  obtain ⟨h1, h2, h3, h4, h5⟩ := id hr
  obtain ⟨b1, b2, b3⟩ := hb
  refine wX4_openBox (set_in h2 (by simp [xlenc]; omega) (set_in h2 (by simp [xlenc]; omega) (set_in h2 (by simp [xlenc]; omega) ?_)))
  refine addLine_ok (S := boxS S) ?_ ⟨b1, b2, by show S.nb + 1 ≤ 48; omega⟩ hl fun x μ' hx e r => h x μ' hx (fun q hq => ?_) r
  · have e1 : (μ (3, j, 0) 1 + 1).toInt = (S.nb : Int) + 1 := by
      rw [ti_add (by rw [h2, ti_lit1]; omega) (by rw [h2, ti_lit1]; omega), h2, ti_lit1]
    refine ⟨?_, ?_, ?_, fun k hk l hl' => ?_, fun k hk x hx => ?_⟩
    · simp [xst_rd]; exact h1
    · show _ = ((S.nb + 1 : Nat) : Int)
      simp [xst_rd, e1]
    · show _ = (S.nb : Int)
      simp [xst_rd, h2]
    · have hx := h4 k hk l hl'
      show _ = S.L k l
      rcases (show k = 0 ∨ k = 1 ∨ k = 2 ∨ k = 3 ∨ k = 4 ∨ k = 5 by omega) with rfl | rfl | rfl | rfl | rfl | rfl <;> simpa [xst_rd, lcol] using hx
    · rw [boxS_B]
      have hx' : x < S.nb + 1 := hx
      by_cases hxn : x = S.nb
      · subst hxn
        rcases (show k = 0 ∨ k = 1 ∨ k = 2 by omega) with rfl | rfl | rfl <;> simp [xst_rd]
        · exact h1
        · exact h3
      · have hx := h5 k hk x (by omega)
        rcases (show k = 0 ∨ k = 1 ∨ k = 2 by omega) with rfl | rfl | rfl <;> simpa [xst_rd, hxn] using hx
  · rw [e q hq]
    funext i
    have n1 : ∀ c, 3 ≤ c → c < 12 → ¬ q = (1, j, c) := fun c hc hc2 e => hq (Or.inr (by rw [e]; exact ⟨rfl, rfl, hc, hc2⟩))
    have n2 : ¬ q = (3, j, 0) := fun e => hq (Or.inl e)
    simp [xst_rd, n1 9 (by omega) (by omega), n1 10 (by omega) (by omega), n1 11 (by omega) (by omega), n2]
theorem closeBox_ok {b : Nat} (hr : repP μ j S) (hb : bdS S) (hbn : b < S.nb) (hi : S.inn = b) (hl : 0 < S.nl) (h : ∀ (x : Int32) (μ' : xM), x.toInt = b → (∀ q, ¬ ownP j q → μ' q = μ q) → repP μ' j (closeS S) → Q (some (vI x)) μ') : MW G (d + 2) mX4_closeBox [vR (3, j, 0)] μ Q := by
  obtain ⟨h1, h2, h3, h4, h5⟩ := id hr
  obtain ⟨b1, b2, b3⟩ := hb
  have h3b : (μ (3, j, 0) 2).toInt = (b : Nat) := by rw [h3, hi]
  have e1 : (μ (3, j, 0) 0 - 1).toInt = (S.nl : Int) - 1 := by
    rw [ti_sub (by rw [h1, ti_lit1]; omega) (by rw [h1, ti_lit1]; omega), h1, ti_lit1]
  refine wX4_closeBox (set_in h3b (by simp [xlenc]; omega) (get_in h3b (by simp [xlenc]; omega) ?_))
  refine h _ _ h3b (fun q hq => ?_) ⟨?_, ?_, ?_, fun k hk l hl' => ?_, fun k hk x hx => ?_⟩
  · funext i
    have n1 : ∀ c, 3 ≤ c → c < 12 → ¬ q = (1, j, c) := fun c hc hc2 e => hq (Or.inr (by rw [e]; exact ⟨rfl, rfl, hc, hc2⟩))
    have n2 : ¬ q = (3, j, 0) := fun e => hq (Or.inl e)
    simp [xst_rd, n1 10 (by omega) (by omega), n2]
  · simp [xst_rd]; exact h1
  · simp [xst_rd]; exact h2
  · show _ = S.B 2 S.inn.toNat
    have := h5 2 (by omega) b hbn
    rw [hi, Int.toNat_natCast]
    simpa [xst_rd] using this
  · have hx := h4 k hk l hl'
    show _ = S.L k l
    rcases (show k = 0 ∨ k = 1 ∨ k = 2 ∨ k = 3 ∨ k = 4 ∨ k = 5 by omega) with rfl | rfl | rfl | rfl | rfl | rfl <;> simpa [xst_rd, lcol] using hx
  · rw [closeS_B, hi]
    have hx := h5 k hk x hx
    by_cases hxb : x = b
    · subst hxb
      rcases (show k = 0 ∨ k = 1 ∨ k = 2 by omega) with rfl | rfl | rfl
      · simpa [xst_rd] using hx
      · simp [xst_rd, e1]
      · simpa [xst_rd] using hx
    · have hxb' : ¬ (x : Int) = (b : Int) := by omega
      rcases (show k = 0 ∨ k = 1 ∨ k = 2 by omega) with rfl | rfl | rfl <;> simpa [xst_rd, hxb, hxb'] using hx
/-- the present proof moves: the class's side -/
theorem cS.updP {μ1 μ2 : xM} {S' : aS} {H' : List aS} (hc : cS μ S H K T) (e1 : ∀ q, ¬ ownH q → μ1 q = μ q) (r1 : repH μ1 H') (e2 : ∀ q, ¬ ownP 0 q → μ2 q = μ1 q) (hF : repF μ 0 S') (r2 : repP μ2 0 S') : frC μ μ2 ∧ cS μ2 S' H' K T :=
  hc.upd (μ' := μ2) ⟨(hF.keep (μ' := μ2) fun q hq => by rw [e2 q (fun z => ownF_notP z hq), e1 q (ownH_not0 (Or.inl hq))]), r2⟩ (r1.keep fun q hq => e2 q fun z => ownH_not0 (Or.inr z) hq) (fun q h1 h2 => by rw [e2 q (fun z => h1 (Or.inr z)), e1 q h2])
noncomputable def sp_open (S : aS) (H : List aS) (dp : Nat → Nat) (f : Int) : aW := cif (vF S f) (cif (S.nl < 48) (cif (dpI dp S.inn < 5) ((S.nl : Int), openS S f, (S :: H).take 5) (-4, S, H)) (-4, S, H)) (-1, S, H)
theorem c_open {dp : Nat → Nat} (a : Int32) (hc : cS μ S H K T) (hI : Inv S) (h7 : ∀ b, b < S.nb → okB S dp b) (h : cG μ K T Q (sp_open S H dp a.toInt)) : MW G 8 mX8_open [vR (8, 0, 0), vI a] μ Q := by
  have hP := hc.1.2
  have e5 : (5 : Int32).toInt = 5 := rfl
  unfold sp_open at h
  refine wX8_open (has_ok hc.1.1 (fun k h1 h2 => xif_f (by decide) ?_) fun z => xif_t rfl ?_)
  · rw [cif_t ⟨by omega, by omega⟩] at h
    refine full_ok hP (fun hl => xif_f (by decide) ?_) (fun hl => xif_t rfl ?_)
    · rw [cif_f hl] at h
      exact h _ μ rfl frC.rf hc
    · rw [cif_t hl] at h
      refine cdep_ok hc hI h7 fun x hx => xif_c (fun c => ?_) (fun c => ?_)
      · rw [ti_lt, hx, e5] at c
        rw [cif_t (by omega)] at h
        refine record_ok hI.bd hc.1 hc.2.1 fun μ1 e1 r1 => ?_
        have hP1 : repP μ1 0 S := hP.keep fun q hq => e1 q (ownH_not0 (Or.inr hq))
        refine openBox_ok hP1 hI.bd hI.2.2.1 hl fun x μ2 hx e2 r2 => ?_
        obtain ⟨f1, f2⟩ := hc.updP (S' := openS S a.toInt) e1 r1 e2 hc.1.1 r2
        exact h x μ2 hx f1 f2
      · rw [ti_lt, hx, e5] at c
        rw [cif_f (by omega)] at h
        exact h _ μ rfl frC.rf hc
  · rw [cif_f z] at h
    exact h _ μ rfl frC.rf hc
noncomputable def sp_close (S : aS) (H : List aS) : aW := cif (S.inn = -6 ∨ ¬ S.L 5 (S.nl - 1) = S.inn) (-3, S, H) (S.inn, closeS S, (S :: H).take 5)
theorem c_close (hc : cS μ S H K T) (hI : Inv S) (h : cG μ K T Q (sp_close S H)) : MW G 8 mX8_close [vR (8, 0, 0)] μ Q := by
  have hP := hc.1.2
  obtain ⟨b1, b2, b3⟩ := hI.bd
  unfold sp_close at h
  refine wX8_close (wX4_canCloseBox (xif_c (fun c => ⟨z01, xif_t rfl ?_⟩) (fun c => ?_)))
  · rw [ti_eq, hP.2.2.1, ti_litm6] at c
    rw [cif_t (Or.inl c)] at h
    exact h _ μ rfl frC.rf hc
  · rw [ti_eq, hP.2.2.1, ti_litm6] at c
    have hnb := hI.2.2.1
    rcases hI.innX with z | ⟨b, hb1, hb2, hb3⟩
    · exact absurd z c
    have e1 : (μ (3, 0, 0) 0 - 1).toInt = (S.nl - 1 : Nat) := by
      rw [ti_sub (by rw [hP.1, ti_lit1]; omega) (by rw [hP.1, ti_lit1]; omega), hP.1, ti_lit1]
      omega
    refine c_ho hP b2 e1 (by omega) fun x hx => xif_c (fun c2 => ⟨z11, xif_f (by decide) ?_⟩) (fun c2 => ⟨z01, xif_t rfl ?_⟩)
    · rw [ti_eq, hx, hP.2.2.1] at c2
      rw [cif_f (by omega)] at h
      refine record_ok hI.bd hc.1 hc.2.1 fun μ1 e1 r1 => ?_
      have hP1 : repP μ1 0 S := hP.keep fun q hq => e1 q (ownH_not0 (Or.inr hq))
      refine closeBox_ok hP1 hI.bd hb2 hb1 (by omega) fun x μ2 hx e2 r2 => ?_
      obtain ⟨f1, f2⟩ := hc.updP (S' := closeS S) e1 r1 e2 hc.1.1 r2
      exact h x μ2 (hx.trans hb1.symm) f1 f2
    · rw [ti_eq, hx, hP.2.2.1] at c2
      rw [cif_t (Or.inr c2)] at h
      exact h _ μ rfl frC.rf hc
end
