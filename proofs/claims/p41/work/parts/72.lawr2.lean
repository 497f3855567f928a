/-! the law's body: a rule, from its number on -/
theorem okF_v {S : aS} {K l q : Int} (hF : okF (addF S K l q) S.nf) (hK : 1 ≤ K) : (l = -6 ∨ (0 ≤ l ∧ l < S.nf)) ∧ (q = -6 ∨ (0 ≤ q ∧ q < S.nf)) := by
  unfold okF at hF
  simp only [addF_F, if_true] at hF
  simp at hF
  omega
theorem m9_b {S : aS} {l : Int} (h : l = -6 ∨ (0 ≤ l ∧ l < S.nf)) (h60 : S.nf ≤ 60) : 0 ≤ m9 l ∧ m9 l ≤ 999 ∧ (m9 l = 999 → l = -6) ∧ (¬ m9 l = 999 → m9 l = l ∧ 0 ≤ l) := by
  unfold m9
  by_cases c : l = -6
  · rw [if_pos c]; omega
  · rw [if_neg c]; omega
section
variable {G : xG} {Z : xZ} {Q : xP} {e g : Int32} {μ : xM} {S : aS}
theorem la_1418 {S' : aS} {H : List aS} {K : Option aS} {T : aT} {r a b c fl k l q : Int32} {i j kk : Nat} {A L R : Int} (en : En G Z Q e g) (ok : Ok μ S) (hp : plc S r.toInt i j kk) (ha : a.toInt = i) (hb : b.toInt = j) (hcc : c.toInt = kk) (hfl : fl = 0) (hfl2 : S.nl < 48) (hc : cS μ S H K T) (hn : newOK S r.toInt i (rB r.toInt j) (rC r.toInt kk)) (h6 : rC r.toInt kk = -6) (hF : okF (addF S A L R) S.nf) (ew : opR S H r.toInt i j kk = wm S H A L R r.toInt i (rB r.toInt j)) (hfit : fitV (mkS S A L R).2 S.nl (mkS S A L R).1 r.toInt S.inn i (rB r.toInt j) (rC r.toInt kk)) (hk : E k.toInt A) (hl : E l.toInt L) (hq : E q.toInt R) : WS G eL_law (8 + 1) Z Q 1418 (lb [vI e, vN, vI g, vN, vI fl, vN, vI r, vN, vI a, vI b, vI c, vN, vN, vN, vN, vN, vN, vN]) [vI q, vI l, vI k, vR (1, 0, 32), vR (1, 0, 22), vR (1, 0, 21), vR (1, 0, 20)] μ := by
  obtain ⟨hI, hs, hw, -⟩ := ok
  have hful : fullI S fl := ⟨fun _ => hfl2, fun z => absurd hfl z⟩
  refine wL_law_1418 (w_make hw hI hk hl hq (fun hroom x μ1 hx fr hw1 => ?_) fun hroom => ?_)
  · obtain ⟨n, hn1, hn2, -⟩ := mkS_new S A L R
    obtain ⟨eL, eB, e1, e2, e3⟩ := mkS_LB S A L R
    have hx0 : x.toInt = n := hx.trans hn1
    have hI1 := Inv_mkS hI hroom hF
    refine la_1423 (S1 := (mkS S A L R).2) en hI (hc.keep fr) hI1 hw1 e1 hp ha hb hcc hful ew (fun z => ?_) fun _ _ => ?_
    · rcases z with z | z
      · exact absurd hfl z
      · omega
    · unfold wm
      rw [cif_t hfl2, cif_t hroom]
      refine ⟨rfl, fun μ2 μ3 hw2 fc hc2 => ⟨addL (mkS S A L R).2 (mkS S A L R).1 r.toInt i (rB r.toInt j) (-6), ?_⟩⟩
      have hr : okRV (mkS S A L R).2 (mkS S A L R).2.nl r.toInt i (rB r.toInt j) (rC r.toInt kk) := by
        rw [e1]; exact okRV_cg hn.1 eB e2
      have hf : 0 ≤ (mkS S A L R).1 ∧ (mkS S A L R).1 < (mkS S A L R).2.nf := by rw [hn1]; omega
      have hre : ∀ {bx : Bool} {y : Int}, reach S S.inn bx y → reach (mkS S A L R).2 (mkS S A L R).2.inn bx y := by
        intro bx y h
        unfold reach scI scp at h ⊢
        rw [e3, eL, eB]; exact h
      rw [hx, h6] at hw2
      refine Ok.of (Inv_addL hI1 (by rw [e1]; exact hfl2) hf (by rw [h6] at hr; exact hr)) (Snd_addL hI1 (Snd_mkS hI hs) hf (by rw [h6] at hr; exact hr) hn.2.1 ?_ ?_) hw2 fc hc2
      · rw [e1, e3]; rw [h6] at hfit; exact hfit
      · obtain ⟨-, -, r1, r2, r3⟩ := hn
        rw [h6] at r3
        exact ⟨hre r1, hre r2, hre r3⟩
  · refine la_1423 (S1 := S) en hI hc hI hw rfl hp ha hb hcc hful ew (fun _ => ?_) fun _ z => absurd z (by decide)
    unfold wm
    rw [cif_t hfl2, cif_f hroom]
    exact ⟨rfl, fun μ3 fc hc2 => ⟨S, Ok.of hI hs hw fc hc2⟩⟩
theorem la_1292 {r a b c fl : Int32} {i j k : Nat} (en : En G Z Q e g) (ok : Ok μ S) (hp : plc S r.toInt i j k) (ha : a.toInt = i) (hb : b.toInt = j) (hcc : c.toInt = k) (hful : fullI S fl) : WS G eL_law (8 + 1) Z Q 1292 (lb [vI e, vN, vI g, vN, vI fl, vN, vI r, vN, vI a, vI b, vI c, vN, vN, vN, vN, vN, vN, vN]) [] μ := by
  obtain ⟨hI, hs, hw, H, K, T, hc⟩ := id ok
  have h60 := hI.1
  have h48 := hI.2.1
  have l0 : (0 : Int64).toInt = 0 := rfl
  have l1000 : (1000 : Int64).toInt = 1000 := rfl
  have e999 : (999 : Int32).toInt = 999 := rfl
  refine wL_law_1292 (w_rule hw hI ha hb hcc hp fun y hy => ?_)
  rcases rr_all (H := H) hI hp with ⟨z, ew⟩ | ⟨hn, f, hf, z, ew, hfit⟩ | ⟨hn, h6, A, L, R, hF, hK, z, ew, hfit⟩
  · rw [z] at hy
    refine wL_law_1319 (xif_t (by rw [cmp_le, hy, l0]; decide) (la_1542 (w := (-3, S, H)) en hI hc hp.1 (by rw [ha, hb, hcc]; exact ew) rfl fun μ' fc hc2 => ⟨S, Ok.of hI hs hw fc hc2⟩))
  · rw [z] at hy
    have efm : (Int64.toInt32 y - 1).toInt = f := by
      have := ln_32 (x := y) (by omega) (by omega)
      rw [ti_sub (by rw [this, ti_lit1]; omega) (by rw [this, ti_lit1]; omega), this, ti_lit1]; omega
    refine wL_law_1319 (xif_f (by rw [cmp_le, hy, l0]; omega) (wL_law_1337 (xif_t (by rw [cmp_le, hy, l1000]; omega) ?_)))
    refine la_1423 (S1 := S) en hI hc hI hw rfl hp ha hb hcc hful ew (fun q => ?_) fun q _ => ?_
    · have q48 : S.nl = 48 := by
        rcases q with q | q
        · exact hful.2 q
        · rw [efm] at q; omega
      unfold wr
      rw [cif_f (by omega)]
      exact ⟨rfl, fun μ3 fc hc2 => ⟨S, Ok.of hI hs hw fc hc2⟩⟩
    · have hl := hful.1 q
      unfold wr
      rw [cif_t hl]
      refine ⟨rfl, fun μ2 μ3 hw2 fc hc2 => ⟨addL S f r.toInt i (rB r.toInt j) (rC r.toInt k), ?_⟩⟩
      rw [efm] at hw2
      have hf' : (0 : Int) ≤ f ∧ (f : Int) < S.nf := by omega
      exact Ok.of (Inv_addL hI hl hf' hn.1) (Snd_addL hI hs hf' hn.1 hn.2.1 hfit hn.2.2) hw2 fc hc2
  · rw [z] at hy
    obtain ⟨vL, vR'⟩ := okF_v hF hK.1
    obtain ⟨b1, b2, b3, b4⟩ := m9_b vL h60
    obtain ⟨d1, d2, d3, d4⟩ := m9_b vR' h60
    refine wL_law_1319 (xif_f (by rw [cmp_le, hy, l0]; omega) (wL_law_1337 (xif_f (by rw [cmp_le, hy, l1000]; omega) (xif_c (fun q => wL_law_1351 ⟨by decide, by decide, by decide, by decide, ?_⟩) fun q => ?_))))
    · obtain ⟨u1, u2, u3⟩ := ln_un hy (by omega) ⟨b1, b2⟩ ⟨d1, d2⟩
      generalize Int64.toInt32 (y / (100000000 : Int64)) = kw at u1 ⊢
      generalize Int64.toInt32 ((y / (1000 : Int64)) - (y / (1000 : Int64)) / (1000 : Int64) * (1000 : Int64)) = lw at u2 ⊢
      generalize Int64.toInt32 (y - y / (1000 : Int64) * (1000 : Int64)) = rw' at u3 ⊢
      have hk : E kw.toInt A := Or.inr ⟨by omega, u1⟩
      have fin : ∀ l q' : Int32, E l.toInt L → E q'.toInt R → WS G eL_law (8 + 1) Z Q 1418 (lb [vI e, vN, vI g, vN, vI fl, vN, vI r, vN, vI a, vI b, vI c, vN, vN, vN, vN, vN, vN, vN]) [vI q', vI l, vI kw, vR (1, 0, 32), vR (1, 0, 22), vR (1, 0, 21), vR (1, 0, 20)] μ := fun l q' h1 h2 => la_1418 (S' := S) en ok hp ha hb hcc q (hful.1 q) hc hn h6 hF ew hfit hk h1 h2
      have right : ∀ l : Int32, E l.toInt L → WS G eL_law (8 + 1) Z Q 1404 (lb [vI e, vN, vI g, vN, vI fl, vN, vI r, vN, vI a, vI b, vI c, vN, vN, vN, vN, vN, vN, vI rw']) [vI l, vI kw, vR (1, 0, 32), vR (1, 0, 22), vR (1, 0, 21), vR (1, 0, 20)] μ := by
        intro l hl
        refine wL_law_1404 (xif_c (fun c1 => fin l _ hl ?_) fun c1 => fin l _ hl ?_)
        · rw [ti_eq, u3, e999] at c1
          rw [d3 c1]; exact E.none
        · rw [ti_eq, u3, e999] at c1
          exact Or.inr ⟨(d4 c1).2, u3.trans (d4 c1).1⟩
      refine wL_law_1382 (xif_c (fun c1 => right _ ?_) fun c1 => right _ ?_)
      · rw [ti_eq, u2, e999] at c1
        rw [b3 c1]; exact E.none
      · rw [ti_eq, u2, e999] at c1
        exact Or.inr ⟨(b4 c1).2, u2.trans (b4 c1).1⟩
    · refine la_1423 (S1 := S) en hI hc hI hw rfl hp ha hb hcc hful ew (fun _ => ?_) fun z => absurd z q
      unfold wm
      rw [cif_f (by have := hful.2 q; omega)]
      exact ⟨rfl, fun μ3 fc hc2 => ⟨S, Ok.of hI hs hw fc hc2⟩⟩
end
