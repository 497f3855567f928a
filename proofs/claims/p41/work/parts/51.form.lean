/-! the law's low, find, make, truth -/
theorem tdiv_bd {a b : Int} (ha : 0 ≤ a) (hb : 0 < b) : 0 ≤ a.tdiv b ∧ a.tdiv b ≤ a := by
  rw [Int.tdiv_eq_ediv_of_nonneg ha]
  exact ⟨Int.ediv_nonneg ha (by omega), Int.ediv_le_self _ ha⟩
/-- a quotient of nonnegative numbers -/
theorem ti_div {x y : Int32} (hx : 0 ≤ x.toInt) (hy : 0 < y.toInt) : (x / y).toInt = x.toInt / y.toInt := by
  have h1 := tdiv_bd hx hy
  have h2 := ti_bd x
  rw [Int32.toInt_div, ← Int.tdiv_eq_ediv_of_nonneg hx]
  exact Int.bmod_eq_of_le (by omega) (by omega)
theorem ti_rem {x y : Int32} (hx : 0 ≤ x.toInt) (hy : 0 < y.toInt) : (x - x / y * y).toInt = x.toInt % y.toInt := by
  have hd := ti_div hx hy
  have h2 := ti_bd x
  have h3 := Int.mul_ediv_add_emod x.toInt y.toInt
  have h4 := Int.emod_nonneg x.toInt (show y.toInt ≠ 0 by omega)
  have h5 := Int.emod_lt_of_pos x.toInt hy
  have h6 : x.toInt / y.toInt * y.toInt = x.toInt - x.toInt % y.toInt := by
    rw [Int.mul_comm]; omega
  have h7 : x.toInt % y.toInt ≤ x.toInt := by
    have := Int.ediv_nonneg hx (show 0 ≤ y.toInt by omega)
    have := Int.mul_nonneg (show 0 ≤ y.toInt by omega) this
    omega
  have hm : (x / y * y).toInt = x.toInt - x.toInt % y.toInt := by
    rw [ti_mul (by rw [hd, h6]; omega) (by rw [hd, h6]; omega), hd, h6]
  rw [ti_sub (by rw [hm]; omega) (by rw [hm]; omega), hm]
  omega
theorem and31 (x : Int32) : 0 ≤ (x &&& 2147483647).toInt := by
  have : (x &&& 2147483647).toBitVec.msb = false := by
    rw [Int32.toBitVec_and, BitVec.msb_and]
    show (_ && (2147483647#32).msb) = false
    rw [show (2147483647#32).msb = false by decide, Bool.and_false]
  have h := BitVec.toInt_eq_toNat_of_msb this
  show 0 ≤ (x &&& 2147483647).toBitVec.toInt
  omega
section
variable {G : xG} {d : Nat} {μ : xM} {Q : xP} {S : aS}
theorem w_low {a n : Int32} (hn : 0 < n.toInt) (h : ∀ x : Int32, 0 ≤ x.toInt → x.toInt < n.toInt → Q (some (vI x)) μ) : MW G (d + 1) mL_low [vI a, vI n] μ Q := by
  have h0 := and31 a
  have hr := ti_rem h0 hn
  refine wL_low ⟨fun z => ?_, h _ ?_ ?_⟩
  · rw [z] at hn; exact absurd hn (by decide)
  · rw [hr]; exact Int.emod_nonneg _ (by omega)
  · rw [hr]; exact Int.emod_lt_of_pos _ hn
theorem w_find {k l r : Int32} {kk ll rr : Int} (hw : repW μ S) (hI : Inv S) (hk : E k.toInt kk) (hl : E l.toInt ll) (hr : E r.toInt rr) (h : ∀ x : Int32, E x.toInt (findS S kk ll rr) → Q (some (vI x)) μ) : MW G (d + 1) mL_find [vR (1, 0, 20), vR (1, 0, 21), vR (1, 0, 22), vR (1, 0, 32), vI k, vI l, vI r] μ Q := by
  have h60 := hI.1
  refine wL_find fun Z => ⟨ti_in l0 (by omega), ?_⟩
  have lp : ∀ (n : Nat) (a v : Int32), a.toInt = (n : Int) - 1 → n ≤ S.nf → E v.toInt (fnd S kk ll rr (S.nf - n) n) → WS G eL_find (d + 1) Z Q 10 [vR (1, 0, 20), vR (1, 0, 21), vR (1, 0, 22), vN, vI k, vI l, vI r, vI v, vI a] [] μ := by
    intro n
    induction n with
    | zero =>
      intro a v ha hn hv
      exact wL_find_10 (xif_t (by rw [ti_lt, ti_lit0]; omega) (h v hv))
    | succ n ih =>
      intro a v ha hn hv
      have ha' : a.toInt = (n : Nat) := by omega
      have hnf : n < S.nf := by omega
      have vin : vp_in a 60 := ti_in ha' (by omega)
      have st : fnd S kk ll rr (S.nf - n) n = if S.F 0 n = kk ∧ S.F 1 n = ll ∧ S.F 2 n = rr then (n : Int) else fnd S kk ll rr (S.nf - (n + 1)) (n + 1) := by
        rw [show S.nf - n = (S.nf - (n + 1)) + 1 by omega]; rfl
      have no : ¬ (S.F 0 n = kk ∧ S.F 1 n = ll ∧ S.F 2 n = rr) → WS G eL_find (d + 1) Z Q 10 [vR (1, 0, 20), vR (1, 0, 21), vR (1, 0, 22), vN, vI k, vI l, vI r, vI v, vI (a + (-1 : Int32))] [] μ := fun z => ih _ v (dec_ok ha' (by omega)) (by omega) (by rw [st, if_neg z]; exact hv)
      refine wL_find_10 (xif_f (by rw [ti_lt, ti_lit0]; omega) ⟨vin, xif_c (fun c0 => ⟨vin, xif_c (fun c1 => ⟨vin, xif_c (fun c2 => ?_) (fun c2 => no ?_)⟩) (fun c1 => no ?_)⟩) (fun c0 => no ?_)⟩)
      · rw [ti_eq, (rK hw ha' hnf).inj hk] at c0
        rw [ti_eq, (rLf hw ha' hnf).inj hl] at c1
        rw [ti_eq, (rRt hw ha' hnf).inj hr] at c2
        exact ih _ a (dec_ok ha' (by omega)) (by omega) (by rw [st, if_pos ⟨c0, c1, c2⟩, ha']; exact E.of (by omega))
      · rw [ti_eq, (rRt hw ha' hnf).inj hr] at c2
        exact fun z => c2 z.2.2
      · rw [ti_eq, (rLf hw ha' hnf).inj hl] at c1
        exact fun z => c1 z.2.1
      · rw [ti_eq, (rK hw ha' hnf).inj hk] at c0
        exact fun z => c0 z.1
  have t0 := rt0 hw
  refine lp S.nf _ _ ?_ (Nat.le_refl _) ?_
  · rw [ti_sub (by rw [t0, ti_lit1]; omega) (by rw [t0, ti_lit1]; omega), t0, ti_lit1]
  · rw [Nat.sub_self]; exact E.none
theorem repW_addF {μ' : xM} {K L R : Int} (hw : repW μ S) (h0 : (μ' (1, 0, 32) 0).toInt = (S.nf : Int) + 1) (h1 : μ' (1, 0, 32) 1 = μ (1, 0, 32) 1) (h2 : μ' (1, 0, 32) 2 = μ (1, 0, 32) 2) (ho : ∀ c, c < 3 → ∀ f, f ≠ S.nf → μ' (1, 0, 20 + c) f = μ (1, 0, 20 + c) f) (hn : E (μ' (1, 0, 20) S.nf).toInt K) (hn1 : E (μ' (1, 0, 21) S.nf).toInt L) (hn2 : E (μ' (1, 0, 22) S.nf).toInt R) (hl : ∀ c, 23 ≤ c → c < 32 → μ' (1, 0, c) = μ (1, 0, c)) : repW μ' (addF S K L R) := by
  obtain ⟨⟨a1, a2, a3⟩, a4, a5, a6⟩ := hw
  refine ⟨⟨by rw [addF_nf, h0]; omega, by rw [h1]; exact a2, by rw [h2]; exact a3⟩, fun c hc f hf => ?_, fun c hc f hf => ?_, fun c hc f hf => ?_⟩
  · rw [addF_nf] at hf
    rw [addF_F]
    by_cases hfn : f = S.nf
    · subst hfn
      rw [if_pos rfl]
      rcases (show c = 0 ∨ c = 1 ∨ c = 2 by omega) with rfl | rfl | rfl
      · exact hn
      · exact hn1
      · exact hn2
    · rw [if_neg hfn, ho c hc f hfn]
      exact a4 c hc f (by omega)
  · rw [hl _ (by omega) (by omega)]; exact a5 c hc f hf
  · rw [hl _ (by omega) (by omega)]; exact a6 c hc f hf
-- reading past a write
theorem x20 (μ : xM) (k : Nat) (v : Int32) : xst μ (1, 0, 20) k v (1, 0, 32) = μ (1, 0, 32) := by funext i; simp [xst_rd]
theorem x21 (μ : xM) (k : Nat) (v : Int32) : xst μ (1, 0, 21) k v (1, 0, 32) = μ (1, 0, 32) := by funext i; simp [xst_rd]
theorem x22 (μ : xM) (k : Nat) (v : Int32) : xst μ (1, 0, 22) k v (1, 0, 32) = μ (1, 0, 32) := by funext i; simp [xst_rd]
theorem xself (μ : xM) (q : xI) (k : Nat) (v : Int32) : xst μ q k v q k = v := by rw [xst_rd, if_pos ⟨rfl, rfl⟩]
theorem w_make {k l r : Int32} {kk ll rr : Int} (hw : repW μ S) (hI : Inv S) (hk : E k.toInt kk) (hl : E l.toInt ll) (hr : E r.toInt rr)
    (ht : roomS S kk ll rr → ∀ (x : Int32) (μ' : xM), x.toInt = (mkS S kk ll rr).1 → frM μ μ' → repW μ' (mkS S kk ll rr).2 → Q (some (vI x)) μ') (hf : ¬ roomS S kk ll rr → Q (some (vI (-1))) μ) : MW G (d + 2) mL_make [vR (1, 0, 20), vR (1, 0, 21), vR (1, 0, 22), vR (1, 0, 32), vI k, vI l, vI r] μ Q := by
  have h60 := hI.1
  have e60 : (60 : Int32).toInt = 60 := rfl
  have t0 := rt0 hw
  refine wL_make (w_find hw hI hk hl hr fun x hx => ?_)
  show xif _ _ _
  by_cases c : findS S kk ll rr = -6
  · rw [c] at hx
    have hx : x.toInt = -1 := by rcases hx with z | z <;> omega
    refine xif_f (by rw [ti_le, ti_lit0]; omega) ⟨ti_in l0 (by omega), xif_c (fun c2 => ?_) (fun c2 => ?_)⟩
    · rw [ti_eq, t0, e60] at c2
      have hx1 : x = -1 := Int32.toInt_inj.mp (by rw [hx]; rfl)
      rw [hx1]
      refine hf ?_
      rintro (z | z)
      · omega
      · exact z c
    · rw [ti_eq, t0, e60] at c2
      have hlt : S.nf < 60 := by omega
      have ht := ht (Or.inl hlt)
      unfold mkS at ht
      rw [if_pos c] at ht
      simp only [x20, x21, x22, xself]
      have z0 : (0 : Int32).toNatClampNeg = 0 := rfl
      have vin : vp_in (μ (1, 0, 32) (0 : Int32).toNatClampNeg) 60 := ti_in t0 (by omega)
      have en : (μ (1, 0, 32) (0 : Int32).toNatClampNeg).toNatClampNeg = S.nf := ti_cl' t0
      have ep : (μ (1, 0, 32) (0 : Int32).toNatClampNeg + 1).toInt = (S.nf : Int) + 1 := by rw [ti_add (by rw [t0, ti_lit1]; omega) (by rw [t0, ti_lit1]; omega), t0, ti_lit1]
      refine ⟨ti_in l0 (by omega), vin, ti_in l0 (by omega), vin, ti_in l0 (by omega), vin, ti_in l0 (by omega), ti_in l0 (by omega), ti_in l0 (by omega), ht _ _ ?_ ?_ ?_⟩
      · rw [ti_sub (by rw [ep, ti_lit1]; omega) (by rw [ep, ti_lit1]; omega), ep, ti_lit1]; show _ = (S.nf : Int); omega
      · exact (((frM_xst (by omega)).tr (frM_xst (by omega))).tr (frM_xst (by omega))).tr (frM_xst (by omega))
      · rw [en, z0]
        rw [z0] at ep
        refine repW_addF hw ?_ ?_ ?_ (fun c hc f hf => ?_) ?_ ?_ ?_ (fun c h1 h2 => ?_)
        · rw [xself, ep]
        · simp [xst_rd]
        · simp [xst_rd]
        · have : ¬ (20 + c = 32) := by omega
          simp [xst_rd, hf, this]
        · simp [xst_rd, hk]
        · simp [xst_rd, hl]
        · simp [xst_rd, hr]
        · funext i
          have a1 : ¬ c = 20 := by omega
          have a2 : ¬ c = 21 := by omega
          have a3 : ¬ c = 22 := by omega
          have a4 : ¬ c = 32 := by omega
          simp [xst_rd, a1, a2, a3, a4]
  · rcases findS_ok S kk ll rr with z | ⟨f, z1, z2, z3⟩
    · exact absurd z c
    · have hx : x.toInt = f := by rw [z1] at hx; exact hx.nn (by omega)
      have ht := ht (Or.inr c)
      unfold mkS at ht
      rw [if_neg c] at ht
      exact xif_t (by rw [ti_le, ti_lit0]; omega) (ht x μ (by rw [hx, z1]) frM.rf hw)
end
