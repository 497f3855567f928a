/-! atom, falsum, not, pair, formulas, part: both sides -/
theorem latO_cg {S S' : aS} (h : S.B = S'.B) : ∀ n, latO S n = latO S' n
  | 0 => rfl
  | n + 1 => by
    unfold latO
    rw [h, latO_cg h n]
theorem Inv_add {S : aS} {k l r : Int} (h : Inv S) (hl : S.nf < 60) (hok : okF (addF S k l r) S.nf) : Inv (addF S k l r) := by
  obtain ⟨h1, h2, h3, h4, h5, h6, ⟨dp, h7⟩, h8⟩ := h
  refine ⟨by rw [addF_nf]; omega, h2, h3, ?_, fun f hf => ?_, fun x hx => ?_, ⟨dp, fun b hb => ?_⟩, h8⟩
  · exact h4.trans (latO_cg (S := S) (S' := addF S k l r) rfl S.nb)
  · rw [addF_nf] at hf
    by_cases hfn : f = S.nf
    · rw [hfn]; exact hok
    · have := h5 f (by omega)
      unfold okF at this ⊢
      simp only [addF_F, if_neg hfn]
      exact this
  · obtain ⟨a1, a2, a3, a4⟩ := h6 x hx
    exact ⟨a1, by rw [addF_nf]; show S.L 0 x < _; omega, a3, a4⟩
  · obtain ⟨a1, a2, a3, a4, a5, a6⟩ := h7 b hb
    exact ⟨a1, a2, a3, a4, fun z => (a5 z).trans (latO_cg (S := S) (S' := addF S k l r) rfl b), a6⟩
theorem okO_mk1 {S : aS} {H : List aS} {K : Option aS} {T : aT} {k l r : Int} (h : okO ((0 : Int), S, H, K, T)) (hok : S.nf < 60 → okF (addF S k l r) S.nf) : okO ((mk1 S H k l r).1, (mk1 S H k l r).2.1, (mk1 S H k l r).2.2, K, T) := by
  obtain ⟨h1, h2, h3, h4⟩ := h
  have h1 : Inv S := h1
  by_cases hr : roomS S k l r
  · rw [mk1_t hr]
    refine ⟨?_, fun x hx => ?_, h3, h4⟩
    · show Inv (mkS S k l r).2
      unfold mkS
      by_cases hc : findS S k l r = -6
      · rw [if_pos hc]
        have hlt : S.nf < 60 := by
          rcases hr with z | z
          · exact z
          · exact absurd hc z
        exact Inv_add h1 hlt (hok hlt)
      · rw [if_neg hc]; exact h1
    · rcases List.mem_cons.mp (List.mem_of_mem_take hx) with rfl | hx
      · exact h1
      · exact h2 x hx
  · rw [mk1_f hr]
    exact ⟨h1, h2, h3, h4⟩
theorem okO_take {S : aS} {H : List aS} (h1 : Inv S) (h2 : ∀ h ∈ H, Inv h) : ∀ h ∈ (S :: H).take 5, Inv h := by
  intro x hx
  rcases List.mem_cons.mp (List.mem_of_mem_take hx) with rfl | hx
  · exact h1
  · exact h2 x hx
section
variable {G : xG} {d : Nat} {μ : xM} {Q : xP} {S : aS} {H : List aS} {K : Option aS} {T : aT}
theorem in_ok {v lo hi : Int32} (ht : lo.toInt ≤ v.toInt → v.toInt ≤ hi.toInt → Q (some (vI 1)) μ) (hf : ¬ (lo.toInt ≤ v.toInt ∧ v.toInt ≤ hi.toInt) → Q (some (vI 0)) μ) : MW G (d + 1) mX9_in [vI v, vI lo, vI hi] μ Q := by
  refine wX9_in (xif_c (fun c1 => ⟨z01, hf ?_⟩) fun c1 => xif_c (fun c2 => ⟨z01, hf ?_⟩) fun c2 => ⟨z11, ht ?_ ?_⟩)
  all_goals simp only [ti_lt] at *
  all_goals omega
theorem op_atom (a : Int32) (ok : okO ((0 : Int), S, H, K, T)) : ∃ o : aO, cOp G mX8_atom [vI a] S H K T o ∧ mOp G mX9_atom [vI a] S H K T o ∧ okO o := by
  have hI : Inv S := ok.1
  have e8 : (8 : Int32).toInt = 8 := rfl
  have e7 : (7 : Int32).toInt = 7 := rfl
  by_cases ha : 0 ≤ a.toInt ∧ a.toInt < 8
  · refine ⟨((mk1 S H (0 : Int32).toInt a.toInt (-6 : Int32).toInt).1, (mk1 S H (0 : Int32).toInt a.toInt (-6 : Int32).toInt).2.1, (mk1 S H (0 : Int32).toInt a.toInt (-6 : Int32).toInt).2.2, K, T), ?_, ?_, okO_mk1 ok fun hl => Or.inl ?_⟩
    · intro μ Q hc h
      exact wX8_atom (xif_f (by rw [ti_lt, ti_lit0]; omega) (xif_t (by rw [ti_lt, e8]; omega) (c_mk1 hc hI fun x μ' hx hf hc' => h x μ' hx hf hc')))
    · intro μ Q hc h
      refine wX9_atom (in_ok (fun _ _ => xif_f (by decide) (m_mk1 hc hI fun x μ' hx hf hc' => h x μ' hx hf hc')) fun z => absurd ?_ z)
      rw [ti_lit0, e7]; omega
    · simp only [addF_F, if_true, ti_lit0, ti_litm6]
      simp
      omega
  · refine ⟨(-1, S, H, K, T), ?_, ?_, ok⟩
    · intro μ Q hc h
      refine wX8_atom (xif_c (fun _ => h _ _ rfl frC.rf hc) fun c1 => xif_f ?_ (h _ _ rfl frC.rf hc))
      rw [ti_lt, ti_lit0] at c1
      rw [ti_lt, e8]; omega
    · intro μ Q hc h
      refine wX9_atom (in_ok (fun z1 z2 => ?_) fun z => xif_t rfl (h _ _ rfl frM.rf hc))
      rw [ti_lit0] at z1; rw [e7] at z2; omega
theorem op_falsum (ok : okO ((0 : Int), S, H, K, T)) : ∃ o : aO, cOp G mX8_falsum [] S H K T o ∧ mOp G mX9_falsum [] S H K T o ∧ okO o := by
  have hI : Inv S := ok.1
  refine ⟨((mk1 S H (1 : Int32).toInt (-6 : Int32).toInt (-6 : Int32).toInt).1, (mk1 S H (1 : Int32).toInt (-6 : Int32).toInt (-6 : Int32).toInt).2.1, (mk1 S H (1 : Int32).toInt (-6 : Int32).toInt (-6 : Int32).toInt).2.2, K, T), ?_, ?_, okO_mk1 ok fun hl => Or.inr (Or.inl ?_)⟩
  · intro μ Q hc h
    exact wX8_falsum (c_mk1 hc hI fun x μ' hx hf hc' => h x μ' hx hf hc')
  · intro μ Q hc h
    exact wX9_falsum (m_mk1 hc hI fun x μ' hx hf hc' => h x μ' hx hf hc')
  · simp [addF_F, ti_lit1, ti_litm6]
theorem op_not (a : Int32) (ok : okO ((0 : Int), S, H, K, T)) : ∃ o : aO, cOp G mX8_not [vI a] S H K T o ∧ mOp G mX9_not [vI a] S H K T o ∧ okO o := by
  have hI : Inv S := ok.1
  by_cases ha : 0 ≤ a.toInt ∧ a.toInt < S.nf
  · refine ⟨((mk1 S H (2 : Int32).toInt a.toInt (-6 : Int32).toInt).1, (mk1 S H (2 : Int32).toInt a.toInt (-6 : Int32).toInt).2.1, (mk1 S H (2 : Int32).toInt a.toInt (-6 : Int32).toInt).2.2, K, T), ?_, ?_, okO_mk1 ok fun hl => Or.inr (Or.inr (Or.inl ?_))⟩
    · intro μ Q hc h
      exact wX8_not (has_ok hc.1.1 (fun k _ _ => xif_f (by decide) (c_mk1 hc hI fun x μ' hx hf hc' => h x μ' hx hf hc')) fun z => absurd ha z)
    · intro μ Q hc h
      exact wX9_not (m_isF hc.1 (fun k _ _ => xif_f (by decide) (m_mk1 hc hI fun x μ' hx hf hc' => h x μ' hx hf hc')) fun z => absurd ha z)
    · simp only [addF_F, if_true, ti_litm6]
      refine ⟨rfl, ?_⟩
      simp
      omega
  · refine ⟨(-1, S, H, K, T), ?_, ?_, ok⟩
    · intro μ Q hc h
      exact wX8_not (has_ok hc.1.1 (fun k h1 h2 => absurd (by omega) ha) fun z => xif_t rfl (h _ _ rfl frC.rf hc))
    · intro μ Q hc h
      exact wX9_not (m_isF hc.1 (fun k h1 h2 => absurd (by omega) ha) fun z => xif_t rfl (h _ _ rfl frM.rf hc))
theorem op_pair (k a b : Int32) (ok : okO ((0 : Int), S, H, K, T)) : ∃ o : aO, cOp G mX8_pair [vI k, vI a, vI b] S H K T o ∧ mOp G mX9_pair [vI k, vI a, vI b] S H K T o ∧ okO o := by
  have hI : Inv S := ok.1
  have e3 : (3 : Int32).toInt = 3 := rfl
  have e5 : (5 : Int32).toInt = 5 := rfl
  by_cases ha : 0 ≤ a.toInt ∧ a.toInt < S.nf
  · by_cases hb : 0 ≤ b.toInt ∧ b.toInt < S.nf
    · by_cases hk : 3 ≤ k.toInt ∧ k.toInt ≤ 5
      · refine ⟨((mk1 S H k.toInt a.toInt b.toInt).1, (mk1 S H k.toInt a.toInt b.toInt).2.1, (mk1 S H k.toInt a.toInt b.toInt).2.2, K, T), ?_, ?_, okO_mk1 ok fun hl => Or.inr (Or.inr (Or.inr ?_))⟩
        · intro μ Q hc h
          exact wX8_pair (has_ok hc.1.1 (fun _ _ _ => xif_f (by decide) (has_ok hc.1.1 (fun _ _ _ => xif_f (by decide) (xif_f (by rw [ti_lt, e3]; omega) (xif_t (by rw [ti_le, e5]; omega) (c_mk1 hc hI fun x μ' hx hf hc' => h x μ' hx hf hc')))) fun z => absurd hb z)) fun z => absurd ha z)
        · intro μ Q hc h
          exact wX9_pair (m_isF hc.1 (fun _ _ _ => xif_f (by decide) (m_isF hc.1 (fun _ _ _ => xif_f (by decide) (in_ok (fun _ _ => xif_f (by decide) (m_mk1 hc hI fun x μ' hx hf hc' => h x μ' hx hf hc')) fun z => absurd (by rw [e3, e5]; omega) z)) fun z => absurd hb z)) fun z => absurd ha z)
        · simp only [addF_F, if_true]
          simp
          omega
      · refine ⟨(-2, S, H, K, T), ?_, ?_, ok⟩
        · intro μ Q hc h
          refine wX8_pair (has_ok hc.1.1 (fun _ _ _ => xif_f (by decide) (has_ok hc.1.1 (fun _ _ _ => xif_f (by decide) (xif_c (fun _ => h _ _ rfl frC.rf hc) fun c1 => xif_f ?_ (h _ _ rfl frC.rf hc))) fun z => absurd hb z)) fun z => absurd ha z)
          rw [ti_lt, e3] at c1
          rw [ti_le, e5]; omega
        · intro μ Q hc h
          exact wX9_pair (m_isF hc.1 (fun _ _ _ => xif_f (by decide) (m_isF hc.1 (fun _ _ _ => xif_f (by decide) (in_ok (fun z1 z2 => by rw [e3] at z1; rw [e5] at z2; omega) fun z => xif_t rfl (h _ _ rfl frM.rf hc))) fun z => absurd hb z)) fun z => absurd ha z)
    · refine ⟨(-1, S, H, K, T), ?_, ?_, ok⟩
      · intro μ Q hc h
        exact wX8_pair (has_ok hc.1.1 (fun _ _ _ => xif_f (by decide) (has_ok hc.1.1 (fun k h1 h2 => absurd (by omega) hb) fun z => xif_t rfl (h _ _ rfl frC.rf hc))) fun z => absurd ha z)
      · intro μ Q hc h
        exact wX9_pair (m_isF hc.1 (fun _ _ _ => xif_f (by decide) (m_isF hc.1 (fun k h1 h2 => absurd (by omega) hb) fun z => xif_t rfl (h _ _ rfl frM.rf hc))) fun z => absurd ha z)
  · refine ⟨(-1, S, H, K, T), ?_, ?_, ok⟩
    · intro μ Q hc h
      exact wX8_pair (has_ok hc.1.1 (fun k h1 h2 => absurd (by omega) ha) fun z => xif_t rfl (h _ _ rfl frC.rf hc))
    · intro μ Q hc h
      exact wX9_pair (m_isF hc.1 (fun k h1 h2 => absurd (by omega) ha) fun z => xif_t rfl (h _ _ rfl frM.rf hc))
theorem op_formulas (ok : okO ((0 : Int), S, H, K, T)) : ∃ o : aO, cOp G mX8_formulas [] S H K T o ∧ mOp G mX9_formulas [] S H K T o ∧ okO o := by
  refine ⟨(S.nf, S, H, K, T), ?_, ?_, ok⟩
  · intro μ Q hc h
    exact wX8_formulas (h _ _ hc.1.1.1 frC.rf hc)
  · intro μ Q hc h
    exact wX9_formulas ⟨ti_in l0 (by omega), h _ _ hc.1.1 frM.rf hc⟩
theorem op_part (f p : Int32) (ok : okO ((0 : Int), S, H, K, T)) : ∃ o : aO, cOp G mX8_part [vI f, vI p] S H K T o ∧ mOp G mX9_part [vI f, vI p] S H K T o ∧ okO o := by
  have hI : Inv S := ok.1
  have e0 : (0 : Int32).toInt = 0 := rfl
  have e2 : (2 : Int32).toInt = 2 := rfl
  by_cases ha : 0 ≤ f.toInt ∧ f.toInt < S.nf
  · by_cases hp : 0 ≤ p.toInt ∧ p.toInt ≤ 2
    · obtain ⟨c, hc3, hpc⟩ : ∃ c : Nat, c < 3 ∧ p.toInt = c := ⟨p.toInt.toNat, by omega, by omega⟩
      have hfk : f.toInt = (f.toInt.toNat : Nat) := by omega
      have hb := hI.1
      refine ⟨(S.F c f.toInt.toNat, S, H, K, T), ?_, ?_, ok⟩
      · intro μ Q hc h
        refine wX8_part (has_ok hc.1.1 (fun k hk1 hk2 => xif_f (by decide) ?_) fun z => absurd ha z)
        have key : ∀ c', c' < 3 → c' = c → MW G 7 mX5_get [vR (0, 0, c'), vI f] μ (xrI fun x4 μ3 => Q (some (vI x4)) μ3) := by
          intro c' h1 h2
          subst h2
          refine get_in hk1 ?_ (h _ _ ?_ frC.rf hc)
          · rcases (show c' = 0 ∨ c' = 1 ∨ c' = 2 by omega) with rfl | rfl | rfl <;> simp [xlenc] <;> omega
          · rw [hc.1.1.2 c' hc3 k hk2, hk1]; rfl
        refine ⟨fun z => key 0 (by omega) ?_, fun n0 => ⟨fun z => key 1 (by omega) ?_, fun n1 => ⟨fun z => key 2 (by omega) ?_, fun n2 => ?_⟩⟩⟩
        · rw [z] at hpc; have : (0 : Int32).toInt = 0 := rfl; omega
        · rw [z] at hpc; have : (1 : Int32).toInt = 1 := rfl; omega
        · rw [z] at hpc; have : (2 : Int32).toInt = 2 := rfl; omega
        · rw [ti_eq] at n0 n1 n2
          have : (1 : Int32).toInt = 1 := rfl
          omega
      · intro μ Q hc h
        refine wX9_part (m_isF hc.1 (fun k hk1 hk2 => xif_f (by decide) (in_ok (fun _ _ => xif_f (by decide) ?_) fun z => absurd (by rw [e0, e2]; omega) z)) fun z => absurd ha z)
        have e := lin1 (lin l3 l3 hk1 (by omega)) hpc (by omega)
        refine ⟨ti_in e (by omega), ?_⟩
        rw [ti_cl' e]
        exact h _ _ (by rw [hc.1.2.2.2.1 c hc3 k hk2, hk1]; rfl) frM.rf hc
    · refine ⟨(-2, S, H, K, T), ?_, ?_, ok⟩
      · intro μ Q hc h
        refine wX8_part (has_ok hc.1.1 (fun k hk1 hk2 => xif_f (by decide) ?_) fun z => absurd ha z)
        refine ⟨fun z => ?_, fun n0 => ⟨fun z => ?_, fun n1 => ⟨fun z => ?_, fun n2 => h _ _ rfl frC.rf hc⟩⟩⟩
        · exact absurd (by rw [z]; decide) hp
        · exact absurd (by rw [z]; decide) hp
        · exact absurd (by rw [z]; decide) hp
      · intro μ Q hc h
        exact wX9_part (m_isF hc.1 (fun k hk1 hk2 => xif_f (by decide) (in_ok (fun z1 z2 => absurd ⟨z1, z2⟩ hp) fun z => xif_t rfl (h _ _ rfl frM.rf hc))) fun z => absurd ha z)
  · refine ⟨(-1, S, H, K, T), ?_, ?_, ok⟩
    · intro μ Q hc h
      exact wX8_part (has_ok hc.1.1 (fun k h1 h2 => absurd (by omega) ha) fun z => xif_t rfl (h _ _ rfl frC.rf hc))
    · intro μ Q hc h
      exact wX9_part (m_isF hc.1 (fun k h1 h2 => absurd (by omega) ha) fun z => xif_t rfl (h _ _ rfl frM.rf hc))
end
