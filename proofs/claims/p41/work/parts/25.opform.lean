/-! atom, falsum, not, pair, formulas, part: both sides -/
theorem latO_cg {S S' : aS} (h : S.B = S'.B) : ∀ n, latO S n = latO S' n
  | 0 => rfl
  | n + 1 => by
    unfold latO
    rw [h, latO_cg h n]
theorem Inv_add {S : aS} {k l r : Int} (h : Inv S) (hl : S.nf < 60) (hok : okF (addF S k l r) S.nf) : Inv (addF S k l r) := by
  obtain ⟨h1, h2, h3, h4, h5, h6, ⟨dp, h7⟩, h8⟩ := h
  refine ⟨by rw [addF_nf]; omega, h2, h3, ?_, fun f hf => ?_, fun x hx => ?_, ⟨dp, fun b hb => ?_⟩, h8⟩
  · exact h4.trans (latO_cg (S := S) (S' := addF S k l r) rfl S.nb)
  · rw [addF_nf] at hf
    by_cases hfn : f = S.nf
    · rw [hfn]; exact hok
    · have := h5 f (by omega)
      unfold okF at this ⊢
      simp only [addF_F, if_neg hfn]
      exact this
  · obtain ⟨a1, a2, a3, a4⟩ := h6 x hx
    exact ⟨a1, by rw [addF_nf]; show S.L 0 x < _; omega, a3, a4⟩
  · obtain ⟨a1, a2, a3, a4, a5, a6⟩ := h7 b hb
    exact ⟨a1, a2, a3, a4, fun z => (a5 z).trans (latO_cg (S := S) (S' := addF S k l r) rfl b), a6⟩
theorem okO_mk1 {S : aS} {H : List aS} {K : Option aS} {T : aT} {k l r : Int} (h : okO ((0 : Int), S, H, K, T)) (hok : S.nf < 60 → okF (addF S k l r) S.nf) : okO ((mk1 S H k l r).1, (mk1 S H k l r).2.1, (mk1 S H k l r).2.2, K, T) := by
  obtain ⟨h1, h2, h3, h4⟩ := h
  have h1 : Inv S := h1
  by_cases hr : roomS S k l r
  · rw [mk1_t hr]
    refine ⟨?_, fun x hx => ?_, h3, h4⟩
    · show Inv (mkS S k l r).2
      unfold mkS
      by_cases hc : findS S k l r = -6
      · rw [if_pos hc]
        have hlt : S.nf < 60 := by
          rcases hr with z | z
          · exact z
          · exact absurd hc z
        exact Inv_add h1 hlt (hok hlt)
      · rw [if_neg hc]; exact h1
    · rcases List.mem_cons.mp (List.mem_of_mem_take hx) with rfl | hx
      · exact h1
      · exact h2 x hx
  · rw [mk1_f hr]
    exact ⟨h1, h2, h3, h4⟩
theorem okO_take {S : aS} {H : List aS} (h1 : Inv S) (h2 : ∀ h ∈ H, Inv h) : ∀ h ∈ (S :: H).take 5, Inv h := by
  intro x hx
  rcases List.mem_cons.mp (List.mem_of_mem_take hx) with rfl | hx
  · exact h1
  · exact h2 x hx
section
variable {G : xG} {d : Nat} {μ : xM} {Q : xP} {S : aS} {H : List aS} {K : Option aS} {T : aT}
end
