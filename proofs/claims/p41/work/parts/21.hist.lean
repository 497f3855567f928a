/-! the class's history -/
def repH (μ : xM) (H : List aS) : Prop := ∃ n, n < 5 ∧ (μ (5, 0, 0) 1).toInt = (n : Nat) ∧ (μ (5, 0, 0) 0).toInt = H.length ∧ H.length ≤ 5 ∧ ∀ (k : Nat) (S : aS), H[k]? = some S → bdS S ∧ repC μ (2 + (n + 4 - k) % 5) S
def ownH (q : xI) : Prop := q = (5, 0, 0) ∨ ∃ j, 2 ≤ j ∧ j < 7 ∧ ownS j q
theorem own_apart {j k : Nat} {q : xI} (h1 : ownS j q) (h2 : ownS k q) : j = k := by
  obtain ⟨a, b, c⟩ := q
  rcases h1 with (h1 | h1) | (h1 | h1) <;> rcases h2 with (h2 | h2) | (h2 | h2) <;> simp at h1 h2 <;> omega
theorem own_ne {j : Nat} {q : xI} (h : ownS j q) (a b c : Nat) (ha : a = 0 ∨ 4 ≤ a) : ¬ q = (a, b, c) := by
  rintro rfl
  rcases h with (h1 | h1) | (h1 | h1) <;> simp at h1 <;> omega
theorem repH.keep {μ μ' : xM} {H : List aS} (h : repH μ H) (e : ∀ q, ownH q → μ' q = μ q) : repH μ' H := by
  obtain ⟨n, h1, h2, h3, h4, h5⟩ := h
  have e0 := e (5, 0, 0) (Or.inl rfl)
  refine ⟨n, h1, by rw [e0]; exact h2, by rw [e0]; exact h3, h4, fun k S hk => ⟨(h5 k S hk).1, (h5 k S hk).2.keep fun q hq => e q (Or.inr ⟨_, by omega, by omega, hq⟩)⟩⟩
section
variable {G : xG} {d : Nat} {μ : xM} {Q : xP}
theorem at_ok {i : Int32} {n : Nat} (hi : i.toInt = n) (hn : n < 5) (h : Q (some (vR (4, 2 + n, 0))) μ) : MW G (d + 1) mX3_at [vR (5, 0, 0), vI i] μ Q := by
  refine wX3_at (xif_f ?_ (xif_f ?_ ⟨ti_in hi hn, ?_⟩))
  · rw [ti_lt, ti_lit0]; omega
  · rw [ti_le, ti_of (by omega)]; omega
  · rw [ti_cl' hi]; exact h
theorem record_ok {S : aS} {H : List aS} (hb : bdS S) (hS : repC μ 0 S) (hH : repH μ H) (h : ∀ μ', (∀ q, ¬ ownH q → μ' q = μ q) → repH μ' ((S :: H).take 5) → Q none μ') : MW G (d + 4) mX3_record [vR (5, 0, 0), vR (4, 0, 0)] μ Q := by
  obtain ⟨n, h1, h2, h3, h4, h5⟩ := hH
  refine wX3_record (at_ok h2 h1 ?_)
  refine copyS (d := d) (j := 2 + n) (j0 := 0) (by omega) fun μ1 e1 r1 => ?_
  have e0 : μ1 (5, 0, 0) = μ (5, 0, 0) := e1 _ (fun z => own_ne z 5 0 0 (by omega) rfl)
  have key : ∀ (x y : Int32) (m : Nat), x.toInt = m → m < 5 → m = (n + 1) % 5 → y.toInt = ((S :: H).take 5).length → Q none (xst (xst μ1 (5, 0, 0) 1 x) (5, 0, 0) 0 y) := by
    intro x y m hx hm hmn hy
    refine h _ (fun q hq => ?_) ⟨m, hm, ?_, ?_, by simp; omega, fun k S' hk => ?_⟩
    · funext i
      have n1 : ¬ q = (5, 0, 0) := fun z => hq (Or.inl z)
      simp only [xst_rd, n1, false_and, if_false]
      rw [e1 q (fun z => hq (Or.inr ⟨_, by omega, by omega, z⟩))]
    · simp [xst_rd, hx]
    · simp only [xst_rd, and_self, if_true]
      exact hy
    · have keepx : ∀ {j : Nat} {S' : aS}, repC μ1 j S' → repC (xst (xst μ1 (5, 0, 0) 1 x) (5, 0, 0) 0 y) j S' := by
        intro j S' hr
        refine hr.keep fun q hq => ?_
        funext i
        simp [xst_rd, own_ne hq 5 0 0 (by omega)]
      have hk5 : k < 5 := by
        have := (List.getElem?_eq_some_iff.mp hk).1
        simp at this
        omega
      cases k with
      | zero =>
        have : S = S' := by simpa using hk
        subst this
        refine ⟨hb, ?_⟩
        rw [show 2 + (m + 4 - 0) % 5 = 2 + n by omega]
        exact keepx (r1 S hb hS)
      | succ k =>
        have hk' : H[k]? = some S' := by
          rw [List.getElem?_take, if_pos hk5] at hk
          simpa using hk
        obtain ⟨b1, b2⟩ := h5 k S' hk'
        refine ⟨b1, ?_⟩
        rw [show 2 + (m + 4 - (k + 1)) % 5 = 2 + (n + 4 - k) % 5 by omega]
        refine keepx (b2.keep fun q hq => e1 q fun z => ?_)
        have := own_apart hq z
        omega
  have hlen : ∀ (y : Int32), y = (μ (5, 0, 0) 0) → (if (5 : Int32) < (y + (1 : Int32)) then (5 : Int32) else (y + (1 : Int32))).toInt = ((S :: H).take 5).length := by
    intro y hy
    subst hy
    have ea : (μ (5, 0, 0) 0 + 1).toInt = H.length + 1 := by
      rw [ti_add (by rw [h3, ti_lit1]; omega) (by rw [h3, ti_lit1]; omega), h3, ti_lit1]
    have e5 : (5 : Int32).toInt = 5 := rfl
    have el : ((S :: H).take 5).length = min 5 (H.length + 1) := by rw [List.length_take, List.length_cons]
    split
    · rename_i hlt
      rw [ti_lt, ea, e5] at hlt
      rw [e5, el]
      omega
    · rename_i hlt
      rw [ti_lt, ea, e5] at hlt
      rw [ea, el]
      omega
  have en : (μ1 (5, 0, 0) 1 + 1).toInt = n + 1 := by
    rw [e0, ti_add (by rw [h2, ti_lit1]; omega) (by rw [h2, ti_lit1]; omega), h2, ti_lit1]
  have e5 : (5 : Int32).toInt = 5 := rfl
  refine xif_c (fun c1 => key _ _ 0 rfl (by omega) ?_ (hlen _ ?_)) (fun c1 => key _ _ (n + 1) (by rw [en]; rfl) ?_ ?_ (hlen _ ?_))
  · rw [ti_le, en, e5] at c1; omega
  · simp [xst_rd, e0]
  · rw [ti_le, en, e5] at c1; omega
  · rw [ti_le, en, e5] at c1; omega
  · simp [xst_rd, e0]
end
