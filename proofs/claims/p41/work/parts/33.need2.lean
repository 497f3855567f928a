/-! what a line needs: the class's last step, the model's side -/
def cntO (S : aS) : Nat → Nat
  | 0 => 0
  | n + 1 => if S.B 1 n = -6 then cntO S n + 1 else cntO S n
theorem cntO_le (S : aS) : ∀ n, cntO S n ≤ n
  | 0 => Nat.le_refl _
  | n + 1 => by
    unfold cntO
    have := cntO_le S n
    split <;> omega
theorem cntO_dp {S : aS} {dp : Nat → Nat} (h7 : ∀ b, b < S.nb → okB S dp b) : ∀ n, n ≤ S.nb → cntO S n = dpI dp (latO S n)
  | 0, _ => rfl
  | n + 1, hn => by
    unfold cntO latO
    by_cases h : S.B 1 n = -6
    · rw [if_pos h, if_pos h, cntO_dp h7 n (by omega)]
      obtain ⟨-, -, -, -, a5, -⟩ := h7 n (by omega)
      obtain ⟨b1, b2, b3, b4⟩ := dp_step h7 (x := (n : Int)) (by omega)
      rw [b3, Int.toNat_natCast, a5 h]
    · rw [if_neg h, if_neg h, cntO_dp h7 n (by omega)]
section
variable {G : xG} {d : Nat} {μ : xM} {Q : xP} {S : aS} {H : List aS} {K : Option aS} {T : aT}
theorem tm1 : (-1 : Int32).toInt = -1 := rfl
theorem dec_ok {a : Int32} {n : Nat} (h : a.toInt = (n : Int)) (hn : n < 100000) : (a + (-1 : Int32)).toInt = (n : Int) - 1 := by
  rw [ti_add (by rw [h, tm1]; omega) (by rw [h, tm1]; omega), h, tm1]
  omega
theorem need_ok {l : Int32} {k : Nat} (hr : repP μ 0 S) (hI : Inv S) (hl : l.toInt = k) (hk : k < S.nl) (h : ∀ y : Int64, (∀ i, hasb y i = needS S k i) → Q (some (vL y)) μ) : MW G (d + 4) mX4_allNeeds [vR (3, 0, 0), vI l] μ Q := by
  have hbd := hI.bd
  have h48 := hbd.2.1
  refine wX4_allNeeds fun Z => bit_ok (by omega) fun y0 hy0 => ?_
  have lp : ∀ (n : Nat) (y : Int64) (a : Int32) (X : Nat → Bool), a.toInt = (n : Int) - 1 → n ≤ S.nl → (∀ i, hasb y i = X i) → (∀ i, ndl S n X i = needS S k i) → WS G eX4_allNeeds (d + 4) Z Q 8 [vR (3, 0, 0), vN, vL y, vN, vI a] [] μ := by
    intro n
    induction n with
    | zero =>
      intro y a X h1 h2 h3 h4
      refine wX4_allNeeds_8 (xif_t (by rw [ti_lt, ti_lit0]; omega) (h y fun i => ?_))
      rw [h3, ← h4]
      rfl
    | succ n ih =>
      intro y a X h1 h2 h3 h4
      have ha : a.toInt = (n : Nat) := by omega
      have hd := dec_ok ha (by omega)
      refine wX4_allNeeds_8 (xif_f (by rw [ti_lt, ti_lit0]; omega) (contains_ok ha (by omega) (fun c => xif_f (by decide) ?_) (fun c => xif_t rfl ?_)))
      · refine drt_ok hr hI ha (by omega) fun z hz => c_ho hr h48 ha (by omega) fun x hx => from_ok hr hI (by rw [hx]; exact hI.home (by omega)) fun w hw => ?_
        refine ih _ _ (fun i => X i || (drt S n i || ach S 5 (S.L 5 n) i)) hd (by omega) (fun i => ?_) (fun i => ?_)
        · rw [hb_or, hb_or, h3, hz, hw, hx]
        · rw [← h4 i]
          conv => rhs; unfold ndl
          rw [if_pos (by rw [← h3]; exact c)]
      · refine ih _ _ X hd (by omega) h3 (fun i => ?_)
        rw [← h4 i]
        conv => rhs; unfold ndl
        rw [if_neg (by rw [← h3]; exact c)]
  refine lp (k + 1) y0 l (fun i => decide (i = k)) (by omega) (by omega) (fun i => ?_) (fun i => rfl)
  rw [hy0, hl]
  exact decide_eq_decide.mpr (by omega)
-- the model
end
