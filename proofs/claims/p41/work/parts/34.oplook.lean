/-! lines, line, reference, boxes, box, depth, needs, bypass, detours: both sides -/
noncomputable def vline (S : aS) (dp : Nat → Nat) (l : Nat) (p : Int32) : Int := cif (p = 0) (S.L 0 l) (cif (p = 1) (S.L 1 l) (cif (p = 2) (S.L 5 l) (cif (p = 3) (dpI dp (S.L 5 l) : Int) (cif (p = 4) (cif (avL S l) 1 0) (cif (p = 5) (usr S l S.nl : Int) (-2))))))
noncomputable def vbox (S : aS) (l : Nat) (p : Int32) : Int := cif (p = 0) (S.B 0 l) (cif (p = 1) (S.B 1 l) (cif (p = 2) (S.B 2 l) (cif (p = 3) (cif (avB S l) 1 0) (-2))))
def vref (S : aS) (l : Nat) (p : Int) : Int := if 0 ≤ p ∧ p ≤ 2 then (if S.L (2 + p.toNat) l = -6 then -1 else S.L (2 + p.toNat) l) else -1
/-- what a line leads to -/
def byp (S : aS) (l : Nat) : Int := if S.L 1 l = 2 then S.L 2 l else if S.L 1 l = 4 ∧ S.L 1 (S.L 2 l).toNat = 3 then S.L 2 (S.L 2 l).toNat else if S.L 1 l = 5 ∧ S.L 1 (S.L 2 l).toNat = 3 then S.L 3 (S.L 2 l).toNat else -6
def cntD (S : aS) : Nat → Nat
  | 0 => 0
  | n + 1 => if byp S n = -6 then cntD S n else cntD S n + 1
theorem cntD_le (S : aS) : ∀ n, cntD S n ≤ n
  | 0 => Nat.le_refl _
  | n + 1 => by
    unfold cntD
    have := cntD_le S n
    split <;> omega
theorem byp_ok {S : aS} {l : Nat} (h : ∀ k, k ≤ l → okRef S k) : byp S l = -6 ∨ okLR l (byp S l) := by
  have hl := h l (Nat.le_refl _)
  unfold byp
  by_cases c2 : S.L 1 l = 2
  · rw [if_pos c2]
    rcases hl with ⟨h1, h2, h3, h4⟩ | ⟨h1, h2, h3, h4⟩ | ⟨h1, h2, h3, h4⟩ | ⟨h1, h2, h3, h4⟩ | ⟨h1, h2, h3, h4⟩
    · omega
    · omega
    · exact Or.inr h2
    · omega
    · omega
  · rw [if_neg c2]
    have src : S.L 1 l = 4 ∨ S.L 1 l = 5 → okLR l (S.L 2 l) := by
      intro c
      rcases hl with ⟨h1, h2, h3, h4⟩ | ⟨h1, h2, h3, h4⟩ | ⟨h1, h2, h3, h4⟩ | ⟨h1, h2, h3, h4⟩ | ⟨h1, h2, h3, h4⟩
      · omega
      · omega
      · exact h2
      · omega
      · omega
    have two : okLR l (S.L 2 l) → S.L 1 (S.L 2 l).toNat = 3 → okLR l (S.L 2 (S.L 2 l).toNat) ∧ okLR l (S.L 3 (S.L 2 l).toNat) := by
      intro hs c3
      have h1' := hs.1
      have h2' := hs.2
      rcases h (S.L 2 l).toNat (by omega) with ⟨h1, h2, h3, h4⟩ | ⟨h1, h2, h3, h4⟩ | ⟨h1, h2, h3, h4⟩ | ⟨h1, h2, h3, h4⟩ | ⟨h1, h2, h3, h4⟩
      · omega
      · have a1 := h2.1
        have a2 := h2.2
        have b1 := h3.1
        have b2 := h3.2
        exact ⟨⟨a1, by omega⟩, ⟨b1, by omega⟩⟩
      · omega
      · omega
      · omega
    by_cases c4 : S.L 1 l = 4 ∧ S.L 1 (S.L 2 l).toNat = 3
    · rw [if_pos c4]
      exact Or.inr (two (src (Or.inl c4.1)) c4.2).1
    · rw [if_neg c4]
      by_cases c5 : S.L 1 l = 5 ∧ S.L 1 (S.L 2 l).toNat = 3
      · rw [if_pos c5]
        exact Or.inr (two (src (Or.inr c5.1)) c5.2).2
      · rw [if_neg c5]
        exact Or.inl rfl
theorem okRef.src {S : aS} {l : Nat} (hl : okRef S l) (c : S.L 1 l = 4 ∨ S.L 1 l = 5) : okLR l (S.L 2 l) := by
  rcases hl with ⟨h1, h2, h3, h4⟩ | ⟨h1, h2, h3, h4⟩ | ⟨h1, h2, h3, h4⟩ | ⟨h1, h2, h3, h4⟩ | ⟨h1, h2, h3, h4⟩
  · omega
  · omega
  · exact h2
  · omega
  · omega
section
variable {G : xG} {d : Nat} {μ : xM} {Q : xP} {S : aS} {H : List aS} {K : Option aS} {T : aT}
theorem by_ok {l : Int32} {k : Nat} (hr : repP μ 0 S) (h48 : S.nl ≤ 48) (hok : okRef S k) (hl : l.toInt = k) (hk : k < S.nl) (h : ∀ x : Int32, x.toInt = byp S k → Q (some (vI x)) μ) : MW G (d + 2) mX4_bypassOf [vR (3, 0, 0), vI l] μ Q := by
  have e2 : (2 : Int32).toInt = 2 := rfl
  have e3 : (3 : Int32).toInt = 3 := rfl
  have e4 : (4 : Int32).toInt = 4 := rfl
  have e5 : (5 : Int32).toInt = 5 := rfl
  refine wX4_bypassOf (c_ru hr h48 hl hk fun x hx => c_r0 hr h48 hl hk fun y hy => xif_c (fun c2 => h y ?_) fun c2 => xif_c (fun c4 => ?_) fun c4 => xif_c (fun c5 => ?_) fun c5 => h _ ?_)
  · rw [ti_eq, hx, e2] at c2
    rw [byp, if_pos c2, hy]
  · rw [ti_eq, hx, e2] at c2
    rw [ti_eq, hx, e4] at c4
    have hs := hok.src (Or.inl c4)
    have hs1 := hs.1
    have hs2 := hs.2
    have hyk : y.toInt = ((S.L 2 k).toNat : Nat) := by rw [hy]; omega
    refine c_ru hr h48 hyk (by omega) fun z hz => xif_c (fun c3 => c_r0 hr h48 hyk (by omega) fun w hw => h w ?_) fun c3 => xif_f (by rw [ti_eq, hx, e5]; omega) (h _ ?_)
    · rw [ti_eq, hz, e3] at c3
      rw [byp, if_neg c2, if_pos ⟨c4, c3⟩, hw]
    · rw [ti_eq, hz, e3] at c3
      rw [byp, if_neg c2, if_neg (fun q => c3 q.2), if_neg (fun q => c3 q.2)]
      rfl
  · rw [ti_eq, hx, e2] at c2
    rw [ti_eq, hx, e4] at c4
    rw [ti_eq, hx, e5] at c5
    have hs := hok.src (Or.inr c5)
    have hs1 := hs.1
    have hs2 := hs.2
    have hyk : y.toInt = ((S.L 2 k).toNat : Nat) := by rw [hy]; omega
    refine c_ru hr h48 hyk (by omega) fun z hz => xif_c (fun c3 => c_r1 hr h48 hyk (by omega) fun w hw => h w ?_) fun c3 => h _ ?_
    · rw [ti_eq, hz, e3] at c3
      rw [byp, if_neg c2, if_neg (fun q => c4 q.1), if_pos ⟨c5, c3⟩, hw]
    · rw [ti_eq, hz, e3] at c3
      rw [byp, if_neg c2, if_neg (fun q => c3 q.2), if_neg (fun q => c3 q.2)]
      rfl
  · rw [ti_eq, hx, e2] at c2
    rw [ti_eq, hx, e4] at c4
    rw [ti_eq, hx, e5] at c5
    rw [byp, if_neg c2, if_neg (fun q => c4 q.1), if_neg (fun q => c5 q.1)]
    rfl
theorem refAt_out {l x : Int32} (hi : ¬ (0 ≤ x.toInt ∧ x.toInt ≤ 2)) (h : Q (some (vI (-6))) μ) : MW G (d + 1) mX4_referenceAt [vR (3, 0, 0), vI l, vI x] μ Q := by
  refine wX4_referenceAt ⟨fun z => ?_, fun n0 => ⟨fun z => ?_, fun n1 => ⟨fun z => ?_, fun n2 => h⟩⟩⟩
  all_goals exact absurd (by rw [z]; decide) hi
theorem cdep_ok {dp : Nat → Nat} (hc : cS μ S H K T) (hI : Inv S) (h7 : ∀ b, b < S.nb → okB S dp b) (h : ∀ x : Int32, x.toInt = dpI dp S.inn → Q (some (vI x)) μ) : MW G (d + 3) mX8_depth [vR (8, 0, 0)] μ Q := by
  have hP := hc.1.2
  refine wX8_depth (nest_ok hP hI.bd.2.2 h7 ?_ fun y hy => h y ?_)
  · rw [hP.2.2.1]
    rcases hI.innX with z | ⟨b, z1, z2, z3⟩
    · exact Or.inl z
    · exact Or.inr ⟨by omega, by omega⟩
  · rw [hy, hP.2.2.1]
end
