/-! the law's body: a pass of its loop, its end -/
abbrev lb (xs : List xV) : List xV := vR (13, 0, 0) :: vR (8, 0, 0) :: vR (1, 0, 20) :: vR (1, 0, 21) :: vR (1, 0, 22) :: vR (1, 0, 23) :: vR (1, 0, 24) :: vR (1, 0, 25) :: vR (1, 0, 26) :: vR (1, 0, 27) :: vR (1, 0, 28) :: vR (1, 0, 29) :: vR (1, 0, 30) :: vR (1, 0, 31) :: vR (1, 0, 32) :: xs
/-- all is in order, on both sides -/
def Ok (μ : xM) (S : aS) : Prop := Inv S ∧ Snd S ∧ repW μ S ∧ ∃ H K T, cS μ S H K T
def En (G : xG) (Z : xZ) (Q : xP) (e g : Int32) : Prop := ∀ (S : aS) (μ : xM), Ok μ S → WS G eL_law (8 + 1) Z Q 1686 (lb [vI e, vN, vI g, vN, vN, vI 1, vN, vN, vN, vN, vN, vN, vN, vN, vN, vN, vN, vN]) [] μ
def Nx (G : xG) (Z : xZ) (Q : xP) (e : Int32) : Prop := ∀ (S : aS) (μ : xM), Ok μ S → WS G eL_law (8 + 1) Z Q 86 (lb [vI e, vN, vN, vN, vN, vN, vN, vN, vN, vN, vN, vN, vN, vN, vN, vN, vN, vN]) [] μ
theorem Ok.sc13 {μ μ' : xM} {S : aS} (h : Ok μ S) (e : ∀ q, q ≠ (1, 0, 13) → μ' q = μ q) : Ok μ' S := by
  obtain ⟨h1, h2, h3, H, K, T, h4⟩ := h
  exact ⟨h1, h2, h3.sc13 e, H, K, T, (cS.sc13 (c := 13) (by omega) h4 e).2⟩
/-- the class moves, then the rows -/
theorem Ok.of {μ1 μ2 : xM} {S : aS} {H : List aS} {K : Option aS} {T : aT} (h1 : Inv S) (h2 : Snd S) (hw : repW μ1 S) (e : frC μ1 μ2) (hc : cS μ2 S H K T) : Ok μ2 S := ⟨h1, h2, hw.frC e, H, K, T, hc⟩
section
variable {G : xG} {Z : xZ} {Q : xP} {e g : Int32}
theorem en_of (h : Nx G Z Q (e + 1)) : En G Z Q e g := by
  intro S μ ok
  have n95 : ∀ μ', Ok μ' S → WS G eL_law (8 + 1) Z Q 1795 (lb [vI e, vN, vN, vN, vN, vN, vN, vN, vN, vN, vN, vN, vN, vN, vN, vN, vN, vN]) [] μ' := fun μ' ok => wL_law_1795 (h S μ' ok)
  obtain ⟨hI, hs, hw, H, K, T, hc⟩ := id ok
  refine wL_law_1686 (xif_f (by decide) (w_formulas hc hw hI fun μ1 e1 => xif_f (by decide) (wL_law_1708 ?_)))
  have ok1 := ok.sc13 e1
  clear hc hw
  obtain ⟨-, -, hw, H, K, T, hc⟩ := id ok1
  refine w_lines hc hw hI (xif_f (by decide) (wL_law_1735 ⟨by decide, xif_c (fun _ => ⟨ti_in l1 (by omega), xif_c (fun _ => n95 _ ok1) fun c => wL_law_1750 ?_⟩) fun _ => n95 _ ok1⟩))
  have t0 := rt0 hw
  have t1 := rt1 hw
  rw [ti_le, t1, ti_lit0] at c
  have hnl : 0 < S.nl := by omega
  have h48 := hI.2.1
  obtain ⟨A, -, hA⟩ := hI.lf hnl
  refine ⟨ti_in l0 (by omega), w_low (by rw [t0]; omega) fun x hx1 hx2 => ⟨ti_in l1 (by omega), w_follows (f := x.toInt.toNat) (l := S.nl - 1) hc hw hI hs (by omega) (by rw [t0] at hx2; omega) ?_ (by omega) fun μ2 e2 => xif_f (by decide) (n95 _ (ok1.sc13 e2))⟩⟩
  rw [ti_sub (by rw [t1, ti_lit1]; omega) (by rw [t1, ti_lit1]; omega), t1, ti_lit1]; omega
end
