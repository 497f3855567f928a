/-! the law's loop and its start -/
def lw_offs : Array Int := #[168, 191, 204, 227, 270, 283, 316, 339, 372, 405, 428, 451, 464, 487, 530, 563, 606, 639, 682, 695, 728, 761, 774, 807, 820, 844, 867, 880, 903, 926, 939, 962, 985, 998, 1011, 1024, 1037, 1050]
section
variable {p : Program} {l : Launch} {e : Env} {s : State} {m : MethodId} {below : List Frame} {meth : Method} {c : Code} {b L : Nat} {xs : Nat → Int32} {ad : xI → Nat} {D : va_G} {cA : Nat → ClassId} {x : Int32} {μ : xM}
theorem lw_ops (C0 : LC p l s m meth c b L xs ad D cA) (hs : SIM μ) (h1 : vp_in (x + 1) L) (h2 : vp_in (x + 2) L) (h3 : vp_in (x + 3) L) (kk : ∀ μ, SIM μ → LW p l e s m below meth c b ad D cA x 1095 [] μ) : ∀ n : Nat, n < 38 → ∃ (off : Int) (tgt : Nat), lw_offs[n]? = some off ∧ ((32 : Nat) : Int) + off = (tgt : Int) ∧ LW p l e s m below meth c b ad D cA x tgt [] μ := by
  intro n hn
  match n, hn with
  | 0, _ => exact ⟨168, 200, rfl, by decide, lk_atom C0 hs h1 kk⟩
  | 1, _ => exact ⟨191, 223, rfl, by decide, lk_falsum C0 hs kk⟩
  | 2, _ => exact ⟨204, 236, rfl, by decide, lk_not C0 hs h1 kk⟩
  | 3, _ => exact ⟨227, 259, rfl, by decide, lk_pair C0 hs h1 h2 h3 kk⟩
  | 4, _ => exact ⟨270, 302, rfl, by decide, lk_formulas C0 hs kk⟩
  | 5, _ => exact ⟨283, 315, rfl, by decide, lk_part C0 hs h1 h2 kk⟩
  | 6, _ => exact ⟨316, 348, rfl, by decide, lk_length C0 hs h1 kk⟩
  | 7, _ => exact ⟨339, 371, rfl, by decide, lk_character C0 hs h1 h2 kk⟩
  | 8, _ => exact ⟨372, 404, rfl, by decide, lk_isTrue C0 hs h1 h2 kk⟩
  | 9, _ => exact ⟨405, 437, rfl, by decide, lk_premise C0 hs h1 kk⟩
  | 10, _ => exact ⟨428, 460, rfl, by decide, lk_open C0 hs h1 kk⟩
  | 11, _ => exact ⟨451, 483, rfl, by decide, lk_close C0 hs kk⟩
  | 12, _ => exact ⟨464, 496, rfl, by decide, lk_repeat C0 hs h1 kk⟩
  | 13, _ => exact ⟨487, 519, rfl, by decide, lk_fromTwo C0 hs h1 h2 h3 kk⟩
  | 14, _ => exact ⟨530, 562, rfl, by decide, lk_fromOne C0 hs h1 h2 kk⟩
  | 15, _ => exact ⟨563, 595, rfl, by decide, lk_toFormula C0 hs h1 h2 h3 kk⟩
  | 16, _ => exact ⟨606, 638, rfl, by decide, lk_fromBox C0 hs h1 h2 kk⟩
  | 17, _ => exact ⟨639, 671, rfl, by decide, lk_cases C0 hs h1 h2 h3 kk⟩
  | 18, _ => exact ⟨682, 714, rfl, by decide, lk_lines C0 hs kk⟩
  | 19, _ => exact ⟨695, 727, rfl, by decide, lk_line C0 hs h1 h2 kk⟩
  | 20, _ => exact ⟨728, 760, rfl, by decide, lk_reference C0 hs h1 h2 kk⟩
  | 21, _ => exact ⟨761, 793, rfl, by decide, lk_boxes C0 hs kk⟩
  | 22, _ => exact ⟨774, 806, rfl, by decide, lk_box C0 hs h1 h2 kk⟩
  | 23, _ => exact ⟨807, 839, rfl, by decide, lk_depth C0 hs kk⟩
  | 24, _ => exact ⟨820, 852, rfl, by decide, lk_needs C0 hs h1 kk⟩
  | 25, _ => exact ⟨844, 876, rfl, by decide, lk_bypass C0 hs h1 kk⟩
  | 26, _ => exact ⟨867, 899, rfl, by decide, lk_detours C0 hs kk⟩
  | 27, _ => exact ⟨880, 912, rfl, by decide, lk_failure C0 hs h1 kk⟩
  | 28, _ => exact ⟨903, 935, rfl, by decide, lk_counterexample C0 hs h1 kk⟩
  | 29, _ => exact ⟨926, 958, rfl, by decide, lk_shorten C0 hs kk⟩
  | 30, _ => exact ⟨939, 971, rfl, by decide, lk_trim C0 hs h1 kk⟩
  | 31, _ => exact ⟨962, 994, rfl, by decide, lk_append C0 hs h1 kk⟩
  | 32, _ => exact ⟨985, 1017, rfl, by decide, lk_clearText C0 hs kk⟩
  | 33, _ => exact ⟨998, 1030, rfl, by decide, lk_errorPosition C0 hs kk⟩
  | 34, _ => exact ⟨1011, 1043, rfl, by decide, lk_read C0 hs kk⟩
  | 35, _ => exact ⟨1024, 1056, rfl, by decide, lk_undo C0 hs kk⟩
  | 36, _ => exact ⟨1037, 1069, rfl, by decide, lk_save C0 hs kk⟩
  | 37, _ => exact ⟨1050, 1082, rfl, by decide, lk_restore C0 hs kk⟩
  | n + 38, hn => exact absurd hn (by omega)
/-- one entry of the script -/
theorem lw_one (C0 : LC p l s m meth c b L xs ad D cA) (hs : SIM μ) (h0 : vp_in x L) (h1 : vp_in (x + 1) L) (h2 : vp_in (x + 2) L) (h3 : vp_in (x + 3) L) (kk : ∀ μ, SIM μ → LW p l e s m below meth c b ad D cA x 1095 [] μ) : LW p l e s m below meth c b ad D cA x 26 [] μ := by
  intro H locs ls hP hS hl
  obtain ⟨hx, hb, hr, hml, hown, hts, hX, hbl, hlocks, hgv⟩ := C0.1
  refine lv_aload_n hx hb dL_26 rfl (lv_at hl 3 rfl) ?_
  refine lv_iload_n hx hb dL_27 rfl (lv_at hl 0 rfl) ?_
  refine va_sld hx hb hX hbl (Nat.not_le.mpr hbl) hS h0 dL_28 ?_
  refine lv_bipush (v := 63) hx hb dL_29 (by decide) ?_
  refine lv_iand hx hb dL_31 ?_
  refine lv_topi (fun y _ => ?_)
  by_cases hy : y.toInt < 0 ∨ 37 < y.toInt
  · exact lv_tableOut (tgt := 1095) hx hb dL_32 hy (by decide) (kk μ hs H locs ls hP hS hl)
  · obtain ⟨off, tgt, ho, ht, hW⟩ := lw_ops C0 hs h1 h2 h3 kk y.toInt.toNat (by omega)
    exact lv_tableIn (tgt := tgt) hx hb dL_32 (by omega) (by omega) (by rw [Int.sub_zero]; exact ho) ht (hW H locs ls hP hS hl)
theorem lw_next (C0 : LC p l s m meth c b L xs ad D cA) (kk : LW p l e s m below meth c b ad D cA (x + 4) 18 [] μ) : LW p l e s m below meth c b ad D cA x 1095 [] μ := by
  intro H locs ls hP hS hl
  obtain ⟨hx, hb, hr, hml, hown, hts, hX, hbl, hlocks, hgv⟩ := C0.1
  refine lv_iinc (v := x + 4) (lv' := [(3, .int (x + 4)), (2, .ref (ad (9, 0, 0))), (1, .ref (ad (8, 0, 0))), (0, .ref b)]) hx hb dL_1095 hl (k := 0) rfl rfl (by decide) rfl (fun ls hl => ?_)
  refine lv_goto (tgt := 18) hx hb dL_1098 (by decide) ?_
  exact kk H locs ls hP hS hl
theorem lw_loop (C0 : LC p l s m meth c b L xs ad D cA) : ∀ (k j : Nat) (x : Int32) (μ : xM), x.toInt = (4 * j : Nat) → 4 * j ≤ L → L < 4 * j + k → SIM μ → LW p l e s m below meth c b ad D cA x 18 [] μ := by
  have hL := C0.2.1
  intro k
  induction k with
  | zero => intro j x μ hx hj hk hs; exact absurd hk (by omega)
  | succ k ih =>
    intro j x μ hxj hj hk hs H locs ls hP hS hl
    obtain ⟨hx, hb, hr, hml, hown, hts, hX, hbl, hlocks, hgv⟩ := id C0.1
    refine lv_iload_n hx hb dL_18 rfl (lv_at hl 0 rfl) ?_
    refine lv_aload_n hx hb dL_19 rfl (lv_at hl 3 rfl) ?_
    refine va_slen hx hb hX hbl (Nat.not_le.mpr hbl) hS dL_20 ?_
    refine lv_iconst (v := 4) hx hb dL_21 (by decide) ?_
    refine lv_isub hx hb dL_22 ?_
    have eL : (Int32.ofNat L).toInt = (L : Int) := ti_of (by omega)
    have e4 : (Int32.ofNat L - 4).toInt = (L : Int) - 4 := by
      rw [ti_sub (by rw [eL, show (4 : Int32).toInt = 4 from rfl]; omega) (by rw [eL, show (4 : Int32).toInt = 4 from rfl]; omega), eL]
      rfl
    refine lv_icmp_gt (tgt := 1101) hx hb dL_23 (by decide) (fun hc => ?_) (fun hc => ?_)
    · refine lv_iconst (v := 1) hx hb dL_1101 (by decide) ?_
      refine va_forget (fun q hq => hS.2.2 q hq) ?_
      exact lw_ret hx hb hr hlocks dL_1102
    · have h5 : 4 * j + 4 ≤ L := by
        rw [ti_lt, e4, hxj] at hc
        omega
      have ea : ∀ k : Int32, 0 ≤ k.toInt → k.toInt ≤ 4 → (x + k).toInt = (4 * j : Nat) + k.toInt := fun k h1 h2 => by
        rw [ti_add (by rw [hxj]; omega) (by rw [hxj]; omega), hxj]
      have hin : ∀ k : Int32, 0 ≤ k.toInt → k.toInt < 4 → vp_in (x + k) L := fun k h1 h2 => vp_in_iff.mpr (by rw [ea k h1 (by omega)]; omega)
      have h0 : vp_in x L := vp_in_iff.mpr (by rw [hxj]; omega)
      refine lw_one C0 hs h0 (hin 1 (by decide) (by decide)) (hin 2 (by decide) (by decide)) (hin 3 (by decide) (by decide)) (fun μ hs => ?_) H locs ls hP hS hl
      exact lw_next C0 (ih (j + 1) (x + 4) μ (by rw [ea 4 (by decide) (by decide)]; show _ = _; rw [show (4 : Int32).toInt = 4 from rfl]; omega) (by omega) (by omega) hs)
end
