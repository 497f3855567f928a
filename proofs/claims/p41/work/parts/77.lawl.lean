/-! the law's body: a proof is trimmed; which call; the loop -/
section
variable {p : Program} {l : Launch} {e' : Env} {s : State} {m : MethodId} {below : List Frame} {meth : Method} {c : Code} {b L : Nat} {xs : Nat → Int32} {ad : xI → Nat} {D : va_G} {cA : Nat → ClassId} {nc ns : Nat} {e g : Int32} {μ : xM} {S : aS}
theorem la_919 {G : xG} {Z : xZ} {Q : xP} {x y : Int32} (en : En G Z Q e g) (ok : Ok μ S) (h : x.toInt = y.toInt) : WS G eL_law (8 + 1) Z Q 919 (lb [vI e, vN, vI g, vN, vN, vN, vN, vN, vN, vN, vN, vN, vN, vN, vN, vN, vN, vN]) [vI y, vI x] μ := wL_law_919 (xif_t (ti_eq.mpr h) (wL_law_927 (en S μ ok)))
theorem la_832n {G : xG} {Z : xZ} {Q : xP} {n : Int32} {k : Nat} (en : En G Z Q e g) (ok : Ok μ S) (hn : n.toInt = k) (hk : k < S.nl) (h : ¬ (S.inn = -6 ∧ S.L 5 k = -6)) : WS G eL_law (8 + 1) Z Q 832 (lb [vI e, vN, vI g, vN, vN, vN, vI n, vN, vN, vN, vN, vN, vN, vN, vN, vN, vN, vN]) [vI 0] μ := by
  obtain ⟨hI, hs, hw, H, K, T, hc⟩ := ok
  refine wL_law_832 (w_needs hw hI hn hk fun y hy => ⟨ti_in l1 (by omega), xif_t rfl (wL_law_895 (c_trim n hc hI fun x μ' hx fc hc2 => xif_t rfl ?_))⟩)
  have e1 : sp_trim S H n.toInt = (-3, S, H) := by
    unfold sp_trim
    rw [cif_t ⟨by omega, by omega⟩, show n.toInt.toNat = k by omega]
    by_cases q : S.inn = -6
    · rw [cif_t q, cif_f (fun z => h ⟨q, z⟩)]
    · exact cif_f q
  rw [e1] at hx hc2
  exact la_919 en (Ok.of hI hs hw fc hc2) hx
theorem la_832y (C0 : LC p l s m meth c b L xs ad D cA) {n : Int32} {k : Nat} (en : En (l, ad, D, cA, false) (lz p e' s m below meth c b (nc + 2) (ns + 96)) nQ e g) (hnn : nc + 2 ≤ 600000 ∧ ns + 96 ≤ 7302250) (ok : Ok μ S) (hn : n.toInt = k) (hk : k < S.nl) (hin : S.inn = -6) (h6 : S.L 5 k = -6) : WS (l, ad, D, cA, false) eL_law (8 + 1) (lz p e' s m below meth c b nc ns) nQ 832 (lb [vI e, vN, vI g, vN, vN, vN, vI n, vN, vN, vN, vN, vN, vN, vN, vN, vN, vN, vN]) [vI 1] μ := by
  obtain ⟨hI, hs, hw, H, K, T, hc⟩ := ok
  have h48 := hI.2.1
  have t1 := rt1 hw
  refine wL_law_832 (w_needs hw hI hn hk fun y hy => ⟨ti_in l1 (by omega), xif_f (by decide) (lz_trim C0 (S := S) (X := needS S k) hnn hw hI (clo_need hI hk hin) (fun b hb hyb => (last_kept hI hs hk h6 hin hb hyb).2) (fun i _ => hy i) fun μ' fr hw1 => wL_law_895 (c_trim n (hc.keep fr) hI fun x μ2 hx fc hc2 => xif_f (by decide) ?_))⟩)
  have e1 : sp_trim S H n.toInt = ((S.nl : Int) - rk (needS S k) S.nl, trimS S (needS S k), (S :: H).take 5) := by
    unfold sp_trim
    rw [cif_t ⟨by omega, by omega⟩, show n.toInt.toNat = k by omega, cif_t hin, cif_t h6]
  rw [e1] at hx hc2
  refine w_bits (X := needS S k) (fun i _ => hy i) fun z hz => la_919 en (Ok.of (Inv_trim hI (clo_need hI hk hin)) (Snd_trim hI hs hk h6 hin) hw1 fc hc2) ?_
  have hr : rk (needS S k) 48 = rk (needS S k) S.nl := rk_flat (fun i hi => by
    cases q : needS S k i with
    | false => rfl
    | true => have := need_le hI hk q; omega) 48 h48
  have hle := rk_le (needS S k) S.nl
  rw [hr] at hz
  rw [ti_sub (by rw [t1, hz]; omega) (by rw [t1, hz]; omega), t1, hz]
  exact hx
theorem la_770 (C0 : LC p l s m meth c b L xs ad D cA) {kd h fl : Int32} (en : En (l, ad, D, cA, false) (lz p e' s m below meth c b nc ns) nQ e g) (en2 : En (l, ad, D, cA, false) (lz p e' s m below meth c b (nc + 2) (ns + 96)) nQ e g) (hnn : nc + 2 ≤ 600000 ∧ ns + 96 ≤ 7302250) (ok : Ok μ S) (hful : fullI S fl) : WS (l, ad, D, cA, false) eL_law (8 + 1) (lz p e' s m below meth c b nc ns) nQ 770 (lb [vI e, vI h, vI g, vI kd, vI fl, vI 1, vN, vN, vN, vN, vN, vN, vN, vN, vN, vN, vN, vN]) [] μ := by
  obtain ⟨hI, hs, hw, -⟩ := id ok
  have h48 := hI.2.1
  have t1 := rt1 hw
  have vi1 : vp_in (1 : Int32) 3 := ti_in l1 (by omega)
  have no : WS (l, ad, D, cA, false) eL_law (8 + 1) (lz p e' s m below meth c b nc ns) nQ 932 (lb [vI e, vI h, vI g, vN, vI fl, vI 1, vN, vN, vN, vN, vN, vN, vN, vN, vN, vN, vN, vN]) [] μ := la_932 en ok hful
  refine wL_law_770 (xif_c (fun _ => w_low (by decide) fun x _ _ => xif_c (fun _ => ⟨vi1, xif_c (fun _ => no) fun cq => ⟨vi1, w_low ?_ fun n hn1 hn2 => w_latest hw hI fun z hz => ?_⟩⟩) fun _ => no) fun _ => no)
  · rw [ti_le, t1, ti_lit0] at cq
    rw [t1]; omega
  · rw [t1] at hn2
    have hn : n.toInt = (n.toInt.toNat : Nat) := by omega
    have hk : n.toInt.toNat < S.nl := by omega
    generalize n.toInt.toNat = k at hn hk
    rw [← hI.2.2.2.1] at hz
    have ex := rx hw hn hk
    have n831 : ¬ (S.inn = -6 ∧ S.L 5 k = -6) → WS (l, ad, D, cA, false) eL_law (8 + 1) (lz p e' s m below meth c b nc ns) nQ 831 (lb [vI e, vN, vI g, vN, vN, vN, vI n, vN, vN, vN, vN, vN, vN, vN, vN, vN, vN, vN]) [] μ := fun q => wL_law_831 (la_832n en ok hn hk q)
    refine xif_c (fun cq => n831 fun q => ?_) fun cq => ⟨ti_in hn (by omega), xif_c (fun c2 => n831 fun q => ?_) fun c2 => la_832y C0 en2 hnn ok hn hk ?_ ?_⟩
    · rw [ti_le, ti_lit0] at cq
      have := hz.lt.mpr q.1; omega
    · rw [ti_le, ti_lit0] at c2
      have := ex.lt.mpr q.2; omega
    · rw [ti_le, ti_lit0] at cq
      exact hz.lt.mp (by omega)
    · rw [ti_le, ti_lit0] at c2
      exact ex.lt.mp (by omega)
/-- which call -/
theorem la_135 (C0 : LC p l s m meth c b L xs ad D cA) {kd h fl : Int32} (en : En (l, ad, D, cA, false) (lz p e' s m below meth c b nc ns) nQ e g) (en2 : En (l, ad, D, cA, false) (lz p e' s m below meth c b (nc + 2) (ns + 96)) nQ e g) (hnn : nc + 2 ≤ 600000 ∧ ns + 96 ≤ 7302250) (ok : Ok μ S) (hful : fullI S fl) : WS (l, ad, D, cA, false) eL_law (8 + 1) (lz p e' s m below meth c b nc ns) nQ 135 (lb [vI e, vI h, vI g, vI kd, vN, vN, vN, vN, vN, vN, vN, vN, vN, vN, vN, vN, vN, vN]) [vI fl] μ := by
  obtain ⟨hI, hs, hw, H, K, T, hc⟩ := id ok
  have h48 := hI.2.1
  have hnb := hI.2.2.1
  have t0 := rt0 hw
  have t1 := rt1 hw
  have e3 : (3 : Int32).toInt = 3 := rfl
  have vi0 : vp_in (0 : Int32) 3 := ti_in l0 (by omega)
  have vi1 : vp_in (1 : Int32) 3 := ti_in l1 (by omega)
  have n770 := la_770 (kd := kd) (h := h) C0 en en2 hnn ok hful
  have n154 := la_154 (h := h) en ok
  refine wL_law_135 (xif_c (fun _ => n154) fun _ => ⟨vi0, xif_c (fun cq => ?_) fun _ => n154⟩)
  rw [ti_le, t0, e3] at cq
  refine xif_c (fun _ => xif_c (fun _ => xif_c (fun _ => xif_c (fun _ => w_low (by decide) fun x _ _ => xif_c (fun _ => ?_) fun _ => n770) fun _ => n770) fun _ => w_latest hw hI fun x hx => ?_) fun _ => ⟨vi0, w_low ?_ fun x hx1 hx2 => ?_⟩) fun _ => ⟨vi0, w_low ?_ fun x hx1 hx2 => w_latest hw hI fun z hz => ?_⟩
  · refine w_shorten hw hI fun x μ1 hx fr hw1 => k_shorten (hc.keep fr) hI fun y μ2 hy fc hc2 => xif_t ?_ (la_765 en (Ok.of (shA_ok hI S.nl (Nat.le_refl _)).1 (Snd_shA hI hs S.nl (Nat.le_refl _)) hw1 fc hc2))
    rw [ti_eq, hx, hy]
  · rw [← hI.2.2.2.1] at hx
    have no : S.inn = -6 ∨ ¬ S.L 5 (S.nl - 1) = S.inn → WS (l, ad, D, cA, false) eL_law (8 + 1) (lz p e' s m below meth c b nc ns) nQ 672 (lb [vI e, vN, vI g, vN, vN, vN, vI x, vN, vN, vN, vN, vN, vN, vN, vN, vN, vN, vN]) [] μ := fun q => wL_law_672 (la_673n en ok q)
    refine xif_c (fun c1 => no (Or.inl ?_)) fun c1 => ?_
    · rw [ti_lt, ti_lit0] at c1
      exact hx.lt.mp c1
    · rw [ti_lt, ti_lit0, hx.lt] at c1
      rcases hI.innX with z | ⟨bx, z1, z2, z3⟩
      · exact absurd z c1
      have ev : (μ (1, 0, 32) (1 : Int32).toNatClampNeg - 1).toInt = (S.nl - 1 : Nat) := by rw [ti_sub (by rw [t1, ti_lit1]; omega) (by rw [t1, ti_lit1]; omega), t1, ti_lit1]; omega
      have exx := rx hw ev (by omega)
      have ex := hx.nn (by omega)
      refine ⟨vi1, ti_in ev (by omega), xif_c (fun c2 => la_673y en ok z1 z2 z3 (ex.trans z1) ?_) fun c2 => no (Or.inr ?_)⟩
      · rw [ti_eq] at c2
        exact (exx.inj hx).mp c2
      · rw [ti_eq] at c2
        exact fun z => c2 ((exx.inj hx).mpr z)
  · rw [t0]; omega
  · rw [t0] at hx2
    exact la_482 en ok hful ⟨hx1, hx2⟩
  · rw [t0]; omega
  · rw [t0] at hx2
    rw [← hI.2.2.2.1] at hz
    refine xif_c (fun c1 => la_388 en ok hful ⟨hx1, hx2⟩ (Or.inl ⟨rfl, ?_⟩)) fun c1 => la_388 en ok hful ⟨hx1, hx2⟩ (Or.inr ⟨by decide, fun z => c1 ?_⟩)
    · rw [ti_lt, ti_lit0] at c1
      exact hz.lt.mp c1
    · rw [ti_lt, ti_lit0]
      exact hz.lt.mpr z
/-- the loop -/
theorem la_86 (C0 : LC p l s m meth c b L xs ad D cA) : ∀ (k : Nat) (e : Int32) (nc ns : Nat) (μ : xM) (S : aS), e.toInt = 70 - k → k ≤ 70 → nc + 2 * k ≤ 600000 ∧ ns + 96 * k ≤ 7302250 → Ok μ S → WS (l, ad, D, cA, false) eL_law (8 + 1) (lz p e' s m below meth c b nc ns) nQ 86 (lb [vI e, vN, vN, vN, vN, vN, vN, vN, vN, vN, vN, vN, vN, vN, vN, vN, vN, vN]) [] μ := by
  have e70 : (70 : Int32).toInt = 70 := rfl
  have e48 : (48 : Int32).toInt = 48 := rfl
  intro k
  induction k with
  | zero =>
    intro e nc ns μ S he _ hn ok
    exact wL_law_86 (xif_t (by rw [ti_le, he, e70]; omega) (lz_ret C0 (by omega)))
  | succ k ih =>
    intro e nc ns μ S he hk hn ok
    have he1 : (e + 1).toInt = 70 - (k : Int) := by rw [ti_add (by rw [he, ti_lit1]; omega) (by rw [he, ti_lit1]; omega), he, ti_lit1]; omega
    have he2 : (70 + e).toInt = 140 - ((k : Int) + 1) := by rw [ti_add (by rw [he, e70]; omega) (by rw [he, e70]; omega), he, e70]; omega
    have en : ∀ g, En (l, ad, D, cA, false) (lz p e' s m below meth c b nc ns) nQ e g := fun g => en_of fun S' μ' ok' => ih (e + 1) nc ns μ' S' he1 (by omega) (by omega) ok'
    have en2 : ∀ g, En (l, ad, D, cA, false) (lz p e' s m below meth c b (nc + 2) (ns + 96)) nQ e g := fun g => en_of fun S' μ' ok' => ih (e + 1) (nc + 2) (ns + 96) μ' S' he1 (by omega) (by omega) ok'
    refine wL_law_86 (xif_f (by rw [ti_le, he, e70]; omega) (lz_cell C0 (by decide +kernel) (by rw [he]; omega) fun h => wL_law_99 (lz_cell C0 (by decide +kernel) (by rw [he2]; omega) fun g => wL_law_110 (w_low (by decide) fun kd _ _ => ⟨ti_in l1 (by omega), ?_⟩))))
    have t1 := rt1 ok.2.2.1
    have h48 := ok.1.2.1
    refine xif_c (fun c1 => la_135 C0 (en g) (en2 g) (by omega) ok ⟨fun z => absurd z (by decide), fun _ => ?_⟩) fun c1 => la_135 C0 (en g) (en2 g) (by omega) ok ⟨fun _ => ?_, fun z => absurd rfl z⟩
    · rw [ti_eq, t1, e48] at c1; omega
    · rw [ti_eq, t1, e48] at c1; omega
end
