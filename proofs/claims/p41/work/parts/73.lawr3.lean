/-! the law's body: a rule's places are sought -/
section
variable {G : xG} {Z : xZ} {Q : xP} {e g : Int32} {μ : xM} {S : aS}
theorem la_1111 {r c fl : Int32} {k : Nat} (en : En G Z Q e g) (ok : Ok μ S) (hcc : c.toInt = k) (hful : fullI S fl) : ∀ (m : Nat) (n a b : Int32) (i j : Nat), n.toInt = 48 - m → m ≤ 48 → a.toInt = i → b.toInt = j → plc S r.toInt i j k → WS G eL_law (8 + 1) Z Q 1111 (lb [vI e, vN, vI g, vN, vI fl, vN, vI r, vN, vI a, vI b, vI c, vI n, vN, vN, vN, vN, vN, vN]) [] μ := by
  obtain ⟨hI, hs, hw, -⟩ := id ok
  have h60 := hI.1
  have h48 := hI.2.1
  have hb48 := hI.bd.2.2
  have t0 := rt0 hw
  have t1 := rt1 hw
  have t2 := rt2 hw
  have e48 : (48 : Int32).toInt = 48 := rfl
  have e6 : (6 : Int32).toInt = 6 := rfl
  have e7 : (7 : Int32).toInt = 7 := rfl
  have e8 : (8 : Int32).toInt = 8 := rfl
  have e10 : (10 : Int32).toInt = 10 := rfl
  have e12 : (12 : Int32).toInt = 12 := rfl
  have vi0 : vp_in (0 : Int32) 3 := ti_in l0 (by omega)
  have vi1 : vp_in (1 : Int32) 3 := ti_in l1 (by omega)
  have vi2 : vp_in (2 : Int32) 3 := ti_in l2 (by omega)
  intro m
  induction m with
  | zero =>
    intro n a b i j hn _ ha hb hp
    exact wL_law_1111 (xif_t (by rw [ti_le, hn, e48]; omega) (la_1292 en ok hp ha hb hcc hful))
  | succ m ih =>
    intro n a b i j hn hm ha hb hp
    have out : WS G eL_law (8 + 1) Z Q 1292 (lb [vI e, vN, vI g, vN, vI fl, vN, vI r, vN, vI a, vI b, vI c, vN, vN, vN, vN, vN, vN, vN]) [] μ := la_1292 en ok hp ha hb hcc hful
    have en' : (n + 1).toInt = 48 - (m : Int) := by rw [ti_add (by rw [hn, ti_lit1]; omega) (by rw [hn, ti_lit1]; omega), hn, ti_lit1]; omega
    obtain ⟨p1, p3, p4, p5⟩ := hp
    -- the second
    have q1228 : ∀ (a v : Int32) (i : Nat), a.toInt = i → (if r.toInt = 8 ∨ r.toInt = 10 then i < S.nb else i < S.nl) → WS G eL_law (8 + 1) Z Q 1228 (lb [vI e, vN, vI g, vN, vI fl, vN, vI r, vN, vN, vI b, vI c, vI n, vI v, vN, vN, vN, vN, vN]) [vI a] μ := by
      intro a v i ha p3
      have go : ∀ (N : Int32) (M : Nat), N.toInt = M → M ≤ 60 → j < M → (∀ x, x < M → (if r.toInt = 7 then x < S.nb else if r.toInt = 6 ∨ r.toInt = 12 then x < S.nf else x < S.nl)) → WS G eL_law (8 + 1) Z Q 1283 (lb [vI e, vN, vI g, vN, vI fl, vN, vI r, vN, vI a, vN, vI c, vI n, vN, vN, vN, vN, vN, vN]) [vI N, vI (b + 1)] μ := by
        intro N M hN hM hj hx
        obtain ⟨n0, x, x1, x2⟩ := ti_nx hb hN hj hM
        exact wL_law_1283 ⟨n0, wL_law_1284 (ih _ a _ i x en' (by omega) ha x2 ⟨p1, p3, hx x x1, p5⟩)⟩
      have fm : (r.toInt = 6 ∨ r.toInt = 12) → WS G eL_law (8 + 1) Z Q 1272 (lb [vI e, vN, vI g, vN, vI fl, vN, vI r, vN, vI a, vN, vI c, vI n, vN, vN, vN, vN, vN, vN]) [vI (b + 1)] μ := fun q => wL_law_1272 ⟨vi0, go _ S.nf t0 h60 (by rw [if_neg (by omega), if_pos q] at p4; exact p4) fun x hx => by rw [if_neg (by omega), if_pos q]; exact hx⟩
      refine wL_law_1228 (xif_c (fun _ => xif_c (fun q => ⟨vi2, go _ S.nb t2 (by omega) ?_ fun x hx => ?_⟩) fun q7 => xif_c (fun q => fm ?_) fun q6 => xif_c (fun q => fm ?_) fun q12 => ⟨vi1, go _ S.nl t1 (by omega) ?_ fun x hx => ?_⟩) fun _ => wL_law_1284 (ih _ a b i j en' (by omega) ha hb ⟨p1, p3, p4, p5⟩))
      · rw [ti_eq, e7] at q
        rw [if_pos q] at p4; exact p4
      · rw [ti_eq, e7] at q
        rw [if_pos q]; exact hx
      · rw [ti_eq, e6] at q; exact Or.inl q
      · rw [ti_eq, e12] at q; exact Or.inr q
      · rw [ti_eq, e7] at q7
        rw [ti_eq, e6] at q6
        rw [ti_eq, e12] at q12
        rw [if_neg q7, if_neg (by omega)] at p4; exact p4
      · rw [ti_eq, e7] at q7
        rw [ti_eq, e6] at q6
        rw [ti_eq, e12] at q12
        rw [if_neg q7, if_neg (by omega)]; exact hx
    have q1222 : ∀ (v N : Int32) (M : Nat), N.toInt = M → M ≤ 60 → i < M → (∀ x, x < M → (if r.toInt = 8 ∨ r.toInt = 10 then x < S.nb else x < S.nl)) → WS G eL_law (8 + 1) Z Q 1222 (lb [vI e, vN, vI g, vN, vI fl, vN, vI r, vN, vN, vI b, vI c, vI n, vI v, vN, vN, vN, vN, vN]) [vI N, vI (a + 1)] μ := by
      intro v N M hN hM hj hx
      obtain ⟨n0, x, x1, x2⟩ := ti_nx ha hN hj hM
      exact wL_law_1222 ⟨n0, q1228 _ v x x2 (hx x x1)⟩
    have bx : ∀ v, (r.toInt = 8 ∨ r.toInt = 10) → WS G eL_law (8 + 1) Z Q 1211 (lb [vI e, vN, vI g, vN, vI fl, vN, vI r, vN, vN, vI b, vI c, vI n, vI v, vN, vN, vN, vN, vN]) [vI (a + 1)] μ := fun v q => wL_law_1211 ⟨vi2, q1222 v _ S.nb t2 (by omega) (by rw [if_pos q] at p3; exact p3) fun x hx => by rw [if_pos q]; exact hx⟩
    have q1186 : ∀ v : Int32, WS G eL_law (8 + 1) Z Q 1186 (lb [vI e, vN, vI g, vN, vI fl, vN, vI r, vN, vI a, vI b, vI c, vI n, vN, vN, vN, vN, vN, vN]) [vI v] μ := by
      intro v
      refine wL_law_1186 (xif_c (fun _ => q1228 a v i ha p3) fun _ => xif_c (fun q => bx v ?_) fun q8 => xif_c (fun q => bx v ?_) fun q10 => ⟨vi1, q1222 v _ S.nl t1 (by omega) ?_ fun x hx => ?_⟩)
      · rw [ti_eq, e8] at q; exact Or.inl q
      · rw [ti_eq, e10] at q; exact Or.inr q
      · rw [ti_eq, e8] at q8
        rw [ti_eq, e10] at q10
        rw [if_neg (by omega)] at p3; exact p3
      · rw [ti_eq, e8] at q8
        rw [ti_eq, e10] at q10
        rw [if_neg (by omega)]; exact hx
    have q1181 : WS G eL_law (8 + 1) Z Q 1181 (lb [vI e, vN, vI g, vN, vI fl, vN, vI r, vN, vI a, vI b, vI c, vI n, vN, vN, vN, vN, vN, vN]) [] μ := wL_law_1181 (q1186 _)
    exact wL_law_1111 (xif_f (by rw [ti_le, hn, e48]; omega) (w_low (by decide) fun x _ _ => xif_c (fun _ => out) fun _ => w_rule hw hI ha hb hcc ⟨p1, p3, p4, p5⟩ fun y _ => xif_c (fun _ => ⟨by decide, xif_c (fun _ => q1181) fun _ => xif_c (fun _ => q1181) fun _ => xif_c (fun _ => q1181) fun _ => q1186 _⟩) fun _ => out))
theorem la_932 {h fl : Int32} (en : En G Z Q e g) (ok : Ok μ S) (hful : fullI S fl) : WS G eL_law (8 + 1) Z Q 932 (lb [vI e, vI h, vI g, vN, vI fl, vI 1, vN, vN, vN, vN, vN, vN, vN, vN, vN, vN, vN, vN]) [] μ := by
  obtain ⟨hI, hs, hw, -⟩ := id ok
  have h60 := hI.1
  have h48 := hI.2.1
  have hb48 := hI.bd.2.2
  have t0 := rt0 hw
  have t1 := rt1 hw
  have t2 := rt2 hw
  have e2 : (2 : Int32).toInt = 2 := rfl
  have e6 : (6 : Int32).toInt = 6 := rfl
  have e7 : (7 : Int32).toInt = 7 := rfl
  have e8 : (8 : Int32).toInt = 8 := rfl
  have e10 : (10 : Int32).toInt = 10 := rfl
  have e12 : (12 : Int32).toInt = 12 := rfl
  have vi0 : vp_in (0 : Int32) 3 := ti_in l0 (by omega)
  have vi1 : vp_in (1 : Int32) 3 := ti_in l1 (by omega)
  have vi2 : vp_in (2 : Int32) 3 := ti_in l2 (by omega)
  refine wL_law_932 ⟨vi1, xif_c (fun _ => en S μ ok) fun c => w_low (by decide) fun x hx1 hx2 => ?_⟩
  rw [ti_le, t1, ti_lit0] at c
  rw [e12] at hx2
  obtain ⟨A, -, hA⟩ := hI.lf (show 0 < S.nl by omega)
  have er : (2 + x).toInt = 2 + x.toInt := by rw [ti_add (by rw [e2]; omega) (by rw [e2]; omega), e2]
  have p1 : 2 ≤ (2 + x).toInt ∧ (2 + x).toInt ≤ 13 := by omega
  show xif _ _ _
  generalize (2 : Int32) + x = r at p1 ⊢
  clear er
  -- from the sought places on
  have q1106 : ∀ (a b c : Int32) (i j k : Nat), a.toInt = i → b.toInt = j → c.toInt = k → plc S r.toInt i j k → WS G eL_law (8 + 1) Z Q 1106 (lb [vI e, vN, vI g, vN, vI fl, vN, vI r, vN, vI a, vI b, vN, vN, vN, vN, vN, vN, vN, vN]) [vI c] μ := fun a b c i j k ha hb hc hp => wL_law_1106 (la_1111 en ok hc hful 48 0 a b i j rfl (Nat.le_refl _) ha hb hp)
  have q1081 : ∀ (a b : Int32) (i j : Nat), a.toInt = i → b.toInt = j → (if r.toInt = 8 ∨ r.toInt = 10 then i < S.nb else i < S.nl) → (if r.toInt = 7 then j < S.nb else if r.toInt = 6 ∨ r.toInt = 12 then j < S.nf else j < S.nl) → WS G eL_law (8 + 1) Z Q 1081 (lb [vI e, vN, vI g, vN, vI fl, vN, vI r, vN, vI a, vN, vN, vN, vN, vN, vN, vN, vN, vN]) [vI b] μ := by
    intro a b i j ha hb p3 p4
    refine wL_law_1081 (xif_c (fun q => ⟨vi2, w_low ?_ fun y hy1 hy2 => q1106 a b y i j y.toInt.toNat ha hb (by omega) ⟨p1, p3, p4, fun _ => ?_⟩⟩) fun q => q1106 a b 0 i j 0 ha hb rfl ⟨p1, p3, p4, fun q2 => ?_⟩)
    · rw [ti_eq, e7] at q
      rw [if_pos q] at p4
      rw [t2]; omega
    · rw [t2] at hy2; omega
    · rw [ti_eq, e7] at q; exact absurd q2 q
  have q1060 : ∀ (a : Int32) (i : Nat), a.toInt = i → (r.toInt = 6 ∨ r.toInt = 12) → (if r.toInt = 8 ∨ r.toInt = 10 then i < S.nb else i < S.nl) → WS G eL_law (8 + 1) Z Q 1060 (lb [vI e, vN, vI g, vN, vI fl, vN, vI r, vN, vI a, vN, vN, vN, vN, vN, vN, vN, vN, vN]) [] μ := by
    intro a i ha q p3
    refine wL_law_1060 ⟨vi0, w_low (by rw [t0]; omega) fun y hy1 hy2 => q1081 a y i y.toInt.toNat ha (by omega) p3 ?_⟩
    rw [if_neg (by omega), if_pos q]
    rw [t0] at hy2; omega
  have q1022 : ∀ (s0 N : Int32) (M : Nat), N.toInt = M → 0 < M → (∀ x, x < M → (if r.toInt = 8 ∨ r.toInt = 10 then x < S.nb else x < S.nl)) → (r.toInt = 7 → 0 < S.nb) → WS G eL_law (8 + 1) Z Q 1022 (lb [vI e, vN, vI g, vN, vI fl, vN, vI r, vN, vN, vN, vN, vN, vN, vN, vN, vN, vN, vN]) [vI N, vI s0] μ := by
    intro s0 N M hN hM hx h7
    refine wL_law_1022 (w_low (by omega) fun y hy1 hy2 => ?_)
    have ey : y.toInt = (y.toInt.toNat : Nat) := by omega
    have p3 := hx y.toInt.toNat (by omega)
    refine xif_c (fun q => ⟨vi2, w_low ?_ fun z hz1 hz2 => q1081 y z _ z.toInt.toNat ey (by omega) p3 ?_⟩) fun q7 => xif_c (fun q => q1060 y _ ey ?_ p3) fun q6 => xif_c (fun q => q1060 y _ ey ?_ p3) fun q12 => ⟨vi1, w_low (by rw [t1]; omega) fun z hz1 hz2 => q1081 y z _ z.toInt.toNat ey (by omega) p3 ?_⟩
    · rw [ti_eq, e7] at q
      have := h7 q
      rw [t2]; omega
    · rw [ti_eq, e7] at q
      rw [if_pos q]
      rw [t2] at hz2; omega
    · rw [ti_eq, e6] at q; exact Or.inl q
    · rw [ti_eq, e12] at q; exact Or.inr q
    · rw [ti_eq, e7] at q7
      rw [ti_eq, e6] at q6
      rw [ti_eq, e12] at q12
      rw [if_neg q7, if_neg (by omega)]
      rw [t1] at hz2; omega
  have q992 : (r.toInt = 8 ∨ r.toInt = 10 ∨ r.toInt = 7 → 0 < S.nb) → WS G eL_law (8 + 1) Z Q 992 (lb [vI e, vI h, vI g, vN, vI fl, vN, vI r, vN, vN, vN, vN, vN, vN, vN, vN, vN, vN, vN]) [] μ := by
    intro hb
    have bx : (r.toInt = 8 ∨ r.toInt = 10) → WS G eL_law (8 + 1) Z Q 1011 (lb [vI e, vN, vI g, vN, vI fl, vN, vI r, vN, vN, vN, vN, vN, vN, vN, vN, vN, vN, vN]) [vI (h >>> ((9 : Int32) &&& 31))] μ := fun q => wL_law_1011 ⟨vi2, q1022 _ _ S.nb t2 (hb (by omega)) (fun x hx => by rw [if_pos q]; exact hx) fun q7 => hb (by omega)⟩
    refine wL_law_992 (xif_c (fun q => bx ?_) fun q8 => xif_c (fun q => bx ?_) fun q10 => ⟨vi1, q1022 _ _ S.nl t1 (by omega) (fun x hx => ?_) fun q7 => hb (by omega)⟩)
    · rw [ti_eq, e8] at q; exact Or.inl q
    · rw [ti_eq, e10] at q; exact Or.inr q
    · rw [ti_eq, e8] at q8
      rw [ti_eq, e10] at q10
      rw [if_neg (by omega)]; exact hx
  have q973 : WS G eL_law (8 + 1) Z Q 973 (lb [vI e, vI h, vI g, vN, vI fl, vI 1, vI r, vN, vN, vN, vN, vN, vN, vN, vN, vN, vN, vN]) [] μ := by
    refine wL_law_973 (wL_law_978 (xif_f (by decide) ⟨vi2, xif_c (fun _ => en S μ ok) fun c => q992 fun _ => ?_⟩))
    rw [ti_le, t2, ti_lit0] at c; omega
  refine xif_c (fun _ => q973) fun q8 => xif_c (fun _ => q973) fun q10 => xif_c (fun _ => q973) fun q7 => wL_law_978 (xif_t rfl (q992 ?_))
  rw [ti_eq, e8] at q8
  rw [ti_eq, e10] at q10
  rw [ti_eq, e7] at q7
  omega
end
