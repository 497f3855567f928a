/-! the law's check in all valuations: it answers 1 -/
theorem bNF {b : Bool} (h : ¬ b = false) : b = true := by
  cases b
  · exact absurd rfl h
  · rfl
theorem bNT {b : Bool} (h : ¬ b = true) : b = false := by
  cases b
  · rfl
  · exact absurd rfl h
theorem aV_all {S : aS} {X : Nat → Bool} {v : Nat} : ∀ n, aV S X v n = true → ∀ l, l < n → X l = true → evS S v (S.L 0 l).toNat = true
  | 0, _, l, hl, _ => by omega
  | n + 1, h, l, hl, hx => by
    rw [aV, Bool.and_eq_true] at h
    by_cases c : l = n
    · subst c
      have := h.2
      rw [hx] at this
      simpa using this
    · exact aV_all n h.1 l (by omega) hx
theorem aV_and {S : aS} {X Y : Nat → Bool} {v : Nat} : ∀ n, (aV S X v n && aV S Y v n) = aV S (fun l => X l || Y l) v n
  | 0 => rfl
  | n + 1 => by
    rw [aV, aV, aV, ← aV_and n]
    cases X n <;> cases Y n <;> cases aV S X v n <;> cases aV S Y v n <;> cases evS S v (S.L 0 n).toNat <;> rfl
theorem opn_iff {S : aS} {i : Nat} : ∀ n, opn S n i = true ↔ ∃ b, b < n ∧ S.B 1 b = -6 ∧ S.B 0 b = i
  | 0 => ⟨fun h => (by cases h), fun ⟨b, h, _⟩ => (by omega)⟩
  | n + 1 => by
    rw [opn, Bool.or_eq_true, Bool.and_eq_true, opn_iff n]
    constructor
    · rintro (⟨b, h1, h2, h3⟩ | ⟨h1, h2⟩)
      · exact ⟨b, by omega, h2, h3⟩
      · exact ⟨n, by omega, of_decide_eq_true h1, (of_decide_eq_true h2).symm⟩
    · rintro ⟨b, h1, h2, h3⟩
      by_cases c : b = n
      · subst c
        exact Or.inr ⟨decide_eq_true h2, decide_eq_true h3.symm⟩
      · exact Or.inl ⟨b, by omega, h2, h3⟩
def opX (S : aS) (l : Nat) : Bool := decide (S.L 1 l = 1) && decide (S.B 1 (S.L 5 l).toNat = -6)
theorem opX_ach {S : aS} (hI : Inv S) (hs : Snd S) {l : Nat} (hl : l < S.nl) : opX S l = ach S 5 S.inn l := by
  obtain ⟨dp, h7⟩ := hI.2.2.2.2.2.2.1
  rw [hI.2.2.2.1, ← opn_ach h7 l S.nb (Nat.le_refl _)]
  have h1 : opX S l = true ↔ opn S S.nb l = true := by
    rw [opn_iff, opX, Bool.and_eq_true]
    constructor
    · rintro ⟨c1, c2⟩
      have c1 := of_decide_eq_true c1
      have c2 := of_decide_eq_true c2
      obtain ⟨g1, g2⟩ := (hs.1 l hl).1.1 c1
      have hX := hI.home hl
      exact ⟨(S.L 5 l).toNat, by rcases hX with z | z <;> omega, c2, g2⟩
    · rintro ⟨b, b1, b2, b3⟩
      obtain ⟨g1, -⟩ := hs.2 b b1
      have g3 := (h7 b b1).2.2.1
      rw [b3, Int.toNat_natCast] at g1 g3
      exact ⟨decide_eq_true g1, decide_eq_true (by rw [g3, Int.toNat_natCast]; exact b2)⟩
  cases e : opX S l <;> cases e2 : opn S S.nb l <;> first | rfl | (rw [e, e2] at h1; simp at h1)
/-- no valuation refutes a line -/
theorem no_fail {S : aS} (hI : Inv S) (hs : Snd S) {l A : Nat} (hl : l < S.nl) (hA : S.L 0 l = A) : fv (flt S (fun i => prm S i || ach S 5 (S.L 5 l) i) A) 256 0 = -6 := by
  have h0 : ∀ v, flt S (fun i => prm S i || ach S 5 (S.L 5 l) i) A v = false := by
    intro v
    unfold flt
    cases e : aV S (fun i => prm S i || ach S 5 (S.L 5 l) i) v S.nl with
    | false => rw [Bool.and_false]
    | true =>
      have all := aV_all S.nl e
      have := sound hI hs (v := v) (fun i hi h => all i hi (by rw [prm, decide_eq_true h, Bool.true_or])) (l + 1) l (by omega) hl (fun b hb hsc => by
        obtain ⟨s, hss, hs2⟩ := hI.bs hb
        have ha := lies_ach hI 5 (S.L 5 l) b hb (hI.home hl) (hsc.five hI (hI.home hl))
        show evS S v (S.L 0 (S.B 0 b).toNat).toNat = true
        rw [hss, Int.toNat_natCast] at ha ⊢
        exact all s hs2 (by show (prm S s || ach S 5 (S.L 5 l) s) = true; rw [ha, Bool.or_true]))
      rw [hA, Int.toNat_natCast] at this
      rw [this]; rfl
  exact fv_skip _ 0 256 0 fun j _ => h0 _
abbrev lvF (p q r s t u v w x y z : xV) : List xV := [vR (8, 0, 0), vR (1, 0, 20), vR (1, 0, 21), vR (1, 0, 22), vR (1, 0, 23), vR (1, 0, 24), vR (1, 0, 28), vR (1, 0, 29), vR (1, 0, 30), vR (1, 0, 31), vR (1, 0, 32), p, q, r, s, t, u, v, w, x, y, z]
def bI (b : Bool) : Int32 := if b = true then 1 else 0
theorem bI_0 : ∀ b, bI b = 0 ↔ b = false := by decide
section
variable {G : xG} {d : Nat} {μ : xM} {Q : xP} {S : aS} {H : List aS} {K : Option aS} {T : aT}
theorem w_follows {a b : Int32} {f l : Nat} (hc : cS μ S H K T) (hw : repW μ S) (hI : Inv S) (hs : Snd S) (ha : a.toInt = f) (hf : f < S.nf) (hb : b.toInt = l) (hl : l < S.nl) (h : ∀ μ' : xM, (∀ q, q ≠ (1, 0, 13) → μ' q = μ q) → Q (some (vI 1)) μ') : MW G (d + 6) mL_follows [vR (8, 0, 0), vR (1, 0, 20), vR (1, 0, 21), vR (1, 0, 22), vR (1, 0, 23), vR (1, 0, 24), vR (1, 0, 28), vR (1, 0, 29), vR (1, 0, 30), vR (1, 0, 31), vR (1, 0, 32), vI a, vI b] μ Q := by
  have h48 := hI.2.1
  have h60 := hI.1
  have hb48 := hI.bd.2.2
  have t1 := rt1 hw
  obtain ⟨A, hA, hA2⟩ := hI.lf hl
  have hX := hI.home hl
  have vinb : vp_in b 48 := ti_in hb (by omega)
  refine wL_follows fun Z => ?_
  have out : ∀ (n : Nat) (v c : Int32), v.toInt = (n : Int) - 1 → n ≤ 256 → c.toInt = fv (flt S (fun i => prm S i || ach S 5 S.inn i) f) (256 - n) n → WS G eL_follows (d + 6) Z Q 13 (lvF (vI a) (vI b) (vI (-6 : Int32)) (vI c) (vI v) vN vN vN vN vN vN) [] μ := by
    intro n
    induction n with
    | zero =>
      intro v c hv hn hcc
      refine wL_follows_13 (xif_t (by rw [ti_lt, ti_lit0]; omega) (xif_t rfl ?_))
      refine k_failure hc hI hb hl hA hA2 fun x m hx e1 hc1 => xif_t (ieq (hx.trans (no_fail hI hs hl hA)) rfl) ?_
      refine k_counterexample hc1 hI ha hf fun y m' hy e2 hc2 => xif_t (ieq hy hcc) ⟨z11, h m' fun q hq => (e2 q hq).trans (e1 q hq)⟩
    | succ n ihv =>
      intro v c hv hn hcc
      have hvn : v.toInt = (n : Nat) := by omega
      have ihv : ∀ c' : Int32, c'.toInt = fv (flt S (fun i => prm S i || ach S 5 S.inn i) f) (256 - n) n → WS G eL_follows (d + 6) Z Q 13 (lvF (vI a) (vI b) (vI (-6 : Int32)) (vI c') (vI (v + (-1 : Int32))) vN vN vN vN vN vN) [] μ := fun c' h1 => ihv _ c' (dec_ok hvn (by omega)) (by omega) h1
      have st : fv (flt S (fun i => prm S i || ach S 5 S.inn i) f) (256 - n) n = if flt S (fun i => prm S i || ach S 5 S.inn i) f n = true then (n : Int) else fv (flt S (fun i => prm S i || ach S 5 S.inn i) f) (256 - (n + 1)) (n + 1) := by
        rw [show 256 - n = (256 - (n + 1)) + 1 by omega]; rfl
      refine wL_follows_13 (xif_f (by rw [ti_lt, ti_lit0]; omega) ?_)
      refine w_truth hw hI hvn (by omega) fun y hy => ?_
      have bit : ∀ {x : Int32} {g : Nat}, x.toInt = g → g < S.nf → (xlr y x) &&& 1 = bL (evS S n g) := by
        intro x g hx hg
        rw [xlr_b hx (by omega), hy, decide_eq_true hg, Bool.true_and]
      -- behind the loops
      have last : ∀ (gv ov : Bool), gv = aV S (prm S) n S.nl → ov = aV S (opX S) n S.nl → WS G eL_follows (d + 6) Z Q 225 (lvF (vI a) (vI b) vN (vI c) (vI v) (vL y) vN (vI (bI gv)) (vI (bI ov)) vN vN) [vI (-6 : Int32)] μ := by
        intro gv ov hgv hov
        have both : (gv && ov) = aV S (fun i => prm S i || ach S 5 S.inn i) n S.nl := by
          rw [hgv, hov, aV_and]
          exact aV_cg S.nl fun i hi => by rw [opX_ach hI hs hi]
        have keep : (gv && ov && !evS S n f) = false → WS G eL_follows (d + 6) Z Q 254 (lvF (vI a) (vI b) (vI (-6 : Int32)) (vI c) (vI v) vN vN vN vN vN vN) [] μ := by
          intro z
          refine wL_follows_254 (wL_follows_256 (ihv c ?_))
          rw [st, if_neg, hcc]
          unfold flt
          rw [← both, Bool.and_comm, z]
          decide
        refine wL_follows_225 (xif_c (fun q => keep ?_) (fun q => xif_c (fun q2 => keep ?_) (fun q2 => xif_c (fun q3 => ?_) (fun q3 => keep ?_))))
        · rw [bI_0] at q; rw [q]; rfl
        · rw [bI_0] at q2; rw [q2, Bool.and_false]; rfl
        · rw [bI_0] at q q2
          rw [bit ha hf, bL_0] at q3
          refine wL_follows_256 (ihv v ?_)
          rw [st, if_pos, hvn]
          unfold flt
          rw [← both, q3, bNF q, bNF q2]; rfl
        · rw [bit ha hf, bL_0] at q3
          rw [bNF q3, Bool.not_true, Bool.and_false]
      have ins : ∀ (gv ov : Bool), gv = aV S (prm S) n S.nl → ov = aV S (opX S) n S.nl → ∀ (m : Nat) (iv : Bool) (w : Int32) (x : Int), x < m → E w.toInt x → okX S x → (iv = false ∨ (asmT S n x → asmT S n (S.L 5 l))) → WS G eL_follows (d + 6) Z Q 148 (lvF (vI a) (vI b) (vI (-6 : Int32)) (vI c) (vI v) (vL y) vN (vI (bI gv)) (vI (bI ov)) (vI (bI iv)) (vI w)) [] μ := by
        intro gv ov hgv hov m
        have stop : ∀ (iv : Bool) (w : Int32) (x : Int), E w.toInt x → x = -6 → (iv = false ∨ (asmT S n x → asmT S n (S.L 5 l))) → WS G eL_follows (d + 6) Z Q 148 (lvF (vI a) (vI b) (vI (-6 : Int32)) (vI c) (vI v) (vL y) vN (vI (bI gv)) (vI (bI ov)) (vI (bI iv)) (vI w)) [] μ := by
          intro iv w x hw1 hx hi
          refine wL_follows_148 (xif_t (by rw [ti_lt, ti_lit0, hw1.lt]; exact hx) (xif_c (fun q => wL_follows_223 (last gv ov hgv hov)) (fun q => xif_c (fun q2 => wL_follows_223 (last gv ov hgv hov)) (fun q2 => ⟨vinb, xif_f ?_ (wL_follows_223 (last gv ov hgv hov))⟩))))
          rw [bI_0] at q q2
          have e0 := rL0 hw hI hb hl
          rw [hA] at e0
          rw [bit e0 hA2, bL_0]
          have hgv' : aV S (prm S) n S.nl = true := by rw [← hgv]; exact bNF q
          have hasm : asmT S n (S.L 5 l) := by
            rcases hi with z | z
            · exact absurd z q2
            · refine z fun b' _ hsc => ?_
              rw [hx] at hsc
              exact (scp_n6 hsc).elim
          have := sound hI hs (v := n) (fun i hi h => aV_all S.nl hgv' i hi (by rw [prm, decide_eq_true h])) (l + 1) l (by omega) hl hasm
          rw [hA, Int.toNat_natCast] at this
          rw [this]; decide
        induction m with
        | zero =>
          intro iv w x hm hw1 hx hi
          exact stop iv w x hw1 (by rcases hx with z | z <;> omega) hi
        | succ m ihm =>
          intro iv w x hm hw1 hx hi
          by_cases cx : x = -6
          · exact stop iv w x hw1 cx hi
          · have hx2 : 0 ≤ x ∧ x < S.nb := by
              rcases hx with z | z
              · exact absurd z cx
              · exact z
            have hwb : w.toInt = (x.toNat : Nat) := by rw [hw1.nn hx2.1]; omega
            have hxb : x.toNat < S.nb := by omega
            have vinw : vp_in w 48 := ti_in hwb (by omega)
            obtain ⟨s, hss, hs2⟩ := hI.bs hxb
            obtain ⟨B, hB, hB2⟩ := hI.lf hs2
            have hpar : S.B 2 x.toNat < m := by rcases hI.par hxb with z | z <;> omega
            have e0 := rB0 hw hI hwb hxb
            rw [hss] at e0
            have e1 := rL0 hw hI e0 hs2
            rw [hB] at e1
            have nxt : ∀ iv' : Bool, (iv' = false ∨ (iv = true ∧ evS S n B = true)) → WS G eL_follows (d + 6) Z Q 181 (lvF (vI a) (vI b) (vI (-6 : Int32)) (vI c) (vI v) (vL y) vN (vI (bI gv)) (vI (bI ov)) vN (vI w)) [vI (bI iv')] μ := by
              intro iv' hiv
              refine wL_follows_181 ⟨vinw, ihm iv' _ (S.B 2 x.toNat) hpar (rw_ hw hwb hxb) (hI.parX hxb) ?_⟩
              rcases hiv with z | ⟨z1, z2⟩
              · exact Or.inl z
              · refine Or.inr fun hasm => ?_
                rcases hi with z | z
                · rw [z1] at z; cases z
                · refine z fun b' hb' hsc => ?_
                  rcases scp_cs hsc with y1 | ⟨-, y1⟩
                  · have hbx : b' = x.toNat := by omega
                    rw [hbx]
                    show evS S n (S.L 0 (S.B 0 x.toNat).toNat).toNat = true
                    rw [hss, Int.toNat_natCast, hB, Int.toNat_natCast]; exact z2
                  · exact hasm b' hb' y1
            refine wL_follows_148 (xif_f (by rw [ti_lt, ti_lit0]; omega) (xif_c (fun q => wL_follows_180 (nxt false (Or.inl rfl))) (fun q => ⟨vinw, ti_in e0 (by omega), xif_c (fun q2 => nxt true (Or.inr ⟨?_, ?_⟩)) (fun q2 => wL_follows_180 (nxt false (Or.inl rfl)))⟩)))
            · rw [bI_0] at q; exact bNF q
            · rw [bit e1 hB2, bL_1] at q2; exact q2
      refine up_loop (σ := Bool × Bool) (fun i s => WS G eL_follows (d + 6) Z Q 39 (lvF (vI a) (vI b) (vI (-6 : Int32)) (vI c) (vI v) (vL y) vN (vI (bI s.1)) (vI (bI s.2)) (vI (nI i)) vN) [] μ) (fun i s => s.1 = aV S (prm S) n i ∧ s.2 = aV S (opX S) n i) S.nl ?_ ?_ 0 (true, true) (by omega) ⟨rfl, rfl⟩
      · rintro k ⟨gv, ov⟩ hk ⟨hgv, hov⟩ ihk
        have hgv : gv = aV S (prm S) n k := hgv
        have hov : ov = aV S (opX S) n k := hov
        show WS G eL_follows (d + 6) Z Q 39 (lvF (vI a) (vI b) (vI (-6 : Int32)) (vI c) (vI v) (vL y) vN (vI (bI gv)) (vI (bI ov)) (vI (nI k)) vN) [] μ
        have ek : (nI k).toInt = k := nI_t (by omega)
        have vin : vp_in (nI k) 48 := ti_in ek (by omega)
        obtain ⟨B, hB, hB2⟩ := hI.lf hk
        have e0 := rL0 hw hI ek hk
        rw [hB] at e0
        have u := rL1 hw hI ek hk
        have evk : evS S n (S.L 0 k).toNat = evS S n B := by rw [hB, Int.toNat_natCast]
        have ihk : ∀ gv' ov' : Bool, gv' = aV S (prm S) n (k + 1) → ov' = aV S (opX S) n (k + 1) → WS G eL_follows (d + 6) Z Q 39 (lvF (vI a) (vI b) (vI (-6 : Int32)) (vI c) (vI v) (vL y) vN (vI (bI gv')) (vI (bI ov')) (vI (nI k + 1)) vN) [] μ := fun gv' ov' h1 h2 => by rw [nI_1]; exact ihk (gv', ov') ⟨h1, h2⟩
        have two : ∀ gv' hv : Bool, gv' = aV S (prm S) n (k + 1) → hv = evS S n B → WS G eL_follows (d + 6) Z Q 93 (lvF (vI a) (vI b) (vI (-6 : Int32)) (vI c) (vI v) (vL y) vN vN (vI (bI ov)) (vI (nI k)) (vI (bI hv))) [vI (bI gv')] μ := by
          intro gv' hv hg hh
          have o1 : true = aV S (opX S) n (k + 1) → WS G eL_follows (d + 6) Z Q 125 (lvF (vI a) (vI b) (vI (-6 : Int32)) (vI c) (vI v) (vL y) vN (vI (bI gv')) vN (vI (nI k)) vN) [] μ := fun z => wL_follows_125 (wL_follows_130 (ihk gv' true hg z))
          have o0 : false = aV S (opX S) n (k + 1) → WS G eL_follows (d + 6) Z Q 129 (lvF (vI a) (vI b) (vI (-6 : Int32)) (vI c) (vI v) (vL y) vN (vI (bI gv')) vN (vI (nI k)) vN) [] μ := fun z => wL_follows_129 (wL_follows_130 (ihk gv' false hg z))
          refine wL_follows_93 (xif_c (fun q => o0 ?_) (fun q => ⟨vin, xif_c (fun q1 => ?_) (fun q1 => o1 ?_)⟩))
          · rw [bI_0] at q
            rw [aV, ← hov, q, Bool.false_and]
          · rw [bI_0] at q
            rw [ti_eq, u, ti_lit1] at q1
            obtain ⟨g1, g2⟩ := (hs.1 k hk).1.1 q1
            have hXk := hI.home hk
            have hkb : (S.L 5 k).toNat < S.nb := by rcases hXk with z | z <;> omega
            have ex : (μ (1, 0, 28) (nI k).toNatClampNeg).toInt = ((S.L 5 k).toNat : Nat) := by rw [(rx hw ek hk).nn g1]; omega
            have eq := rq hw ex hkb
            refine ⟨vin, ti_in ex (by omega), xif_c (fun q2 => o1 ?_) (fun q2 => xif_c (fun q3 => o0 ?_) (fun q3 => o1 ?_))⟩
            · rw [ti_le, ti_lit0] at q2
              have : ¬ S.B 1 (S.L 5 k).toNat = -6 := fun z => by have := eq.lt.mpr z; omega
              rw [aV, ← hov, bNF q, opX, decide_eq_false this]
              simp
            · rw [ti_le, ti_lit0] at q2
              have : S.B 1 (S.L 5 k).toNat = -6 := eq.lt.mp (by omega)
              rw [bI_0] at q3
              rw [aV, opX, decide_eq_true this, decide_eq_true q1, evk, ← hh, q3]
              simp
            · rw [bI_0] at q3
              rw [aV, ← hov, bNF q, evk, ← hh, bNF q3]
              simp
          · rw [bI_0] at q
            rw [ti_eq, u, ti_lit1] at q1
            rw [aV, ← hov, bNF q, opX, decide_eq_false q1]
            simp
        have one : ∀ hv : Bool, hv = evS S n B → WS G eL_follows (d + 6) Z Q 68 (lvF (vI a) (vI b) (vI (-6 : Int32)) (vI c) (vI v) (vL y) vN (vI (bI gv)) (vI (bI ov)) (vI (nI k)) vN) [vI (bI hv)] μ := by
          intro hv hh
          have g1 : true = aV S (prm S) n (k + 1) → WS G eL_follows (d + 6) Z Q 88 (lvF (vI a) (vI b) (vI (-6 : Int32)) (vI c) (vI v) (vL y) vN vN (vI (bI ov)) (vI (nI k)) (vI (bI hv))) [] μ := fun z => wL_follows_88 (two true hv z hh)
          have g0 : false = aV S (prm S) n (k + 1) → WS G eL_follows (d + 6) Z Q 92 (lvF (vI a) (vI b) (vI (-6 : Int32)) (vI c) (vI v) (vL y) vN vN (vI (bI ov)) (vI (nI k)) (vI (bI hv))) [] μ := fun z => wL_follows_92 (two false hv z hh)
          refine wL_follows_68 (xif_c (fun q => g0 ?_) (fun q => ⟨vin, xif_c (fun q1 => xif_c (fun q2 => g0 ?_) (fun q2 => g1 ?_)) (fun q1 => g1 ?_)⟩))
          · rw [bI_0] at q
            rw [aV, ← hgv, q, Bool.false_and]
          · rw [bI_0] at q2
            rw [ti_eq, u, ti_lit0] at q1
            rw [aV, prm, decide_eq_true q1, evk, ← hh, q2]
            simp
          · rw [bI_0] at q q2
            rw [aV, ← hgv, bNF q, evk, ← hh, bNF q2]
            simp
          · rw [bI_0] at q
            rw [ti_eq, u, ti_lit0] at q1
            rw [aV, ← hgv, bNF q, prm, decide_eq_false q1]
            simp
        refine wL_follows_39 ⟨ti_in l1 (by omega), xif_f (by rw [ti_le, t1, ek]; omega) ⟨vin, xif_c (fun q => one true ?_) (fun q => one false ?_)⟩⟩
        · rw [bit e0 hB2, bL_1] at q; exact q.symm
        · rw [bit e0 hB2, bL_1] at q
          exact (bNT q).symm
      · rintro ⟨gv, ov⟩ ⟨hgv, hov⟩
        have ek : (nI S.nl).toInt = S.nl := nI_t (by omega)
        exact wL_follows_39 ⟨ti_in l1 (by omega), xif_t (by rw [ti_le, t1, ek]; omega) ⟨vinb, ins gv ov hgv hov ((S.L 5 l).toNat + 1) true _ (S.L 5 l) (by omega) (rx hw hb hl) hX (Or.inr fun z => z)⟩⟩
  exact out 256 255 (-6) rfl (Nat.le_refl _) rfl
end
