/-! trim: the class's side, the ends and the whole -/
def setE (T : aS) (E : Nat → Int) : aS := (T.1, T.F, T.L, fun c x => if c = 1 then E x else T.B c x)
theorem setE_B (T : aS) (E : Nat → Int) (c x : Nat) : (setE T E).B c x = if c = 1 then E x else T.B c x := rfl
theorem setE_self (T : aS) : setE T (T.B 1) = T := by
  unfold setE
  refine Prod.ext rfl (Prod.ext rfl (Prod.ext rfl ?_))
  funext c x
  show (if c = 1 then T.B 1 x else T.B c x) = T.B c x
  split
  · rename_i h; rw [h]
  · rfl
theorem repF.cg' {μ : xM} {j : Nat} {S S' : aS} (h : repF μ j S) (e1 : S'.nf = S.nf) (e2 : S'.F = S.F) : repF μ j S' := by
  unfold repF at *
  rw [e1, e2]
  exact h
def all1 : Nat → Bool := fun _ => true
theorem rk_all : ∀ n, rk all1 n = n
  | 0 => rfl
  | n + 1 => by rw [rk_s rfl, rk_all n]
section
variable {G : xG} {d : Nat} {μ : xM} {Q : xP} {S : aS} {X : Nat → Bool} {H : List aS} {K : Option aS} {T : aT}
theorem fe_ok {T : aS} (hr : repP μ 0 T) (hl : T.nl ≤ 48) (hb : T.nb ≤ 48) (hh : ∀ l, l < T.nl → okX T (T.L 5 l)) (hp : ∀ b, b < T.nb → okX T (T.B 2 b)) (h : ∀ (E : Nat → Int) (μ' : xM), (∀ b, b < T.nb → ¬ lastI (T.L 5) (T.B 2) all1 b T.nl = -6 → E b = lastI (T.L 5) (T.B 2) all1 b T.nl) → (∀ q, q ≠ (1, 0, 10) → μ' q = μ q) → repP μ' 0 (setE T E) → Q none μ') : MW G (d + 3) mX4_findEnds [vR (3, 0, 0)] μ Q := by
  have e5 : (5 : Int32).toInt = 5 := rfl
  refine wX4_findEnds fun Z => ?_
  refine up_loop (σ := (Nat → Int) × xM) (fun i s => WS G eX4_findEnds (d + 3) Z Q 2 [vR (3, 0, 0), vI (nI i), vN, vN] [] s.2) (fun i s => (∀ b, b < T.nb → ¬ lastI (T.L 5) (T.B 2) all1 b i = -6 → s.1 b = lastI (T.L 5) (T.B 2) all1 b i) ∧ (∀ q, q ≠ (1, 0, 10) → s.2 q = μ q) ∧ repP s.2 0 (setE T s.1)) T.nl ?_ ?_ 0 (T.B 1, μ) (by omega) ⟨fun b hb hn => absurd rfl hn, fun _ _ => rfl, by rw [setE_self]; exact hr⟩
  · rintro i ⟨E0, μ1⟩ hi ⟨hE, e, r⟩ ih
    have ei : (nI i).toInt = i := nI_t (by omega)
    have lp : ∀ (m j : Nat) (x : Int32) (E : Nat → Int) (μ2 : xM), j + m = 5 → okX T x.toInt → (∀ b, b < T.nb → (lies (T.B 2) 5 (T.L 5 i) b = true → E b = i ∨ lies (T.B 2) m x.toInt b = true) ∧ (¬ lies (T.B 2) 5 (T.L 5 i) b = true → E b = E0 b) ∧ (lies (T.B 2) m x.toInt b = true → lies (T.B 2) 5 (T.L 5 i) b = true)) → (∀ q, q ≠ (1, 0, 10) → μ2 q = μ q) → repP μ2 0 (setE T E) → WS G eX4_findEnds (d + 3) Z Q 21 [vR (3, 0, 0), vI (nI i), vI x, vI (nI j)] [] μ2 := by
      have done : ∀ (m : Nat) (x : Int32) (E : Nat → Int) (μ2 : xM), (∀ b, ¬ lies (T.B 2) m x.toInt b = true) → (∀ b, b < T.nb → (lies (T.B 2) 5 (T.L 5 i) b = true → E b = i ∨ lies (T.B 2) m x.toInt b = true) ∧ (¬ lies (T.B 2) 5 (T.L 5 i) b = true → E b = E0 b) ∧ (lies (T.B 2) m x.toInt b = true → lies (T.B 2) 5 (T.L 5 i) b = true)) → (∀ q, q ≠ (1, 0, 10) → μ2 q = μ q) → repP μ2 0 (setE T E) → WS G eX4_findEnds (d + 3) Z Q 2 [vR (3, 0, 0), vI (nI i + 1), vN, vN] [] μ2 := by
        intro m x E μ2 hno hh e2 r2
        rw [nI_1]
        refine ih (E, μ2) ⟨fun b hb hn => ?_, e2, r2⟩
        obtain ⟨g1, g2, g3⟩ := hh b hb
        unfold lastI at hn ⊢
        by_cases c : lies (T.B 2) 5 (T.L 5 i) b = true
        · rw [if_pos ⟨rfl, c⟩]
          rcases g1 c with z | z
          · exact z
          · exact absurd z (hno b)
        · rw [if_neg (fun q => c q.2)] at hn ⊢
          exact (g2 c).trans (hE b hb hn)
      intro m
      induction m with
      | zero =>
        intro j x E μ2 hj hx hh e2 r2
        have ej : (nI j).toInt = j := nI_t (by omega)
        refine wX4_findEnds_21 (xif_t (by rw [ti_le, ej, e5]; omega) (done 0 x E μ2 (fun b q => by cases q) hh e2 r2))
      | succ m ihm =>
        intro j x E μ2 hj hx hh e2 r2
        have ej : (nI j).toInt = j := nI_t (by omega)
        refine wX4_findEnds_21 (xif_f (by rw [ti_le, ej, e5]; omega) (hasB_ok r2 (fun k h1 h2 => xif_f (by decide) ?_) fun z => xif_t rfl ?_))
        · have h2 : k < T.nb := h2
          refine set_in h1 (by simp [xlenc]; omega) (get_in h1 (by simp [xlenc]; omega) ?_)
          rw [xst_rd, if_neg (fun q => by cases q.1), nI_1]
          have hP : (μ2 (1, 0, 11) k).toInt = T.B 2 k := by
            have := r2.2.2.2.2 2 (by omega) k h2
            rw [setE_B, if_neg (by omega)] at this
            exact this
          refine ihm (j + 1) _ (fun b => if b = k then (i : Int) else E b) _ (by omega) (by rw [hP]; exact hp k h2) (fun b hb => ?_) (fun q hq => ?_) ?_
          · obtain ⟨g1, g2, g3⟩ := hh b hb
            have un : lies (T.B 2) (m + 1) x.toInt b = (decide ((k : Int) = b) || lies (T.B 2) m (T.B 2 k) b) := by
              conv => lhs; unfold lies
              rw [h1, if_neg (by omega), Int.toNat_natCast]
            rw [un] at g1 g3
            rw [hP]
            by_cases hbk : b = k
            · subst hbk
              refine ⟨fun _ => Or.inl (if_pos rfl), fun n => absurd (g3 (by simp)) n, fun q => g3 (by simp)⟩
            · have hne : decide ((k : Int) = b) = false := by simp; omega
              rw [hne, Bool.false_or] at g1 g3
              show (_ → (if b = k then (i : Int) else E b) = i ∨ _) ∧ (_ → (if b = k then (i : Int) else E b) = _) ∧ _
              rw [if_neg hbk]
              exact ⟨g1, g2, g3⟩
          · rw [← e2 q hq]
            funext n
            rw [xst_rd, if_neg (fun z => hq z.1)]
          · obtain ⟨r1, r2', r3, r4, r5⟩ := r2
            refine ⟨by simp [xst_rd]; exact r1, by simp [xst_rd]; exact r2', by simp [xst_rd]; exact r3, fun k' hk' l hl' => ?_, fun k' hk' b hb' => ?_⟩
            · have this : (μ2 (1, 0, lcol k') l).toInt = T.L k' l := r4 k' hk' l hl'
              have hl := lcol_bd k'
              have n1 : ¬ lcol k' = 10 := by omega
              show _ = T.L k' l
              simpa [xst_rd, n1] using this
            · have hx := r5 k' hk' b hb'
              rw [setE_B] at hx ⊢
              rcases (show k' = 0 ∨ k' = 1 ∨ k' = 2 by omega) with rfl | rfl | rfl
              · simpa [xst_rd] using hx
              · rw [if_pos rfl] at hx ⊢
                by_cases hbk : b = k
                · subst hbk
                  simp [xst_rd, ei]
                · simpa [xst_rd, hbk] using hx
              · simpa [xst_rd] using hx
        · have hx6 : x.toInt = -6 := by
            rcases hx with q | q
            · exact q
            · exact absurd q z
          exact done (m + 1) x E μ2 (fun b q => by unfold lies at q; rw [if_pos hx6] at q; cases q) hh e2 r2
    refine wX4_findEnds_2 (xif_f (by rw [ti_le, r.1, ei]; show ¬ (T.nl : Int) ≤ _; omega) (c_ho r hl ei hi fun x hx => ?_))
    have hx : x.toInt = T.L 5 i := hx
    exact lp 5 0 x E0 μ1 rfl (by rw [hx]; exact hh i hi) (fun b hb => ⟨fun q => Or.inr (by rw [hx]; exact q), fun _ => rfl, fun q => by rw [hx] at q; exact q⟩) e r
  · rintro ⟨E, μ1⟩ ⟨hE, e, r⟩
    have ei : (nI T.nl).toInt = T.nl := nI_t (by omega)
    exact wX4_findEnds_2 (xif_t (by rw [ti_le, r.1, ei]; exact Int.le_refl _) (h E μ1 hE e r))
theorem lies_new {P' : Nat → Int} (hI : Inv S) (hc : clo S X) (hP : ∀ b, b < S.nb → yB S X b = true → P' (rk (yB S X) b) = ren (yB S X) (S.B 2 b)) {b : Nat} (hb : b < S.nb) (hy : yB S X b = true) : ∀ (n : Nat) (x : Int), (x = -6 ∨ (0 ≤ x ∧ x < S.nb ∧ yB S X x.toNat = true)) → lies P' n (ren (yB S X) x) (rk (yB S X) b) = lies (S.B 2) n x b
  | 0, x, _ => rfl
  | n + 1, x, hx => by
    unfold lies
    rcases hx with z | ⟨z1, z2, z3⟩
    · rw [z]; rfl
    · have e : ren (yB S X) x = (rk (yB S X) x.toNat : Int) := if_neg (by omega)
      rw [e, if_neg (by omega), if_neg (by omega), Int.toNat_natCast, hP x.toNat (by omega) z3]
      have ih := lies_new hI hc hP hb hy n (S.B 2 x.toNat) (by
        by_cases q : S.B 2 x.toNat = -6
        · exact Or.inl q
        · obtain ⟨p1, p2, p3⟩ := hc.par hI (b := x.toNat) (by omega) z3 q
          exact Or.inr ⟨p1, by omega, p3⟩)
      rw [ih]
      have : decide ((rk (yB S X) x.toNat : Int) = (rk (yB S X) b : Int)) = decide (x = (b : Int)) := by
        refine decide_eq_decide.mpr ⟨fun q => ?_, fun q => ?_⟩
        · have := rk_inj z3 hy (by omega)
          omega
        · have : x.toNat = b := by omega
          rw [this]
      rw [this]
theorem last_new {P' hm' : Nat → Int} (hI : Inv S) (hc : clo S X) (hP : ∀ b, b < S.nb → yB S X b = true → P' (rk (yB S X) b) = ren (yB S X) (S.B 2 b)) (hH : ∀ l, X l = true → hm' (rk X l) = ren (yB S X) (S.L 5 l)) {b : Nat} (hb : b < S.nb) (hy : yB S X b = true) : ∀ n, lastI hm' P' all1 (rk (yB S X) b) (rk X n) = ren X (lastI (S.L 5) (S.B 2) X b n)
  | 0 => rfl
  | n + 1 => by
    have ih := last_new hI hc hP hH hb hy n
    by_cases hx : X n = true
    · rw [rk_s hx]
      unfold lastI
      rw [hH n hx]
      have hl := lies_new hI hc hP hb hy 5 (S.L 5 n) (by
        rcases hI.home (hc.1 n hx) with z | z
        · exact Or.inl z
        · exact Or.inr ⟨z.1, z.2, hc.home hx (b := (S.L 5 n).toNat) (by omega) (by omega)⟩)
      rw [hl]
      by_cases c : lies (S.B 2) 5 (S.L 5 n) b = true
      · rw [if_pos ⟨rfl, c⟩, if_pos ⟨hx, c⟩, ren, if_neg (by omega), Int.toNat_natCast]
      · rw [if_neg (fun q => c q.2), if_neg (fun q => c q.2), ih]
    · rw [rk_n hx, ih]
      unfold lastI
      rw [if_neg (fun q => hx q.1)]
      cases n <;> rfl
def mlS (S : aS) (X : Nat → Bool) (i : Nat) : aS := ((S.nf, S.nl, rk (yB S X) S.nb, S.inn), S.F, fun c x => pak X (newL S X c) (S.L c) i x, (kbS S X S.nb).B)
theorem mlS_0 : mlS S X 0 = bxS S X := by
  unfold mlS bxS
  refine Prod.ext rfl (Prod.ext rfl (Prod.ext ?_ rfl))
  funext c x
  exact pak_0 (Y := X) (f := newL S X c) (g := S.L c) x
theorem mlS_n {i : Nat} (h : ¬ X i = true) : mlS S X (i + 1) = mlS S X i := by
  unfold mlS
  refine Prod.ext rfl (Prod.ext rfl (Prod.ext ?_ rfl))
  funext c x
  exact pak_n h x
theorem mlS_s {i : Nat} (h : X i = true) : mlS S X (i + 1) = setLn (mlS S X i) (rk X i) fun c => newL S X c i := by
  unfold mlS setLn
  refine Prod.ext rfl (Prod.ext rfl (Prod.ext ?_ rfl))
  funext c x
  exact pak_s h x
/-- all moved, the ends still to be found -/
def mvS (S : aS) (X : Nat → Bool) : aS := ((S.nf, rk X S.nl, rk (yB S X) S.nb, S.inn), S.F, (mlS S X S.nl).L, (kbS S X S.nb).B)
theorem mvS_L {c l : Nat} (h : l < rk X S.nl) : (mvS S X).L c l = newL S X c (sel X S.nl l) := if_pos h
theorem mvS_B {c b : Nat} (hc : c ≠ 1) (h : b < rk (yB S X) S.nb) : (mvS S X).B c b = newB S X c (sel (yB S X) S.nb b) := by
  show (kbS S X S.nb).B c b = _
  rw [kbS_B, if_neg hc]
  exact if_pos h
theorem mvS_ok (hI : Inv S) (hc : clo S X) : (∀ l, l < (mvS S X).nl → okX (mvS S X) ((mvS S X).L 5 l)) ∧ (∀ b, b < (mvS S X).nb → okX (mvS S X) ((mvS S X).B 2 b)) ∧ ∀ b, b < S.nb → yB S X b = true → lastI ((mvS S X).L 5) ((mvS S X).B 2) all1 (rk (yB S X) b) (rk X S.nl) = newB S X 1 b := by
  have renX : ∀ x : Int, (x = -6 ∨ (0 ≤ x ∧ x < S.nb ∧ yB S X x.toNat = true)) → okX (mvS S X) (ren (yB S X) x) := by
    intro x hx
    rcases hx with z | ⟨z1, z2, z3⟩
    · rw [z]; exact Or.inl rfl
    · refine Or.inr ?_
      rw [ren, if_neg (by omega)]
      have := rk_lt (X := yB S X) (show x.toNat < S.nb by omega) z3
      exact ⟨by omega, by show _ < ((rk (yB S X) S.nb : Nat) : Int); omega⟩
  refine ⟨fun i hi => ?_, fun i hi => ?_, fun b hb hy => ?_⟩
  · rw [mvS_L hi]
    obtain ⟨l, hl, hx, rfl⟩ := sel_ex _ hi
    rw [sel_ok hx _ hl, newL, if_neg (by omega), if_pos rfl]
    refine renX _ ?_
    rcases hI.home hl with z | z
    · exact Or.inl z
    · exact Or.inr ⟨z.1, z.2, hc.home hx (b := (S.L 5 l).toNat) (by omega) (by omega)⟩
  · rw [mvS_B (by omega) hi]
    obtain ⟨b, hb, hy, rfl⟩ := sel_ex _ hi
    rw [sel_ok hy _ hb]
    refine renX _ ?_
    by_cases q : S.B 2 b = -6
    · exact Or.inl q
    · obtain ⟨p1, p2, p3⟩ := hc.par hI hb hy q
      exact Or.inr ⟨p1, by omega, p3⟩
  · refine last_new hI hc (fun b' hb' hy' => ?_) (fun l hx => ?_) hb hy S.nl
    · rw [mvS_B (by omega) (rk_lt hb' hy'), sel_ok hy' _ hb']
      rfl
    · have hl := hc.1 l hx
      rw [mvS_L (rk_lt hl hx), sel_ok hx _ hl, newL, if_neg (by omega), if_pos rfl]
theorem keep_ok {y : Int64} (hr : repP μ 0 S) (hI : Inv S) (hc : clo S X) (hn : S.inn = -6) (hy : ∀ i, i < S.nl → hasb y i = X i) (h : ∀ (x : Int32) (μ' : xM), x.toInt = (S.nl : Int) - rk X S.nl → (∀ q, ¬ ownP 0 q → μ' q = μ q) → repP μ' 0 (trimS S X) → Q (some (vI x)) μ') : MW G (d + 4) mX4_keepOnly [vR (3, 0, 0), vL y] μ Q := by
  obtain ⟨b1, b2, b3⟩ := hI.bd
  refine wX4_keepOnly fun Z => kb_ok hr hI hc hy fun w μ1 hw e1 r1 => ?_
  generalize hv3 : μ (3, 0, 0) 0 = v3
  have e3 : v3.toInt = S.nl := by rw [← hv3]; exact hr.1
  refine up_loop (σ := Int32 × xM) (fun i s => WS G eX4_keepOnly (d + 4) Z Q 18 [vR (3, 0, 0), vL y, vN, vI v3, vL w, vN, vI s.1, vI (nI i)] [] s.2) (fun i s => s.1.toInt = rk X i ∧ (∀ q, ¬ ownP 0 q → s.2 q = μ q) ∧ repP s.2 0 (mlS S X i)) S.nl ?_ ?_ 0 ((0 : Int32), μ1) (by omega) ⟨rfl, e1, by rw [mlS_0]; exact r1⟩
  · rintro i ⟨p, μ2⟩ hi ⟨hp, e, r⟩ ih
    have ei : (nI i).toInt = i := nI_t (by omega)
    have hp : p.toInt = rk X i := hp
    refine wX4_keepOnly_18 (xif_f (by rw [ti_le, e3, ei]; omega) (contains_ok ei (by omega) (fun c => xif_f (by decide) ?_) (fun c => xif_t rfl ?_)))
    · rw [hy i hi] at c
      have hle := rk_le X i
      refine mv_ok (S := S) (X := X) r rfl hI ei hi hp hle (fun c => pak_hi (Y := X) (f := newL S X c) (g := S.L c) (Nat.le_refl i)) hy hw fun μ3 e2 r3 => ?_
      rw [nI_1]
      refine ih (p + 1, μ3) ⟨?_, fun q hq => (e2 q hq).trans (e q hq), by rw [mlS_s c]; exact r3⟩
      show (p + 1).toInt = _
      rw [rk_s c, ti_add (by rw [hp, ti_lit1]; omega) (by rw [hp, ti_lit1]; omega), hp, ti_lit1]
      omega
    · rw [hy i hi] at c
      rw [nI_1]
      exact ih (p, μ2) ⟨by rw [rk_n c]; exact hp, e, by rw [mlS_n c]; exact r⟩
  · rintro ⟨p, μ2⟩ ⟨hp, e, r⟩
    have ei : (nI S.nl).toInt = S.nl := nI_t (by omega)
    have hp : p.toInt = rk X S.nl := hp
    have hle := rk_le X S.nl
    have hleb := rk_le (yB S X) S.nb
    obtain ⟨m1, m2, m3⟩ := mvS_ok hI hc
    have rM : repP (xst μ2 (3, 0, 0) 0 p) 0 (mvS S X) := by
      obtain ⟨r1, r2, r3, r4, r5⟩ := r
      refine ⟨by simp [xst_rd]; exact hp, by simp [xst_rd]; exact r2, by simp [xst_rd]; exact r3, fun k hk l hl => ?_, fun k hk b hb => ?_⟩
      · have hl : l < rk X S.nl := hl
        have this : (μ2 (1, 0, lcol k) l).toInt = (mvS S X).L k l := r4 k hk l (by show l < S.nl; omega)
        simpa [xst_rd] using this
      · have this : (μ2 (1, 0, 9 + k) b).toInt = (mvS S X).B k b := r5 k hk b hb
        simpa [xst_rd] using this
    refine wX4_keepOnly_18 (xif_t (by rw [ti_le, e3, ei]; omega) (fe_ok rM (by show rk X S.nl ≤ 48; omega) (by show rk (yB S X) S.nb ≤ 48; omega) m1 m2 fun E μ3 hE e4 r4 => h _ μ3 ?_ (fun q hq => ?_) ?_))
    · have h0 : (μ3 (3, 0, 0) 0).toInt = rk X S.nl := r4.1
      rw [ti_sub (by rw [e3, h0]; omega) (by rw [e3, h0]; omega), e3, h0]
    · rw [e4 q (fun z => hq (Or.inr (by rw [z]; exact ⟨rfl, rfl, by decide, by decide⟩)))]
      refine Eq.trans ?_ (e q hq)
      funext k
      rw [xst_rd, if_neg (fun z => hq (Or.inl z.1))]
    · refine r4.cg ?_ (fun c hc l hl => ?_) (fun c hc' b hb => ?_)
      · show _ = (mvS S X).1
        unfold trimS mvS
        rw [hn]
      · exact (mvS_L hl).symm
      · rw [setE_B]
        by_cases c1 : c = 1
        · rw [if_pos c1, c1]
          have hb : b < rk (yB S X) S.nb := hb
          obtain ⟨b', hb', hy', rfl⟩ := sel_ex _ hb
          have := m3 b' hb' hy'
          obtain ⟨g, g1, -⟩ := hc.newE hI hb' hy'
          rw [hE _ hb (by show ¬ lastI _ _ _ _ (rk X S.nl) = _; rw [this, g1]; omega)]
          show _ = lastI _ _ _ _ (rk X S.nl)
          rw [this]
          exact trim_B hb' hy'
        · rw [if_neg c1, mvS_B c1 hb]
          rfl
noncomputable def sp_trim (S : aS) (H : List aS) (a : Int) : aW := cif (vL' S a) (cif (S.inn = -6) (cif (S.L 5 a.toNat = -6) ((S.nl : Int) - rk (needS S a.toNat) S.nl, trimS S (needS S a.toNat), (S :: H).take 5) (-3, S, H)) (-3, S, H)) (-1, S, H)
theorem c_trim (a : Int32) (hc : cS μ S H K T) (hI : Inv S) (h : cG μ K T Q (sp_trim S H a.toInt)) : MW G 8 mX8_trim [vR (8, 0, 0), vI a] μ Q := by
  have hP := hc.1.2
  unfold sp_trim at h
  refine wX8_trim (hasL_ok hP (fun k h1 h2 => xif_f (by decide) ?_) fun z => xif_t rfl ?_)
  · rw [cif_t ⟨by omega, by omega⟩, show a.toInt.toNat = k by omega] at h
    refine xif_c (fun c => ?_) (fun c => ?_)
    · rw [ti_eq, hP.2.2.1, ti_litm6] at c
      rw [cif_t c] at h
      refine c_ho hP hI.2.1 h1 h2 fun x hx => xif_c (fun c2 => ?_) (fun c2 => ?_)
      · rw [ti_eq, hx, ti_litm6] at c2
        rw [cif_t c2] at h
        refine record_ok hI.bd hc.1 hc.2.1 fun μ1 e1 r1 => ?_
        have hP1 : repP μ1 0 S := hP.keep fun q hq => e1 q (ownH_not0 (Or.inr hq))
        refine need_ok hP1 hI h1 h2 fun y hy => keep_ok hP1 hI (clo_need hI h2 c) c (fun i _ => hy i) fun x μ2 hx e2 r2 => ?_
        obtain ⟨f1, f2⟩ := hc.updP (S' := trimS S (needS S k)) e1 r1 e2 (hc.1.1.cg' rfl rfl) r2
        exact h x μ2 hx f1 f2
      · rw [ti_eq, hx, ti_litm6] at c2
        rw [cif_f c2] at h
        exact h _ μ rfl frC.rf hc
    · rw [ti_eq, hP.2.2.1, ti_litm6] at c
      rw [cif_f c] at h
      exact h _ μ rfl frC.rf hc
  · rw [cif_f z] at h
    exact h _ μ rfl frC.rf hc
end
