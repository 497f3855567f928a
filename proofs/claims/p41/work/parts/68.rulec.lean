/-! a rule: what the class answers, what the law's number says -/
theorem open_scp {S : aS} (hI : Inv S) : ∀ (n b : Nat), n ≤ S.nb → b < n → S.B 1 b = -6 → scp S (latO S n) b
  | 0, b, _, h, _ => absurd h (by omega)
  | n + 1, b, hn, h, hb => by
    unfold latO
    by_cases c : b = n
    · subst c
      rw [if_pos hb]
      exact scp_self
    · have ih := open_scp hI n b (by omega) (by omega) hb
      split
      · rename_i q
        refine scp_up (by omega) ?_
        rw [Int.toNat_natCast]
        obtain ⟨dp, h7⟩ := hI.2.2.2.2.2.2.1
        rw [(h7 n (by omega)).2.2.2.2.1 q]
        exact ih
      · exact ih
theorem av_scI {S : aS} {x : Int} (hI : Inv S) (hx : okX S x) (hn : noo S x) : scI S S.inn x := by
  rcases hx with z | z
  · exact Or.inl z
  · rcases hn with y | y
    · exact Or.inl y
    · refine Or.inr ⟨z.1, ?_⟩
      rw [hI.2.2.2.1]
      exact open_scp hI S.nb x.toNat (Nat.le_refl _) (by omega) y
theorem rch_l {S : aS} {l : Nat} (hI : Inv S) (hl : l < S.nl) (ha : avL S l) : reach S S.inn false l := Or.inr (Or.inl ⟨rfl, av_scI hI (hI.home hl) ha⟩)
theorem rch_b {S : aS} {b : Nat} (hI : Inv S) (hb : b < S.nb) (ha : avB S b) : reach S S.inn true b := Or.inr (Or.inr ⟨rfl, av_scI hI (hI.parX hb) ha.2⟩)
theorem rch_n {S : aS} {h : Int} {bx : Bool} : reach S h bx (-6) := Or.inl rfl
theorem mkS_old {S : aS} {k l r : Int} {c f : Nat} (hf : f < S.nf) : (mkS S k l r).2.F c f = S.F c f := by
  unfold mkS
  split
  · rw [addF_F, if_neg (by omega)]
  · rfl
theorem mkS_new (S : aS) (k l r : Int) : ∃ n : Nat, (mkS S k l r).1 = n ∧ n < (mkS S k l r).2.nf ∧ fmt (mkS S k l r).2 k l r n := by
  unfold mkS
  by_cases h : findS S k l r = -6
  · rw [if_pos h]
    exact ⟨S.nf, rfl, by rw [addF_nf]; omega, by rw [addF_F, if_pos rfl, if_pos rfl], by rw [addF_F, if_pos rfl, if_neg (by omega), if_pos rfl], by rw [addF_F, if_pos rfl, if_neg (by omega), if_neg (by omega)]⟩
  · rw [if_neg h]
    rcases findS_ok S k l r with z | ⟨f, z1, z2, z3⟩
    · exact absurd z h
    · exact ⟨f, z1, z2, z3⟩
theorem mkS_LB (S : aS) (k l r : Int) : (mkS S k l r).2.L = S.L ∧ (mkS S k l r).2.B = S.B ∧ (mkS S k l r).2.nl = S.nl ∧ (mkS S k l r).2.nb = S.nb ∧ (mkS S k l r).2.inn = S.inn := by
  unfold mkS
  split <;> exact ⟨rfl, rfl, rfl, rfl, rfl⟩
theorem Inv_mkS {S : aS} {k l r : Int} (hI : Inv S) (hr : roomS S k l r) (hF : okF (addF S k l r) S.nf) : Inv (mkS S k l r).2 := by
  unfold mkS
  split
  · rename_i h
    rcases hr with z | z
    · exact Inv_add hI z hF
    · exact absurd h z
  · exact hI
/-- the class's call of a rule -/
noncomputable def opR (S : aS) (H : List aS) (r a b c : Int) : aW :=
  cif (r = 2) (sp_repeat S H a) (cif (r = 7) (sp_cases S H a b c) (cif (r = 8 ∨ r = 10) (sp_fromBox S H r a) (cif (r = 3 ∨ r = 9 ∨ r = 11) (sp_fromTwo S H r a b) (cif (r = 6 ∨ r = 12) (sp_toFormula S H r a b) (sp_fromOne S H r a)))))
def rB (r : Int) (j : Nat) : Int := if r = 3 ∨ r = 9 ∨ r = 11 ∨ r = 7 then j else -6
def rC (r : Int) (k : Nat) : Int := if r = 7 then k else -6
def m9 (x : Int) : Int := if x = -6 then 999 else x
def newOK (S : aS) (r a b c : Int) : Prop := okRV S S.nl r a b c ∧ ¬ r = 1 ∧ reach S S.inn (isBxR r 0) a ∧ reach S S.inn (isBxR r 1) b ∧ reach S S.inn (isBxR r 2) c
def RR (S : aS) (H : List aS) (r a b c v : Int) (w : aW) : Prop :=
  (v = 0 ∧ w = (-3, S, H)) ∨
  (newOK S r a b c ∧ ∃ f : Nat, f < S.nf ∧ v = f + 1 ∧ w = wr S H r f a b c ∧ fitV S S.nl f r S.inn a b c) ∨
  (newOK S r a b c ∧ c = -6 ∧ ∃ K l q : Int, okF (addF S K l q) S.nf ∧ (1 ≤ K ∧ K ≤ 5) ∧ v = 100000000 * K + 1000 * m9 l + m9 q ∧ w = wm S H K l q r a b ∧ fitV (mkS S K l q).2 S.nl (mkS S K l q).1 r S.inn a b c)
section
variable {S : aS} {H : List aS}
theorem RR.c2 {r a b c v v' : Int} {w w' : aW} {p : Prop} (h1 : p → RR S H r a b c v w) (h2 : ¬ p → RR S H r a b c v' w') : RR S H r a b c (cif p v v') (cif p w w') := by
  by_cases h : p
  · rw [cif_t h, cif_t h]; exact h1 h
  · rw [cif_f h, cif_f h]; exact h2 h
theorem RR.no {r a b c : Int} : RR S H r a b c 0 (-3, S, H) := Or.inl ⟨rfl, rfl⟩
theorem op_2 {r a b c : Int} (h : r = 2) : opR S H r a b c = sp_repeat S H a := cif_t h
theorem op_7 {r a b c : Int} (h : r = 7) : opR S H r a b c = sp_cases S H a b c := (cif_f (by omega)).trans (cif_t h)
theorem op_8 {r a b c : Int} (h : r = 8 ∨ r = 10) : opR S H r a b c = sp_fromBox S H r a := (cif_f (by omega)).trans ((cif_f (by omega)).trans (cif_t h))
theorem op_3 {r a b c : Int} (h : r = 3 ∨ r = 9 ∨ r = 11) : opR S H r a b c = sp_fromTwo S H r a b := (cif_f (by omega)).trans ((cif_f (by omega)).trans ((cif_f (by omega)).trans (cif_t h)))
theorem op_6 {r a b c : Int} (h : r = 6 ∨ r = 12) : opR S H r a b c = sp_toFormula S H r a b := (cif_f (by omega)).trans ((cif_f (by omega)).trans ((cif_f (by omega)).trans ((cif_f (by omega)).trans (cif_t h))))
theorem op_4 {r a b c : Int} (h : r = 4 ∨ r = 5 ∨ r = 13) : opR S H r a b c = sp_fromOne S H r a := (cif_f (by omega)).trans ((cif_f (by omega)).trans ((cif_f (by omega)).trans ((cif_f (by omega)).trans (cif_f (by omega)))))
theorem rv_l {r : Int} {i j k A : Nat} (h : ¬ (r = 8 ∨ r = 10)) (hA : S.L 0 i = A) : rv S r i j k = cif (avL S i) (rv1 S r A j k) 0 := by
  unfold rv
  rw [hA, Int.toNat_natCast]
  exact cif_f h
theorem newF {r f a b c v : Int} {F : Nat} (e : f = F) (hf : F < S.nf) (hn : newOK S r a b c) (hv : v = f + 1) (hfit : fitV S S.nl f r S.inn a b c) {w : aW} (hw : w = wr S H r f a b c) : RR S H r a b c v w := Or.inr (Or.inl ⟨hn, F, hf, by rw [hv, e], by rw [hw, e], by rw [← e]; exact hfit⟩)
theorem one_ok {r : Int} {i : Nat} (hI : Inv S) (hr : r = 2 ∨ r = 4 ∨ r = 5 ∨ r = 6 ∨ r = 12 ∨ r = 13) (hi : i < S.nl) (h : avL S i) : newOK S r i (-6) (-6) := ⟨Or.inr (Or.inr (Or.inl ⟨hr, ⟨by omega, by omega⟩, rfl, rfl⟩)), by omega, by
  have : isBxR r 0 = false := by unfold isBxR; rcases hr with z | z | z | z | z | z <;> simp [z]
  rw [this]; exact rch_l hI hi h, rch_n, rch_n⟩
theorem two_ok {r : Int} {i j : Nat} (hI : Inv S) (hr : r = 3 ∨ r = 9 ∨ r = 11) (hi : i < S.nl) (h : avL S i) (hj : j < S.nl) (h2 : avL S j) : newOK S r i j (-6) := ⟨Or.inr (Or.inl ⟨hr, ⟨by omega, by omega⟩, ⟨by omega, by omega⟩, rfl⟩), by omega, by
  have : isBxR r 0 = false := by unfold isBxR; rcases hr with z | z | z <;> simp [z]
  rw [this]; exact rch_l hI hi h, by
  have : isBxR r 1 = false := by unfold isBxR; rcases hr with z | z | z <;> simp [z]
  rw [this]; exact rch_l hI hj h2, rch_n⟩
theorem box_ok {r : Int} {i : Nat} (hI : Inv S) (hr : r = 8 ∨ r = 10) (hi : i < S.nb) (h : avB S i) : newOK S r i (-6) (-6) := ⟨Or.inr (Or.inr (Or.inr (Or.inr ⟨hr, hI.okBR ⟨by omega, by omega⟩ h, rfl, rfl⟩))), by omega, by
  have : isBxR r 0 = true := by unfold isBxR; rcases hr with z | z <;> simp [z]
  rw [this]; exact rch_b hI hi h, rch_n, rch_n⟩
theorem cas_ok {i j k : Nat} (hI : Inv S) (hi : i < S.nl) (h : avL S i) (hj : j < S.nb) (h2 : avB S j) (hk : k < S.nb) (h3 : avB S k) : newOK S 7 i j k := ⟨Or.inr (Or.inr (Or.inr (Or.inl ⟨rfl, ⟨by omega, by omega⟩, hI.okBR ⟨by omega, by omega⟩ h2, hI.okBR ⟨by omega, by omega⟩ h3⟩))), by omega, rch_l hI hi h, rch_b hI hj h2, rch_b hI hk h3⟩
theorem rr_2 {r : Int} {i j k : Nat} (hI : Inv S) (hr : r = 2) (hi : i < S.nl) : RR S H r i (-6) (-6) (rv S r i j k) (opR S H r i j k) := by
  obtain ⟨A, hA, hA2⟩ := hI.lf hi
  rw [op_2 hr, rv_l (by omega) hA]
  rw [show rv1 S r A j k = (A : Int) + 1 from (cif_f (by omega)).trans ((cif_f (by omega)).trans (cif_t hr))]
  rw [show sp_repeat S H i = cif (avL S i) (wr S H 2 A i (-6) (-6)) (-3, S, H) from (cif_t ⟨by omega, by omega⟩).trans (by rw [Int.toNat_natCast, hA])]
  refine RR.c2 (fun h => ?_) fun _ => RR.no
  subst hr
  refine newF rfl hA2 (one_ok hI (by omega) hi h) rfl ?_ rfl
  unfold fitV
  rw [Int.toNat_natCast]
  simp [hA]
theorem rr_7 {r : Int} {i j k : Nat} (hI : Inv S) (hr : r = 7) (hi : i < S.nl) (hj : j < S.nb) (hk : k < S.nb) : RR S H r i j k (rv S r i j k) (opR S H r i j k) := by
  obtain ⟨A, hA, hA2⟩ := hI.lf hi
  rw [op_7 hr, rv_l (by omega) hA]
  rw [show rv1 S r A j k = cif (avB S j ∧ avB S k ∧ fitsC S A j k) (con S j + 1) 0 from cif_t hr]
  rw [show sp_cases S H i j k = cif (avL S i ∧ avB S j ∧ avB S k ∧ fitsC S A j k) (wr S H 7 (con S j) i j k) (-3, S, H) from (cif_t ⟨by omega, by omega⟩).trans ((cif_t ⟨by omega, by omega⟩).trans ((cif_t ⟨by omega, by omega⟩).trans (by simp only [Int.toNat_natCast, hA])))]
  by_cases h : avL S i
  · rw [cif_t h]
    by_cases h2 : avB S j ∧ avB S k ∧ fitsC S A j k
    · rw [cif_t h2, cif_t ⟨h, h2⟩]
      obtain ⟨Y, hY, hY2⟩ := hI.conF hj h2.1.1
      subst hr
      refine newF hY hY2 (cas_ok hI hi h hj h2.1 hk h2.2.1) rfl ?_ rfl
      have h4 := h2.2.2
      unfold fitsC at h4
      unfold fitV
      simp only [Int.toNat_natCast, hA]
      simp [h4, hY]
    · rw [cif_f h2, cif_f (fun z => h2 z.2)]; exact RR.no
  · rw [cif_f h, cif_f (fun z => h z.1)]; exact RR.no
theorem rr_4 {r : Int} {i j k : Nat} (hI : Inv S) (hr : r = 4 ∨ r = 5 ∨ r = 13) (hi : i < S.nl) : RR S H r i (-6) (-6) (rv S r i j k) (opR S H r i j k) := by
  obtain ⟨A, hA, hA2⟩ := hI.lf hi
  rw [op_4 hr, rv_l (by omega) hA]
  rw [show rv1 S r A j k = cif (fits1 S r A) (tkv S r A + 1) 0 from (cif_f (by omega)).trans (cif_t hr)]
  rw [show sp_fromOne S H r i = cif (avL S i ∧ fits1 S r A) (wr S H r (tkv S r A) i (-6) (-6)) (-3, S, H) from (cif_t ⟨by omega, by omega⟩).trans ((cif_t hr).trans (by unfold sp_one; rw [Int.toNat_natCast, hA, Int.toNat_natCast]))]
  by_cases h : avL S i
  · rw [cif_t h]
    by_cases h2 : fits1 S r A
    · rw [cif_t h2, cif_t ⟨h, h2⟩]
      have hn := one_ok hI (show r = 2 ∨ r = 4 ∨ r = 5 ∨ r = 6 ∨ r = 12 ∨ r = 13 by omega) hi h
      rcases h2 with ⟨q, k1, k2⟩ | ⟨q, k1⟩
      · obtain ⟨U, hU, hU2⟩ := hI.fl hA2 (by omega)
        rw [hU, Int.toNat_natCast] at k2
        obtain ⟨V, hV, hV2⟩ := hI.fl (show U < S.nf by omega) (by omega)
        have et : tkv S r A = V := by unfold tkv; rw [if_pos q, hU, Int.toNat_natCast, hV]
        subst q
        refine newF et (by omega) hn rfl ?_ rfl
        unfold fitV
        simp only [Int.toNat_natCast, hA, et]
        simp [k1, hU, k2, hV]
      · obtain ⟨U, hU, hU2⟩ := hI.fl hA2 (by omega)
        obtain ⟨V, hV, hV2⟩ := hI.fr hA2 (by omega)
        by_cases q4 : r = 4
        · have et : tkv S r A = U := by unfold tkv; rw [if_neg q, if_pos q4, hU]
          subst q4
          refine newF et (by omega) hn rfl ?_ rfl
          unfold fitV
          simp only [Int.toNat_natCast, hA, et]
          simp [k1, hU]
        · have et : tkv S r A = V := by unfold tkv; rw [if_neg q, if_neg q4, hV]
          have q5 : r = 5 := by omega
          subst q5
          refine newF et (by omega) hn rfl ?_ rfl
          unfold fitV
          simp only [Int.toNat_natCast, hA, et]
          simp [k1, hV]
    · rw [cif_f h2, cif_f (fun z => h2 z.2)]; exact RR.no
  · rw [cif_f h, cif_f (fun z => h z.1)]; exact RR.no
theorem rr_6 {r : Int} {i j k : Nat} (hI : Inv S) (hr : r = 6 ∨ r = 12) (hi : i < S.nl) (hj : j < S.nf) : RR S H r i (-6) (-6) (rv S r i j k) (opR S H r i j k) := by
  obtain ⟨A, hA, hA2⟩ := hI.lf hi
  rw [op_6 hr, rv_l (by omega) hA]
  rw [show rv1 S r A j k = cif (fitsT S r A j) ((j : Int) + 1) 0 from (cif_f (by omega)).trans ((cif_f (by omega)).trans ((cif_f (by omega)).trans (cif_t hr)))]
  rw [show sp_toFormula S H r i j = cif (avL S i ∧ fitsT S r A j) (wr S H r j i (-6) (-6)) (-3, S, H) from (cif_t ⟨by omega, by omega⟩).trans ((cif_t ⟨by omega, by omega⟩).trans ((cif_t hr).trans (by unfold sp_toF; rw [Int.toNat_natCast, hA])))]
  by_cases h : avL S i
  · rw [cif_t h]
    by_cases h2 : fitsT S r A j
    · rw [cif_t h2, cif_t ⟨h, h2⟩]
      have hn := one_ok hI (show r = 2 ∨ r = 4 ∨ r = 5 ∨ r = 6 ∨ r = 12 ∨ r = 13 by omega) hi h
      refine newF rfl hj hn rfl ?_ rfl
      unfold fitsT at h2
      simp only [Int.toNat_natCast] at h2
      unfold fitV
      simp only [Int.toNat_natCast, hA]
      rcases h2 with ⟨q, k1, k2⟩ | ⟨q, k1⟩
      · subst q
        simp [k1, k2]
      · have q : r = 12 := by omega
        subst q
        simp [k1]
    · rw [cif_f h2, cif_f (fun z => h2 z.2)]; exact RR.no
  · rw [cif_f h, cif_f (fun z => h z.1)]; exact RR.no
/-- a formula is made -/
theorem newM {r a b v K l q : Int} {w : aW} (hF : okF (addF S K l q) S.nf) (hK : 1 ≤ K ∧ K ≤ 5) (hn : newOK S r a b (-6)) (hv : v = 100000000 * K + 1000 * m9 l + m9 q) (hw : w = wm S H K l q r a b) (hfit : ∀ n : Nat, fmt (mkS S K l q).2 K l q n → fitV (mkS S K l q).2 S.nl n r S.inn a b (-6)) : RR S H r a b (-6) v w := by
  obtain ⟨n, h1, -, h3⟩ := mkS_new S K l q
  exact Or.inr (Or.inr ⟨hn, rfl, K, l, q, hF, hK, hv, hw, by rw [h1]; exact hfit n h3⟩)
theorem m9_n {n : Nat} : m9 n = n := if_neg (by omega)
theorem rr_3 {r : Int} {i j k : Nat} (hI : Inv S) (hr : r = 3 ∨ r = 9 ∨ r = 11) (hi : i < S.nl) (hj : j < S.nl) : RR S H r i j (-6) (rv S r i j k) (opR S H r i j k) := by
  obtain ⟨A, hA, hA2⟩ := hI.lf hi
  obtain ⟨B, hB, hB2⟩ := hI.lf hj
  rw [op_3 hr, rv_l (by omega) hA]
  rw [show rv1 S r A j k = cif (avL S j) (rv2 S r A B) 0 from (cif_f (by omega)).trans ((cif_f (by omega)).trans ((cif_f (by omega)).trans ((cif_f (by omega)).trans (by rw [hB]))))]
  rw [show sp_fromTwo S H r i j = cif (avL S i) (cif (avL S j) (cif (r = 3) (wm S H 3 A B 3 i j) (sp_two' S H r i j A B)) (-3, S, H)) (-3, S, H) from (cif_t ⟨by omega, by omega⟩).trans ((cif_t ⟨by omega, by omega⟩).trans ((cif_t hr).trans (by unfold sp_two; simp only [Int.toNat_natCast, hA, hB])))]
  refine RR.c2 (fun h => RR.c2 (fun h2 => ?_) fun _ => RR.no) fun _ => RR.no
  have hn := two_ok hI hr hi h hj h2
  obtain ⟨eL, eB, e1, e2, e3⟩ := mkS_LB S 3 A B
  obtain ⟨gL, gB, g1, g2, g3⟩ := mkS_LB S 1 (-6) (-6)
  refine RR.c2 (fun q => ?_) fun q => ?_
  · subst q
    refine newM (okF_n (Or.inr (Or.inr (Or.inr ⟨by decide, by decide, by omega, by omega, by omega, by omega⟩)))) (by omega) hn (by rw [m9_n, m9_n]; omega) rfl fun n hf => ?_
    unfold fmt at hf
    unfold fitV
    simp only [Int.toNat_natCast, eL, hA, hB]
    simp [hf]
  · unfold sp_two'
    rw [Int.toNat_natCast]
    by_cases q9 : r = 9
    · rw [if_pos q9, cif_t q9, cif_t q9]
      by_cases c1 : S.F 0 A = 5
      · rw [cif_t c1]
        by_cases c2 : S.F 1 A = B
        · rw [cif_t c2, cif_t ⟨c1, c2⟩]
          obtain ⟨V, hV, hV2⟩ := hI.fr hA2 (by omega)
          subst q9
          refine newF hV (by omega) hn rfl ?_ rfl
          unfold fitV
          simp only [Int.toNat_natCast, hA, hB]
          simp [c1, c2]
        · rw [cif_f c2, cif_f (fun z => c2 z.2)]; exact RR.no
      · rw [cif_f c1, cif_f (fun z => c1 z.1)]; exact RR.no
    · have q11 : r = 11 := by omega
      rw [if_neg q9, cif_f q9, cif_f q9]
      by_cases c1 : S.F 0 A = 2
      · rw [cif_t c1]
        by_cases c2 : S.F 1 A = B
        · rw [cif_t c2, cif_t ⟨c1, c2⟩]
          subst q11
          refine newM (okF_n (Or.inr (Or.inl ⟨rfl, rfl, rfl⟩))) (by omega) hn (by decide) rfl fun n hf => ?_
          unfold fmt at hf
          unfold fitV
          simp only [Int.toNat_natCast, gL, hA, hB, mkS_old hA2]
          simp [hf, c1, c2]
        · rw [cif_f c2, cif_f (fun z => c2 z.2)]; exact RR.no
      · rw [cif_f c1, cif_f (fun z => c1 z.1)]; exact RR.no
theorem rr_8 {r : Int} {i j k : Nat} (hI : Inv S) (hr : r = 8 ∨ r = 10) (hi : i < S.nb) : RR S H r i (-6) (-6) (rv S r i j k) (opR S H r i j k) := by
  rw [op_8 hr, show rv S r i j k = rvB S r i from cif_t hr, rvB]
  rw [show sp_fromBox S H r i = cif (avB S i) (cif (r = 8) (wm S H 5 (asm S i) (con S i) 8 i (-6)) (cif (S.F 0 (con S i).toNat = 1) (wm S H 2 (asm S i) (-6) 10 i (-6)) (-3, S, H))) (-3, S, H) from (cif_t ⟨by omega, by omega⟩).trans ((cif_t hr).trans (by unfold sp_box; simp only [Int.toNat_natCast]))]
  refine RR.c2 (fun h => ?_) fun _ => RR.no
  have hn := box_ok hI hr hi h
  obtain ⟨X, hX, hX2⟩ := hI.asmF hi
  obtain ⟨Y, hY, hY2⟩ := hI.conF hi h.1
  rw [hX, hY]
  have asm' : ∀ K l q, asm (mkS S K l q).2 i = X := fun K l q => by
    obtain ⟨eL, eB, e1, e2, e3⟩ := mkS_LB S K l q
    unfold asm at hX ⊢
    rw [eL, eB]; exact hX
  have con' : ∀ K l q, con (mkS S K l q).2 i = Y := fun K l q => by
    obtain ⟨eL, eB, e1, e2, e3⟩ := mkS_LB S K l q
    unfold con at hY ⊢
    rw [eL, eB]; exact hY
  refine RR.c2 (fun q => ?_) fun q => RR.c2 (fun c1 => ?_) fun _ => RR.no
  · subst q
    refine newM (okF_n (Or.inr (Or.inr (Or.inr ⟨by decide, by decide, by omega, by omega, by omega, by omega⟩)))) (by omega) hn (by rw [m9_n, m9_n]; omega) rfl fun n hf => ?_
    unfold fmt at hf
    unfold fitV
    simp only [Int.toNat_natCast, asm', con']
    simp [hf]
  · have q : r = 10 := by omega
    subst q
    rw [Int.toNat_natCast] at c1
    refine newM (okF_n (Or.inr (Or.inr (Or.inl ⟨rfl, by omega, by omega, rfl⟩)))) (by omega) hn (by rw [m9_n, show m9 (-6) = 999 from rfl]; omega) rfl fun n hf => ?_
    unfold fmt at hf
    unfold fitV
    simp only [Int.toNat_natCast, asm', con', mkS_old hY2]
    simp [hf, c1]
/-- all rules -/
theorem rr_all {r : Int} {i j k : Nat} (hI : Inv S) (hp : plc S r i j k) : RR S H r i (rB r j) (rC r k) (rv S r i j k) (opR S H r i j k) := by
  obtain ⟨⟨p1, p2⟩, p3, p4, p5⟩ := hp
  by_cases q8 : r = 8 ∨ r = 10
  · rw [if_pos q8] at p3
    rw [show rB r j = -6 from if_neg (by omega), show rC r k = -6 from if_neg (by omega)]
    exact rr_8 hI q8 p3
  rw [if_neg q8] at p3
  by_cases q7 : r = 7
  · rw [if_pos q7] at p4
    rw [show rB r j = j from if_pos (by omega), show rC r k = k from if_pos (by omega)]
    exact rr_7 hI q7 p3 p4 (p5 q7)
  rw [if_neg q7] at p4
  rw [show rC r k = -6 from if_neg (by omega)]
  by_cases q6 : r = 6 ∨ r = 12
  · rw [if_pos q6] at p4
    rw [show rB r j = -6 from if_neg (by omega)]
    exact rr_6 hI q6 p3 p4
  rw [if_neg q6] at p4
  by_cases q3 : r = 3 ∨ r = 9 ∨ r = 11
  · rw [show rB r j = j from if_pos (by omega)]
    exact rr_3 hI q3 p3 p4
  rw [show rB r j = -6 from if_neg (by omega)]
  by_cases q2 : r = 2
  · exact rr_2 hI q2 p3
  · exact rr_4 hI (by omega) p3
end
