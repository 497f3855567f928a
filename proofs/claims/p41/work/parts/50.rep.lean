/-! THE LAW'S ROWS: what they stand for -/
/-- the law's number for a class's number: -1 is none -/
def E (x v : Int) : Prop := (v = -6 ∧ x = -1) ∨ (0 ≤ v ∧ x = v)
def N6 (v : Int) : Prop := v = -6 ∨ 0 ≤ v
theorem E.none : E (-1) (-6) := Or.inl ⟨rfl, rfl⟩
theorem E.of {v : Int} (h : 0 ≤ v) : E v v := Or.inr ⟨h, rfl⟩
theorem E.n6 {x v : Int} (h : E x v) : N6 v := by
  rcases h with h | h
  · exact Or.inl h.1
  · exact Or.inr h.1
theorem E.ge {x v : Int} (h : E x v) : -1 ≤ x := by
  rcases h with h | h <;> omega
theorem E.lt {x v : Int} (h : E x v) : x < 0 ↔ v = -6 := by
  rcases h with h | h <;> omega
theorem E.nn {x v : Int} (h : E x v) (h0 : 0 ≤ v) : x = v := by
  rcases h with h | h <;> omega
theorem E.inj {x v y w : Int} (h : E x v) (k : E y w) : x = y ↔ v = w := by
  rcases h with h | h <;> rcases k with k | k <;> omega
def repW (μ : xM) (S : aS) : Prop :=
  ((μ (1, 0, 32) 0).toInt = S.nf ∧ (μ (1, 0, 32) 1).toInt = S.nl ∧ (μ (1, 0, 32) 2).toInt = S.nb) ∧
  (∀ c, c < 3 → ∀ f, f < S.nf → E (μ (1, 0, 20 + c) f).toInt (S.F c f)) ∧
  (∀ c, c < 6 → ∀ l, l < S.nl → E (μ (1, 0, 23 + c) l).toInt (S.L c l)) ∧
  (∀ c, c < 3 → ∀ b, b < S.nb → E (μ (1, 0, 29 + c) b).toInt (S.B c b))
/-- nothing of the class's cells is touched -/
def frM (μ μ' : xM) : Prop := ∀ q, isC q → μ' q = μ q
theorem frM.rf {μ : xM} : frM μ μ := fun _ _ => rfl
theorem frM.tr {a b c : xM} (h1 : frM a b) (h2 : frM b c) : frM a c := fun q hq => (h2 q hq).trans (h1 q hq)
theorem nC {c : Nat} (hc : 20 ≤ c) : ¬ isC (1, 0, c) := fun z => z.2.2.2 ⟨rfl, hc⟩
theorem frM_xst {μ : xM} {c k : Nat} {v : Int32} (hc : 20 ≤ c) : frM μ (xst μ (1, 0, c) k v) := by
  intro q hq
  funext i
  rw [xst_rd, if_neg]
  rintro ⟨rfl, -⟩
  exact nC hc hq
theorem repW.keep {μ μ' : xM} {S : aS} (h : repW μ S) (e : ∀ c, 20 ≤ c → c < 33 → μ' (1, 0, c) = μ (1, 0, c)) : repW μ' S := by
  obtain ⟨h1, h2, h3, h4⟩ := h
  refine ⟨by rw [e 32 (by omega) (by omega)]; exact h1, fun c hc f hf => ?_, fun c hc f hf => ?_, fun c hc f hf => ?_⟩
  · rw [e _ (by omega) (by omega)]; exact h2 c hc f hf
  · rw [e _ (by omega) (by omega)]; exact h3 c hc f hf
  · rw [e _ (by omega) (by omega)]; exact h4 c hc f hf
theorem repW.frC {μ μ' : xM} {S : aS} (h : repW μ S) (e : frC μ μ') : repW μ' S := h.keep fun c h1 _ => e _ (nC h1)
theorem repW.sc13 {μ μ' : xM} {S : aS} (h : repW μ S) (e : ∀ q, q ≠ (1, 0, 13) → μ' q = μ q) : repW μ' S := h.keep fun c h1 _ => e _ (by
  intro z
  have : c = 13 := by injection z with _ z; injection z
  omega)
-- the rows' words
section
variable {μ : xM} {S : aS} {i : Int32} {k : Nat}
theorem rt0 (hw : repW μ S) : (μ (1, 0, 32) (0 : Int32).toNatClampNeg).toInt = S.nf := hw.1.1
theorem rt1 (hw : repW μ S) : (μ (1, 0, 32) (1 : Int32).toNatClampNeg).toInt = S.nl := hw.1.2.1
theorem rt2 (hw : repW μ S) : (μ (1, 0, 32) (2 : Int32).toNatClampNeg).toInt = S.nb := hw.1.2.2
theorem rK (hw : repW μ S) (hi : i.toInt = k) (hk : k < S.nf) : E (μ (1, 0, 20) i.toNatClampNeg).toInt (S.F 0 k) := by rw [ti_cl' hi]; exact hw.2.1 0 (by omega) k hk
theorem rLf (hw : repW μ S) (hi : i.toInt = k) (hk : k < S.nf) : E (μ (1, 0, 21) i.toNatClampNeg).toInt (S.F 1 k) := by rw [ti_cl' hi]; exact hw.2.1 1 (by omega) k hk
theorem rRt (hw : repW μ S) (hi : i.toInt = k) (hk : k < S.nf) : E (μ (1, 0, 22) i.toNatClampNeg).toInt (S.F 2 k) := by rw [ti_cl' hi]; exact hw.2.1 2 (by omega) k hk
theorem rf (hw : repW μ S) (hi : i.toInt = k) (hk : k < S.nl) : E (μ (1, 0, 23) i.toNatClampNeg).toInt (S.L 0 k) := by rw [ti_cl' hi]; exact hw.2.2.1 0 (by omega) k hk
theorem ru (hw : repW μ S) (hi : i.toInt = k) (hk : k < S.nl) : E (μ (1, 0, 24) i.toNatClampNeg).toInt (S.L 1 k) := by rw [ti_cl' hi]; exact hw.2.2.1 1 (by omega) k hk
theorem ra (hw : repW μ S) (hi : i.toInt = k) (hk : k < S.nl) : E (μ (1, 0, 25) i.toNatClampNeg).toInt (S.L 2 k) := by rw [ti_cl' hi]; exact hw.2.2.1 2 (by omega) k hk
theorem rb (hw : repW μ S) (hi : i.toInt = k) (hk : k < S.nl) : E (μ (1, 0, 26) i.toNatClampNeg).toInt (S.L 3 k) := by rw [ti_cl' hi]; exact hw.2.2.1 3 (by omega) k hk
theorem rc (hw : repW μ S) (hi : i.toInt = k) (hk : k < S.nl) : E (μ (1, 0, 27) i.toNatClampNeg).toInt (S.L 4 k) := by rw [ti_cl' hi]; exact hw.2.2.1 4 (by omega) k hk
theorem rx (hw : repW μ S) (hi : i.toInt = k) (hk : k < S.nl) : E (μ (1, 0, 28) i.toNatClampNeg).toInt (S.L 5 k) := by rw [ti_cl' hi]; exact hw.2.2.1 5 (by omega) k hk
theorem rp (hw : repW μ S) (hi : i.toInt = k) (hk : k < S.nb) : E (μ (1, 0, 29) i.toNatClampNeg).toInt (S.B 0 k) := by rw [ti_cl' hi]; exact hw.2.2.2 0 (by omega) k hk
theorem rq (hw : repW μ S) (hi : i.toInt = k) (hk : k < S.nb) : E (μ (1, 0, 30) i.toNatClampNeg).toInt (S.B 1 k) := by rw [ti_cl' hi]; exact hw.2.2.2 1 (by omega) k hk
theorem rw_ (hw : repW μ S) (hi : i.toInt = k) (hk : k < S.nb) : E (μ (1, 0, 31) i.toNatClampNeg).toInt (S.B 2 k) := by rw [ti_cl' hi]; exact hw.2.2.2 2 (by omega) k hk
end
-- what a state's words can be
section
variable {S : aS}
theorem Inv.F0 (hI : Inv S) {f : Nat} (hf : f < S.nf) : 0 ≤ S.F 0 f ∧ S.F 0 f ≤ 5 := by
  rcases hI.2.2.2.2.1 f hf with z | z | z | z <;> omega
theorem Inv.F1 (hI : Inv S) {f : Nat} (hf : f < S.nf) : N6 (S.F 1 f) := by
  unfold N6
  rcases hI.2.2.2.2.1 f hf with z | z | z | z <;> omega
theorem Inv.F2 (hI : Inv S) {f : Nat} (hf : f < S.nf) : N6 (S.F 2 f) := by
  unfold N6
  rcases hI.2.2.2.2.1 f hf with z | z | z | z <;> omega
theorem Inv.ref (hI : Inv S) {l : Nat} (hl : l < S.nl) : okRef S l := (hI.2.2.2.2.2.1 l hl).2.2.1
theorem Inv.L1 (hI : Inv S) {l : Nat} (hl : l < S.nl) : 0 ≤ S.L 1 l ∧ S.L 1 l ≤ 13 := by
  rcases hI.ref hl with ⟨z, -⟩ | ⟨z, -⟩ | ⟨z, -⟩ | ⟨z, -⟩ | ⟨z, -⟩ <;> omega
theorem Inv.Lr (hI : Inv S) {l k : Nat} (hl : l < S.nl) (hk : k < 3) : N6 (S.L (2 + k) l) := by
  rcases refcase (hI.ref hl) hk with ⟨-, z, -⟩ | ⟨-, z⟩ | ⟨-, z, -⟩
  · exact Or.inr z.1
  · exact Or.inl z
  · exact Or.inr z.1
theorem Inv.L5 (hI : Inv S) {l : Nat} (hl : l < S.nl) : N6 (S.L 5 l) := by
  rcases hI.home hl with z | z
  · exact Or.inl z
  · exact Or.inr z.1
theorem Inv.B1 (hI : Inv S) {b : Nat} (hb : b < S.nb) : N6 (S.B 1 b) := by
  by_cases h : S.B 1 b = -6
  · exact Or.inl h
  · obtain ⟨l, h1, -⟩ := hI.be hb h
    exact Or.inr (by omega)
theorem Inv.B2 (hI : Inv S) {b : Nat} (hb : b < S.nb) : N6 (S.B 2 b) := by
  rcases hI.par hb with z | z
  · exact Or.inl z
  · exact Or.inr z.1
theorem rF0 {μ : xM} {i : Int32} {k : Nat} (hw : repW μ S) (hI : Inv S) (hi : i.toInt = k) (hk : k < S.nf) : (μ (1, 0, 20) i.toNatClampNeg).toInt = S.F 0 k := by exact (rK hw hi hk).nn (hI.F0 hk).1
theorem rL0 {μ : xM} {i : Int32} {k : Nat} (hw : repW μ S) (hI : Inv S) (hi : i.toInt = k) (hk : k < S.nl) : (μ (1, 0, 23) i.toNatClampNeg).toInt = S.L 0 k := by
  obtain ⟨A, hA, -⟩ := hI.lf hk
  exact (rf hw hi hk).nn (by omega)
theorem rL1 {μ : xM} {i : Int32} {k : Nat} (hw : repW μ S) (hI : Inv S) (hi : i.toInt = k) (hk : k < S.nl) : (μ (1, 0, 24) i.toNatClampNeg).toInt = S.L 1 k := by exact (ru hw hi hk).nn (hI.L1 hk).1
theorem rB0 {μ : xM} {i : Int32} {k : Nat} (hw : repW μ S) (hI : Inv S) (hi : i.toInt = k) (hk : k < S.nb) : (μ (1, 0, 29) i.toNatClampNeg).toInt = S.B 0 k := by
  obtain ⟨l, hl, -⟩ := hI.bs hk
  exact (rp hw hi hk).nn (by omega)
end
