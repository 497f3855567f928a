/-! what lines hold is kept: a new formula, a new line, a box opened, a box closed -/
def isBxR (r : Int) (k : Nat) : Bool := decide (r = 8) || decide (r = 10) || (decide (r = 7) && decide (0 < k))
theorem okRef_RV {S : aS} {l : Nat} (h : okRef S l) : okRV S l (S.L 1 l) (S.L 2 l) (S.L 3 l) (S.L 4 l) := h
section
variable {S S' : aS} {l : Nat} {f r h a b c : Int}
theorem okRV_k (hr : okRV S l r a b c) : ((r = 2 ∨ r = 3 ∨ r = 4 ∨ r = 5 ∨ r = 6 ∨ r = 7 ∨ r = 9 ∨ r = 11 ∨ r = 12 ∨ r = 13) → okLR l a) ∧ ((r = 3 ∨ r = 9 ∨ r = 11) → okLR l b) ∧ (r = 7 → okBR S l b ∧ okBR S l c) ∧ ((r = 8 ∨ r = 10) → okBR S l a) := by
  rcases hr with ⟨h1, h2, h3, h4⟩ | ⟨h1, h2, h3, h4⟩ | ⟨h1, h2, h3, h4⟩ | ⟨h1, h2, h3, h4⟩ | ⟨h1, h2, h3, h4⟩
  · exact ⟨fun z => by omega, fun z => by omega, fun z => by omega, fun z => by omega⟩
  · exact ⟨fun _ => h2, fun _ => h3, fun z => by omega, fun z => by omega⟩
  · exact ⟨fun _ => h2, fun z => by omega, fun z => by omega, fun z => by omega⟩
  · exact ⟨fun _ => h2, fun z => by omega, fun z => ⟨h3, h4⟩, fun z => by omega⟩
  · exact ⟨fun z => by omega, fun z => by omega, fun z => by omega, fun _ => h2⟩
theorem fitV_cg (hI : Inv S) (hr : okRV S l r a b c) (hl : l ≤ S.nl) (hf : 0 ≤ f ∧ f < S.nf) (hh : r = 1 → h < S.nb) (eF : ∀ c x, x < S.nf → S'.F c x = S.F c x) (eL : ∀ x, x < S.nl → S'.L 0 x = S.L 0 x) (eB0 : ∀ x, x < S.nb → S'.B 0 x = S.B 0 x) (eB1 : ∀ x, x < S.nb → 0 ≤ S.B 1 x → S'.B 1 x = S.B 1 x) (hv : fitV S l f r h a b c) : fitV S' l f r h a b c := by
  have la : ∀ {x : Int}, okLR l x → S'.L 0 x.toNat = S.L 0 x.toNat ∧ (S.L 0 x.toNat).toNat < S.nf := by
    intro x hx
    have h1 := hx.1
    have h2 := hx.2
    have hm : x.toNat < S.nl := by omega
    obtain ⟨A, hA, hA2⟩ := hI.lf hm
    exact ⟨eL _ hm, by omega⟩
  have bx : ∀ {x : Int}, okBR S l x → asm S' x.toNat = asm S x.toNat ∧ con S' x.toNat = con S x.toNat ∧ (con S x.toNat).toNat < S.nf := by
    intro x hx
    obtain ⟨x1, x2, x3, x4⟩ := hx
    have hb : x.toNat < S.nb := by omega
    obtain ⟨s, hs, hs2⟩ := hI.bs hb
    have he : (S.B 1 x.toNat).toNat < S.nl := by omega
    obtain ⟨A, hA, hA2⟩ := hI.lf he
    refine ⟨?_, ?_, ?_⟩
    · show S'.L 0 (S'.B 0 x.toNat).toNat = S.L 0 (S.B 0 x.toNat).toNat
      rw [eB0 _ hb, hs, Int.toNat_natCast, eL _ hs2]
    · show S'.L 0 (S'.B 1 x.toNat).toNat = S.L 0 (S.B 1 x.toNat).toNat
      rw [eB1 _ hb x3, eL _ he]
    · show (S.L 0 (S.B 1 x.toNat).toNat).toNat < _
      omega
  have hf' : f.toNat < S.nf := by omega
  obtain ⟨k1, k2, k3, k4⟩ := okRV_k hr
  obtain ⟨f1, f2, f3, f4, f5, f6, f7, f8, f9, f10, f11, f12, f13⟩ := hv
  refine ⟨fun q => ?_, fun q => ?_, fun q => ?_, fun q => ?_, fun q => ?_, fun q => ?_, fun q => ?_, fun q => ?_, fun q => ?_, fun q => ?_, fun q => ?_, fun q => ?_, fun q => ?_⟩
  · obtain ⟨g1, g2⟩ := f1 q
    have := hh q
    rw [eB0 _ (by omega)]; exact ⟨g1, g2⟩
  · obtain ⟨a1, a2⟩ := la (k1 (by omega))
    rw [a1]; exact f2 q
  · obtain ⟨a1, a2⟩ := la (k1 (by omega))
    obtain ⟨b1, b2⟩ := la (k2 (by omega))
    rw [a1, b1, eF _ _ hf', eF _ _ hf', eF _ _ hf']; exact f3 q
  · obtain ⟨a1, a2⟩ := la (k1 (by omega))
    rw [a1, eF _ _ a2, eF _ _ a2]; exact f4 q
  · obtain ⟨a1, a2⟩ := la (k1 (by omega))
    rw [a1, eF _ _ a2, eF _ _ a2]; exact f5 q
  · obtain ⟨a1, a2⟩ := la (k1 (by omega))
    rw [a1, eF _ _ hf', eF _ _ hf', eF _ _ hf']; exact f6 q
  · obtain ⟨a1, a2⟩ := la (k1 (by omega))
    obtain ⟨b1, b2, b3⟩ := bx (k3 q).1
    obtain ⟨c1, c2, c3⟩ := bx (k3 q).2
    rw [a1, eF _ _ a2, eF _ _ a2, eF _ _ a2, b1, b2, c1, c2]; exact f7 q
  · obtain ⟨a1, a2, a3⟩ := bx (k4 (by omega))
    rw [eF _ _ hf', eF _ _ hf', eF _ _ hf', a1, a2]; exact f8 q
  · obtain ⟨a1, a2⟩ := la (k1 (by omega))
    obtain ⟨b1, b2⟩ := la (k2 (by omega))
    rw [a1, b1, eF _ _ a2, eF _ _ a2, eF _ _ a2]; exact f9 q
  · obtain ⟨a1, a2, a3⟩ := bx (k4 (by omega))
    rw [eF _ _ hf', eF _ _ hf', a1, a2, eF _ _ a3]; exact f10 q
  · obtain ⟨a1, a2⟩ := la (k1 (by omega))
    obtain ⟨b1, b2⟩ := la (k2 (by omega))
    rw [a1, b1, eF _ _ hf', eF _ _ a2, eF _ _ a2]; exact f11 q
  · obtain ⟨a1, a2⟩ := la (k1 (by omega))
    rw [a1, eF _ _ a2]; exact f12 q
  · obtain ⟨a1, a2⟩ := la (k1 (by omega))
    obtain ⟨g1, g2, g3⟩ := f13 q
    obtain ⟨y, hy, hy2⟩ := hI.fl a2 (by rw [g1]; decide)
    have hy3 : (S.F 1 (S.L 0 a.toNat).toNat).toNat < S.nf := by omega
    rw [a1, eF _ _ a2, eF _ _ a2, eF _ _ hy3, eF _ _ hy3]; exact ⟨g1, g2, g3⟩
theorem lies_cg (hI : Inv S) (eB : ∀ x, x < S.nb → S'.B 2 x = S.B 2 x) {b : Nat} : ∀ (n : Nat) (x : Int), okX S x → lies (S'.B 2) n x b = lies (S.B 2) n x b
  | 0, x, hx => rfl
  | n + 1, x, hx => by
    unfold lies
    rcases hx with z | z
    · rw [if_pos z, if_pos z]
    · rw [if_neg (by omega), if_neg (by omega), eB _ (by omega), lies_cg hI eB n _ (hI.parX (by omega))]
theorem scp_cg (hI : Inv S) (eB : ∀ x, x < S.nb → S'.B 2 x = S.B 2 x) {x : Int} {b : Nat} (hx : okX S x) (h : scp S x b) : scp S' x b := by
  obtain ⟨n, hn⟩ := h
  exact ⟨n, by rw [lies_cg hI eB n x hx]; exact hn⟩
theorem scI_cg (hI : Inv S) (eB : ∀ x, x < S.nb → S'.B 2 x = S.B 2 x) {x y : Int} (hx : okX S x) (h : scI S x y) : scI S' x y := by
  rcases h with h | ⟨h, h2⟩
  · exact Or.inl h
  · exact Or.inr ⟨h, scp_cg hI eB hx h2⟩
theorem reach_cg (hI : Inv S) (eL : ∀ x, x < S.nl → S'.L 5 x = S.L 5 x) (eB : ∀ x, x < S.nb → S'.B 2 x = S.B 2 x) {h x : Int} {bx : Bool} (hh : okX S h) (hx : x = -6 ∨ (bx = false ∧ 0 ≤ x ∧ x < S.nl) ∨ (bx = true ∧ 0 ≤ x ∧ x < S.nb)) (hr : reach S h bx x) : reach S' h bx x := by
  rcases hr with z | ⟨z, y⟩ | ⟨z, y⟩
  · exact Or.inl z
  · subst z
    rcases hx with e | ⟨-, e1, e2⟩ | ⟨e, -⟩
    · exact Or.inl e
    · exact Or.inr (Or.inl ⟨rfl, by rw [eL _ (by omega)]; exact scI_cg hI eB hh y⟩)
    · cases e
  · subst z
    rcases hx with e | ⟨e, -⟩ | ⟨-, e1, e2⟩
    · exact Or.inl e
    · cases e
    · exact Or.inr (Or.inr ⟨rfl, by rw [eB _ (by omega)]; exact scI_cg hI eB hh y⟩)
/-- a reference's kind, as reach wants it -/
theorem Inv.rk (hI : Inv S) {l : Nat} (hl : l < S.nl) {k : Nat} (hk : k < 3) : S.L (2 + k) l = -6 ∨ (isBx S l k = false ∧ 0 ≤ S.L (2 + k) l ∧ S.L (2 + k) l < S.nl) ∨ (isBx S l k = true ∧ 0 ≤ S.L (2 + k) l ∧ S.L (2 + k) l < S.nb) := by
  rcases refcase (hI.ref hl) hk with ⟨-, z, y⟩ | ⟨-, z⟩ | ⟨-, z, y⟩
  · exact Or.inr (Or.inl ⟨y, z.1, by have := z.2; omega⟩)
  · exact Or.inl z
  · exact Or.inr (Or.inr ⟨y, z.1, z.2.1⟩)
end
section
variable {S : aS} {f r a b c : Int}
theorem Snd_addF {k l r : Int} (hI : Inv S) (hs : Snd S) : Snd (addF S k l r) := by
  refine ⟨fun x hx => ?_, hs.2⟩
  have hx : x < S.nl := hx
  obtain ⟨h1, h2⟩ := hs.1 x hx
  obtain ⟨A, hA, hA2⟩ := hI.lf hx
  refine ⟨?_, h2⟩
  show fitV (addF S k l r) x (S.L 0 x) (S.L 1 x) (S.L 5 x) (S.L 2 x) (S.L 3 x) (S.L 4 x)
  refine fitV_cg (S' := addF S k l r) hI (okRef_RV (hI.ref hx)) (by omega) ⟨by omega, by omega⟩ (fun q => ?_) (fun c y hy => by rw [addF_F, if_neg (by omega)]) (fun _ _ => rfl) (fun _ _ => rfl) (fun _ _ _ => rfl) h1
  have := (h1.1 q).1
  rcases hI.home hx with z | z <;> omega
theorem Snd_mkS {k l r : Int} (hI : Inv S) (hs : Snd S) : Snd (mkS S k l r).2 := by
  unfold mkS
  split
  · exact Snd_addF hI hs
  · exact hs
theorem Snd_addL (hI : Inv S) (hs : Snd S) (hf : 0 ≤ f ∧ f < S.nf) (hr : okRV S S.nl r a b c) (hr1 : ¬ r = 1) (hv : fitV S S.nl f r S.inn a b c) (hre : reach S S.inn (isBxR r 0) a ∧ reach S S.inn (isBxR r 1) b ∧ reach S S.inn (isBxR r 2) c) : Snd (addL S f r a b c) := by
  have old : ∀ k x, x < S.nl → (addL S f r a b c).L k x = S.L k x := fun k x hx => by rw [addL_L, if_neg (by omega)]
  refine ⟨fun x hx => ?_, fun y hy => ?_⟩
  · rw [addL_nl] at hx
    by_cases hxn : x = S.nl
    · subst hxn
      have e : ∀ k, (addL S f r a b c).L k S.nl = if k = 0 then f else if k = 1 then r else if k = 2 then a else if k = 3 then b else if k = 4 then c else S.inn := fun k => by rw [addL_L, if_pos rfl]
      have hX := openX hI
      have rch : ∀ {bx : Bool} {y : Int}, y = -6 ∨ (bx = false ∧ 0 ≤ y ∧ y < S.nl) ∨ (bx = true ∧ 0 ≤ y ∧ y < S.nb) → reach S S.inn bx y → reach (addL S f r a b c) S.inn bx y := fun {bx y} h1 h2 => reach_cg (S' := addL S f r a b c) hI (fun z hz => old 5 z hz) (fun _ _ => rfl) hX h1 h2
      refine ⟨?_, fun k hk => ?_⟩
      · unfold fitL
        rw [e, e, e, e, e, e]
        exact fitV_cg (S' := addL S f r a b c) hI hr (Nat.le_refl _) hf (fun q => absurd q hr1) (fun _ _ _ => rfl) (fun z hz => old 0 z hz) (fun _ _ => rfl) (fun _ _ _ => rfl) hv
      · have eb : ∀ k, isBx (addL S f r a b c) S.nl k = isBxR r k := by
          intro k
          unfold isBx isBxR
          rw [e]
          rfl
        rw [eb, e, e]
        have kinds : ∀ k, k < 3 → (if k = 0 then a else if k = 1 then b else c) = -6 ∨ (isBxR r k = false ∧ 0 ≤ (if k = 0 then a else if k = 1 then b else c) ∧ (if k = 0 then a else if k = 1 then b else c) < S.nl) ∨ (isBxR r k = true ∧ 0 ≤ (if k = 0 then a else if k = 1 then b else c) ∧ (if k = 0 then a else if k = 1 then b else c) < S.nb) := by
          intro k hk
          rcases hr with ⟨h1, h2, h3, h4⟩ | ⟨h1, h2, h3, h4⟩ | ⟨h1, h2, h3, h4⟩ | ⟨h1, h2, h3, h4⟩ | ⟨h1, h2, h3, h4⟩
          · refine Or.inl ?_
            split
            · exact h2
            · split <;> assumption
          · have i2 := h2.1
            have j2 := h2.2
            have i3 := h3.1
            have j3 := h3.2
            rcases (show k = 0 ∨ k = 1 ∨ k = 2 by omega) with rfl | rfl | rfl
            · exact Or.inr (Or.inl ⟨by unfold isBxR; rcases h1 with z | z | z <;> simp [z], i2, j2⟩)
            · exact Or.inr (Or.inl ⟨by unfold isBxR; rcases h1 with z | z | z <;> simp [z], i3, j3⟩)
            · exact Or.inl h4
          · have i2 := h2.1
            have j2 := h2.2
            rcases (show k = 0 ∨ k = 1 ∨ k = 2 by omega) with rfl | rfl | rfl
            · exact Or.inr (Or.inl ⟨by unfold isBxR; rcases h1 with z | z | z | z | z | z <;> simp [z], i2, j2⟩)
            · exact Or.inl h3
            · exact Or.inl h4
          · have i2 := h2.1
            have j2 := h2.2
            rcases (show k = 0 ∨ k = 1 ∨ k = 2 by omega) with rfl | rfl | rfl
            · exact Or.inr (Or.inl ⟨by unfold isBxR; simp [h1], i2, j2⟩)
            · exact Or.inr (Or.inr ⟨by unfold isBxR; simp [h1], h3.1, h3.2.1⟩)
            · exact Or.inr (Or.inr ⟨by unfold isBxR; simp [h1], h4.1, h4.2.1⟩)
          · rcases (show k = 0 ∨ k = 1 ∨ k = 2 by omega) with rfl | rfl | rfl
            · exact Or.inr (Or.inr ⟨by unfold isBxR; rcases h1 with z | z <;> simp [z], h2.1, h2.2.1⟩)
            · exact Or.inl h3
            · exact Or.inl h4
        rcases (show k = 0 ∨ k = 1 ∨ k = 2 by omega) with rfl | rfl | rfl
        · exact rch (kinds 0 hk) hre.1
        · exact rch (kinds 1 hk) hre.2.1
        · exact rch (kinds 2 hk) hre.2.2
    · have hx' : x < S.nl := by omega
      obtain ⟨h1, h2⟩ := hs.1 x hx'
      obtain ⟨A, hA, hA2⟩ := hI.lf hx'
      refine ⟨?_, fun k hk => ?_⟩
      · unfold fitL
        rw [old _ _ hx', old _ _ hx', old _ _ hx', old _ _ hx', old _ _ hx', old _ _ hx']
        refine fitV_cg (S' := addL S f r a b c) hI (okRef_RV (hI.ref hx')) (by omega) ⟨by omega, by omega⟩ (fun q => ?_) (fun _ _ _ => rfl) (fun z hz => old 0 z hz) (fun _ _ => rfl) (fun _ _ _ => rfl) h1
        have := (h1.1 q).1
        rcases hI.home hx' with z | z <;> omega
      · have eb : isBx (addL S f r a b c) x k = isBx S x k := by
          unfold isBx
          rw [old _ _ hx']
        rw [eb, old _ _ hx', old _ _ hx']
        exact reach_cg (S' := addL S f r a b c) hI (fun z hz => old 5 z hz) (fun _ _ => rfl) (hI.home hx') (hI.rk hx' hk) (h2 k hk)
  · have hy : y < S.nb := hy
    obtain ⟨g1, g2⟩ := hs.2 y hy
    obtain ⟨s, hss, hs2⟩ := hI.bs hy
    have e0 : (addL S f r a b c).B = S.B := rfl
    rw [e0]
    refine ⟨by rw [hss, Int.toNat_natCast, old _ _ hs2]; rw [hss, Int.toNat_natCast] at g1; exact g1, fun hcl => ?_⟩
    obtain ⟨e, he, he2⟩ := hI.be hy hcl
    have := g2 hcl
    rw [he, Int.toNat_natCast] at this ⊢
    rw [old _ _ he2]; exact this
theorem Snd_open (hI : Inv S) (hs : Snd S) (hf : 0 ≤ f ∧ f < S.nf) : Snd (openS S f) := by
  have nlE : (openS S f).nl = S.nl + 1 := rfl
  have nbE : (openS S f).nb = S.nb + 1 := rfl
  have old : ∀ k x, x < S.nl → (openS S f).L k x = S.L k x := fun k x hx => by
    show (addL (boxS S) f 1 (-6) (-6) (-6)).L k x = _
    rw [addL_L, if_neg (by show ¬ x = S.nl; omega)]; rfl
  have new : ∀ k, (openS S f).L k S.nl = if k = 0 then f else if k = 1 then 1 else if k = 2 then -6 else if k = 3 then -6 else if k = 4 then -6 else (S.nb : Int) := fun k => by
    show (addL (boxS S) f 1 (-6) (-6) (-6)).L k S.nl = _
    rw [addL_L, if_pos (show S.nl = (boxS S).nl from rfl)]
    rfl
  have oldB : ∀ c x, x < S.nb → (openS S f).B c x = S.B c x := fun c x hx => boxS_old hx
  have newB : ∀ c, (openS S f).B c S.nb = if c = 0 then (S.nl : Int) else if c = 1 then -6 else S.inn := fun c => by
    show (boxS S).B c S.nb = _
    rw [boxS_B, if_pos rfl]
  refine ⟨fun x hx => ?_, fun y hy => ?_⟩
  · rw [nlE] at hx
    by_cases hxn : x = S.nl
    · subst hxn
      refine ⟨?_, fun k hk => Or.inl ?_⟩
      · unfold fitL
        rw [new, new, new, new, new, new]
        refine ⟨fun _ => ⟨by show (0 : Int) ≤ S.nb; omega, by show (openS S f).B 0 ((S.nb : Int)).toNat = _; rw [Int.toNat_natCast, newB]; rfl⟩, ?_⟩
        refine ⟨?_, ?_, ?_, ?_, ?_, ?_, ?_, ?_, ?_, ?_, ?_, ?_⟩ <;> intro q <;> exact absurd q (by simp)
      · rw [new]
        rcases (show k = 0 ∨ k = 1 ∨ k = 2 by omega) with rfl | rfl | rfl <;> rfl
    · have hx' : x < S.nl := by omega
      obtain ⟨h1, h2⟩ := hs.1 x hx'
      obtain ⟨A, hA, hA2⟩ := hI.lf hx'
      refine ⟨?_, fun k hk => ?_⟩
      · unfold fitL
        rw [old _ _ hx', old _ _ hx', old _ _ hx', old _ _ hx', old _ _ hx', old _ _ hx']
        refine fitV_cg (S' := openS S f) hI (okRef_RV (hI.ref hx')) (by omega) ⟨by omega, by omega⟩ (fun q => ?_) (fun _ _ _ => rfl) (fun z hz => old 0 z hz) (fun z hz => oldB 0 z hz) (fun z hz _ => oldB 1 z hz) h1
        have := (h1.1 q).1
        rcases hI.home hx' with z | z <;> omega
      · have eb : isBx (openS S f) x k = isBx S x k := by
          unfold isBx
          rw [old _ _ hx']
        rw [eb, old _ _ hx', old _ _ hx']
        exact reach_cg (S' := openS S f) hI (fun z hz => old 5 z hz) (fun z hz => oldB 2 z hz) (hI.home hx') (hI.rk hx' hk) (h2 k hk)
  · rw [nbE] at hy
    by_cases hyn : y = S.nb
    · subst hyn
      rw [newB, newB]
      refine ⟨?_, fun z => absurd rfl z⟩
      rw [if_pos rfl, Int.toNat_natCast, new]; rfl
    · have hy' : y < S.nb := by omega
      obtain ⟨g1, g2⟩ := hs.2 y hy'
      obtain ⟨s, hss, hs2⟩ := hI.bs hy'
      rw [oldB _ _ hy', oldB _ _ hy']
      refine ⟨by rw [hss, Int.toNat_natCast, old _ _ hs2]; rw [hss, Int.toNat_natCast] at g1; exact g1, fun hcl => ?_⟩
      obtain ⟨e, he, he2⟩ := hI.be hy' hcl
      have := g2 hcl
      rw [he, Int.toNat_natCast] at this ⊢
      rw [old _ _ he2]; exact this
theorem Snd_close (hI : Inv S) (hs : Snd S) {b : Nat} (hb : S.inn = b) (hbn : b < S.nb) (hop : S.B 1 b = -6) (hh : S.L 5 (S.nl - 1) = b) (hl : 0 < S.nl) : Snd (closeS S) := by
  have e0 : ∀ x, (closeS S).B 0 x = S.B 0 x := fun x => by rw [closeS_B, if_neg (fun z => by have := z.2; omega)]
  have e2 : ∀ x, (closeS S).B 2 x = S.B 2 x := fun x => by rw [closeS_B, if_neg (fun z => by have := z.2; omega)]
  have e1 : ∀ x : Nat, x ≠ b → (closeS S).B 1 x = S.B 1 x := fun x hx => by rw [closeS_B, hb, if_neg (fun z => by have := z.1; omega)]
  have eb : (closeS S).B 1 b = (S.nl : Int) - 1 := by rw [closeS_B, hb, if_pos ⟨rfl, rfl⟩]
  refine ⟨fun x hx => ?_, fun y hy => ?_⟩
  · have hx : x < S.nl := hx
    obtain ⟨h1, h2⟩ := hs.1 x hx
    obtain ⟨A, hA, hA2⟩ := hI.lf hx
    have hfit : fitV (closeS S) x (S.L 0 x) (S.L 1 x) (S.L 5 x) (S.L 2 x) (S.L 3 x) (S.L 4 x) := by
      refine fitV_cg (S' := closeS S) hI (okRef_RV (hI.ref hx)) (by omega) ⟨by omega, by omega⟩ (fun q => ?_) (fun _ _ _ => rfl) (fun _ _ => rfl) (fun z _ => e0 z) (fun z _ hz => e1 z (fun q => by rw [q, hop] at hz; omega)) h1
      have := (h1.1 q).1
      rcases hI.home hx with z | z <;> omega
    exact ⟨hfit, fun k hk => reach_cg (S' := closeS S) hI (fun _ _ => rfl) (fun z _ => e2 z) (hI.home hx) (hI.rk hx hk) (h2 k hk)⟩
  · have hy : y < S.nb := hy
    obtain ⟨g1, g2⟩ := hs.2 y hy
    refine ⟨by rw [e0]; exact g1, fun hcl => ?_⟩
    by_cases hyb : y = b
    · subst hyb
      rw [eb, show ((S.nl : Int) - 1).toNat = S.nl - 1 by omega]
      exact hh
    · rw [e1 y hyb] at hcl ⊢
      exact g2 hcl
end
