set_option maxHeartbeats 1000000 in
theorem xso_getfield {G : xG} {E : xE} {d : Nat} {Q : xP} {pc len : Nat} {tg : List Nat} {cst : xV} {r : List xT} {lv st : List xV} {μ : xM} {k : xK} {p : Program} {e : Env} {s : State} {m : MethodId} {args : Array Value} {below : List Frame} {meth : Method} {c : Code} {R : Room} {nc ns : Nat} {QS : State → Prop} {A : Nat → Prop} (n : Nat) (hE : xEok E)
    (kN : ∀ lv st μ, k r lv st μ → WS G E (d + 1) (p, e, s, m, args, below, meth, c, R, nc, ns, QS, A) Q (pc + len) lv st μ)
    (kJ : ∀ t e' r', E.2.2.1.drop t = e' :: r' → ∀ lv st μ, k (E.2.2.1.drop t) lv st μ → WS G E (d + 1) (p, e, s, m, args, below, meth, c, R, nc, ns, QS, A) Q e'.1 lv st μ)
    (hdec : decode E.2.1.2.1 pc = .ok ((.getfield n), len)) (hch : xchk E (pc, (.getfield n), len, tg, cst) = true)
    (h : xstep (MW G d) E Q (pc, (.getfield n), len, tg, cst) r lv st μ k) : WS G E (d + 1) (p, e, s, m, args, below, meth, c, R, nc, ns, QS, A) Q pc lv st μ := by
  intro hG hC hY H locs ls hP hS hl hlo hso
  obtain ⟨hx, hb, hr, hml, hown, hts, hK, hlocks⟩ := id hC
  have hD := xD_wld hG hY.2.1 μ
  have htw : ∀ w, xin w → w.before args s = true := fun w hw => hts w (xin_gw hw)
  simp only [xchk, Bool.and_eq_true, decide_eq_true_eq] at hch
  obtain ⟨hlen, hc⟩ := hch
  subst hlen
  obtain ⟨f, hf, ef⟩ := List.any_eq_true.mp hc
  obtain ⟨e1, e2, e3⟩ := of_decide_eq_true ef
  obtain ⟨C, T, N, hc1, hkN, hlink, -⟩ := hE.2.2.2.1.1 f hf
  rw [e2] at hc1
  rw [e3] at hkN
  rw [e1, e3] at hlink
  obtain ⟨hu, -, -⟩ := xcl_ok _ C T N hc1
  obtain ⟨q, s1, rfl, hh⟩ := xpR_ex (show xpR st _ from h)
  clear h
  have h := hh
  clear hh
  obtain ⟨fs, ho, h⟩ := xfld_ex h
  have hq : xok G.2.2.2.2 q = true := xvo_o hso.1 ho
  obtain ⟨n1, hn1, hw1⟩ := xwld_get (ad := G.2.1) (b := G.2.2.2.2) (cA := G.2.2.2.1) μ hq
  rw [xcell_obj ho] at hw1
  rcases h with ⟨hk, h⟩ | ⟨r1, hk, h⟩
  · exact va_get (D := G.2.2.1) (v := .int (μ q (xt1 tg))) hx hb hts (fun w hw => xin_gw (hu w hw)) hown hK hP n1 hw1 hc1 _ hkN (htw _ hlink) (fun _ h9 => h9) (by have := xfs_int (ad := G.2.1) (f := μ q) fs 0 _ hk; rwa [Nat.zero_add] at this) hdec (kN _ _ _ h hG hC hY H locs ls hP hS hl hlo ⟨trivial, hso.2⟩)
  · exact va_get (D := G.2.2.1) (v := .ref (G.2.1 r1)) hx hb hts (fun w hw => xin_gw (hu w hw)) hown hK hP n1 hw1 hc1 _ hkN (htw _ hlink) (fun _ h9 => h9) (xfs_ref fs 0 _ hk) hdec (kN _ _ _ h hG hC hY H locs ls hP hS hl hlo ⟨Or.inr (xobj_ok hq ho (List.mem_of_getElem? hk)), hso.2⟩)
set_option maxHeartbeats 1000000 in
theorem xso_putfield {G : xG} {E : xE} {d : Nat} {Q : xP} {pc len : Nat} {tg : List Nat} {cst : xV} {r : List xT} {lv st : List xV} {μ : xM} {k : xK} {p : Program} {e : Env} {s : State} {m : MethodId} {args : Array Value} {below : List Frame} {meth : Method} {c : Code} {R : Room} {nc ns : Nat} {QS : State → Prop} {A : Nat → Prop} (n : Nat) (hE : xEok E)
    (kN : ∀ lv st μ, k r lv st μ → WS G E (d + 1) (p, e, s, m, args, below, meth, c, R, nc, ns, QS, A) Q (pc + len) lv st μ)
    (kJ : ∀ t e' r', E.2.2.1.drop t = e' :: r' → ∀ lv st μ, k (E.2.2.1.drop t) lv st μ → WS G E (d + 1) (p, e, s, m, args, below, meth, c, R, nc, ns, QS, A) Q e'.1 lv st μ)
    (hdec : decode E.2.1.2.1 pc = .ok ((.putfield n), len)) (hch : xchk E (pc, (.putfield n), len, tg, cst) = true)
    (h : xstep (MW G d) E Q (pc, (.putfield n), len, tg, cst) r lv st μ k) : WS G E (d + 1) (p, e, s, m, args, below, meth, c, R, nc, ns, QS, A) Q pc lv st μ := by
  intro hG hC hY H locs ls hP hS hl hlo hso
  obtain ⟨hx, hb, hr, hml, hown, hts, hK, hlocks⟩ := id hC
  have hD := xD_wld hG hY.2.1 μ
  have htw : ∀ w, xin w → w.before args s = true := fun w hw => hts w (xin_gw hw)
  simp only [xchk, Bool.and_eq_true, decide_eq_true_eq] at hch
  obtain ⟨hlen, hc⟩ := hch
  subst hlen
  obtain ⟨f, hf, ef⟩ := List.any_eq_true.mp hc
  obtain ⟨e1, e2, e3, e4⟩ := of_decide_eq_true ef
  obtain ⟨C, T, N, hc1, hkN, hlink, hkI, hkZ⟩ := hE.2.2.2.1.1 f hf
  rw [e2] at hc1
  rw [e3] at hkN hkI hkZ
  rw [e1, e3] at hlink
  obtain ⟨hu, ⟨ty0, hty⟩, hnm⟩ := xcl_ok _ C T N hc1
  obtain ⟨x, s0, rfl, hh⟩ := xpI_ex (show xpI st _ from h)
  clear h
  have h := hh
  clear hh
  obtain ⟨q, s1, rfl, hh⟩ := xpR_ex h
  clear h
  have h := hh
  clear hh
  obtain ⟨fs, ho, h⟩ := xfld_ex h
  have hq : xok G.2.2.2.2 q = true := xvo_o hso.2.1 ho
  obtain ⟨n1, hn1, hw1⟩ := xwld_get (ad := G.2.1) (b := G.2.2.2.2) (cA := G.2.2.2.1) μ hq
  rw [xcell_obj ho] at hw1
  rcases h with ⟨hk, h⟩ | ⟨r1, hk, h⟩
  · have hkl : xt1 tg < (xfs G.2.1 (μ q) 0 fs).length := by rw [xfs_len]; exact (List.getElem?_eq_some_iff.mp hk).1
    have key : ∀ (ty : FieldType), (T (xt1 tg)).2.2.2 = false → parseFieldDescriptor (T (xt1 tg)).2.2.1 = some ty → narrow ty (.int x) = .int x → fits ty (.int x) = true → k r lv s1 (xst μ q (xt1 tg) x) → W p G.1 e R s m args below meth c H locs nc ns QS (F0 m pc ls ((vI x :: vR q :: s1).map (xrv G.2.1))) := by
      intro ty h1 h2 h3 h4 h5
      refine va_put (D := G.2.2.1) (v := .int x) (ty := ty) hx hb hts (fun w hw => xin_gw (hu w hw)) ty0 hty hnm hown hK hP hD hS n1 hw1 hc1 _ hkN (htw _ hlink) (fun _ h9 => h9) h1 h2 h3 h4 hkl hdec (fun H1 locs1 hP1 hD1 hS1 => ?_)
      rw [xwld_put hn1 ho hk] at hP1
      exact kN _ _ _ h5 hG hC hY H1 locs1 ls hP1 hS1 hl hlo hso.2.2
    rcases cst with v | v
    · obtain ⟨h1, h2⟩ := hkZ e4
      have h : (x = 0 ∨ x = 1) ∧ k r lv s1 (xst μ q (xt1 tg) x) := h
      refine key .boolean h1 (by rw [h2]; decide +kernel) ?_ ?_ h.2 <;> rcases h.1 with rfl | rfl <;> rfl
    · obtain ⟨h1, h2⟩ := hkI e4
      exact key .int h1 (by rw [h2]; decide +kernel) rfl rfl h
  · exact h.elim
set_option maxHeartbeats 1000000 in
theorem xso_arraylength {G : xG} {E : xE} {d : Nat} {Q : xP} {pc len : Nat} {tg : List Nat} {cst : xV} {r : List xT} {lv st : List xV} {μ : xM} {k : xK} {p : Program} {e : Env} {s : State} {m : MethodId} {args : Array Value} {below : List Frame} {meth : Method} {c : Code} {R : Room} {nc ns : Nat} {QS : State → Prop} {A : Nat → Prop} (hE : xEok E)
    (kN : ∀ lv st μ, k r lv st μ → WS G E (d + 1) (p, e, s, m, args, below, meth, c, R, nc, ns, QS, A) Q (pc + len) lv st μ)
    (kJ : ∀ t e' r', E.2.2.1.drop t = e' :: r' → ∀ lv st μ, k (E.2.2.1.drop t) lv st μ → WS G E (d + 1) (p, e, s, m, args, below, meth, c, R, nc, ns, QS, A) Q e'.1 lv st μ)
    (hdec : decode E.2.1.2.1 pc = .ok ((.arraylength), len)) (hch : xchk E (pc, (.arraylength), len, tg, cst) = true)
    (h : xstep (MW G d) E Q (pc, (.arraylength), len, tg, cst) r lv st μ k) : WS G E (d + 1) (p, e, s, m, args, below, meth, c, R, nc, ns, QS, A) Q pc lv st μ := by
  intro hG hC hY H locs ls hP hS hl hlo hso
  obtain ⟨hx, hb, hr, hml, hown, hts, hK, hlocks⟩ := id hC
  have hD := xD_wld hG hY.2.1 μ
  have htw : ∀ w, xin w → w.before args s = true := fun w hw => hts w (xin_gw hw)
  simp only [xchk, decide_eq_true_eq] at hch
  subst hch
  obtain ⟨q, s1, rfl, hh⟩ := xpR_ex (show xpR st _ from h)
  clear h
  have h := hh
  clear hh
  have hq : xok G.2.2.2.2 q = true := xvo_l hso.1 h
  obtain ⟨t, ty, x, hcl, htys, h⟩ := xal_ex (ad := G.2.1) (cA := G.2.2.2.1) (μ := μ) h
  obtain ⟨n1, hn1, hw1⟩ := xwld_get (ad := G.2.1) (b := G.2.2.2.2) (cA := G.2.2.2.1) μ hq
  rw [hcl] at hw1
  exact va_alen hx hb hK hP n1 t hw1 htys rfl hdec (kN _ _ _ h hG hC hY H locs ls hP hS hl hlo ⟨trivial, hso.2⟩)
set_option maxHeartbeats 1000000 in
theorem xso_iaload {G : xG} {E : xE} {d : Nat} {Q : xP} {pc len : Nat} {tg : List Nat} {cst : xV} {r : List xT} {lv st : List xV} {μ : xM} {k : xK} {p : Program} {e : Env} {s : State} {m : MethodId} {args : Array Value} {below : List Frame} {meth : Method} {c : Code} {R : Room} {nc ns : Nat} {QS : State → Prop} {A : Nat → Prop} (hE : xEok E)
    (kN : ∀ lv st μ, k r lv st μ → WS G E (d + 1) (p, e, s, m, args, below, meth, c, R, nc, ns, QS, A) Q (pc + len) lv st μ)
    (kJ : ∀ t e' r', E.2.2.1.drop t = e' :: r' → ∀ lv st μ, k (E.2.2.1.drop t) lv st μ → WS G E (d + 1) (p, e, s, m, args, below, meth, c, R, nc, ns, QS, A) Q e'.1 lv st μ)
    (hdec : decode E.2.1.2.1 pc = .ok ((.iaload), len)) (hch : xchk E (pc, (.iaload), len, tg, cst) = true)
    (h : xstep (MW G d) E Q (pc, (.iaload), len, tg, cst) r lv st μ k) : WS G E (d + 1) (p, e, s, m, args, below, meth, c, R, nc, ns, QS, A) Q pc lv st μ := by
  intro hG hC hY H locs ls hP hS hl hlo hso
  obtain ⟨hx, hb, hr, hml, hown, hts, hK, hlocks⟩ := id hC
  have hD := xD_wld hG hY.2.1 μ
  have htw : ∀ w, xin w → w.before args s = true := fun w hw => hts w (xin_gw hw)
  simp only [xchk, decide_eq_true_eq] at hch
  subst hch
  obtain ⟨j, s1, rfl, hh⟩ := xpI_ex (show xpI st _ from h)
  clear h
  have h := hh
  clear hh
  obtain ⟨q, s2, rfl, hh⟩ := xpR_ex h
  clear h
  have h := hh
  clear hh
  obtain ⟨n, ha, hin, h⟩ := xax_ex h
  have hq : xok G.2.2.2.2 q = true := xvo_a hso.2.1 ha
  obtain ⟨n1, hn1, hw1⟩ := xwld_get (ad := G.2.1) (b := G.2.2.2.2) (cA := G.2.2.2.1) μ hq
  rw [xcell_arr ha] at hw1
  exact va_iald hx hb hK hP n1 0 hw1 rfl hin hdec (kN _ _ _ h hG hC hY H locs ls hP hS hl hlo ⟨trivial, hso.2.2⟩)
set_option maxHeartbeats 1000000 in
theorem xso_iastore {G : xG} {E : xE} {d : Nat} {Q : xP} {pc len : Nat} {tg : List Nat} {cst : xV} {r : List xT} {lv st : List xV} {μ : xM} {k : xK} {p : Program} {e : Env} {s : State} {m : MethodId} {args : Array Value} {below : List Frame} {meth : Method} {c : Code} {R : Room} {nc ns : Nat} {QS : State → Prop} {A : Nat → Prop} (hE : xEok E)
    (kN : ∀ lv st μ, k r lv st μ → WS G E (d + 1) (p, e, s, m, args, below, meth, c, R, nc, ns, QS, A) Q (pc + len) lv st μ)
    (kJ : ∀ t e' r', E.2.2.1.drop t = e' :: r' → ∀ lv st μ, k (E.2.2.1.drop t) lv st μ → WS G E (d + 1) (p, e, s, m, args, below, meth, c, R, nc, ns, QS, A) Q e'.1 lv st μ)
    (hdec : decode E.2.1.2.1 pc = .ok ((.iastore), len)) (hch : xchk E (pc, (.iastore), len, tg, cst) = true)
    (h : xstep (MW G d) E Q (pc, (.iastore), len, tg, cst) r lv st μ k) : WS G E (d + 1) (p, e, s, m, args, below, meth, c, R, nc, ns, QS, A) Q pc lv st μ := by
  intro hG hC hY H locs ls hP hS hl hlo hso
  obtain ⟨hx, hb, hr, hml, hown, hts, hK, hlocks⟩ := id hC
  have hD := xD_wld hG hY.2.1 μ
  have htw : ∀ w, xin w → w.before args s = true := fun w hw => hts w (xin_gw hw)
  simp only [xchk, decide_eq_true_eq] at hch
  subst hch
  obtain ⟨x, s0, rfl, hh⟩ := xpI_ex (show xpI st _ from h)
  clear h
  have h := hh
  clear hh
  obtain ⟨j, s1, rfl, hh⟩ := xpI_ex h
  clear h
  have h := hh
  clear hh
  obtain ⟨q, s2, rfl, hh⟩ := xpR_ex h
  clear h
  have h := hh
  clear hh
  obtain ⟨n, ha, hin, h⟩ := xax_ex h
  have hq : xok G.2.2.2.2 q = true := xvo_a hso.2.2.1 ha
  obtain ⟨n1, hn1, hw1⟩ := xwld_get (ad := G.2.1) (b := G.2.2.2.2) (cA := G.2.2.2.1) μ hq
  rw [xcell_arr ha] at hw1
  refine va_iast hx hb hK hP hD hS n1 0 hw1 rfl hin hdec (fun H1 locs1 hP1 hD1 hS1 => ?_)
  rw [xwld_arr hn1 ha] at hP1
  exact kN _ _ _ h hG hC hY H1 locs1 ls hP1 hS1 hl hlo hso.2.2.2
set_option maxHeartbeats 1000000 in
theorem xso_aaload {G : xG} {E : xE} {d : Nat} {Q : xP} {pc len : Nat} {tg : List Nat} {cst : xV} {r : List xT} {lv st : List xV} {μ : xM} {k : xK} {p : Program} {e : Env} {s : State} {m : MethodId} {args : Array Value} {below : List Frame} {meth : Method} {c : Code} {R : Room} {nc ns : Nat} {QS : State → Prop} {A : Nat → Prop} (hE : xEok E)
    (kN : ∀ lv st μ, k r lv st μ → WS G E (d + 1) (p, e, s, m, args, below, meth, c, R, nc, ns, QS, A) Q (pc + len) lv st μ)
    (kJ : ∀ t e' r', E.2.2.1.drop t = e' :: r' → ∀ lv st μ, k (E.2.2.1.drop t) lv st μ → WS G E (d + 1) (p, e, s, m, args, below, meth, c, R, nc, ns, QS, A) Q e'.1 lv st μ)
    (hdec : decode E.2.1.2.1 pc = .ok ((.aaload), len)) (hch : xchk E (pc, (.aaload), len, tg, cst) = true)
    (h : xstep (MW G d) E Q (pc, (.aaload), len, tg, cst) r lv st μ k) : WS G E (d + 1) (p, e, s, m, args, below, meth, c, R, nc, ns, QS, A) Q pc lv st μ := by
  intro hG hC hY H locs ls hP hS hl hlo hso
  obtain ⟨hx, hb, hr, hml, hown, hts, hK, hlocks⟩ := id hC
  have hD := xD_wld hG hY.2.1 μ
  have htw : ∀ w, xin w → w.before args s = true := fun w hw => hts w (xin_gw hw)
  simp only [xchk, decide_eq_true_eq] at hch
  subst hch
  obtain ⟨j, s1, rfl, hh⟩ := xpI_ex (show xpI st _ from h)
  clear h
  have h := hh
  clear hh
  obtain ⟨q, s2, rfl, hh⟩ := xpR_ex h
  clear h
  have h := hh
  clear hh
  have hq : xok G.2.2.2.2 q = true := xvo_g hso.2.1 h
  obtain ⟨k1, j1, c1⟩ := q
  have hk1 : k1 = 10 := by
    unfold xrg at h
    split at h
    · rename_i heq; cases heq; rfl
    · exact h.elim
  subst hk1
  have h : vp_in j 5 ∧ k r lv (vR (4, 2 + j.toNatClampNeg, 0) :: s2) μ := h
  obtain ⟨n1, hn1, hw1⟩ := xwld_get (ad := G.2.1) (b := G.2.2.2.2) (cA := G.2.2.2.1) μ hq
  have hlt : j.toNatClampNeg < 5 := Nat.not_le.mp fun z => h.1 (Or.inr z)
  exact va_aldq hx hb hK hP n1 1 hw1 rfl h.1 hdec (kN _ _ _ h.2 hG hC hY H locs ls hP hS hl hlo ⟨Or.inr (by show xok _ _ = true; simp [xok]; omega), hso.2.2⟩)
set_option maxHeartbeats 1000000 in
theorem xso_invokevirtual {G : xG} {E : xE} {d : Nat} {Q : xP} {pc len : Nat} {tg : List Nat} {cst : xV} {r : List xT} {lv st : List xV} {μ : xM} {k : xK} {p : Program} {e : Env} {s : State} {m : MethodId} {args : Array Value} {below : List Frame} {meth : Method} {c : Code} {R : Room} {nc ns : Nat} {QS : State → Prop} {A : Nat → Prop} (n : Nat) (hE : xEok E)
    (kN : ∀ lv st μ, k r lv st μ → WS G E (d + 1) (p, e, s, m, args, below, meth, c, R, nc, ns, QS, A) Q (pc + len) lv st μ)
    (kJ : ∀ t e' r', E.2.2.1.drop t = e' :: r' → ∀ lv st μ, k (E.2.2.1.drop t) lv st μ → WS G E (d + 1) (p, e, s, m, args, below, meth, c, R, nc, ns, QS, A) Q e'.1 lv st μ)
    (hdec : decode E.2.1.2.1 pc = .ok ((.invokevirtual n), len)) (hch : xchk E (pc, (.invokevirtual n), len, tg, cst) = true)
    (h : xstep (MW G d) E Q (pc, (.invokevirtual n), len, tg, cst) r lv st μ k) : WS G E (d + 1) (p, e, s, m, args, below, meth, c, R, nc, ns, QS, A) Q pc lv st μ := by
  intro hG hC hY H locs ls hP hS hl hlo hso
  obtain ⟨hx, hb, hr, hml, hown, hts, hK, hlocks⟩ := id hC
  have hD := xD_wld hG hY.2.1 μ
  have htw : ∀ w, xin w → w.before args s = true := fun w hw => hts w (xin_gw hw)
  simp only [xchk, Bool.and_eq_true, decide_eq_true_eq] at hch
  obtain ⟨hlen, hc⟩ := hch
  subst hlen
  obtain ⟨qe, rr, hd1, h⟩ := xfind_ex (show xfind _ _ _ from h)
  have hc : qe.1 = n ∧ qe.2.1 = xt1 tg := by
    unfold xme at hc
    rw [hd1] at hc
    simpa using hc
  obtain ⟨B1, s1, rfl, hB1, hh⟩ := xargs_ex _ _ _ _ h
  clear h
  have h := hh
  clear hh
  obtain ⟨q, s2, rfl, hh⟩ := xpR_ex h
  clear h
  have h := hh
  clear hh
  obtain ⟨⟨fs, ho⟩, h⟩ := xro_ex h
  obtain ⟨h8, h18, h⟩ := xifv_ex h
  obtain ⟨⟨T, N, hcl⟩, ⟨hml1, hcode, hini, hn1, hn2, hpar, h21⟩, hinst, hsel⟩ := hE.2.2.2.1.2.1 qe (xdrop_mem hd1)
  rw [hc.2] at hcl
  rw [hc.1] at hml1
  rw [List.append_nil] at h
  obtain ⟨hso1, hso2⟩ := xoks_app hso
  have hq : xok G.2.2.2.2 q = true := xvo_o hso2.1 ho
  have hM := h hG (fun v hv => by
    rcases List.mem_cons.mp hv with rfl | hv
    · exact Or.inr hq
    · exact xoks_mem hso1 v (List.mem_reverse.mpr hv))
  obtain ⟨n2, hn2', hw2⟩ := xwld_get (ad := G.2.1) (b := G.2.2.2.2) (cA := G.2.2.2.1) μ hq
  rw [xcell_obj ho] at hw2
  have hgood : GoodIn xgw (xws qe.2.2) := by
    intro w hw
    rcases List.mem_cons.mp hw with rfl | hw
    · exact ⟨xin_gw hcode, xgood (xin_gw hcode)⟩
    · exact ⟨hw, xgood hw⟩
  refine xcall_go hY.2.1 (va_runV (As := B1.map (xrv G.2.1)) (rest := s2.map (xrv G.2.1)) (b := G.2.1 q) ⟨hx, hb, hml, hown, hts⟩ hM ⟨callB_of qe.2.2.2.2.2.2 hts hgood rfl rfl rfl (htw _ hini) (htw _ hml1) ⟨hn1, hn2, hpar⟩ ⟨hY.1.1, by have := hY.1.2.1; show 8 + (qe.2.2.2.2.1 + 11) + 37 * d ≤ R.locals; omega⟩, htw _ hinst, htw _ hsel⟩ ⟨xblind G _ μ, va_recv hK hP (ci := xt1 tg) (q0 := n2) hcl hw2, fun U hU hW => ⟨rfl, by rw [hU]; exact hP, va_K.moved hW.alike hK⟩⟩ rfl (by rw [List.length_map]; exact hB1) hl.1 (by simp [xrv]) (lv_room (by rw [xcats_eq]; exact h8)) hdec ⟨hY.1.2.2.1, hY.1.2.2.2⟩) hS (fun r1 μ' H1 locs1 hq1 hv1 hP1 hS1 => ?_)
  obtain ⟨st', hk', est, hok'⟩ := xret_ex (ad := G.2.1) hq1
  rw [est]
  exact kN _ _ _ hk' hG hC hY H1 locs1 ls hP1 hS1 hl hlo (hok' _ hso2.2 hv1)
set_option maxHeartbeats 1000000 in
theorem xso_invokestatic {G : xG} {E : xE} {d : Nat} {Q : xP} {pc len : Nat} {tg : List Nat} {cst : xV} {r : List xT} {lv st : List xV} {μ : xM} {k : xK} {p : Program} {e : Env} {s : State} {m : MethodId} {args : Array Value} {below : List Frame} {meth : Method} {c : Code} {R : Room} {nc ns : Nat} {QS : State → Prop} {A : Nat → Prop} (n : Nat) (hE : xEok E)
    (kN : ∀ lv st μ, k r lv st μ → WS G E (d + 1) (p, e, s, m, args, below, meth, c, R, nc, ns, QS, A) Q (pc + len) lv st μ)
    (kJ : ∀ t e' r', E.2.2.1.drop t = e' :: r' → ∀ lv st μ, k (E.2.2.1.drop t) lv st μ → WS G E (d + 1) (p, e, s, m, args, below, meth, c, R, nc, ns, QS, A) Q e'.1 lv st μ)
    (hdec : decode E.2.1.2.1 pc = .ok ((.invokestatic n), len)) (hch : xchk E (pc, (.invokestatic n), len, tg, cst) = true)
    (h : xstep (MW G d) E Q (pc, (.invokestatic n), len, tg, cst) r lv st μ k) : WS G E (d + 1) (p, e, s, m, args, below, meth, c, R, nc, ns, QS, A) Q pc lv st μ := by
  intro hG hC hY H locs ls hP hS hl hlo hso
  obtain ⟨hx, hb, hr, hml, hown, hts, hK, hlocks⟩ := id hC
  have hD := xD_wld hG hY.2.1 μ
  have htw : ∀ w, xin w → w.before args s = true := fun w hw => hts w (xin_gw hw)
  simp only [xchk, Bool.and_eq_true, decide_eq_true_eq] at hch
  obtain ⟨hlen, hc⟩ := hch
  subst hlen
  simp only [xstep] at h
  split at h
  · rename_i h0
    rw [h0] at hc
    obtain ⟨qe, rr, hd1, h⟩ := xfind_ex h
    have hc : qe.1 = n := by
      have hc : xme0 _ _ _ = true := hc
      unfold xme0 at hc
      rw [hd1] at hc
      simpa using hc
    obtain ⟨B1, s1, rfl, hB1, hh⟩ := xargs_ex _ _ _ _ h
    clear h
    have h := hh
    clear hh
    obtain ⟨h26, h⟩ := xif26_ex h
    obtain ⟨⟨hml1, hcode, hini, hn1, hn2, hpar, h21⟩, hstat⟩ := hE.2.2.2.1.2.2.1 qe (xdrop_mem hd1)
    rw [hc] at hml1
    rw [List.append_nil] at h
    obtain ⟨hso1, hso2⟩ := xoks_app hso
    have hM := h hG (fun v hv => xoks_mem hso1 v (List.mem_reverse.mpr hv))
    have hgood : GoodIn xgw (xws qe.2.2) := by
      intro w hw
      rcases List.mem_cons.mp hw with rfl | hw
      · exact ⟨xin_gw hcode, xgood (xin_gw hcode)⟩
      · exact ⟨hw, xgood hw⟩
    refine xcall_go hY.2.1 (xrunS (W := xcats s1) (As := B1.map (xrv G.2.1)) (rest := s1.map (xrv G.2.1)) ⟨hx, hb, hml, hown, hts⟩ hM hts hgood rfl rfl rfl (htw _ hini) (htw _ hml1) ⟨hn1, hn2, hpar⟩ hY.1.1 (by have := hY.1.2.1; show xcats s1 + (qe.2.2.2.2.1 + 11) + 37 * d ≤ R.locals; omega) (htw _ hstat) ⟨xblind G _ μ, fun U hU hW => ⟨rfl, by rw [hU]; exact hP, va_K.moved hW.alike hK⟩⟩ rfl (by rw [List.length_map]; exact hB1) hl.1 (by simp) (xroom (by rw [xcats_eq]; exact Nat.le_refl _)) hdec ⟨hY.1.2.2.1, hY.1.2.2.2⟩) hS (fun r1 μ' H1 locs1 hq1 hv1 hP1 hS1 => ?_)
    obtain ⟨st', hk', est, hok'⟩ := xret_ex (ad := G.2.1) hq1
    rw [est]
    exact kN _ _ _ hk' hG hC hY H1 locs1 ls hP1 hS1 hl hlo (hok' _ hso2 hv1)
  · rename_i h0
    rw [h0] at hc
    obtain ⟨q, hq, eq⟩ := List.any_eq_true.mp (show List.any _ _ = true from hc)
    have eq := of_decide_eq_true eq
    have hF := (hE.2.2.2.1.2.2.2.2 q hq).1 (by rw [eq])
    rw [eq] at hF
    obtain ⟨f1, f2, f3, f4⟩ := hF
    obtain ⟨y, s1, rfl, hh⟩ := xpI_ex h
    clear h
    have h := hh
    clear hh
    obtain ⟨x, s2, rfl, hh⟩ := xpI_ex h
    clear h
    have h := hh
    clear hh
    obtain ⟨h8, h⟩ := xif8_ex h
    exact va_mmin hx hb (hml.trans hl.1.symm) hown (htw _ f1) (htw _ f2) (htw _ f3) (htw _ f4) (by have := hY.1.1; omega) (by have := hY.1.2.1; rw [xcats_eq]; omega) hY.1.2.2.1 hY.1.2.2.2 hdec (kN _ _ _ h hG hC hY H locs ls hP hS hl hlo ⟨trivial, hso.2.2⟩)
  · rename_i h0
    rw [h0] at hc
    obtain ⟨q, hq, eq⟩ := List.any_eq_true.mp (show List.any _ _ = true from hc)
    have eq := of_decide_eq_true eq
    have hF := (hE.2.2.2.1.2.2.2.2 q hq).2 (by rw [eq])
    rw [eq] at hF
    obtain ⟨f1, f2, f3, f4⟩ := hF
    obtain ⟨z, s1, rfl, hh⟩ := xpI_ex h
    clear h
    have h := hh
    clear hh
    obtain ⟨dp, s2, rfl, hh⟩ := xpI_ex h
    clear h
    have h := hh
    clear hh
    obtain ⟨qb, s3, rfl, hh⟩ := xpR_ex h
    clear h
    have h := hh
    clear hh
    obtain ⟨sp, s4, rfl, hh⟩ := xpI_ex h
    clear h
    have h := hh
    clear hh
    obtain ⟨qa, s5, rfl, hh⟩ := xpR_ex h
    clear h
    have h := hh
    clear hh
    obtain ⟨za, ha, h⟩ := xax_ex h
    obtain ⟨zb, hb1, h⟩ := xax_ex h
    rcases s5 with _ | ⟨v, s5⟩
    · obtain ⟨g1, g2, g3, g4, g5, h⟩ := (show _ ∧ _ ∧ _ ∧ _ ∧ _ ∧ _ from h)
      have hqb : xok G.2.2.2.2 qb = true := xvo_a hso.2.2.1 hb1
      have hqa : xok G.2.2.2.2 qa = true := xvo_a hso.2.2.2.2.1 ha
      obtain ⟨na, hna, hwa⟩ := xwld_get (ad := G.2.1) (b := G.2.2.2.2) (cA := G.2.2.2.1) μ hqa
      obtain ⟨nb, hnb, hwb⟩ := xwld_get (ad := G.2.1) (b := G.2.2.2.2) (cA := G.2.2.2.1) μ hqb
      rw [xcell_arr ha] at hwa
      rw [xcell_arr hb1] at hwb
      refine va_copyi hx hb (hml.trans hl.1.symm) hown (htw _ f1) (htw _ f2) (htw _ f3) (htw _ f4) hK hP hD hS na nb 0 0 hwa hwb rfl rfl rfl g1 g2 g3 g4 g5 (fun _ _ => rfl) (by have := hY.1.1; omega) (by have := hY.1.2.1; rw [show (List.map (fun v => Value.category v) (List.map (xrv G.2.1) [])).sum = 0 from rfl]; show 0 + (nativeFrameWords "java/lang/System" "arraycopy" 5 + 11) ≤ R.locals; exact Nat.le_trans xnat_le (by omega)) hdec (fun H1 locs1 hP1 hD1 hS1 => ?_)
      rw [xwld_cpy hnb hb1] at hP1
      exact kN _ _ _ h hG hC hY H1 locs1 ls hP1 hS1 hl hlo trivial
    · exact (show False from h).elim
  · exact h.elim
set_option maxHeartbeats 1000000 in
theorem xso_ireturn {G : xG} {E : xE} {d : Nat} {Q : xP} {pc len : Nat} {tg : List Nat} {cst : xV} {r : List xT} {lv st : List xV} {μ : xM} {k : xK} {p : Program} {e : Env} {s : State} {m : MethodId} {args : Array Value} {below : List Frame} {meth : Method} {c : Code} {R : Room} {nc ns : Nat} {QS : State → Prop} {A : Nat → Prop} (hE : xEok E)
    (kN : ∀ lv st μ, k r lv st μ → WS G E (d + 1) (p, e, s, m, args, below, meth, c, R, nc, ns, QS, A) Q (pc + len) lv st μ)
    (kJ : ∀ t e' r', E.2.2.1.drop t = e' :: r' → ∀ lv st μ, k (E.2.2.1.drop t) lv st μ → WS G E (d + 1) (p, e, s, m, args, below, meth, c, R, nc, ns, QS, A) Q e'.1 lv st μ)
    (hdec : decode E.2.1.2.1 pc = .ok ((.ireturn), len)) (hch : xchk E (pc, (.ireturn), len, tg, cst) = true)
    (h : xstep (MW G d) E Q (pc, (.ireturn), len, tg, cst) r lv st μ k) : WS G E (d + 1) (p, e, s, m, args, below, meth, c, R, nc, ns, QS, A) Q pc lv st μ := by
  intro hG hC hY H locs ls hP hS hl hlo hso
  obtain ⟨hx, hb, hr, hml, hown, hts, hK, hlocks⟩ := id hC
  have hD := xD_wld hG hY.2.1 μ
  have htw : ∀ w, xin w → w.before args s = true := fun w hw => hts w (xin_gw hw)
  simp only [xchk, decide_eq_true_eq] at hch
  subst hch
  obtain ⟨x, s1, rfl, hh⟩ := xpI_ex (show xpI st _ from h)
  clear h
  have h := hh
  clear hh
  rcases s1 with _ | ⟨v, s1⟩
  · have h : xri E.2.1.2.2.2.1 x (Q (some (vI x)) μ) := h
    unfold xri at h
    split at h
    · rename_i hrt
      rcases hY.2.2 with hY2 | ⟨rfl, rfl, rfl, rfl, rfl⟩
      · exact (hY2 _ _ h).elim
      · exact W.iret hx hb (hr.trans hrt) (fun t ht hW => ⟨⟨some (vI x), μ, h, rfl, fun v hv => by cases hv; exact trivial, by rw [xB, ht]; exact ⟨hP, va_K.moved hW.alike hK⟩⟩, hS.F ht⟩) hS.2.2 hdec hlocks
    · rename_i hrt
      rcases hY.2.2 with hY2 | ⟨rfl, rfl, rfl, rfl, rfl⟩
      · exact (hY2 _ _ h.2).elim
      · exact W.zret hx hb (hr.trans hrt) (by rcases h.1 with rfl | rfl <;> rfl) (fun t ht hW => ⟨⟨some (vI x), μ, h.2, rfl, fun v hv => by cases hv; exact trivial, by rw [xB, ht]; exact ⟨hP, va_K.moved hW.alike hK⟩⟩, hS.F ht⟩) hS.2.2 hdec hlocks
    · exact h.elim
  · exact (show False from h).elim
set_option maxHeartbeats 1000000 in
theorem xso_lreturn {G : xG} {E : xE} {d : Nat} {Q : xP} {pc len : Nat} {tg : List Nat} {cst : xV} {r : List xT} {lv st : List xV} {μ : xM} {k : xK} {p : Program} {e : Env} {s : State} {m : MethodId} {args : Array Value} {below : List Frame} {meth : Method} {c : Code} {R : Room} {nc ns : Nat} {QS : State → Prop} {A : Nat → Prop} (hE : xEok E)
    (kN : ∀ lv st μ, k r lv st μ → WS G E (d + 1) (p, e, s, m, args, below, meth, c, R, nc, ns, QS, A) Q (pc + len) lv st μ)
    (kJ : ∀ t e' r', E.2.2.1.drop t = e' :: r' → ∀ lv st μ, k (E.2.2.1.drop t) lv st μ → WS G E (d + 1) (p, e, s, m, args, below, meth, c, R, nc, ns, QS, A) Q e'.1 lv st μ)
    (hdec : decode E.2.1.2.1 pc = .ok ((.lreturn), len)) (hch : xchk E (pc, (.lreturn), len, tg, cst) = true)
    (h : xstep (MW G d) E Q (pc, (.lreturn), len, tg, cst) r lv st μ k) : WS G E (d + 1) (p, e, s, m, args, below, meth, c, R, nc, ns, QS, A) Q pc lv st μ := by
  intro hG hC hY H locs ls hP hS hl hlo hso
  obtain ⟨hx, hb, hr, hml, hown, hts, hK, hlocks⟩ := id hC
  have hD := xD_wld hG hY.2.1 μ
  have htw : ∀ w, xin w → w.before args s = true := fun w hw => hts w (xin_gw hw)
  simp only [xchk, decide_eq_true_eq] at hch
  subst hch
  obtain ⟨x, s1, rfl, hh⟩ := xpL_ex (show xpL st _ from h)
  clear h
  have h := hh
  clear hh
  rcases s1 with _ | ⟨v, s1⟩
  · have h : xrl E.2.1.2.2.2.1 (Q (some (vL x)) μ) := h
    unfold xrl at h
    split at h
    · rename_i hrt
      rcases hY.2.2 with hY2 | ⟨rfl, rfl, rfl, rfl, rfl⟩
      · exact (hY2 _ _ h).elim
      · exact W.lret hx hb (hr.trans hrt) (fun t ht hW => ⟨⟨some (vL x), μ, h, rfl, fun v hv => by cases hv; exact trivial, by rw [xB, ht]; exact ⟨hP, va_K.moved hW.alike hK⟩⟩, hS.F ht⟩) hS.2.2 hdec hlocks
    · exact h.elim
  · exact (show False from h).elim
set_option maxHeartbeats 1000000 in
theorem xso_areturn {G : xG} {E : xE} {d : Nat} {Q : xP} {pc len : Nat} {tg : List Nat} {cst : xV} {r : List xT} {lv st : List xV} {μ : xM} {k : xK} {p : Program} {e : Env} {s : State} {m : MethodId} {args : Array Value} {below : List Frame} {meth : Method} {c : Code} {R : Room} {nc ns : Nat} {QS : State → Prop} {A : Nat → Prop} (hE : xEok E)
    (kN : ∀ lv st μ, k r lv st μ → WS G E (d + 1) (p, e, s, m, args, below, meth, c, R, nc, ns, QS, A) Q (pc + len) lv st μ)
    (kJ : ∀ t e' r', E.2.2.1.drop t = e' :: r' → ∀ lv st μ, k (E.2.2.1.drop t) lv st μ → WS G E (d + 1) (p, e, s, m, args, below, meth, c, R, nc, ns, QS, A) Q e'.1 lv st μ)
    (hdec : decode E.2.1.2.1 pc = .ok ((.areturn), len)) (hch : xchk E (pc, (.areturn), len, tg, cst) = true)
    (h : xstep (MW G d) E Q (pc, (.areturn), len, tg, cst) r lv st μ k) : WS G E (d + 1) (p, e, s, m, args, below, meth, c, R, nc, ns, QS, A) Q pc lv st μ := by
  intro hG hC hY H locs ls hP hS hl hlo hso
  obtain ⟨hx, hb, hr, hml, hown, hts, hK, hlocks⟩ := id hC
  have hD := xD_wld hG hY.2.1 μ
  have htw : ∀ w, xin w → w.before args s = true := fun w hw => hts w (xin_gw hw)
  simp only [xchk, decide_eq_true_eq] at hch
  subst hch
  have key : ∀ q : Option xI, st = [.inr (.inr q)] → W p G.1 e R s m args below meth c H locs nc ns QS (F0 m pc ls (st.map (xrv G.2.1))) := by
    intro q hq
    subst hq
    have h : xra E.2.1.2.2.2.1 (Q (some (.inr (.inr q))) μ) := h
    unfold xra at h
    split at h
    · rename_i nm hrt
      rcases hY.2.2 with hY2 | ⟨rfl, rfl, rfl, rfl, rfl⟩
      · exact (hY2 _ _ h).elim
      · refine W.aret (v := xrv G.2.1 (.inr (.inr q))) hx hb (hr.trans hrt) (Or.inl ⟨_, rfl⟩) ?_ (fun t ht hW => ⟨⟨some (.inr (.inr q)), μ, h, rfl, fun v hv => by cases hv; exact hso.1, by rw [xB, ht]; exact ⟨hP, va_K.moved hW.alike hK⟩⟩, hS.F ht⟩) hS.2.2 hdec hlocks
        cases q with
        | none => exact Or.inl rfl
        | some q => exact Or.inr ⟨_, rfl⟩
    · exact h.elim
  rcases st with _ | ⟨x | x | q, _ | ⟨v, s1⟩⟩ <;> first | exact (show False from h).elim | exact key _ rfl
set_option maxHeartbeats 1000000 in
theorem xso_return_ {G : xG} {E : xE} {d : Nat} {Q : xP} {pc len : Nat} {tg : List Nat} {cst : xV} {r : List xT} {lv st : List xV} {μ : xM} {k : xK} {p : Program} {e : Env} {s : State} {m : MethodId} {args : Array Value} {below : List Frame} {meth : Method} {c : Code} {R : Room} {nc ns : Nat} {QS : State → Prop} {A : Nat → Prop} (hE : xEok E)
    (kN : ∀ lv st μ, k r lv st μ → WS G E (d + 1) (p, e, s, m, args, below, meth, c, R, nc, ns, QS, A) Q (pc + len) lv st μ)
    (kJ : ∀ t e' r', E.2.2.1.drop t = e' :: r' → ∀ lv st μ, k (E.2.2.1.drop t) lv st μ → WS G E (d + 1) (p, e, s, m, args, below, meth, c, R, nc, ns, QS, A) Q e'.1 lv st μ)
    (hdec : decode E.2.1.2.1 pc = .ok ((.return_), len)) (hch : xchk E (pc, (.return_), len, tg, cst) = true)
    (h : xstep (MW G d) E Q (pc, (.return_), len, tg, cst) r lv st μ k) : WS G E (d + 1) (p, e, s, m, args, below, meth, c, R, nc, ns, QS, A) Q pc lv st μ := by
  intro hG hC hY H locs ls hP hS hl hlo hso
  obtain ⟨hx, hb, hr, hml, hown, hts, hK, hlocks⟩ := id hC
  have hD := xD_wld hG hY.2.1 μ
  have htw : ∀ w, xin w → w.before args s = true := fun w hw => hts w (xin_gw hw)
  simp only [xchk, decide_eq_true_eq] at hch
  subst hch
  rcases st with _ | ⟨v, s1⟩
  · have h : xrn E.2.1.2.2.2.1 (Q none μ) := h
    unfold xrn at h
    split at h
    · rename_i hrt
      rcases hY.2.2 with hY2 | ⟨rfl, rfl, rfl, rfl, rfl⟩
      · exact (hY2 _ _ h).elim
      · exact W.vret hx hb (hr.trans hrt) (fun t ht hW => ⟨⟨none, μ, h, rfl, fun v hv => (by cases hv), by rw [xB, ht]; exact ⟨hP, va_K.moved hW.alike hK⟩⟩, hS.F ht⟩) hS.2.2 hdec hlocks
    · exact h.elim
  · exact (show False from h).elim
