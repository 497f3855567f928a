set_option maxHeartbeats 1000000 in
theorem xso_ifCond {G : xG} {E : xE} {d : Nat} {Q : xP} {pc len : Nat} {tg : List Nat} {cst : xV} {r : List xT} {lv st : List xV} {μ : xM} {k : xK} {p : Program} {e : Env} {s : State} {m : MethodId} {args : Array Value} {below : List Frame} {meth : Method} {c : Code} {R : Room} {nc ns : Nat} {QS : State → Prop} {A : Nat → Prop} (cnd : ClassFile.Cond) (o : Int) (hE : xEok E)
    (kN : ∀ lv st μ, k r lv st μ → WS G E (d + 1) (p, e, s, m, args, below, meth, c, R, nc, ns, QS, A) Q (pc + len) lv st μ)
    (kJ : ∀ t e' r', E.2.2.1.drop t = e' :: r' → ∀ lv st μ, k (E.2.2.1.drop t) lv st μ → WS G E (d + 1) (p, e, s, m, args, below, meth, c, R, nc, ns, QS, A) Q e'.1 lv st μ)
    (hdec : decode E.2.1.2.1 pc = .ok ((.ifCond cnd o), len)) (hch : xchk E (pc, (.ifCond cnd o), len, tg, cst) = true)
    (h : xstep (MW G d) E Q (pc, (.ifCond cnd o), len, tg, cst) r lv st μ k) : WS G E (d + 1) (p, e, s, m, args, below, meth, c, R, nc, ns, QS, A) Q pc lv st μ := by
  intro hG hC hY H locs ls hP hS hl hlo hso
  obtain ⟨hx, hb, hr, hml, hown, hts, hK, hlocks⟩ := id hC
  have hD := xD_wld hG hY.2.1 μ
  have htw : ∀ w, xin w → w.before args s = true := fun w hw => hts w (xin_gw hw)
  simp only [xchk, Bool.and_eq_true, decide_eq_true_eq] at hch
  obtain ⟨hlen, hc⟩ := hch
  subst hlen
  obtain ⟨e', r', he, ht⟩ := xtgt_ok hc
  cases cnd
  case eq =>
    obtain ⟨x, s1, rfl, hh⟩ := xpI_ex (show xpI st _ from h)
    clear h
    have h := hh
    clear hh
    exact lv_if_eq hx hb hdec ht (fun c1 => kJ _ e' r' he _ _ _ (h.1 c1) hG hC hY H locs ls hP hS hl hlo hso.2) (fun c1 => kN _ _ _ (h.2 c1) hG hC hY H locs ls hP hS hl hlo hso.2)
  case ne =>
    obtain ⟨x, s1, rfl, hh⟩ := xpI_ex (show xpI st _ from h)
    clear h
    have h := hh
    clear hh
    exact lv_if_ne hx hb hdec ht (fun c1 => kJ _ e' r' he _ _ _ (h.2 c1) hG hC hY H locs ls hP hS hl hlo hso.2) (fun c1 => kN _ _ _ (h.1 c1) hG hC hY H locs ls hP hS hl hlo hso.2)
  case lt =>
    obtain ⟨x, s1, rfl, hh⟩ := xpI_ex (show xpI st _ from h)
    clear h
    have h := hh
    clear hh
    exact lv_if_lt hx hb hdec ht (fun c1 => kJ _ e' r' he _ _ _ (h.1 c1) hG hC hY H locs ls hP hS hl hlo hso.2) (fun c1 => kN _ _ _ (h.2 c1) hG hC hY H locs ls hP hS hl hlo hso.2)
  case ge =>
    obtain ⟨x, s1, rfl, hh⟩ := xpI_ex (show xpI st _ from h)
    clear h
    have h := hh
    clear hh
    exact lv_if_ge hx hb hdec ht (fun c1 => kJ _ e' r' he _ _ _ (h.1 c1) hG hC hY H locs ls hP hS hl hlo hso.2) (fun c1 => kN _ _ _ (h.2 c1) hG hC hY H locs ls hP hS hl hlo hso.2)
  case gt =>
    obtain ⟨x, s1, rfl, hh⟩ := xpI_ex (show xpI st _ from h)
    clear h
    have h := hh
    clear hh
    exact lv_if_gt hx hb hdec ht (fun c1 => kJ _ e' r' he _ _ _ (h.1 c1) hG hC hY H locs ls hP hS hl hlo hso.2) (fun c1 => kN _ _ _ (h.2 c1) hG hC hY H locs ls hP hS hl hlo hso.2)
  case le =>
    obtain ⟨x, s1, rfl, hh⟩ := xpI_ex (show xpI st _ from h)
    clear h
    have h := hh
    clear hh
    exact lv_if_le hx hb hdec ht (fun c1 => kJ _ e' r' he _ _ _ (h.1 c1) hG hC hY H locs ls hP hS hl hlo hso.2) (fun c1 => kN _ _ _ (h.2 c1) hG hC hY H locs ls hP hS hl hlo hso.2)
set_option maxHeartbeats 1000000 in
theorem xso_if_icmp {G : xG} {E : xE} {d : Nat} {Q : xP} {pc len : Nat} {tg : List Nat} {cst : xV} {r : List xT} {lv st : List xV} {μ : xM} {k : xK} {p : Program} {e : Env} {s : State} {m : MethodId} {args : Array Value} {below : List Frame} {meth : Method} {c : Code} {R : Room} {nc ns : Nat} {QS : State → Prop} {A : Nat → Prop} (cnd : ClassFile.Cond) (o : Int) (hE : xEok E)
    (kN : ∀ lv st μ, k r lv st μ → WS G E (d + 1) (p, e, s, m, args, below, meth, c, R, nc, ns, QS, A) Q (pc + len) lv st μ)
    (kJ : ∀ t e' r', E.2.2.1.drop t = e' :: r' → ∀ lv st μ, k (E.2.2.1.drop t) lv st μ → WS G E (d + 1) (p, e, s, m, args, below, meth, c, R, nc, ns, QS, A) Q e'.1 lv st μ)
    (hdec : decode E.2.1.2.1 pc = .ok ((.if_icmp cnd o), len)) (hch : xchk E (pc, (.if_icmp cnd o), len, tg, cst) = true)
    (h : xstep (MW G d) E Q (pc, (.if_icmp cnd o), len, tg, cst) r lv st μ k) : WS G E (d + 1) (p, e, s, m, args, below, meth, c, R, nc, ns, QS, A) Q pc lv st μ := by
  intro hG hC hY H locs ls hP hS hl hlo hso
  obtain ⟨hx, hb, hr, hml, hown, hts, hK, hlocks⟩ := id hC
  have hD := xD_wld hG hY.2.1 μ
  have htw : ∀ w, xin w → w.before args s = true := fun w hw => hts w (xin_gw hw)
  simp only [xchk, Bool.and_eq_true, decide_eq_true_eq] at hch
  obtain ⟨hlen, hc⟩ := hch
  subst hlen
  obtain ⟨e', r', he, ht⟩ := xtgt_ok hc
  cases cnd
  case eq =>
    obtain ⟨y, s1, rfl, hh⟩ := xpI_ex (show xpI st _ from h)
    clear h
    have h := hh
    clear hh
    obtain ⟨x, s2, rfl, hh⟩ := xpI_ex h
    clear h
    have h := hh
    clear hh
    exact lv_icmp_eq hx hb hdec ht (fun c1 => kJ _ e' r' he _ _ _ (h.1 c1) hG hC hY H locs ls hP hS hl hlo hso.2.2) (fun c1 => kN _ _ _ (h.2 c1) hG hC hY H locs ls hP hS hl hlo hso.2.2)
  case ne =>
    obtain ⟨y, s1, rfl, hh⟩ := xpI_ex (show xpI st _ from h)
    clear h
    have h := hh
    clear hh
    obtain ⟨x, s2, rfl, hh⟩ := xpI_ex h
    clear h
    have h := hh
    clear hh
    exact lv_icmp_ne hx hb hdec ht (fun c1 => kJ _ e' r' he _ _ _ (h.2 c1) hG hC hY H locs ls hP hS hl hlo hso.2.2) (fun c1 => kN _ _ _ (h.1 c1) hG hC hY H locs ls hP hS hl hlo hso.2.2)
  case lt =>
    obtain ⟨y, s1, rfl, hh⟩ := xpI_ex (show xpI st _ from h)
    clear h
    have h := hh
    clear hh
    obtain ⟨x, s2, rfl, hh⟩ := xpI_ex h
    clear h
    have h := hh
    clear hh
    exact lv_icmp_lt hx hb hdec ht (fun c1 => kJ _ e' r' he _ _ _ (h.1 c1) hG hC hY H locs ls hP hS hl hlo hso.2.2) (fun c1 => kN _ _ _ (h.2 c1) hG hC hY H locs ls hP hS hl hlo hso.2.2)
  case ge =>
    obtain ⟨y, s1, rfl, hh⟩ := xpI_ex (show xpI st _ from h)
    clear h
    have h := hh
    clear hh
    obtain ⟨x, s2, rfl, hh⟩ := xpI_ex h
    clear h
    have h := hh
    clear hh
    exact lv_icmp_ge hx hb hdec ht (fun c1 => kJ _ e' r' he _ _ _ (h.1 c1) hG hC hY H locs ls hP hS hl hlo hso.2.2) (fun c1 => kN _ _ _ (h.2 c1) hG hC hY H locs ls hP hS hl hlo hso.2.2)
  case gt =>
    obtain ⟨y, s1, rfl, hh⟩ := xpI_ex (show xpI st _ from h)
    clear h
    have h := hh
    clear hh
    obtain ⟨x, s2, rfl, hh⟩ := xpI_ex h
    clear h
    have h := hh
    clear hh
    exact lv_icmp_gt hx hb hdec ht (fun c1 => kJ _ e' r' he _ _ _ (h.1 c1) hG hC hY H locs ls hP hS hl hlo hso.2.2) (fun c1 => kN _ _ _ (h.2 c1) hG hC hY H locs ls hP hS hl hlo hso.2.2)
  case le =>
    obtain ⟨y, s1, rfl, hh⟩ := xpI_ex (show xpI st _ from h)
    clear h
    have h := hh
    clear hh
    obtain ⟨x, s2, rfl, hh⟩ := xpI_ex h
    clear h
    have h := hh
    clear hh
    exact lv_icmp_le hx hb hdec ht (fun c1 => kJ _ e' r' he _ _ _ (h.1 c1) hG hC hY H locs ls hP hS hl hlo hso.2.2) (fun c1 => kN _ _ _ (h.2 c1) hG hC hY H locs ls hP hS hl hlo hso.2.2)
set_option maxHeartbeats 1000000 in
theorem xso_ifnull {G : xG} {E : xE} {d : Nat} {Q : xP} {pc len : Nat} {tg : List Nat} {cst : xV} {r : List xT} {lv st : List xV} {μ : xM} {k : xK} {p : Program} {e : Env} {s : State} {m : MethodId} {args : Array Value} {below : List Frame} {meth : Method} {c : Code} {R : Room} {nc ns : Nat} {QS : State → Prop} {A : Nat → Prop} (o : Int) (hE : xEok E)
    (kN : ∀ lv st μ, k r lv st μ → WS G E (d + 1) (p, e, s, m, args, below, meth, c, R, nc, ns, QS, A) Q (pc + len) lv st μ)
    (kJ : ∀ t e' r', E.2.2.1.drop t = e' :: r' → ∀ lv st μ, k (E.2.2.1.drop t) lv st μ → WS G E (d + 1) (p, e, s, m, args, below, meth, c, R, nc, ns, QS, A) Q e'.1 lv st μ)
    (hdec : decode E.2.1.2.1 pc = .ok ((.ifnull o), len)) (hch : xchk E (pc, (.ifnull o), len, tg, cst) = true)
    (h : xstep (MW G d) E Q (pc, (.ifnull o), len, tg, cst) r lv st μ k) : WS G E (d + 1) (p, e, s, m, args, below, meth, c, R, nc, ns, QS, A) Q pc lv st μ := by
  intro hG hC hY H locs ls hP hS hl hlo hso
  obtain ⟨hx, hb, hr, hml, hown, hts, hK, hlocks⟩ := id hC
  have hD := xD_wld hG hY.2.1 μ
  have htw : ∀ w, xin w → w.before args s = true := fun w hw => hts w (xin_gw hw)
  simp only [xchk, decide_eq_true_eq] at hch
  subst hch
  obtain ⟨q, s1, rfl, hh⟩ := xpR_ex (show xpR st _ from h)
  clear h
  have h := hh
  clear hh
  exact lv_ifnull hx hb hdec (kN _ _ _ h hG hC hY H locs ls hP hS hl hlo hso.2)
set_option maxHeartbeats 1000000 in
theorem xso_goto {G : xG} {E : xE} {d : Nat} {Q : xP} {pc len : Nat} {tg : List Nat} {cst : xV} {r : List xT} {lv st : List xV} {μ : xM} {k : xK} {p : Program} {e : Env} {s : State} {m : MethodId} {args : Array Value} {below : List Frame} {meth : Method} {c : Code} {R : Room} {nc ns : Nat} {QS : State → Prop} {A : Nat → Prop} (o : Int) (hE : xEok E)
    (kN : ∀ lv st μ, k r lv st μ → WS G E (d + 1) (p, e, s, m, args, below, meth, c, R, nc, ns, QS, A) Q (pc + len) lv st μ)
    (kJ : ∀ t e' r', E.2.2.1.drop t = e' :: r' → ∀ lv st μ, k (E.2.2.1.drop t) lv st μ → WS G E (d + 1) (p, e, s, m, args, below, meth, c, R, nc, ns, QS, A) Q e'.1 lv st μ)
    (hdec : decode E.2.1.2.1 pc = .ok ((.goto o), len)) (hch : xchk E (pc, (.goto o), len, tg, cst) = true)
    (h : xstep (MW G d) E Q (pc, (.goto o), len, tg, cst) r lv st μ k) : WS G E (d + 1) (p, e, s, m, args, below, meth, c, R, nc, ns, QS, A) Q pc lv st μ := by
  intro hG hC hY H locs ls hP hS hl hlo hso
  obtain ⟨hx, hb, hr, hml, hown, hts, hK, hlocks⟩ := id hC
  have hD := xD_wld hG hY.2.1 μ
  have htw : ∀ w, xin w → w.before args s = true := fun w hw => hts w (xin_gw hw)
  simp only [xchk, Bool.and_eq_true, decide_eq_true_eq] at hch
  obtain ⟨hlen, hc⟩ := hch
  subst hlen
  obtain ⟨e', r', he, ht⟩ := xtgt_ok hc
  exact lv_goto hx hb hdec ht (kJ _ e' r' he _ _ _ h hG hC hY H locs ls hP hS hl hlo hso)
set_option maxHeartbeats 1000000 in
theorem xso_tableswitch {G : xG} {E : xE} {d : Nat} {Q : xP} {pc len : Nat} {tg : List Nat} {cst : xV} {r : List xT} {lv st : List xV} {μ : xM} {k : xK} {p : Program} {e : Env} {s : State} {m : MethodId} {args : Array Value} {below : List Frame} {meth : Method} {c : Code} {R : Room} {nc ns : Nat} {QS : State → Prop} {A : Nat → Prop} (dd lo hi : Int) (offs : Array Int) (hE : xEok E)
    (kN : ∀ lv st μ, k r lv st μ → WS G E (d + 1) (p, e, s, m, args, below, meth, c, R, nc, ns, QS, A) Q (pc + len) lv st μ)
    (kJ : ∀ t e' r', E.2.2.1.drop t = e' :: r' → ∀ lv st μ, k (E.2.2.1.drop t) lv st μ → WS G E (d + 1) (p, e, s, m, args, below, meth, c, R, nc, ns, QS, A) Q e'.1 lv st μ)
    (hdec : decode E.2.1.2.1 pc = .ok ((.tableswitch dd lo hi offs), len)) (hch : xchk E (pc, (.tableswitch dd lo hi offs), len, tg, cst) = true)
    (h : xstep (MW G d) E Q (pc, (.tableswitch dd lo hi offs), len, tg, cst) r lv st μ k) : WS G E (d + 1) (p, e, s, m, args, below, meth, c, R, nc, ns, QS, A) Q pc lv st μ := by
  intro hG hC hY H locs ls hP hS hl hlo hso
  obtain ⟨hx, hb, hr, hml, hown, hts, hK, hlocks⟩ := id hC
  have hD := xD_wld hG hY.2.1 μ
  have htw : ∀ w, xin w → w.before args s = true := fun w hw => hts w (xin_gw hw)
  rcases tg with _ | ⟨t, ts⟩
  · simp [xchk] at hch
  simp only [xchk, Bool.and_eq_true, decide_eq_true_eq] at hch
  obtain ⟨⟨hd1, hts1⟩, hsz, hlo1, hhi1⟩ := hch
  obtain ⟨x, s1, rfl, hh⟩ := xpI_ex (show xpI st _ from h)
  clear h
  have h := hh
  clear hh
  obtain ⟨hlen1, hget⟩ := xtgts_get _ _ hts1
  have hlen2 : offs.size = ts.length := by simpa using hlen1
  have h : xtsw x lo ts _ _ := h
  rcases xtsw_ex ts lo h with ⟨j, t', e1, e2, e3⟩ | ⟨e1, e2⟩
  · obtain ⟨o, ho, hot⟩ := hget j t' e1
    obtain ⟨e', r', he, ht⟩ := xtgt_ok hot
    have hj : j < ts.length := (List.getElem?_eq_some_iff.mp e1).1
    have hxi : x.toInt = lo + (j : Int) := xofI e2 (by omega) (by omega)
    refine lv_tableIn hx hb hdec (by rw [hxi]; omega) (by rw [hxi]; omega) (off := o) ?_ ht (kJ _ e' r' he _ _ _ e3 hG hC hY H locs ls hP hS hl hlo hso.2)
    rw [hxi, show lo + (j : Int) - lo = (j : Int) by omega, Int.toNat_natCast]
    simpa using ho
  · obtain ⟨e', r', he, ht⟩ := xtgt_ok hd1
    refine lv_tableOut hx hb hdec ?_ ht (kJ _ e' r' he _ _ _ e2 hG hC hY H locs ls hP hS hl hlo hso.2)
    rcases Int.lt_or_le x.toInt lo with q | q
    · exact Or.inl q
    · rcases Int.lt_or_le hi x.toInt with q2 | q2
      · exact Or.inr q2
      · exfalso
        refine e1 (x.toInt - lo).toNat (by omega) ?_
        rw [show lo + ((x.toInt - lo).toNat : Int) = x.toInt by omega]
        exact (Int32.ofInt_toInt x).symm
set_option maxHeartbeats 1000000 in
theorem xso_lookupswitch {G : xG} {E : xE} {d : Nat} {Q : xP} {pc len : Nat} {tg : List Nat} {cst : xV} {r : List xT} {lv st : List xV} {μ : xM} {k : xK} {p : Program} {e : Env} {s : State} {m : MethodId} {args : Array Value} {below : List Frame} {meth : Method} {c : Code} {R : Room} {nc ns : Nat} {QS : State → Prop} {A : Nat → Prop} (dd : Int) (ps : Array (Int × Int)) (hE : xEok E)
    (kN : ∀ lv st μ, k r lv st μ → WS G E (d + 1) (p, e, s, m, args, below, meth, c, R, nc, ns, QS, A) Q (pc + len) lv st μ)
    (kJ : ∀ t e' r', E.2.2.1.drop t = e' :: r' → ∀ lv st μ, k (E.2.2.1.drop t) lv st μ → WS G E (d + 1) (p, e, s, m, args, below, meth, c, R, nc, ns, QS, A) Q e'.1 lv st μ)
    (hdec : decode E.2.1.2.1 pc = .ok ((.lookupswitch dd ps), len)) (hch : xchk E (pc, (.lookupswitch dd ps), len, tg, cst) = true)
    (h : xstep (MW G d) E Q (pc, (.lookupswitch dd ps), len, tg, cst) r lv st μ k) : WS G E (d + 1) (p, e, s, m, args, below, meth, c, R, nc, ns, QS, A) Q pc lv st μ := by
  intro hG hC hY H locs ls hP hS hl hlo hso
  obtain ⟨hx, hb, hr, hml, hown, hts, hK, hlocks⟩ := id hC
  have hD := xD_wld hG hY.2.1 μ
  have htw : ∀ w, xin w → w.before args s = true := fun w hw => hts w (xin_gw hw)
  rcases tg with _ | ⟨t, ts⟩
  · simp [xchk] at hch
  simp only [xchk, Bool.and_eq_true] at hch
  obtain ⟨⟨⟨hd1, hts1⟩, hky⟩, hsrt⟩ := hch
  obtain ⟨x, s1, rfl, hh⟩ := xpI_ex (show xpI st _ from h)
  clear h
  have h := hh
  clear hh
  have h : xlsw x ps.toList ts _ _ := h
  rcases xlsw_ex (d := dd) ps.toList ts hts1 hky h with ⟨o, t', e1, e2, e3⟩ | ⟨e1, e2⟩
  · obtain ⟨e', r', he, ht⟩ := xtgt_ok e2
    exact lv_lookup hx hb hdec hsrt e1 ht (kJ _ e' r' he _ _ _ e3 hG hC hY H locs ls hP hS hl hlo hso.2)
  · obtain ⟨e', r', he, ht⟩ := xtgt_ok hd1
    exact lv_lookup hx hb hdec hsrt e1 ht (kJ _ e' r' he _ _ _ e2 hG hC hY H locs ls hP hS hl hlo hso.2)
