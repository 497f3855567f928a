set_option maxHeartbeats 1000000 in
theorem xso_iload_n {G : xG} {E : xE} {d : Nat} {Q : xP} {pc len : Nat} {tg : List Nat} {cst : xV} {r : List xT} {lv st : List xV} {μ : xM} {k : xK} {p : Program} {e : Env} {s : State} {m : MethodId} {args : Array Value} {below : List Frame} {meth : Method} {c : Code} {R : Room} {nc ns : Nat} {QS : State → Prop} {A : Nat → Prop} (n : Fin 4) (hE : xEok E)
    (kN : ∀ lv st μ, k r lv st μ → WS G E (d + 1) (p, e, s, m, args, below, meth, c, R, nc, ns, QS, A) Q (pc + len) lv st μ)
    (kJ : ∀ t e' r', E.2.2.1.drop t = e' :: r' → ∀ lv st μ, k (E.2.2.1.drop t) lv st μ → WS G E (d + 1) (p, e, s, m, args, below, meth, c, R, nc, ns, QS, A) Q e'.1 lv st μ)
    (hdec : decode E.2.1.2.1 pc = .ok ((.iload_n n), len)) (hch : xchk E (pc, (.iload_n n), len, tg, cst) = true)
    (h : xstep (MW G d) E Q (pc, (.iload_n n), len, tg, cst) r lv st μ k) : WS G E (d + 1) (p, e, s, m, args, below, meth, c, R, nc, ns, QS, A) Q pc lv st μ := by
  intro hG hC hY H locs ls hP hS hl hlo hso
  obtain ⟨hx, hb, hr, hml, hown, hts, hK, hlocks⟩ := id hC
  have hD := xD_wld hG hY.2.1 μ
  have htw : ∀ w, xin w → w.before args s = true := fun w hw => hts w (xin_gw hw)
  simp only [xchk, decide_eq_true_eq] at hch
  obtain ⟨hlen, hi⟩ := hch
  subst hlen
  
  obtain ⟨x, ex, h⟩ := xgI_ex (show xgI lv _ _ from h)
  have h2 := hl.2.2 _ (show xnth lv (xt0 tg) ≠ vN by rw [ex]; intro z; cases z)
  have hq := hlo (xt0 tg)
  rw [ex] at h2 hq
  exact lv_iload_n hx hb hdec hi h2 (kN _ _ _ h hG hC hY H locs ls hP hS hl hlo ⟨trivial, hso⟩)
set_option maxHeartbeats 1000000 in
theorem xso_iload {G : xG} {E : xE} {d : Nat} {Q : xP} {pc len : Nat} {tg : List Nat} {cst : xV} {r : List xT} {lv st : List xV} {μ : xM} {k : xK} {p : Program} {e : Env} {s : State} {m : MethodId} {args : Array Value} {below : List Frame} {meth : Method} {c : Code} {R : Room} {nc ns : Nat} {QS : State → Prop} {A : Nat → Prop} (n : Nat) (hE : xEok E)
    (kN : ∀ lv st μ, k r lv st μ → WS G E (d + 1) (p, e, s, m, args, below, meth, c, R, nc, ns, QS, A) Q (pc + len) lv st μ)
    (kJ : ∀ t e' r', E.2.2.1.drop t = e' :: r' → ∀ lv st μ, k (E.2.2.1.drop t) lv st μ → WS G E (d + 1) (p, e, s, m, args, below, meth, c, R, nc, ns, QS, A) Q e'.1 lv st μ)
    (hdec : decode E.2.1.2.1 pc = .ok ((.iload n), len)) (hch : xchk E (pc, (.iload n), len, tg, cst) = true)
    (h : xstep (MW G d) E Q (pc, (.iload n), len, tg, cst) r lv st μ k) : WS G E (d + 1) (p, e, s, m, args, below, meth, c, R, nc, ns, QS, A) Q pc lv st μ := by
  intro hG hC hY H locs ls hP hS hl hlo hso
  obtain ⟨hx, hb, hr, hml, hown, hts, hK, hlocks⟩ := id hC
  have hD := xD_wld hG hY.2.1 μ
  have htw : ∀ w, xin w → w.before args s = true := fun w hw => hts w (xin_gw hw)
  simp only [xchk, decide_eq_true_eq] at hch
  obtain ⟨hlen, hi⟩ := hch
  subst hlen
  subst hi
  obtain ⟨x, ex, h⟩ := xgI_ex (show xgI lv _ _ from h)
  have h2 := hl.2.2 _ (show xnth lv (xt0 tg) ≠ vN by rw [ex]; intro z; cases z)
  have hq := hlo (xt0 tg)
  rw [ex] at h2 hq
  exact lv_iload hx hb hdec h2 (kN _ _ _ h hG hC hY H locs ls hP hS hl hlo ⟨trivial, hso⟩)
set_option maxHeartbeats 1000000 in
theorem xso_lload_n {G : xG} {E : xE} {d : Nat} {Q : xP} {pc len : Nat} {tg : List Nat} {cst : xV} {r : List xT} {lv st : List xV} {μ : xM} {k : xK} {p : Program} {e : Env} {s : State} {m : MethodId} {args : Array Value} {below : List Frame} {meth : Method} {c : Code} {R : Room} {nc ns : Nat} {QS : State → Prop} {A : Nat → Prop} (n : Fin 4) (hE : xEok E)
    (kN : ∀ lv st μ, k r lv st μ → WS G E (d + 1) (p, e, s, m, args, below, meth, c, R, nc, ns, QS, A) Q (pc + len) lv st μ)
    (kJ : ∀ t e' r', E.2.2.1.drop t = e' :: r' → ∀ lv st μ, k (E.2.2.1.drop t) lv st μ → WS G E (d + 1) (p, e, s, m, args, below, meth, c, R, nc, ns, QS, A) Q e'.1 lv st μ)
    (hdec : decode E.2.1.2.1 pc = .ok ((.lload_n n), len)) (hch : xchk E (pc, (.lload_n n), len, tg, cst) = true)
    (h : xstep (MW G d) E Q (pc, (.lload_n n), len, tg, cst) r lv st μ k) : WS G E (d + 1) (p, e, s, m, args, below, meth, c, R, nc, ns, QS, A) Q pc lv st μ := by
  intro hG hC hY H locs ls hP hS hl hlo hso
  obtain ⟨hx, hb, hr, hml, hown, hts, hK, hlocks⟩ := id hC
  have hD := xD_wld hG hY.2.1 μ
  have htw : ∀ w, xin w → w.before args s = true := fun w hw => hts w (xin_gw hw)
  simp only [xchk, decide_eq_true_eq] at hch
  obtain ⟨hlen, hi⟩ := hch
  subst hlen
  
  obtain ⟨x, ex, h⟩ := xgL_ex (show xgL lv _ _ from h)
  have h2 := hl.2.2 _ (show xnth lv (xt0 tg) ≠ vN by rw [ex]; intro z; cases z)
  have hq := hlo (xt0 tg)
  rw [ex] at h2 hq
  exact lv_lload_n hx hb hdec hi h2 (kN _ _ _ h hG hC hY H locs ls hP hS hl hlo ⟨trivial, hso⟩)
set_option maxHeartbeats 1000000 in
theorem xso_lload {G : xG} {E : xE} {d : Nat} {Q : xP} {pc len : Nat} {tg : List Nat} {cst : xV} {r : List xT} {lv st : List xV} {μ : xM} {k : xK} {p : Program} {e : Env} {s : State} {m : MethodId} {args : Array Value} {below : List Frame} {meth : Method} {c : Code} {R : Room} {nc ns : Nat} {QS : State → Prop} {A : Nat → Prop} (n : Nat) (hE : xEok E)
    (kN : ∀ lv st μ, k r lv st μ → WS G E (d + 1) (p, e, s, m, args, below, meth, c, R, nc, ns, QS, A) Q (pc + len) lv st μ)
    (kJ : ∀ t e' r', E.2.2.1.drop t = e' :: r' → ∀ lv st μ, k (E.2.2.1.drop t) lv st μ → WS G E (d + 1) (p, e, s, m, args, below, meth, c, R, nc, ns, QS, A) Q e'.1 lv st μ)
    (hdec : decode E.2.1.2.1 pc = .ok ((.lload n), len)) (hch : xchk E (pc, (.lload n), len, tg, cst) = true)
    (h : xstep (MW G d) E Q (pc, (.lload n), len, tg, cst) r lv st μ k) : WS G E (d + 1) (p, e, s, m, args, below, meth, c, R, nc, ns, QS, A) Q pc lv st μ := by
  intro hG hC hY H locs ls hP hS hl hlo hso
  obtain ⟨hx, hb, hr, hml, hown, hts, hK, hlocks⟩ := id hC
  have hD := xD_wld hG hY.2.1 μ
  have htw : ∀ w, xin w → w.before args s = true := fun w hw => hts w (xin_gw hw)
  simp only [xchk, decide_eq_true_eq] at hch
  obtain ⟨hlen, hi⟩ := hch
  subst hlen
  subst hi
  obtain ⟨x, ex, h⟩ := xgL_ex (show xgL lv _ _ from h)
  have h2 := hl.2.2 _ (show xnth lv (xt0 tg) ≠ vN by rw [ex]; intro z; cases z)
  have hq := hlo (xt0 tg)
  rw [ex] at h2 hq
  exact lv_lload hx hb hdec h2 (kN _ _ _ h hG hC hY H locs ls hP hS hl hlo ⟨trivial, hso⟩)
set_option maxHeartbeats 1000000 in
theorem xso_aload_n {G : xG} {E : xE} {d : Nat} {Q : xP} {pc len : Nat} {tg : List Nat} {cst : xV} {r : List xT} {lv st : List xV} {μ : xM} {k : xK} {p : Program} {e : Env} {s : State} {m : MethodId} {args : Array Value} {below : List Frame} {meth : Method} {c : Code} {R : Room} {nc ns : Nat} {QS : State → Prop} {A : Nat → Prop} (n : Fin 4) (hE : xEok E)
    (kN : ∀ lv st μ, k r lv st μ → WS G E (d + 1) (p, e, s, m, args, below, meth, c, R, nc, ns, QS, A) Q (pc + len) lv st μ)
    (kJ : ∀ t e' r', E.2.2.1.drop t = e' :: r' → ∀ lv st μ, k (E.2.2.1.drop t) lv st μ → WS G E (d + 1) (p, e, s, m, args, below, meth, c, R, nc, ns, QS, A) Q e'.1 lv st μ)
    (hdec : decode E.2.1.2.1 pc = .ok ((.aload_n n), len)) (hch : xchk E (pc, (.aload_n n), len, tg, cst) = true)
    (h : xstep (MW G d) E Q (pc, (.aload_n n), len, tg, cst) r lv st μ k) : WS G E (d + 1) (p, e, s, m, args, below, meth, c, R, nc, ns, QS, A) Q pc lv st μ := by
  intro hG hC hY H locs ls hP hS hl hlo hso
  obtain ⟨hx, hb, hr, hml, hown, hts, hK, hlocks⟩ := id hC
  have hD := xD_wld hG hY.2.1 μ
  have htw : ∀ w, xin w → w.before args s = true := fun w hw => hts w (xin_gw hw)
  simp only [xchk, decide_eq_true_eq] at hch
  obtain ⟨hlen, hi⟩ := hch
  subst hlen
  
  obtain ⟨x, ex, h⟩ := xgR_ex (show xgR lv _ _ from h)
  have h2 := hl.2.2 _ (show xnth lv (xt0 tg) ≠ vN by rw [ex]; intro z; cases z)
  have hq := hlo (xt0 tg)
  rw [ex] at h2 hq
  exact lv_aload_n hx hb hdec hi h2 (kN _ _ _ h hG hC hY H locs ls hP hS hl hlo ⟨hq, hso⟩)
set_option maxHeartbeats 1000000 in
theorem xso_aload {G : xG} {E : xE} {d : Nat} {Q : xP} {pc len : Nat} {tg : List Nat} {cst : xV} {r : List xT} {lv st : List xV} {μ : xM} {k : xK} {p : Program} {e : Env} {s : State} {m : MethodId} {args : Array Value} {below : List Frame} {meth : Method} {c : Code} {R : Room} {nc ns : Nat} {QS : State → Prop} {A : Nat → Prop} (n : Nat) (hE : xEok E)
    (kN : ∀ lv st μ, k r lv st μ → WS G E (d + 1) (p, e, s, m, args, below, meth, c, R, nc, ns, QS, A) Q (pc + len) lv st μ)
    (kJ : ∀ t e' r', E.2.2.1.drop t = e' :: r' → ∀ lv st μ, k (E.2.2.1.drop t) lv st μ → WS G E (d + 1) (p, e, s, m, args, below, meth, c, R, nc, ns, QS, A) Q e'.1 lv st μ)
    (hdec : decode E.2.1.2.1 pc = .ok ((.aload n), len)) (hch : xchk E (pc, (.aload n), len, tg, cst) = true)
    (h : xstep (MW G d) E Q (pc, (.aload n), len, tg, cst) r lv st μ k) : WS G E (d + 1) (p, e, s, m, args, below, meth, c, R, nc, ns, QS, A) Q pc lv st μ := by
  intro hG hC hY H locs ls hP hS hl hlo hso
  obtain ⟨hx, hb, hr, hml, hown, hts, hK, hlocks⟩ := id hC
  have hD := xD_wld hG hY.2.1 μ
  have htw : ∀ w, xin w → w.before args s = true := fun w hw => hts w (xin_gw hw)
  simp only [xchk, decide_eq_true_eq] at hch
  obtain ⟨hlen, hi⟩ := hch
  subst hlen
  subst hi
  obtain ⟨x, ex, h⟩ := xgR_ex (show xgR lv _ _ from h)
  have h2 := hl.2.2 _ (show xnth lv (xt0 tg) ≠ vN by rw [ex]; intro z; cases z)
  have hq := hlo (xt0 tg)
  rw [ex] at h2 hq
  exact lv_aload hx hb hdec h2 (kN _ _ _ h hG hC hY H locs ls hP hS hl hlo ⟨hq, hso⟩)
set_option maxHeartbeats 1000000 in
theorem xso_istore_n {G : xG} {E : xE} {d : Nat} {Q : xP} {pc len : Nat} {tg : List Nat} {cst : xV} {r : List xT} {lv st : List xV} {μ : xM} {k : xK} {p : Program} {e : Env} {s : State} {m : MethodId} {args : Array Value} {below : List Frame} {meth : Method} {c : Code} {R : Room} {nc ns : Nat} {QS : State → Prop} {A : Nat → Prop} (n : Fin 4) (hE : xEok E)
    (kN : ∀ lv st μ, k r lv st μ → WS G E (d + 1) (p, e, s, m, args, below, meth, c, R, nc, ns, QS, A) Q (pc + len) lv st μ)
    (kJ : ∀ t e' r', E.2.2.1.drop t = e' :: r' → ∀ lv st μ, k (E.2.2.1.drop t) lv st μ → WS G E (d + 1) (p, e, s, m, args, below, meth, c, R, nc, ns, QS, A) Q e'.1 lv st μ)
    (hdec : decode E.2.1.2.1 pc = .ok ((.istore_n n), len)) (hch : xchk E (pc, (.istore_n n), len, tg, cst) = true)
    (h : xstep (MW G d) E Q (pc, (.istore_n n), len, tg, cst) r lv st μ k) : WS G E (d + 1) (p, e, s, m, args, below, meth, c, R, nc, ns, QS, A) Q pc lv st μ := by
  intro hG hC hY H locs ls hP hS hl hlo hso
  obtain ⟨hx, hb, hr, hml, hown, hts, hK, hlocks⟩ := id hC
  have hD := xD_wld hG hY.2.1 μ
  have htw : ∀ w, xin w → w.before args s = true := fun w hw => hts w (xin_gw hw)
  simp only [xchk, decide_eq_true_eq] at hch
  obtain ⟨hlen, hi, hlt⟩ := hch
  subst hlen
  
  obtain ⟨x, s1, rfl, hh⟩ := xpI_ex (show xpI st _ from h)
  clear h
  have h := hh
  clear hh
  exact xw_istore_n hx hb hl hlt hdec hi (fun ls' hl' => kN _ _ _ h hG hC hY H locs ls' hP hS hl' (xlok_set (xlok_clr hlo _) _ trivial) hso.2)
set_option maxHeartbeats 1000000 in
theorem xso_istore {G : xG} {E : xE} {d : Nat} {Q : xP} {pc len : Nat} {tg : List Nat} {cst : xV} {r : List xT} {lv st : List xV} {μ : xM} {k : xK} {p : Program} {e : Env} {s : State} {m : MethodId} {args : Array Value} {below : List Frame} {meth : Method} {c : Code} {R : Room} {nc ns : Nat} {QS : State → Prop} {A : Nat → Prop} (n : Nat) (hE : xEok E)
    (kN : ∀ lv st μ, k r lv st μ → WS G E (d + 1) (p, e, s, m, args, below, meth, c, R, nc, ns, QS, A) Q (pc + len) lv st μ)
    (kJ : ∀ t e' r', E.2.2.1.drop t = e' :: r' → ∀ lv st μ, k (E.2.2.1.drop t) lv st μ → WS G E (d + 1) (p, e, s, m, args, below, meth, c, R, nc, ns, QS, A) Q e'.1 lv st μ)
    (hdec : decode E.2.1.2.1 pc = .ok ((.istore n), len)) (hch : xchk E (pc, (.istore n), len, tg, cst) = true)
    (h : xstep (MW G d) E Q (pc, (.istore n), len, tg, cst) r lv st μ k) : WS G E (d + 1) (p, e, s, m, args, below, meth, c, R, nc, ns, QS, A) Q pc lv st μ := by
  intro hG hC hY H locs ls hP hS hl hlo hso
  obtain ⟨hx, hb, hr, hml, hown, hts, hK, hlocks⟩ := id hC
  have hD := xD_wld hG hY.2.1 μ
  have htw : ∀ w, xin w → w.before args s = true := fun w hw => hts w (xin_gw hw)
  simp only [xchk, decide_eq_true_eq] at hch
  obtain ⟨hlen, hi, hlt⟩ := hch
  subst hlen
  subst hi
  obtain ⟨x, s1, rfl, hh⟩ := xpI_ex (show xpI st _ from h)
  clear h
  have h := hh
  clear hh
  exact xw_istore hx hb hl hlt hdec (fun ls' hl' => kN _ _ _ h hG hC hY H locs ls' hP hS hl' (xlok_set (xlok_clr hlo _) _ trivial) hso.2)
set_option maxHeartbeats 1000000 in
theorem xso_lstore_n {G : xG} {E : xE} {d : Nat} {Q : xP} {pc len : Nat} {tg : List Nat} {cst : xV} {r : List xT} {lv st : List xV} {μ : xM} {k : xK} {p : Program} {e : Env} {s : State} {m : MethodId} {args : Array Value} {below : List Frame} {meth : Method} {c : Code} {R : Room} {nc ns : Nat} {QS : State → Prop} {A : Nat → Prop} (n : Fin 4) (hE : xEok E)
    (kN : ∀ lv st μ, k r lv st μ → WS G E (d + 1) (p, e, s, m, args, below, meth, c, R, nc, ns, QS, A) Q (pc + len) lv st μ)
    (kJ : ∀ t e' r', E.2.2.1.drop t = e' :: r' → ∀ lv st μ, k (E.2.2.1.drop t) lv st μ → WS G E (d + 1) (p, e, s, m, args, below, meth, c, R, nc, ns, QS, A) Q e'.1 lv st μ)
    (hdec : decode E.2.1.2.1 pc = .ok ((.lstore_n n), len)) (hch : xchk E (pc, (.lstore_n n), len, tg, cst) = true)
    (h : xstep (MW G d) E Q (pc, (.lstore_n n), len, tg, cst) r lv st μ k) : WS G E (d + 1) (p, e, s, m, args, below, meth, c, R, nc, ns, QS, A) Q pc lv st μ := by
  intro hG hC hY H locs ls hP hS hl hlo hso
  obtain ⟨hx, hb, hr, hml, hown, hts, hK, hlocks⟩ := id hC
  have hD := xD_wld hG hY.2.1 μ
  have htw : ∀ w, xin w → w.before args s = true := fun w hw => hts w (xin_gw hw)
  simp only [xchk, decide_eq_true_eq] at hch
  obtain ⟨hlen, hi, hlt⟩ := hch
  subst hlen
  
  obtain ⟨x, s1, rfl, hh⟩ := xpL_ex (show xpL st _ from h)
  clear h
  have h := hh
  clear hh
  exact xw_lstore_n hx hb hl hlt hdec hi (fun ls' hl' => kN _ _ _ h hG hC hY H locs ls' hP hS hl' (xlok_set (xlok_set (xlok_clr hlo _) _ (v := vN) trivial) _ trivial) hso.2)
set_option maxHeartbeats 1000000 in
theorem xso_lstore {G : xG} {E : xE} {d : Nat} {Q : xP} {pc len : Nat} {tg : List Nat} {cst : xV} {r : List xT} {lv st : List xV} {μ : xM} {k : xK} {p : Program} {e : Env} {s : State} {m : MethodId} {args : Array Value} {below : List Frame} {meth : Method} {c : Code} {R : Room} {nc ns : Nat} {QS : State → Prop} {A : Nat → Prop} (n : Nat) (hE : xEok E)
    (kN : ∀ lv st μ, k r lv st μ → WS G E (d + 1) (p, e, s, m, args, below, meth, c, R, nc, ns, QS, A) Q (pc + len) lv st μ)
    (kJ : ∀ t e' r', E.2.2.1.drop t = e' :: r' → ∀ lv st μ, k (E.2.2.1.drop t) lv st μ → WS G E (d + 1) (p, e, s, m, args, below, meth, c, R, nc, ns, QS, A) Q e'.1 lv st μ)
    (hdec : decode E.2.1.2.1 pc = .ok ((.lstore n), len)) (hch : xchk E (pc, (.lstore n), len, tg, cst) = true)
    (h : xstep (MW G d) E Q (pc, (.lstore n), len, tg, cst) r lv st μ k) : WS G E (d + 1) (p, e, s, m, args, below, meth, c, R, nc, ns, QS, A) Q pc lv st μ := by
  intro hG hC hY H locs ls hP hS hl hlo hso
  obtain ⟨hx, hb, hr, hml, hown, hts, hK, hlocks⟩ := id hC
  have hD := xD_wld hG hY.2.1 μ
  have htw : ∀ w, xin w → w.before args s = true := fun w hw => hts w (xin_gw hw)
  simp only [xchk, decide_eq_true_eq] at hch
  obtain ⟨hlen, hi, hlt⟩ := hch
  subst hlen
  subst hi
  obtain ⟨x, s1, rfl, hh⟩ := xpL_ex (show xpL st _ from h)
  clear h
  have h := hh
  clear hh
  exact xw_lstore hx hb hl hlt hdec (fun ls' hl' => kN _ _ _ h hG hC hY H locs ls' hP hS hl' (xlok_set (xlok_set (xlok_clr hlo _) _ (v := vN) trivial) _ trivial) hso.2)
set_option maxHeartbeats 1000000 in
theorem xso_astore_n {G : xG} {E : xE} {d : Nat} {Q : xP} {pc len : Nat} {tg : List Nat} {cst : xV} {r : List xT} {lv st : List xV} {μ : xM} {k : xK} {p : Program} {e : Env} {s : State} {m : MethodId} {args : Array Value} {below : List Frame} {meth : Method} {c : Code} {R : Room} {nc ns : Nat} {QS : State → Prop} {A : Nat → Prop} (n : Fin 4) (hE : xEok E)
    (kN : ∀ lv st μ, k r lv st μ → WS G E (d + 1) (p, e, s, m, args, below, meth, c, R, nc, ns, QS, A) Q (pc + len) lv st μ)
    (kJ : ∀ t e' r', E.2.2.1.drop t = e' :: r' → ∀ lv st μ, k (E.2.2.1.drop t) lv st μ → WS G E (d + 1) (p, e, s, m, args, below, meth, c, R, nc, ns, QS, A) Q e'.1 lv st μ)
    (hdec : decode E.2.1.2.1 pc = .ok ((.astore_n n), len)) (hch : xchk E (pc, (.astore_n n), len, tg, cst) = true)
    (h : xstep (MW G d) E Q (pc, (.astore_n n), len, tg, cst) r lv st μ k) : WS G E (d + 1) (p, e, s, m, args, below, meth, c, R, nc, ns, QS, A) Q pc lv st μ := by
  intro hG hC hY H locs ls hP hS hl hlo hso
  obtain ⟨hx, hb, hr, hml, hown, hts, hK, hlocks⟩ := id hC
  have hD := xD_wld hG hY.2.1 μ
  have htw : ∀ w, xin w → w.before args s = true := fun w hw => hts w (xin_gw hw)
  simp only [xchk, decide_eq_true_eq] at hch
  obtain ⟨hlen, hi, hlt⟩ := hch
  subst hlen
  
  obtain ⟨x, s1, rfl, hh⟩ := xpR_ex (show xpR st _ from h)
  clear h
  have h := hh
  clear hh
  exact xw_astore_n hx hb hl hlt hdec hi (fun ls' hl' => kN _ _ _ h hG hC hY H locs ls' hP hS hl' (xlok_set (xlok_clr hlo _) _ hso.1) hso.2)
set_option maxHeartbeats 1000000 in
theorem xso_astore {G : xG} {E : xE} {d : Nat} {Q : xP} {pc len : Nat} {tg : List Nat} {cst : xV} {r : List xT} {lv st : List xV} {μ : xM} {k : xK} {p : Program} {e : Env} {s : State} {m : MethodId} {args : Array Value} {below : List Frame} {meth : Method} {c : Code} {R : Room} {nc ns : Nat} {QS : State → Prop} {A : Nat → Prop} (n : Nat) (hE : xEok E)
    (kN : ∀ lv st μ, k r lv st μ → WS G E (d + 1) (p, e, s, m, args, below, meth, c, R, nc, ns, QS, A) Q (pc + len) lv st μ)
    (kJ : ∀ t e' r', E.2.2.1.drop t = e' :: r' → ∀ lv st μ, k (E.2.2.1.drop t) lv st μ → WS G E (d + 1) (p, e, s, m, args, below, meth, c, R, nc, ns, QS, A) Q e'.1 lv st μ)
    (hdec : decode E.2.1.2.1 pc = .ok ((.astore n), len)) (hch : xchk E (pc, (.astore n), len, tg, cst) = true)
    (h : xstep (MW G d) E Q (pc, (.astore n), len, tg, cst) r lv st μ k) : WS G E (d + 1) (p, e, s, m, args, below, meth, c, R, nc, ns, QS, A) Q pc lv st μ := by
  intro hG hC hY H locs ls hP hS hl hlo hso
  obtain ⟨hx, hb, hr, hml, hown, hts, hK, hlocks⟩ := id hC
  have hD := xD_wld hG hY.2.1 μ
  have htw : ∀ w, xin w → w.before args s = true := fun w hw => hts w (xin_gw hw)
  simp only [xchk, decide_eq_true_eq] at hch
  obtain ⟨hlen, hi, hlt⟩ := hch
  subst hlen
  subst hi
  obtain ⟨x, s1, rfl, hh⟩ := xpR_ex (show xpR st _ from h)
  clear h
  have h := hh
  clear hh
  exact xw_astore hx hb hl hlt hdec (fun ls' hl' => kN _ _ _ h hG hC hY H locs ls' hP hS hl' (xlok_set (xlok_clr hlo _) _ hso.1) hso.2)
set_option maxHeartbeats 1000000 in
theorem xso_iconst {G : xG} {E : xE} {d : Nat} {Q : xP} {pc len : Nat} {tg : List Nat} {cst : xV} {r : List xT} {lv st : List xV} {μ : xM} {k : xK} {p : Program} {e : Env} {s : State} {m : MethodId} {args : Array Value} {below : List Frame} {meth : Method} {c : Code} {R : Room} {nc ns : Nat} {QS : State → Prop} {A : Nat → Prop} (n : Int) (hE : xEok E)
    (kN : ∀ lv st μ, k r lv st μ → WS G E (d + 1) (p, e, s, m, args, below, meth, c, R, nc, ns, QS, A) Q (pc + len) lv st μ)
    (kJ : ∀ t e' r', E.2.2.1.drop t = e' :: r' → ∀ lv st μ, k (E.2.2.1.drop t) lv st μ → WS G E (d + 1) (p, e, s, m, args, below, meth, c, R, nc, ns, QS, A) Q e'.1 lv st μ)
    (hdec : decode E.2.1.2.1 pc = .ok ((.iconst n), len)) (hch : xchk E (pc, (.iconst n), len, tg, cst) = true)
    (h : xstep (MW G d) E Q (pc, (.iconst n), len, tg, cst) r lv st μ k) : WS G E (d + 1) (p, e, s, m, args, below, meth, c, R, nc, ns, QS, A) Q pc lv st μ := by
  intro hG hC hY H locs ls hP hS hl hlo hso
  obtain ⟨hx, hb, hr, hml, hown, hts, hK, hlocks⟩ := id hC
  have hD := xD_wld hG hY.2.1 μ
  have htw : ∀ w, xin w → w.before args s = true := fun w hw => hts w (xin_gw hw)
  simp only [xchk, Bool.and_eq_true, decide_eq_true_eq] at hch
  obtain ⟨hlen, hc⟩ := hch
  subst hlen
  obtain ⟨x, rfl, hh⟩ := xcI_ex (show xcI cst _ from h)
  clear h
  have h := hh
  clear hh
  exact lv_iconst hx hb hdec (of_decide_eq_true (show decide (Int32.ofInt n = x) = true from hc)) (kN _ _ _ h hG hC hY H locs ls hP hS hl hlo ⟨trivial, hso⟩)
set_option maxHeartbeats 1000000 in
theorem xso_bipush {G : xG} {E : xE} {d : Nat} {Q : xP} {pc len : Nat} {tg : List Nat} {cst : xV} {r : List xT} {lv st : List xV} {μ : xM} {k : xK} {p : Program} {e : Env} {s : State} {m : MethodId} {args : Array Value} {below : List Frame} {meth : Method} {c : Code} {R : Room} {nc ns : Nat} {QS : State → Prop} {A : Nat → Prop} (n : Int) (hE : xEok E)
    (kN : ∀ lv st μ, k r lv st μ → WS G E (d + 1) (p, e, s, m, args, below, meth, c, R, nc, ns, QS, A) Q (pc + len) lv st μ)
    (kJ : ∀ t e' r', E.2.2.1.drop t = e' :: r' → ∀ lv st μ, k (E.2.2.1.drop t) lv st μ → WS G E (d + 1) (p, e, s, m, args, below, meth, c, R, nc, ns, QS, A) Q e'.1 lv st μ)
    (hdec : decode E.2.1.2.1 pc = .ok ((.bipush n), len)) (hch : xchk E (pc, (.bipush n), len, tg, cst) = true)
    (h : xstep (MW G d) E Q (pc, (.bipush n), len, tg, cst) r lv st μ k) : WS G E (d + 1) (p, e, s, m, args, below, meth, c, R, nc, ns, QS, A) Q pc lv st μ := by
  intro hG hC hY H locs ls hP hS hl hlo hso
  obtain ⟨hx, hb, hr, hml, hown, hts, hK, hlocks⟩ := id hC
  have hD := xD_wld hG hY.2.1 μ
  have htw : ∀ w, xin w → w.before args s = true := fun w hw => hts w (xin_gw hw)
  simp only [xchk, Bool.and_eq_true, decide_eq_true_eq] at hch
  obtain ⟨hlen, hc⟩ := hch
  subst hlen
  obtain ⟨x, rfl, hh⟩ := xcI_ex (show xcI cst _ from h)
  clear h
  have h := hh
  clear hh
  exact lv_bipush hx hb hdec (of_decide_eq_true (show decide ((Int8.ofInt n).toInt32 = x) = true from hc)) (kN _ _ _ h hG hC hY H locs ls hP hS hl hlo ⟨trivial, hso⟩)
set_option maxHeartbeats 1000000 in
theorem xso_sipush {G : xG} {E : xE} {d : Nat} {Q : xP} {pc len : Nat} {tg : List Nat} {cst : xV} {r : List xT} {lv st : List xV} {μ : xM} {k : xK} {p : Program} {e : Env} {s : State} {m : MethodId} {args : Array Value} {below : List Frame} {meth : Method} {c : Code} {R : Room} {nc ns : Nat} {QS : State → Prop} {A : Nat → Prop} (n : Int) (hE : xEok E)
    (kN : ∀ lv st μ, k r lv st μ → WS G E (d + 1) (p, e, s, m, args, below, meth, c, R, nc, ns, QS, A) Q (pc + len) lv st μ)
    (kJ : ∀ t e' r', E.2.2.1.drop t = e' :: r' → ∀ lv st μ, k (E.2.2.1.drop t) lv st μ → WS G E (d + 1) (p, e, s, m, args, below, meth, c, R, nc, ns, QS, A) Q e'.1 lv st μ)
    (hdec : decode E.2.1.2.1 pc = .ok ((.sipush n), len)) (hch : xchk E (pc, (.sipush n), len, tg, cst) = true)
    (h : xstep (MW G d) E Q (pc, (.sipush n), len, tg, cst) r lv st μ k) : WS G E (d + 1) (p, e, s, m, args, below, meth, c, R, nc, ns, QS, A) Q pc lv st μ := by
  intro hG hC hY H locs ls hP hS hl hlo hso
  obtain ⟨hx, hb, hr, hml, hown, hts, hK, hlocks⟩ := id hC
  have hD := xD_wld hG hY.2.1 μ
  have htw : ∀ w, xin w → w.before args s = true := fun w hw => hts w (xin_gw hw)
  simp only [xchk, Bool.and_eq_true, decide_eq_true_eq] at hch
  obtain ⟨hlen, hc⟩ := hch
  subst hlen
  obtain ⟨x, rfl, hh⟩ := xcI_ex (show xcI cst _ from h)
  clear h
  have h := hh
  clear hh
  exact lv_sipush hx hb hdec (of_decide_eq_true (show decide ((Int16.ofInt n).toInt32 = x) = true from hc)) (kN _ _ _ h hG hC hY H locs ls hP hS hl hlo ⟨trivial, hso⟩)
set_option maxHeartbeats 1000000 in
theorem xso_lconst {G : xG} {E : xE} {d : Nat} {Q : xP} {pc len : Nat} {tg : List Nat} {cst : xV} {r : List xT} {lv st : List xV} {μ : xM} {k : xK} {p : Program} {e : Env} {s : State} {m : MethodId} {args : Array Value} {below : List Frame} {meth : Method} {c : Code} {R : Room} {nc ns : Nat} {QS : State → Prop} {A : Nat → Prop} (n : Fin 2) (hE : xEok E)
    (kN : ∀ lv st μ, k r lv st μ → WS G E (d + 1) (p, e, s, m, args, below, meth, c, R, nc, ns, QS, A) Q (pc + len) lv st μ)
    (kJ : ∀ t e' r', E.2.2.1.drop t = e' :: r' → ∀ lv st μ, k (E.2.2.1.drop t) lv st μ → WS G E (d + 1) (p, e, s, m, args, below, meth, c, R, nc, ns, QS, A) Q e'.1 lv st μ)
    (hdec : decode E.2.1.2.1 pc = .ok ((.lconst n), len)) (hch : xchk E (pc, (.lconst n), len, tg, cst) = true)
    (h : xstep (MW G d) E Q (pc, (.lconst n), len, tg, cst) r lv st μ k) : WS G E (d + 1) (p, e, s, m, args, below, meth, c, R, nc, ns, QS, A) Q pc lv st μ := by
  intro hG hC hY H locs ls hP hS hl hlo hso
  obtain ⟨hx, hb, hr, hml, hown, hts, hK, hlocks⟩ := id hC
  have hD := xD_wld hG hY.2.1 μ
  have htw : ∀ w, xin w → w.before args s = true := fun w hw => hts w (xin_gw hw)
  simp only [xchk, Bool.and_eq_true, decide_eq_true_eq] at hch
  obtain ⟨hlen, hc⟩ := hch
  subst hlen
  obtain ⟨x, rfl, hh⟩ := xcL_ex (show xcL cst _ from h)
  clear h
  have h := hh
  clear hh
  exact lv_lconst hx hb hdec (of_decide_eq_true (show decide (Int64.ofNat n.val = x) = true from hc)) (kN _ _ _ h hG hC hY H locs ls hP hS hl hlo ⟨trivial, hso⟩)
set_option maxHeartbeats 1000000 in
theorem xso_ldc {G : xG} {E : xE} {d : Nat} {Q : xP} {pc len : Nat} {tg : List Nat} {cst : xV} {r : List xT} {lv st : List xV} {μ : xM} {k : xK} {p : Program} {e : Env} {s : State} {m : MethodId} {args : Array Value} {below : List Frame} {meth : Method} {c : Code} {R : Room} {nc ns : Nat} {QS : State → Prop} {A : Nat → Prop} (n : Nat) (hE : xEok E)
    (kN : ∀ lv st μ, k r lv st μ → WS G E (d + 1) (p, e, s, m, args, below, meth, c, R, nc, ns, QS, A) Q (pc + len) lv st μ)
    (kJ : ∀ t e' r', E.2.2.1.drop t = e' :: r' → ∀ lv st μ, k (E.2.2.1.drop t) lv st μ → WS G E (d + 1) (p, e, s, m, args, below, meth, c, R, nc, ns, QS, A) Q e'.1 lv st μ)
    (hdec : decode E.2.1.2.1 pc = .ok ((.ldc n), len)) (hch : xchk E (pc, (.ldc n), len, tg, cst) = true)
    (h : xstep (MW G d) E Q (pc, (.ldc n), len, tg, cst) r lv st μ k) : WS G E (d + 1) (p, e, s, m, args, below, meth, c, R, nc, ns, QS, A) Q pc lv st μ := by
  intro hG hC hY H locs ls hP hS hl hlo hso
  obtain ⟨hx, hb, hr, hml, hown, hts, hK, hlocks⟩ := id hC
  have hD := xD_wld hG hY.2.1 μ
  have htw : ∀ w, xin w → w.before args s = true := fun w hw => hts w (xin_gw hw)
  simp only [xchk, Bool.and_eq_true, decide_eq_true_eq] at hch
  obtain ⟨hlen, hc⟩ := hch
  subst hlen
  obtain ⟨q, hq, eq⟩ := List.any_eq_true.mp hc
  have eq := of_decide_eq_true eq
  obtain ⟨x, rfl, hh⟩ := xcI_ex (show xcI cst _ from h)
  clear h
  have h := hh
  clear hh
  have hF := hE.2.2.2.1.2.2.2.1 q hq
  subst eq
  exact lv_ldc hx hb hown (htw _ hF) hdec (kN _ _ _ h hG hC hY H locs ls hP hS hl hlo ⟨trivial, hso⟩)
set_option maxHeartbeats 1000000 in
theorem xso_ldc_w {G : xG} {E : xE} {d : Nat} {Q : xP} {pc len : Nat} {tg : List Nat} {cst : xV} {r : List xT} {lv st : List xV} {μ : xM} {k : xK} {p : Program} {e : Env} {s : State} {m : MethodId} {args : Array Value} {below : List Frame} {meth : Method} {c : Code} {R : Room} {nc ns : Nat} {QS : State → Prop} {A : Nat → Prop} (n : Nat) (hE : xEok E)
    (kN : ∀ lv st μ, k r lv st μ → WS G E (d + 1) (p, e, s, m, args, below, meth, c, R, nc, ns, QS, A) Q (pc + len) lv st μ)
    (kJ : ∀ t e' r', E.2.2.1.drop t = e' :: r' → ∀ lv st μ, k (E.2.2.1.drop t) lv st μ → WS G E (d + 1) (p, e, s, m, args, below, meth, c, R, nc, ns, QS, A) Q e'.1 lv st μ)
    (hdec : decode E.2.1.2.1 pc = .ok ((.ldc_w n), len)) (hch : xchk E (pc, (.ldc_w n), len, tg, cst) = true)
    (h : xstep (MW G d) E Q (pc, (.ldc_w n), len, tg, cst) r lv st μ k) : WS G E (d + 1) (p, e, s, m, args, below, meth, c, R, nc, ns, QS, A) Q pc lv st μ := by
  intro hG hC hY H locs ls hP hS hl hlo hso
  obtain ⟨hx, hb, hr, hml, hown, hts, hK, hlocks⟩ := id hC
  have hD := xD_wld hG hY.2.1 μ
  have htw : ∀ w, xin w → w.before args s = true := fun w hw => hts w (xin_gw hw)
  simp only [xchk, Bool.and_eq_true, decide_eq_true_eq] at hch
  obtain ⟨hlen, hc⟩ := hch
  subst hlen
  obtain ⟨q, hq, eq⟩ := List.any_eq_true.mp hc
  have eq := of_decide_eq_true eq
  obtain ⟨x, rfl, hh⟩ := xcI_ex (show xcI cst _ from h)
  clear h
  have h := hh
  clear hh
  have hF := hE.2.2.2.1.2.2.2.1 q hq
  subst eq
  exact lv_ldcw hx hb hown (htw _ hF) hdec (kN _ _ _ h hG hC hY H locs ls hP hS hl hlo ⟨trivial, hso⟩)
set_option maxHeartbeats 1000000 in
theorem xso_ldc2_w {G : xG} {E : xE} {d : Nat} {Q : xP} {pc len : Nat} {tg : List Nat} {cst : xV} {r : List xT} {lv st : List xV} {μ : xM} {k : xK} {p : Program} {e : Env} {s : State} {m : MethodId} {args : Array Value} {below : List Frame} {meth : Method} {c : Code} {R : Room} {nc ns : Nat} {QS : State → Prop} {A : Nat → Prop} (n : Nat) (hE : xEok E)
    (kN : ∀ lv st μ, k r lv st μ → WS G E (d + 1) (p, e, s, m, args, below, meth, c, R, nc, ns, QS, A) Q (pc + len) lv st μ)
    (kJ : ∀ t e' r', E.2.2.1.drop t = e' :: r' → ∀ lv st μ, k (E.2.2.1.drop t) lv st μ → WS G E (d + 1) (p, e, s, m, args, below, meth, c, R, nc, ns, QS, A) Q e'.1 lv st μ)
    (hdec : decode E.2.1.2.1 pc = .ok ((.ldc2_w n), len)) (hch : xchk E (pc, (.ldc2_w n), len, tg, cst) = true)
    (h : xstep (MW G d) E Q (pc, (.ldc2_w n), len, tg, cst) r lv st μ k) : WS G E (d + 1) (p, e, s, m, args, below, meth, c, R, nc, ns, QS, A) Q pc lv st μ := by
  intro hG hC hY H locs ls hP hS hl hlo hso
  obtain ⟨hx, hb, hr, hml, hown, hts, hK, hlocks⟩ := id hC
  have hD := xD_wld hG hY.2.1 μ
  have htw : ∀ w, xin w → w.before args s = true := fun w hw => hts w (xin_gw hw)
  simp only [xchk, Bool.and_eq_true, decide_eq_true_eq] at hch
  obtain ⟨hlen, hc⟩ := hch
  subst hlen
  obtain ⟨q, hq, eq⟩ := List.any_eq_true.mp hc
  have eq := of_decide_eq_true eq
  obtain ⟨x, rfl, hh⟩ := xcL_ex (show xcL cst _ from h)
  clear h
  have h := hh
  clear hh
  have hF := hE.2.2.2.1.2.2.2.1 q hq
  subst eq
  exact lv_ldc2 hx hb hown (htw _ hF) hdec (kN _ _ _ h hG hC hY H locs ls hP hS hl hlo ⟨trivial, hso⟩)
set_option maxHeartbeats 1000000 in
theorem xso_aconst_null {G : xG} {E : xE} {d : Nat} {Q : xP} {pc len : Nat} {tg : List Nat} {cst : xV} {r : List xT} {lv st : List xV} {μ : xM} {k : xK} {p : Program} {e : Env} {s : State} {m : MethodId} {args : Array Value} {below : List Frame} {meth : Method} {c : Code} {R : Room} {nc ns : Nat} {QS : State → Prop} {A : Nat → Prop} (hE : xEok E)
    (kN : ∀ lv st μ, k r lv st μ → WS G E (d + 1) (p, e, s, m, args, below, meth, c, R, nc, ns, QS, A) Q (pc + len) lv st μ)
    (kJ : ∀ t e' r', E.2.2.1.drop t = e' :: r' → ∀ lv st μ, k (E.2.2.1.drop t) lv st μ → WS G E (d + 1) (p, e, s, m, args, below, meth, c, R, nc, ns, QS, A) Q e'.1 lv st μ)
    (hdec : decode E.2.1.2.1 pc = .ok ((.aconst_null), len)) (hch : xchk E (pc, (.aconst_null), len, tg, cst) = true)
    (h : xstep (MW G d) E Q (pc, (.aconst_null), len, tg, cst) r lv st μ k) : WS G E (d + 1) (p, e, s, m, args, below, meth, c, R, nc, ns, QS, A) Q pc lv st μ := by
  intro hG hC hY H locs ls hP hS hl hlo hso
  obtain ⟨hx, hb, hr, hml, hown, hts, hK, hlocks⟩ := id hC
  have hD := xD_wld hG hY.2.1 μ
  have htw : ∀ w, xin w → w.before args s = true := fun w hw => hts w (xin_gw hw)
  simp only [xchk, decide_eq_true_eq] at hch
  subst hch
  exact lv_null hx hb hdec (kN _ _ _ h hG hC hY H locs ls hP hS hl hlo ⟨trivial, hso⟩)
set_option maxHeartbeats 1000000 in
theorem xso_iadd {G : xG} {E : xE} {d : Nat} {Q : xP} {pc len : Nat} {tg : List Nat} {cst : xV} {r : List xT} {lv st : List xV} {μ : xM} {k : xK} {p : Program} {e : Env} {s : State} {m : MethodId} {args : Array Value} {below : List Frame} {meth : Method} {c : Code} {R : Room} {nc ns : Nat} {QS : State → Prop} {A : Nat → Prop} (hE : xEok E)
    (kN : ∀ lv st μ, k r lv st μ → WS G E (d + 1) (p, e, s, m, args, below, meth, c, R, nc, ns, QS, A) Q (pc + len) lv st μ)
    (kJ : ∀ t e' r', E.2.2.1.drop t = e' :: r' → ∀ lv st μ, k (E.2.2.1.drop t) lv st μ → WS G E (d + 1) (p, e, s, m, args, below, meth, c, R, nc, ns, QS, A) Q e'.1 lv st μ)
    (hdec : decode E.2.1.2.1 pc = .ok ((.iadd), len)) (hch : xchk E (pc, (.iadd), len, tg, cst) = true)
    (h : xstep (MW G d) E Q (pc, (.iadd), len, tg, cst) r lv st μ k) : WS G E (d + 1) (p, e, s, m, args, below, meth, c, R, nc, ns, QS, A) Q pc lv st μ := by
  intro hG hC hY H locs ls hP hS hl hlo hso
  obtain ⟨hx, hb, hr, hml, hown, hts, hK, hlocks⟩ := id hC
  have hD := xD_wld hG hY.2.1 μ
  have htw : ∀ w, xin w → w.before args s = true := fun w hw => hts w (xin_gw hw)
  simp only [xchk, decide_eq_true_eq] at hch
  subst hch
  obtain ⟨y, s1, rfl, hh⟩ := xpI_ex (show xpI st _ from h)
  clear h
  have h := hh
  clear hh
  obtain ⟨x, s2, rfl, hh⟩ := xpI_ex h
  clear h
  have h := hh
  clear hh
  exact lv_iadd hx hb hdec (kN _ _ _ h hG hC hY H locs ls hP hS hl hlo ⟨trivial, hso.2.2⟩)
set_option maxHeartbeats 1000000 in
theorem xso_isub {G : xG} {E : xE} {d : Nat} {Q : xP} {pc len : Nat} {tg : List Nat} {cst : xV} {r : List xT} {lv st : List xV} {μ : xM} {k : xK} {p : Program} {e : Env} {s : State} {m : MethodId} {args : Array Value} {below : List Frame} {meth : Method} {c : Code} {R : Room} {nc ns : Nat} {QS : State → Prop} {A : Nat → Prop} (hE : xEok E)
    (kN : ∀ lv st μ, k r lv st μ → WS G E (d + 1) (p, e, s, m, args, below, meth, c, R, nc, ns, QS, A) Q (pc + len) lv st μ)
    (kJ : ∀ t e' r', E.2.2.1.drop t = e' :: r' → ∀ lv st μ, k (E.2.2.1.drop t) lv st μ → WS G E (d + 1) (p, e, s, m, args, below, meth, c, R, nc, ns, QS, A) Q e'.1 lv st μ)
    (hdec : decode E.2.1.2.1 pc = .ok ((.isub), len)) (hch : xchk E (pc, (.isub), len, tg, cst) = true)
    (h : xstep (MW G d) E Q (pc, (.isub), len, tg, cst) r lv st μ k) : WS G E (d + 1) (p, e, s, m, args, below, meth, c, R, nc, ns, QS, A) Q pc lv st μ := by
  intro hG hC hY H locs ls hP hS hl hlo hso
  obtain ⟨hx, hb, hr, hml, hown, hts, hK, hlocks⟩ := id hC
  have hD := xD_wld hG hY.2.1 μ
  have htw : ∀ w, xin w → w.before args s = true := fun w hw => hts w (xin_gw hw)
  simp only [xchk, decide_eq_true_eq] at hch
  subst hch
  obtain ⟨y, s1, rfl, hh⟩ := xpI_ex (show xpI st _ from h)
  clear h
  have h := hh
  clear hh
  obtain ⟨x, s2, rfl, hh⟩ := xpI_ex h
  clear h
  have h := hh
  clear hh
  exact lv_isub hx hb hdec (kN _ _ _ h hG hC hY H locs ls hP hS hl hlo ⟨trivial, hso.2.2⟩)
set_option maxHeartbeats 1000000 in
theorem xso_imul {G : xG} {E : xE} {d : Nat} {Q : xP} {pc len : Nat} {tg : List Nat} {cst : xV} {r : List xT} {lv st : List xV} {μ : xM} {k : xK} {p : Program} {e : Env} {s : State} {m : MethodId} {args : Array Value} {below : List Frame} {meth : Method} {c : Code} {R : Room} {nc ns : Nat} {QS : State → Prop} {A : Nat → Prop} (hE : xEok E)
    (kN : ∀ lv st μ, k r lv st μ → WS G E (d + 1) (p, e, s, m, args, below, meth, c, R, nc, ns, QS, A) Q (pc + len) lv st μ)
    (kJ : ∀ t e' r', E.2.2.1.drop t = e' :: r' → ∀ lv st μ, k (E.2.2.1.drop t) lv st μ → WS G E (d + 1) (p, e, s, m, args, below, meth, c, R, nc, ns, QS, A) Q e'.1 lv st μ)
    (hdec : decode E.2.1.2.1 pc = .ok ((.imul), len)) (hch : xchk E (pc, (.imul), len, tg, cst) = true)
    (h : xstep (MW G d) E Q (pc, (.imul), len, tg, cst) r lv st μ k) : WS G E (d + 1) (p, e, s, m, args, below, meth, c, R, nc, ns, QS, A) Q pc lv st μ := by
  intro hG hC hY H locs ls hP hS hl hlo hso
  obtain ⟨hx, hb, hr, hml, hown, hts, hK, hlocks⟩ := id hC
  have hD := xD_wld hG hY.2.1 μ
  have htw : ∀ w, xin w → w.before args s = true := fun w hw => hts w (xin_gw hw)
  simp only [xchk, decide_eq_true_eq] at hch
  subst hch
  obtain ⟨y, s1, rfl, hh⟩ := xpI_ex (show xpI st _ from h)
  clear h
  have h := hh
  clear hh
  obtain ⟨x, s2, rfl, hh⟩ := xpI_ex h
  clear h
  have h := hh
  clear hh
  exact lv_imul hx hb hdec (kN _ _ _ h hG hC hY H locs ls hP hS hl hlo ⟨trivial, hso.2.2⟩)
set_option maxHeartbeats 1000000 in
theorem xso_iand {G : xG} {E : xE} {d : Nat} {Q : xP} {pc len : Nat} {tg : List Nat} {cst : xV} {r : List xT} {lv st : List xV} {μ : xM} {k : xK} {p : Program} {e : Env} {s : State} {m : MethodId} {args : Array Value} {below : List Frame} {meth : Method} {c : Code} {R : Room} {nc ns : Nat} {QS : State → Prop} {A : Nat → Prop} (hE : xEok E)
    (kN : ∀ lv st μ, k r lv st μ → WS G E (d + 1) (p, e, s, m, args, below, meth, c, R, nc, ns, QS, A) Q (pc + len) lv st μ)
    (kJ : ∀ t e' r', E.2.2.1.drop t = e' :: r' → ∀ lv st μ, k (E.2.2.1.drop t) lv st μ → WS G E (d + 1) (p, e, s, m, args, below, meth, c, R, nc, ns, QS, A) Q e'.1 lv st μ)
    (hdec : decode E.2.1.2.1 pc = .ok ((.iand), len)) (hch : xchk E (pc, (.iand), len, tg, cst) = true)
    (h : xstep (MW G d) E Q (pc, (.iand), len, tg, cst) r lv st μ k) : WS G E (d + 1) (p, e, s, m, args, below, meth, c, R, nc, ns, QS, A) Q pc lv st μ := by
  intro hG hC hY H locs ls hP hS hl hlo hso
  obtain ⟨hx, hb, hr, hml, hown, hts, hK, hlocks⟩ := id hC
  have hD := xD_wld hG hY.2.1 μ
  have htw : ∀ w, xin w → w.before args s = true := fun w hw => hts w (xin_gw hw)
  simp only [xchk, decide_eq_true_eq] at hch
  subst hch
  obtain ⟨y, s1, rfl, hh⟩ := xpI_ex (show xpI st _ from h)
  clear h
  have h := hh
  clear hh
  obtain ⟨x, s2, rfl, hh⟩ := xpI_ex h
  clear h
  have h := hh
  clear hh
  exact lv_iand hx hb hdec (kN _ _ _ h hG hC hY H locs ls hP hS hl hlo ⟨trivial, hso.2.2⟩)
set_option maxHeartbeats 1000000 in
theorem xso_ior {G : xG} {E : xE} {d : Nat} {Q : xP} {pc len : Nat} {tg : List Nat} {cst : xV} {r : List xT} {lv st : List xV} {μ : xM} {k : xK} {p : Program} {e : Env} {s : State} {m : MethodId} {args : Array Value} {below : List Frame} {meth : Method} {c : Code} {R : Room} {nc ns : Nat} {QS : State → Prop} {A : Nat → Prop} (hE : xEok E)
    (kN : ∀ lv st μ, k r lv st μ → WS G E (d + 1) (p, e, s, m, args, below, meth, c, R, nc, ns, QS, A) Q (pc + len) lv st μ)
    (kJ : ∀ t e' r', E.2.2.1.drop t = e' :: r' → ∀ lv st μ, k (E.2.2.1.drop t) lv st μ → WS G E (d + 1) (p, e, s, m, args, below, meth, c, R, nc, ns, QS, A) Q e'.1 lv st μ)
    (hdec : decode E.2.1.2.1 pc = .ok ((.ior), len)) (hch : xchk E (pc, (.ior), len, tg, cst) = true)
    (h : xstep (MW G d) E Q (pc, (.ior), len, tg, cst) r lv st μ k) : WS G E (d + 1) (p, e, s, m, args, below, meth, c, R, nc, ns, QS, A) Q pc lv st μ := by
  intro hG hC hY H locs ls hP hS hl hlo hso
  obtain ⟨hx, hb, hr, hml, hown, hts, hK, hlocks⟩ := id hC
  have hD := xD_wld hG hY.2.1 μ
  have htw : ∀ w, xin w → w.before args s = true := fun w hw => hts w (xin_gw hw)
  simp only [xchk, decide_eq_true_eq] at hch
  subst hch
  obtain ⟨y, s1, rfl, hh⟩ := xpI_ex (show xpI st _ from h)
  clear h
  have h := hh
  clear hh
  obtain ⟨x, s2, rfl, hh⟩ := xpI_ex h
  clear h
  have h := hh
  clear hh
  exact lv_ior hx hb hdec (kN _ _ _ h hG hC hY H locs ls hP hS hl hlo ⟨trivial, hso.2.2⟩)
set_option maxHeartbeats 1000000 in
theorem xso_ixor {G : xG} {E : xE} {d : Nat} {Q : xP} {pc len : Nat} {tg : List Nat} {cst : xV} {r : List xT} {lv st : List xV} {μ : xM} {k : xK} {p : Program} {e : Env} {s : State} {m : MethodId} {args : Array Value} {below : List Frame} {meth : Method} {c : Code} {R : Room} {nc ns : Nat} {QS : State → Prop} {A : Nat → Prop} (hE : xEok E)
    (kN : ∀ lv st μ, k r lv st μ → WS G E (d + 1) (p, e, s, m, args, below, meth, c, R, nc, ns, QS, A) Q (pc + len) lv st μ)
    (kJ : ∀ t e' r', E.2.2.1.drop t = e' :: r' → ∀ lv st μ, k (E.2.2.1.drop t) lv st μ → WS G E (d + 1) (p, e, s, m, args, below, meth, c, R, nc, ns, QS, A) Q e'.1 lv st μ)
    (hdec : decode E.2.1.2.1 pc = .ok ((.ixor), len)) (hch : xchk E (pc, (.ixor), len, tg, cst) = true)
    (h : xstep (MW G d) E Q (pc, (.ixor), len, tg, cst) r lv st μ k) : WS G E (d + 1) (p, e, s, m, args, below, meth, c, R, nc, ns, QS, A) Q pc lv st μ := by
  intro hG hC hY H locs ls hP hS hl hlo hso
  obtain ⟨hx, hb, hr, hml, hown, hts, hK, hlocks⟩ := id hC
  have hD := xD_wld hG hY.2.1 μ
  have htw : ∀ w, xin w → w.before args s = true := fun w hw => hts w (xin_gw hw)
  simp only [xchk, decide_eq_true_eq] at hch
  subst hch
  obtain ⟨y, s1, rfl, hh⟩ := xpI_ex (show xpI st _ from h)
  clear h
  have h := hh
  clear hh
  obtain ⟨x, s2, rfl, hh⟩ := xpI_ex h
  clear h
  have h := hh
  clear hh
  exact lv_ixor hx hb hdec (kN _ _ _ h hG hC hY H locs ls hP hS hl hlo ⟨trivial, hso.2.2⟩)
set_option maxHeartbeats 1000000 in
theorem xso_ishl {G : xG} {E : xE} {d : Nat} {Q : xP} {pc len : Nat} {tg : List Nat} {cst : xV} {r : List xT} {lv st : List xV} {μ : xM} {k : xK} {p : Program} {e : Env} {s : State} {m : MethodId} {args : Array Value} {below : List Frame} {meth : Method} {c : Code} {R : Room} {nc ns : Nat} {QS : State → Prop} {A : Nat → Prop} (hE : xEok E)
    (kN : ∀ lv st μ, k r lv st μ → WS G E (d + 1) (p, e, s, m, args, below, meth, c, R, nc, ns, QS, A) Q (pc + len) lv st μ)
    (kJ : ∀ t e' r', E.2.2.1.drop t = e' :: r' → ∀ lv st μ, k (E.2.2.1.drop t) lv st μ → WS G E (d + 1) (p, e, s, m, args, below, meth, c, R, nc, ns, QS, A) Q e'.1 lv st μ)
    (hdec : decode E.2.1.2.1 pc = .ok ((.ishl), len)) (hch : xchk E (pc, (.ishl), len, tg, cst) = true)
    (h : xstep (MW G d) E Q (pc, (.ishl), len, tg, cst) r lv st μ k) : WS G E (d + 1) (p, e, s, m, args, below, meth, c, R, nc, ns, QS, A) Q pc lv st μ := by
  intro hG hC hY H locs ls hP hS hl hlo hso
  obtain ⟨hx, hb, hr, hml, hown, hts, hK, hlocks⟩ := id hC
  have hD := xD_wld hG hY.2.1 μ
  have htw : ∀ w, xin w → w.before args s = true := fun w hw => hts w (xin_gw hw)
  simp only [xchk, decide_eq_true_eq] at hch
  subst hch
  obtain ⟨y, s1, rfl, hh⟩ := xpI_ex (show xpI st _ from h)
  clear h
  have h := hh
  clear hh
  obtain ⟨x, s2, rfl, hh⟩ := xpI_ex h
  clear h
  have h := hh
  clear hh
  exact lv_ishl hx hb hdec (kN _ _ _ h hG hC hY H locs ls hP hS hl hlo ⟨trivial, hso.2.2⟩)
set_option maxHeartbeats 1000000 in
theorem xso_ishr {G : xG} {E : xE} {d : Nat} {Q : xP} {pc len : Nat} {tg : List Nat} {cst : xV} {r : List xT} {lv st : List xV} {μ : xM} {k : xK} {p : Program} {e : Env} {s : State} {m : MethodId} {args : Array Value} {below : List Frame} {meth : Method} {c : Code} {R : Room} {nc ns : Nat} {QS : State → Prop} {A : Nat → Prop} (hE : xEok E)
    (kN : ∀ lv st μ, k r lv st μ → WS G E (d + 1) (p, e, s, m, args, below, meth, c, R, nc, ns, QS, A) Q (pc + len) lv st μ)
    (kJ : ∀ t e' r', E.2.2.1.drop t = e' :: r' → ∀ lv st μ, k (E.2.2.1.drop t) lv st μ → WS G E (d + 1) (p, e, s, m, args, below, meth, c, R, nc, ns, QS, A) Q e'.1 lv st μ)
    (hdec : decode E.2.1.2.1 pc = .ok ((.ishr), len)) (hch : xchk E (pc, (.ishr), len, tg, cst) = true)
    (h : xstep (MW G d) E Q (pc, (.ishr), len, tg, cst) r lv st μ k) : WS G E (d + 1) (p, e, s, m, args, below, meth, c, R, nc, ns, QS, A) Q pc lv st μ := by
  intro hG hC hY H locs ls hP hS hl hlo hso
  obtain ⟨hx, hb, hr, hml, hown, hts, hK, hlocks⟩ := id hC
  have hD := xD_wld hG hY.2.1 μ
  have htw : ∀ w, xin w → w.before args s = true := fun w hw => hts w (xin_gw hw)
  simp only [xchk, decide_eq_true_eq] at hch
  subst hch
  obtain ⟨y, s1, rfl, hh⟩ := xpI_ex (show xpI st _ from h)
  clear h
  have h := hh
  clear hh
  obtain ⟨x, s2, rfl, hh⟩ := xpI_ex h
  clear h
  have h := hh
  clear hh
  exact lv_ishr hx hb hdec (kN _ _ _ h hG hC hY H locs ls hP hS hl hlo ⟨trivial, hso.2.2⟩)
set_option maxHeartbeats 1000000 in
theorem xso_iushr {G : xG} {E : xE} {d : Nat} {Q : xP} {pc len : Nat} {tg : List Nat} {cst : xV} {r : List xT} {lv st : List xV} {μ : xM} {k : xK} {p : Program} {e : Env} {s : State} {m : MethodId} {args : Array Value} {below : List Frame} {meth : Method} {c : Code} {R : Room} {nc ns : Nat} {QS : State → Prop} {A : Nat → Prop} (hE : xEok E)
    (kN : ∀ lv st μ, k r lv st μ → WS G E (d + 1) (p, e, s, m, args, below, meth, c, R, nc, ns, QS, A) Q (pc + len) lv st μ)
    (kJ : ∀ t e' r', E.2.2.1.drop t = e' :: r' → ∀ lv st μ, k (E.2.2.1.drop t) lv st μ → WS G E (d + 1) (p, e, s, m, args, below, meth, c, R, nc, ns, QS, A) Q e'.1 lv st μ)
    (hdec : decode E.2.1.2.1 pc = .ok ((.iushr), len)) (hch : xchk E (pc, (.iushr), len, tg, cst) = true)
    (h : xstep (MW G d) E Q (pc, (.iushr), len, tg, cst) r lv st μ k) : WS G E (d + 1) (p, e, s, m, args, below, meth, c, R, nc, ns, QS, A) Q pc lv st μ := by
  intro hG hC hY H locs ls hP hS hl hlo hso
  obtain ⟨hx, hb, hr, hml, hown, hts, hK, hlocks⟩ := id hC
  have hD := xD_wld hG hY.2.1 μ
  have htw : ∀ w, xin w → w.before args s = true := fun w hw => hts w (xin_gw hw)
  simp only [xchk, decide_eq_true_eq] at hch
  subst hch
  obtain ⟨y, s1, rfl, hh⟩ := xpI_ex (show xpI st _ from h)
  clear h
  have h := hh
  clear hh
  obtain ⟨x, s2, rfl, hh⟩ := xpI_ex h
  clear h
  have h := hh
  clear hh
  exact lv_iushr hx hb hdec rfl (kN _ _ _ h hG hC hY H locs ls hP hS hl hlo ⟨trivial, hso.2.2⟩)
set_option maxHeartbeats 1000000 in
theorem xso_idiv {G : xG} {E : xE} {d : Nat} {Q : xP} {pc len : Nat} {tg : List Nat} {cst : xV} {r : List xT} {lv st : List xV} {μ : xM} {k : xK} {p : Program} {e : Env} {s : State} {m : MethodId} {args : Array Value} {below : List Frame} {meth : Method} {c : Code} {R : Room} {nc ns : Nat} {QS : State → Prop} {A : Nat → Prop} (hE : xEok E)
    (kN : ∀ lv st μ, k r lv st μ → WS G E (d + 1) (p, e, s, m, args, below, meth, c, R, nc, ns, QS, A) Q (pc + len) lv st μ)
    (kJ : ∀ t e' r', E.2.2.1.drop t = e' :: r' → ∀ lv st μ, k (E.2.2.1.drop t) lv st μ → WS G E (d + 1) (p, e, s, m, args, below, meth, c, R, nc, ns, QS, A) Q e'.1 lv st μ)
    (hdec : decode E.2.1.2.1 pc = .ok ((.idiv), len)) (hch : xchk E (pc, (.idiv), len, tg, cst) = true)
    (h : xstep (MW G d) E Q (pc, (.idiv), len, tg, cst) r lv st μ k) : WS G E (d + 1) (p, e, s, m, args, below, meth, c, R, nc, ns, QS, A) Q pc lv st μ := by
  intro hG hC hY H locs ls hP hS hl hlo hso
  obtain ⟨hx, hb, hr, hml, hown, hts, hK, hlocks⟩ := id hC
  have hD := xD_wld hG hY.2.1 μ
  have htw : ∀ w, xin w → w.before args s = true := fun w hw => hts w (xin_gw hw)
  simp only [xchk, decide_eq_true_eq] at hch
  subst hch
  obtain ⟨y, s1, rfl, hh⟩ := xpI_ex (show xpI st _ from h)
  clear h
  have h := hh
  clear hh
  obtain ⟨x, s2, rfl, hh⟩ := xpI_ex h
  clear h
  have h := hh
  clear hh
  exact lv_idiv hx hb hdec h.1 (kN _ _ _ h.2 hG hC hY H locs ls hP hS hl hlo ⟨trivial, hso.2.2⟩)
set_option maxHeartbeats 1000000 in
theorem xso_irem {G : xG} {E : xE} {d : Nat} {Q : xP} {pc len : Nat} {tg : List Nat} {cst : xV} {r : List xT} {lv st : List xV} {μ : xM} {k : xK} {p : Program} {e : Env} {s : State} {m : MethodId} {args : Array Value} {below : List Frame} {meth : Method} {c : Code} {R : Room} {nc ns : Nat} {QS : State → Prop} {A : Nat → Prop} (hE : xEok E)
    (kN : ∀ lv st μ, k r lv st μ → WS G E (d + 1) (p, e, s, m, args, below, meth, c, R, nc, ns, QS, A) Q (pc + len) lv st μ)
    (kJ : ∀ t e' r', E.2.2.1.drop t = e' :: r' → ∀ lv st μ, k (E.2.2.1.drop t) lv st μ → WS G E (d + 1) (p, e, s, m, args, below, meth, c, R, nc, ns, QS, A) Q e'.1 lv st μ)
    (hdec : decode E.2.1.2.1 pc = .ok ((.irem), len)) (hch : xchk E (pc, (.irem), len, tg, cst) = true)
    (h : xstep (MW G d) E Q (pc, (.irem), len, tg, cst) r lv st μ k) : WS G E (d + 1) (p, e, s, m, args, below, meth, c, R, nc, ns, QS, A) Q pc lv st μ := by
  intro hG hC hY H locs ls hP hS hl hlo hso
  obtain ⟨hx, hb, hr, hml, hown, hts, hK, hlocks⟩ := id hC
  have hD := xD_wld hG hY.2.1 μ
  have htw : ∀ w, xin w → w.before args s = true := fun w hw => hts w (xin_gw hw)
  simp only [xchk, decide_eq_true_eq] at hch
  subst hch
  obtain ⟨y, s1, rfl, hh⟩ := xpI_ex (show xpI st _ from h)
  clear h
  have h := hh
  clear hh
  obtain ⟨x, s2, rfl, hh⟩ := xpI_ex h
  clear h
  have h := hh
  clear hh
  exact lv_irem hx hb hdec h.1 (kN _ _ _ h.2 hG hC hY H locs ls hP hS hl hlo ⟨trivial, hso.2.2⟩)
set_option maxHeartbeats 1000000 in
theorem xso_ladd {G : xG} {E : xE} {d : Nat} {Q : xP} {pc len : Nat} {tg : List Nat} {cst : xV} {r : List xT} {lv st : List xV} {μ : xM} {k : xK} {p : Program} {e : Env} {s : State} {m : MethodId} {args : Array Value} {below : List Frame} {meth : Method} {c : Code} {R : Room} {nc ns : Nat} {QS : State → Prop} {A : Nat → Prop} (hE : xEok E)
    (kN : ∀ lv st μ, k r lv st μ → WS G E (d + 1) (p, e, s, m, args, below, meth, c, R, nc, ns, QS, A) Q (pc + len) lv st μ)
    (kJ : ∀ t e' r', E.2.2.1.drop t = e' :: r' → ∀ lv st μ, k (E.2.2.1.drop t) lv st μ → WS G E (d + 1) (p, e, s, m, args, below, meth, c, R, nc, ns, QS, A) Q e'.1 lv st μ)
    (hdec : decode E.2.1.2.1 pc = .ok ((.ladd), len)) (hch : xchk E (pc, (.ladd), len, tg, cst) = true)
    (h : xstep (MW G d) E Q (pc, (.ladd), len, tg, cst) r lv st μ k) : WS G E (d + 1) (p, e, s, m, args, below, meth, c, R, nc, ns, QS, A) Q pc lv st μ := by
  intro hG hC hY H locs ls hP hS hl hlo hso
  obtain ⟨hx, hb, hr, hml, hown, hts, hK, hlocks⟩ := id hC
  have hD := xD_wld hG hY.2.1 μ
  have htw : ∀ w, xin w → w.before args s = true := fun w hw => hts w (xin_gw hw)
  simp only [xchk, decide_eq_true_eq] at hch
  subst hch
  obtain ⟨y, s1, rfl, hh⟩ := xpL_ex (show xpL st _ from h)
  clear h
  have h := hh
  clear hh
  obtain ⟨x, s2, rfl, hh⟩ := xpL_ex h
  clear h
  have h := hh
  clear hh
  exact lv_ladd hx hb hdec (kN _ _ _ h hG hC hY H locs ls hP hS hl hlo ⟨trivial, hso.2.2⟩)
set_option maxHeartbeats 1000000 in
theorem xso_lsub {G : xG} {E : xE} {d : Nat} {Q : xP} {pc len : Nat} {tg : List Nat} {cst : xV} {r : List xT} {lv st : List xV} {μ : xM} {k : xK} {p : Program} {e : Env} {s : State} {m : MethodId} {args : Array Value} {below : List Frame} {meth : Method} {c : Code} {R : Room} {nc ns : Nat} {QS : State → Prop} {A : Nat → Prop} (hE : xEok E)
    (kN : ∀ lv st μ, k r lv st μ → WS G E (d + 1) (p, e, s, m, args, below, meth, c, R, nc, ns, QS, A) Q (pc + len) lv st μ)
    (kJ : ∀ t e' r', E.2.2.1.drop t = e' :: r' → ∀ lv st μ, k (E.2.2.1.drop t) lv st μ → WS G E (d + 1) (p, e, s, m, args, below, meth, c, R, nc, ns, QS, A) Q e'.1 lv st μ)
    (hdec : decode E.2.1.2.1 pc = .ok ((.lsub), len)) (hch : xchk E (pc, (.lsub), len, tg, cst) = true)
    (h : xstep (MW G d) E Q (pc, (.lsub), len, tg, cst) r lv st μ k) : WS G E (d + 1) (p, e, s, m, args, below, meth, c, R, nc, ns, QS, A) Q pc lv st μ := by
  intro hG hC hY H locs ls hP hS hl hlo hso
  obtain ⟨hx, hb, hr, hml, hown, hts, hK, hlocks⟩ := id hC
  have hD := xD_wld hG hY.2.1 μ
  have htw : ∀ w, xin w → w.before args s = true := fun w hw => hts w (xin_gw hw)
  simp only [xchk, decide_eq_true_eq] at hch
  subst hch
  obtain ⟨y, s1, rfl, hh⟩ := xpL_ex (show xpL st _ from h)
  clear h
  have h := hh
  clear hh
  obtain ⟨x, s2, rfl, hh⟩ := xpL_ex h
  clear h
  have h := hh
  clear hh
  exact lv_lsub hx hb hdec (kN _ _ _ h hG hC hY H locs ls hP hS hl hlo ⟨trivial, hso.2.2⟩)
set_option maxHeartbeats 1000000 in
theorem xso_land {G : xG} {E : xE} {d : Nat} {Q : xP} {pc len : Nat} {tg : List Nat} {cst : xV} {r : List xT} {lv st : List xV} {μ : xM} {k : xK} {p : Program} {e : Env} {s : State} {m : MethodId} {args : Array Value} {below : List Frame} {meth : Method} {c : Code} {R : Room} {nc ns : Nat} {QS : State → Prop} {A : Nat → Prop} (hE : xEok E)
    (kN : ∀ lv st μ, k r lv st μ → WS G E (d + 1) (p, e, s, m, args, below, meth, c, R, nc, ns, QS, A) Q (pc + len) lv st μ)
    (kJ : ∀ t e' r', E.2.2.1.drop t = e' :: r' → ∀ lv st μ, k (E.2.2.1.drop t) lv st μ → WS G E (d + 1) (p, e, s, m, args, below, meth, c, R, nc, ns, QS, A) Q e'.1 lv st μ)
    (hdec : decode E.2.1.2.1 pc = .ok ((.land), len)) (hch : xchk E (pc, (.land), len, tg, cst) = true)
    (h : xstep (MW G d) E Q (pc, (.land), len, tg, cst) r lv st μ k) : WS G E (d + 1) (p, e, s, m, args, below, meth, c, R, nc, ns, QS, A) Q pc lv st μ := by
  intro hG hC hY H locs ls hP hS hl hlo hso
  obtain ⟨hx, hb, hr, hml, hown, hts, hK, hlocks⟩ := id hC
  have hD := xD_wld hG hY.2.1 μ
  have htw : ∀ w, xin w → w.before args s = true := fun w hw => hts w (xin_gw hw)
  simp only [xchk, decide_eq_true_eq] at hch
  subst hch
  obtain ⟨y, s1, rfl, hh⟩ := xpL_ex (show xpL st _ from h)
  clear h
  have h := hh
  clear hh
  obtain ⟨x, s2, rfl, hh⟩ := xpL_ex h
  clear h
  have h := hh
  clear hh
  exact lv_land hx hb hdec (kN _ _ _ h hG hC hY H locs ls hP hS hl hlo ⟨trivial, hso.2.2⟩)
set_option maxHeartbeats 1000000 in
theorem xso_lor {G : xG} {E : xE} {d : Nat} {Q : xP} {pc len : Nat} {tg : List Nat} {cst : xV} {r : List xT} {lv st : List xV} {μ : xM} {k : xK} {p : Program} {e : Env} {s : State} {m : MethodId} {args : Array Value} {below : List Frame} {meth : Method} {c : Code} {R : Room} {nc ns : Nat} {QS : State → Prop} {A : Nat → Prop} (hE : xEok E)
    (kN : ∀ lv st μ, k r lv st μ → WS G E (d + 1) (p, e, s, m, args, below, meth, c, R, nc, ns, QS, A) Q (pc + len) lv st μ)
    (kJ : ∀ t e' r', E.2.2.1.drop t = e' :: r' → ∀ lv st μ, k (E.2.2.1.drop t) lv st μ → WS G E (d + 1) (p, e, s, m, args, below, meth, c, R, nc, ns, QS, A) Q e'.1 lv st μ)
    (hdec : decode E.2.1.2.1 pc = .ok ((.lor), len)) (hch : xchk E (pc, (.lor), len, tg, cst) = true)
    (h : xstep (MW G d) E Q (pc, (.lor), len, tg, cst) r lv st μ k) : WS G E (d + 1) (p, e, s, m, args, below, meth, c, R, nc, ns, QS, A) Q pc lv st μ := by
  intro hG hC hY H locs ls hP hS hl hlo hso
  obtain ⟨hx, hb, hr, hml, hown, hts, hK, hlocks⟩ := id hC
  have hD := xD_wld hG hY.2.1 μ
  have htw : ∀ w, xin w → w.before args s = true := fun w hw => hts w (xin_gw hw)
  simp only [xchk, decide_eq_true_eq] at hch
  subst hch
  obtain ⟨y, s1, rfl, hh⟩ := xpL_ex (show xpL st _ from h)
  clear h
  have h := hh
  clear hh
  obtain ⟨x, s2, rfl, hh⟩ := xpL_ex h
  clear h
  have h := hh
  clear hh
  exact lv_lor hx hb hdec (kN _ _ _ h hG hC hY H locs ls hP hS hl hlo ⟨trivial, hso.2.2⟩)
set_option maxHeartbeats 1000000 in
theorem xso_lcmp {G : xG} {E : xE} {d : Nat} {Q : xP} {pc len : Nat} {tg : List Nat} {cst : xV} {r : List xT} {lv st : List xV} {μ : xM} {k : xK} {p : Program} {e : Env} {s : State} {m : MethodId} {args : Array Value} {below : List Frame} {meth : Method} {c : Code} {R : Room} {nc ns : Nat} {QS : State → Prop} {A : Nat → Prop} (hE : xEok E)
    (kN : ∀ lv st μ, k r lv st μ → WS G E (d + 1) (p, e, s, m, args, below, meth, c, R, nc, ns, QS, A) Q (pc + len) lv st μ)
    (kJ : ∀ t e' r', E.2.2.1.drop t = e' :: r' → ∀ lv st μ, k (E.2.2.1.drop t) lv st μ → WS G E (d + 1) (p, e, s, m, args, below, meth, c, R, nc, ns, QS, A) Q e'.1 lv st μ)
    (hdec : decode E.2.1.2.1 pc = .ok ((.lcmp), len)) (hch : xchk E (pc, (.lcmp), len, tg, cst) = true)
    (h : xstep (MW G d) E Q (pc, (.lcmp), len, tg, cst) r lv st μ k) : WS G E (d + 1) (p, e, s, m, args, below, meth, c, R, nc, ns, QS, A) Q pc lv st μ := by
  intro hG hC hY H locs ls hP hS hl hlo hso
  obtain ⟨hx, hb, hr, hml, hown, hts, hK, hlocks⟩ := id hC
  have hD := xD_wld hG hY.2.1 μ
  have htw : ∀ w, xin w → w.before args s = true := fun w hw => hts w (xin_gw hw)
  simp only [xchk, decide_eq_true_eq] at hch
  subst hch
  obtain ⟨y, s1, rfl, hh⟩ := xpL_ex (show xpL st _ from h)
  clear h
  have h := hh
  clear hh
  obtain ⟨x, s2, rfl, hh⟩ := xpL_ex h
  clear h
  have h := hh
  clear hh
  exact W.lcmp hx hb hdec (kN _ _ _ h hG hC hY H locs ls hP hS hl hlo ⟨trivial, hso.2.2⟩)
set_option maxHeartbeats 1000000 in
theorem xso_lshl {G : xG} {E : xE} {d : Nat} {Q : xP} {pc len : Nat} {tg : List Nat} {cst : xV} {r : List xT} {lv st : List xV} {μ : xM} {k : xK} {p : Program} {e : Env} {s : State} {m : MethodId} {args : Array Value} {below : List Frame} {meth : Method} {c : Code} {R : Room} {nc ns : Nat} {QS : State → Prop} {A : Nat → Prop} (hE : xEok E)
    (kN : ∀ lv st μ, k r lv st μ → WS G E (d + 1) (p, e, s, m, args, below, meth, c, R, nc, ns, QS, A) Q (pc + len) lv st μ)
    (kJ : ∀ t e' r', E.2.2.1.drop t = e' :: r' → ∀ lv st μ, k (E.2.2.1.drop t) lv st μ → WS G E (d + 1) (p, e, s, m, args, below, meth, c, R, nc, ns, QS, A) Q e'.1 lv st μ)
    (hdec : decode E.2.1.2.1 pc = .ok ((.lshl), len)) (hch : xchk E (pc, (.lshl), len, tg, cst) = true)
    (h : xstep (MW G d) E Q (pc, (.lshl), len, tg, cst) r lv st μ k) : WS G E (d + 1) (p, e, s, m, args, below, meth, c, R, nc, ns, QS, A) Q pc lv st μ := by
  intro hG hC hY H locs ls hP hS hl hlo hso
  obtain ⟨hx, hb, hr, hml, hown, hts, hK, hlocks⟩ := id hC
  have hD := xD_wld hG hY.2.1 μ
  have htw : ∀ w, xin w → w.before args s = true := fun w hw => hts w (xin_gw hw)
  simp only [xchk, decide_eq_true_eq] at hch
  subst hch
  obtain ⟨y, s1, rfl, hh⟩ := xpI_ex (show xpI st _ from h)
  clear h
  have h := hh
  clear hh
  obtain ⟨x, s2, rfl, hh⟩ := xpL_ex h
  clear h
  have h := hh
  clear hh
  exact lv_lshl hx hb hdec rfl (kN _ _ _ h hG hC hY H locs ls hP hS hl hlo ⟨trivial, hso.2.2⟩)
set_option maxHeartbeats 1000000 in
theorem xso_lshr {G : xG} {E : xE} {d : Nat} {Q : xP} {pc len : Nat} {tg : List Nat} {cst : xV} {r : List xT} {lv st : List xV} {μ : xM} {k : xK} {p : Program} {e : Env} {s : State} {m : MethodId} {args : Array Value} {below : List Frame} {meth : Method} {c : Code} {R : Room} {nc ns : Nat} {QS : State → Prop} {A : Nat → Prop} (hE : xEok E)
    (kN : ∀ lv st μ, k r lv st μ → WS G E (d + 1) (p, e, s, m, args, below, meth, c, R, nc, ns, QS, A) Q (pc + len) lv st μ)
    (kJ : ∀ t e' r', E.2.2.1.drop t = e' :: r' → ∀ lv st μ, k (E.2.2.1.drop t) lv st μ → WS G E (d + 1) (p, e, s, m, args, below, meth, c, R, nc, ns, QS, A) Q e'.1 lv st μ)
    (hdec : decode E.2.1.2.1 pc = .ok ((.lshr), len)) (hch : xchk E (pc, (.lshr), len, tg, cst) = true)
    (h : xstep (MW G d) E Q (pc, (.lshr), len, tg, cst) r lv st μ k) : WS G E (d + 1) (p, e, s, m, args, below, meth, c, R, nc, ns, QS, A) Q pc lv st μ := by
  intro hG hC hY H locs ls hP hS hl hlo hso
  obtain ⟨hx, hb, hr, hml, hown, hts, hK, hlocks⟩ := id hC
  have hD := xD_wld hG hY.2.1 μ
  have htw : ∀ w, xin w → w.before args s = true := fun w hw => hts w (xin_gw hw)
  simp only [xchk, decide_eq_true_eq] at hch
  subst hch
  obtain ⟨y, s1, rfl, hh⟩ := xpI_ex (show xpI st _ from h)
  clear h
  have h := hh
  clear hh
  obtain ⟨x, s2, rfl, hh⟩ := xpL_ex h
  clear h
  have h := hh
  clear hh
  exact lv_lshr hx hb hdec rfl (kN _ _ _ h hG hC hY H locs ls hP hS hl hlo ⟨trivial, hso.2.2⟩)
set_option maxHeartbeats 1000000 in
theorem xso_lushr {G : xG} {E : xE} {d : Nat} {Q : xP} {pc len : Nat} {tg : List Nat} {cst : xV} {r : List xT} {lv st : List xV} {μ : xM} {k : xK} {p : Program} {e : Env} {s : State} {m : MethodId} {args : Array Value} {below : List Frame} {meth : Method} {c : Code} {R : Room} {nc ns : Nat} {QS : State → Prop} {A : Nat → Prop} (hE : xEok E)
    (kN : ∀ lv st μ, k r lv st μ → WS G E (d + 1) (p, e, s, m, args, below, meth, c, R, nc, ns, QS, A) Q (pc + len) lv st μ)
    (kJ : ∀ t e' r', E.2.2.1.drop t = e' :: r' → ∀ lv st μ, k (E.2.2.1.drop t) lv st μ → WS G E (d + 1) (p, e, s, m, args, below, meth, c, R, nc, ns, QS, A) Q e'.1 lv st μ)
    (hdec : decode E.2.1.2.1 pc = .ok ((.lushr), len)) (hch : xchk E (pc, (.lushr), len, tg, cst) = true)
    (h : xstep (MW G d) E Q (pc, (.lushr), len, tg, cst) r lv st μ k) : WS G E (d + 1) (p, e, s, m, args, below, meth, c, R, nc, ns, QS, A) Q pc lv st μ := by
  intro hG hC hY H locs ls hP hS hl hlo hso
  obtain ⟨hx, hb, hr, hml, hown, hts, hK, hlocks⟩ := id hC
  have hD := xD_wld hG hY.2.1 μ
  have htw : ∀ w, xin w → w.before args s = true := fun w hw => hts w (xin_gw hw)
  simp only [xchk, decide_eq_true_eq] at hch
  subst hch
  obtain ⟨y, s1, rfl, hh⟩ := xpI_ex (show xpI st _ from h)
  clear h
  have h := hh
  clear hh
  obtain ⟨x, s2, rfl, hh⟩ := xpL_ex h
  clear h
  have h := hh
  clear hh
  exact lv_lushr hx hb hdec rfl (kN _ _ _ h hG hC hY H locs ls hP hS hl hlo ⟨trivial, hso.2.2⟩)
set_option maxHeartbeats 1000000 in
theorem xso_ineg {G : xG} {E : xE} {d : Nat} {Q : xP} {pc len : Nat} {tg : List Nat} {cst : xV} {r : List xT} {lv st : List xV} {μ : xM} {k : xK} {p : Program} {e : Env} {s : State} {m : MethodId} {args : Array Value} {below : List Frame} {meth : Method} {c : Code} {R : Room} {nc ns : Nat} {QS : State → Prop} {A : Nat → Prop} (hE : xEok E)
    (kN : ∀ lv st μ, k r lv st μ → WS G E (d + 1) (p, e, s, m, args, below, meth, c, R, nc, ns, QS, A) Q (pc + len) lv st μ)
    (kJ : ∀ t e' r', E.2.2.1.drop t = e' :: r' → ∀ lv st μ, k (E.2.2.1.drop t) lv st μ → WS G E (d + 1) (p, e, s, m, args, below, meth, c, R, nc, ns, QS, A) Q e'.1 lv st μ)
    (hdec : decode E.2.1.2.1 pc = .ok ((.ineg), len)) (hch : xchk E (pc, (.ineg), len, tg, cst) = true)
    (h : xstep (MW G d) E Q (pc, (.ineg), len, tg, cst) r lv st μ k) : WS G E (d + 1) (p, e, s, m, args, below, meth, c, R, nc, ns, QS, A) Q pc lv st μ := by
  intro hG hC hY H locs ls hP hS hl hlo hso
  obtain ⟨hx, hb, hr, hml, hown, hts, hK, hlocks⟩ := id hC
  have hD := xD_wld hG hY.2.1 μ
  have htw : ∀ w, xin w → w.before args s = true := fun w hw => hts w (xin_gw hw)
  simp only [xchk, decide_eq_true_eq] at hch
  subst hch
  obtain ⟨x, s1, rfl, hh⟩ := xpI_ex (show xpI st _ from h)
  clear h
  have h := hh
  clear hh
  exact lv_ineg hx hb hdec (kN _ _ _ h hG hC hY H locs ls hP hS hl hlo ⟨trivial, hso.2⟩)
set_option maxHeartbeats 1000000 in
theorem xso_i2c {G : xG} {E : xE} {d : Nat} {Q : xP} {pc len : Nat} {tg : List Nat} {cst : xV} {r : List xT} {lv st : List xV} {μ : xM} {k : xK} {p : Program} {e : Env} {s : State} {m : MethodId} {args : Array Value} {below : List Frame} {meth : Method} {c : Code} {R : Room} {nc ns : Nat} {QS : State → Prop} {A : Nat → Prop} (hE : xEok E)
    (kN : ∀ lv st μ, k r lv st μ → WS G E (d + 1) (p, e, s, m, args, below, meth, c, R, nc, ns, QS, A) Q (pc + len) lv st μ)
    (kJ : ∀ t e' r', E.2.2.1.drop t = e' :: r' → ∀ lv st μ, k (E.2.2.1.drop t) lv st μ → WS G E (d + 1) (p, e, s, m, args, below, meth, c, R, nc, ns, QS, A) Q e'.1 lv st μ)
    (hdec : decode E.2.1.2.1 pc = .ok ((.i2c), len)) (hch : xchk E (pc, (.i2c), len, tg, cst) = true)
    (h : xstep (MW G d) E Q (pc, (.i2c), len, tg, cst) r lv st μ k) : WS G E (d + 1) (p, e, s, m, args, below, meth, c, R, nc, ns, QS, A) Q pc lv st μ := by
  intro hG hC hY H locs ls hP hS hl hlo hso
  obtain ⟨hx, hb, hr, hml, hown, hts, hK, hlocks⟩ := id hC
  have hD := xD_wld hG hY.2.1 μ
  have htw : ∀ w, xin w → w.before args s = true := fun w hw => hts w (xin_gw hw)
  simp only [xchk, decide_eq_true_eq] at hch
  subst hch
  obtain ⟨x, s1, rfl, hh⟩ := xpI_ex (show xpI st _ from h)
  clear h
  have h := hh
  clear hh
  exact lv_i2c hx hb hdec rfl (kN _ _ _ h hG hC hY H locs ls hP hS hl hlo ⟨trivial, hso.2⟩)
set_option maxHeartbeats 1000000 in
theorem xso_i2l {G : xG} {E : xE} {d : Nat} {Q : xP} {pc len : Nat} {tg : List Nat} {cst : xV} {r : List xT} {lv st : List xV} {μ : xM} {k : xK} {p : Program} {e : Env} {s : State} {m : MethodId} {args : Array Value} {below : List Frame} {meth : Method} {c : Code} {R : Room} {nc ns : Nat} {QS : State → Prop} {A : Nat → Prop} (hE : xEok E)
    (kN : ∀ lv st μ, k r lv st μ → WS G E (d + 1) (p, e, s, m, args, below, meth, c, R, nc, ns, QS, A) Q (pc + len) lv st μ)
    (kJ : ∀ t e' r', E.2.2.1.drop t = e' :: r' → ∀ lv st μ, k (E.2.2.1.drop t) lv st μ → WS G E (d + 1) (p, e, s, m, args, below, meth, c, R, nc, ns, QS, A) Q e'.1 lv st μ)
    (hdec : decode E.2.1.2.1 pc = .ok ((.i2l), len)) (hch : xchk E (pc, (.i2l), len, tg, cst) = true)
    (h : xstep (MW G d) E Q (pc, (.i2l), len, tg, cst) r lv st μ k) : WS G E (d + 1) (p, e, s, m, args, below, meth, c, R, nc, ns, QS, A) Q pc lv st μ := by
  intro hG hC hY H locs ls hP hS hl hlo hso
  obtain ⟨hx, hb, hr, hml, hown, hts, hK, hlocks⟩ := id hC
  have hD := xD_wld hG hY.2.1 μ
  have htw : ∀ w, xin w → w.before args s = true := fun w hw => hts w (xin_gw hw)
  simp only [xchk, decide_eq_true_eq] at hch
  subst hch
  obtain ⟨x, s1, rfl, hh⟩ := xpI_ex (show xpI st _ from h)
  clear h
  have h := hh
  clear hh
  exact lv_i2l hx hb hdec rfl (kN _ _ _ h hG hC hY H locs ls hP hS hl hlo ⟨trivial, hso.2⟩)
set_option maxHeartbeats 1000000 in
theorem xso_l2i {G : xG} {E : xE} {d : Nat} {Q : xP} {pc len : Nat} {tg : List Nat} {cst : xV} {r : List xT} {lv st : List xV} {μ : xM} {k : xK} {p : Program} {e : Env} {s : State} {m : MethodId} {args : Array Value} {below : List Frame} {meth : Method} {c : Code} {R : Room} {nc ns : Nat} {QS : State → Prop} {A : Nat → Prop} (hE : xEok E)
    (kN : ∀ lv st μ, k r lv st μ → WS G E (d + 1) (p, e, s, m, args, below, meth, c, R, nc, ns, QS, A) Q (pc + len) lv st μ)
    (kJ : ∀ t e' r', E.2.2.1.drop t = e' :: r' → ∀ lv st μ, k (E.2.2.1.drop t) lv st μ → WS G E (d + 1) (p, e, s, m, args, below, meth, c, R, nc, ns, QS, A) Q e'.1 lv st μ)
    (hdec : decode E.2.1.2.1 pc = .ok ((.l2i), len)) (hch : xchk E (pc, (.l2i), len, tg, cst) = true)
    (h : xstep (MW G d) E Q (pc, (.l2i), len, tg, cst) r lv st μ k) : WS G E (d + 1) (p, e, s, m, args, below, meth, c, R, nc, ns, QS, A) Q pc lv st μ := by
  intro hG hC hY H locs ls hP hS hl hlo hso
  obtain ⟨hx, hb, hr, hml, hown, hts, hK, hlocks⟩ := id hC
  have hD := xD_wld hG hY.2.1 μ
  have htw : ∀ w, xin w → w.before args s = true := fun w hw => hts w (xin_gw hw)
  simp only [xchk, decide_eq_true_eq] at hch
  subst hch
  obtain ⟨x, s1, rfl, hh⟩ := xpL_ex (show xpL st _ from h)
  clear h
  have h := hh
  clear hh
  exact lv_l2i hx hb hdec rfl (kN _ _ _ h hG hC hY H locs ls hP hS hl hlo ⟨trivial, hso.2⟩)
set_option maxHeartbeats 1000000 in
theorem xso_iinc {G : xG} {E : xE} {d : Nat} {Q : xP} {pc len : Nat} {tg : List Nat} {cst : xV} {r : List xT} {lv st : List xV} {μ : xM} {k : xK} {p : Program} {e : Env} {s : State} {m : MethodId} {args : Array Value} {below : List Frame} {meth : Method} {c : Code} {R : Room} {nc ns : Nat} {QS : State → Prop} {A : Nat → Prop} (n : Nat) (q : Int) (hE : xEok E)
    (kN : ∀ lv st μ, k r lv st μ → WS G E (d + 1) (p, e, s, m, args, below, meth, c, R, nc, ns, QS, A) Q (pc + len) lv st μ)
    (kJ : ∀ t e' r', E.2.2.1.drop t = e' :: r' → ∀ lv st μ, k (E.2.2.1.drop t) lv st μ → WS G E (d + 1) (p, e, s, m, args, below, meth, c, R, nc, ns, QS, A) Q e'.1 lv st μ)
    (hdec : decode E.2.1.2.1 pc = .ok ((.iinc n q), len)) (hch : xchk E (pc, (.iinc n q), len, tg, cst) = true)
    (h : xstep (MW G d) E Q (pc, (.iinc n q), len, tg, cst) r lv st μ k) : WS G E (d + 1) (p, e, s, m, args, below, meth, c, R, nc, ns, QS, A) Q pc lv st μ := by
  intro hG hC hY H locs ls hP hS hl hlo hso
  obtain ⟨hx, hb, hr, hml, hown, hts, hK, hlocks⟩ := id hC
  have hD := xD_wld hG hY.2.1 μ
  have htw : ∀ w, xin w → w.before args s = true := fun w hw => hts w (xin_gw hw)
  simp only [xchk, Bool.and_eq_true, decide_eq_true_eq] at hch
  obtain ⟨⟨hlen, hi, hlt⟩, hc⟩ := hch
  subst hlen
  subst hi
  obtain ⟨y, rfl, hh⟩ := xcI_ex (show xcI cst _ from h)
  clear h
  have h := hh
  clear hh
  obtain ⟨x, ex, h⟩ := xgI_ex h
  exact xw_iinc hx hb hl hlt hdec ex (of_decide_eq_true (show decide (Int32.ofInt q = y) = true from hc)) (fun ls' hl' => kN _ _ _ h hG hC hY H locs ls' hP hS hl' (xlok_set (xlok_clr hlo _) _ trivial) hso)
set_option maxHeartbeats 1000000 in
theorem xso_dup {G : xG} {E : xE} {d : Nat} {Q : xP} {pc len : Nat} {tg : List Nat} {cst : xV} {r : List xT} {lv st : List xV} {μ : xM} {k : xK} {p : Program} {e : Env} {s : State} {m : MethodId} {args : Array Value} {below : List Frame} {meth : Method} {c : Code} {R : Room} {nc ns : Nat} {QS : State → Prop} {A : Nat → Prop} (hE : xEok E)
    (kN : ∀ lv st μ, k r lv st μ → WS G E (d + 1) (p, e, s, m, args, below, meth, c, R, nc, ns, QS, A) Q (pc + len) lv st μ)
    (kJ : ∀ t e' r', E.2.2.1.drop t = e' :: r' → ∀ lv st μ, k (E.2.2.1.drop t) lv st μ → WS G E (d + 1) (p, e, s, m, args, below, meth, c, R, nc, ns, QS, A) Q e'.1 lv st μ)
    (hdec : decode E.2.1.2.1 pc = .ok ((.dup), len)) (hch : xchk E (pc, (.dup), len, tg, cst) = true)
    (h : xstep (MW G d) E Q (pc, (.dup), len, tg, cst) r lv st μ k) : WS G E (d + 1) (p, e, s, m, args, below, meth, c, R, nc, ns, QS, A) Q pc lv st μ := by
  intro hG hC hY H locs ls hP hS hl hlo hso
  obtain ⟨hx, hb, hr, hml, hown, hts, hK, hlocks⟩ := id hC
  have hD := xD_wld hG hY.2.1 μ
  have htw : ∀ w, xin w → w.before args s = true := fun w hw => hts w (xin_gw hw)
  simp only [xchk, decide_eq_true_eq] at hch
  subst hch
  rcases st with _ | ⟨x | x | _ | q, s1⟩
  · exact (show False from h).elim
  · exact lv_dup hx hb hdec rfl (kN _ _ _ h hG hC hY H locs ls hP hS hl hlo ⟨trivial, hso⟩)
  · exact (show False from h).elim
  · exact (show False from h).elim
  · exact lv_dup hx hb hdec rfl (kN _ _ _ h hG hC hY H locs ls hP hS hl hlo ⟨hso.1, hso⟩)
set_option maxHeartbeats 1000000 in
theorem xso_dup2 {G : xG} {E : xE} {d : Nat} {Q : xP} {pc len : Nat} {tg : List Nat} {cst : xV} {r : List xT} {lv st : List xV} {μ : xM} {k : xK} {p : Program} {e : Env} {s : State} {m : MethodId} {args : Array Value} {below : List Frame} {meth : Method} {c : Code} {R : Room} {nc ns : Nat} {QS : State → Prop} {A : Nat → Prop} (hE : xEok E)
    (kN : ∀ lv st μ, k r lv st μ → WS G E (d + 1) (p, e, s, m, args, below, meth, c, R, nc, ns, QS, A) Q (pc + len) lv st μ)
    (kJ : ∀ t e' r', E.2.2.1.drop t = e' :: r' → ∀ lv st μ, k (E.2.2.1.drop t) lv st μ → WS G E (d + 1) (p, e, s, m, args, below, meth, c, R, nc, ns, QS, A) Q e'.1 lv st μ)
    (hdec : decode E.2.1.2.1 pc = .ok ((.dup2), len)) (hch : xchk E (pc, (.dup2), len, tg, cst) = true)
    (h : xstep (MW G d) E Q (pc, (.dup2), len, tg, cst) r lv st μ k) : WS G E (d + 1) (p, e, s, m, args, below, meth, c, R, nc, ns, QS, A) Q pc lv st μ := by
  intro hG hC hY H locs ls hP hS hl hlo hso
  obtain ⟨hx, hb, hr, hml, hown, hts, hK, hlocks⟩ := id hC
  have hD := xD_wld hG hY.2.1 μ
  have htw : ∀ w, xin w → w.before args s = true := fun w hw => hts w (xin_gw hw)
  simp only [xchk, decide_eq_true_eq] at hch
  subst hch
  obtain ⟨x, s1, rfl, hh⟩ := xpI_ex (show xpI st _ from h)
  clear h
  have h := hh
  clear hh
  obtain ⟨q, s2, rfl, hh⟩ := xpR_ex h
  clear h
  have h := hh
  clear hh
  exact lv_dup2_11 hx hb hdec rfl rfl (kN _ _ _ h hG hC hY H locs ls hP hS hl hlo ⟨trivial, hso.2.1, hso⟩)
set_option maxHeartbeats 1000000 in
theorem xso_pop {G : xG} {E : xE} {d : Nat} {Q : xP} {pc len : Nat} {tg : List Nat} {cst : xV} {r : List xT} {lv st : List xV} {μ : xM} {k : xK} {p : Program} {e : Env} {s : State} {m : MethodId} {args : Array Value} {below : List Frame} {meth : Method} {c : Code} {R : Room} {nc ns : Nat} {QS : State → Prop} {A : Nat → Prop} (hE : xEok E)
    (kN : ∀ lv st μ, k r lv st μ → WS G E (d + 1) (p, e, s, m, args, below, meth, c, R, nc, ns, QS, A) Q (pc + len) lv st μ)
    (kJ : ∀ t e' r', E.2.2.1.drop t = e' :: r' → ∀ lv st μ, k (E.2.2.1.drop t) lv st μ → WS G E (d + 1) (p, e, s, m, args, below, meth, c, R, nc, ns, QS, A) Q e'.1 lv st μ)
    (hdec : decode E.2.1.2.1 pc = .ok ((.pop), len)) (hch : xchk E (pc, (.pop), len, tg, cst) = true)
    (h : xstep (MW G d) E Q (pc, (.pop), len, tg, cst) r lv st μ k) : WS G E (d + 1) (p, e, s, m, args, below, meth, c, R, nc, ns, QS, A) Q pc lv st μ := by
  intro hG hC hY H locs ls hP hS hl hlo hso
  obtain ⟨hx, hb, hr, hml, hown, hts, hK, hlocks⟩ := id hC
  have hD := xD_wld hG hY.2.1 μ
  have htw : ∀ w, xin w → w.before args s = true := fun w hw => hts w (xin_gw hw)
  simp only [xchk, decide_eq_true_eq] at hch
  subst hch
  obtain ⟨x, s1, rfl, hh⟩ := xpI_ex (show xpI st _ from h)
  clear h
  have h := hh
  clear hh
  exact lv_pop hx hb hdec rfl (kN _ _ _ h hG hC hY H locs ls hP hS hl hlo hso.2)
set_option maxHeartbeats 1000000 in
theorem xso_lmul {G : xG} {E : xE} {d : Nat} {Q : xP} {pc len : Nat} {tg : List Nat} {cst : xV} {r : List xT} {lv st : List xV} {μ : xM} {k : xK} {p : Program} {e : Env} {s : State} {m : MethodId} {args : Array Value} {below : List Frame} {meth : Method} {c : Code} {R : Room} {nc ns : Nat} {QS : State → Prop} {A : Nat → Prop} (hE : xEok E)
    (kN : ∀ lv st μ, k r lv st μ → WS G E (d + 1) (p, e, s, m, args, below, meth, c, R, nc, ns, QS, A) Q (pc + len) lv st μ)
    (kJ : ∀ t e' r', E.2.2.1.drop t = e' :: r' → ∀ lv st μ, k (E.2.2.1.drop t) lv st μ → WS G E (d + 1) (p, e, s, m, args, below, meth, c, R, nc, ns, QS, A) Q e'.1 lv st μ)
    (hdec : decode E.2.1.2.1 pc = .ok ((.lmul), len)) (hch : xchk E (pc, (.lmul), len, tg, cst) = true)
    (h : xstep (MW G d) E Q (pc, (.lmul), len, tg, cst) r lv st μ k) : WS G E (d + 1) (p, e, s, m, args, below, meth, c, R, nc, ns, QS, A) Q pc lv st μ := by
  intro hG hC hY H locs ls hP hS hl hlo hso
  obtain ⟨hx, hb, hr, hml, hown, hts, hK, hlocks⟩ := id hC
  have hD := xD_wld hG hY.2.1 μ
  have htw : ∀ w, xin w → w.before args s = true := fun w hw => hts w (xin_gw hw)
  simp only [xchk, decide_eq_true_eq] at hch
  subst hch
  obtain ⟨y, s1, rfl, hh⟩ := xpL_ex (show xpL st _ from h)
  clear h
  have h := hh
  clear hh
  obtain ⟨x, s2, rfl, hh⟩ := xpL_ex h
  clear h
  have h := hh
  clear hh
  exact lv_lmul hx hb hdec (kN _ _ _ h hG hC hY H locs ls hP hS hl hlo ⟨trivial, hso.2.2⟩)
set_option maxHeartbeats 1000000 in
theorem xso_ldiv {G : xG} {E : xE} {d : Nat} {Q : xP} {pc len : Nat} {tg : List Nat} {cst : xV} {r : List xT} {lv st : List xV} {μ : xM} {k : xK} {p : Program} {e : Env} {s : State} {m : MethodId} {args : Array Value} {below : List Frame} {meth : Method} {c : Code} {R : Room} {nc ns : Nat} {QS : State → Prop} {A : Nat → Prop} (hE : xEok E)
    (kN : ∀ lv st μ, k r lv st μ → WS G E (d + 1) (p, e, s, m, args, below, meth, c, R, nc, ns, QS, A) Q (pc + len) lv st μ)
    (kJ : ∀ t e' r', E.2.2.1.drop t = e' :: r' → ∀ lv st μ, k (E.2.2.1.drop t) lv st μ → WS G E (d + 1) (p, e, s, m, args, below, meth, c, R, nc, ns, QS, A) Q e'.1 lv st μ)
    (hdec : decode E.2.1.2.1 pc = .ok ((.ldiv), len)) (hch : xchk E (pc, (.ldiv), len, tg, cst) = true)
    (h : xstep (MW G d) E Q (pc, (.ldiv), len, tg, cst) r lv st μ k) : WS G E (d + 1) (p, e, s, m, args, below, meth, c, R, nc, ns, QS, A) Q pc lv st μ := by
  intro hG hC hY H locs ls hP hS hl hlo hso
  obtain ⟨hx, hb, hr, hml, hown, hts, hK, hlocks⟩ := id hC
  have hD := xD_wld hG hY.2.1 μ
  have htw : ∀ w, xin w → w.before args s = true := fun w hw => hts w (xin_gw hw)
  simp only [xchk, decide_eq_true_eq] at hch
  subst hch
  obtain ⟨y, s1, rfl, hh⟩ := xpL_ex (show xpL st _ from h)
  clear h
  have h := hh
  clear hh
  obtain ⟨x, s2, rfl, hh⟩ := xpL_ex h
  clear h
  have h := hh
  clear hh
  exact lv_ldiv hx hb hdec h.1 (kN _ _ _ h.2 hG hC hY H locs ls hP hS hl hlo ⟨trivial, hso.2.2⟩)
set_option maxHeartbeats 1000000 in
theorem xso_lrem {G : xG} {E : xE} {d : Nat} {Q : xP} {pc len : Nat} {tg : List Nat} {cst : xV} {r : List xT} {lv st : List xV} {μ : xM} {k : xK} {p : Program} {e : Env} {s : State} {m : MethodId} {args : Array Value} {below : List Frame} {meth : Method} {c : Code} {R : Room} {nc ns : Nat} {QS : State → Prop} {A : Nat → Prop} (hE : xEok E)
    (kN : ∀ lv st μ, k r lv st μ → WS G E (d + 1) (p, e, s, m, args, below, meth, c, R, nc, ns, QS, A) Q (pc + len) lv st μ)
    (kJ : ∀ t e' r', E.2.2.1.drop t = e' :: r' → ∀ lv st μ, k (E.2.2.1.drop t) lv st μ → WS G E (d + 1) (p, e, s, m, args, below, meth, c, R, nc, ns, QS, A) Q e'.1 lv st μ)
    (hdec : decode E.2.1.2.1 pc = .ok ((.lrem), len)) (hch : xchk E (pc, (.lrem), len, tg, cst) = true)
    (h : xstep (MW G d) E Q (pc, (.lrem), len, tg, cst) r lv st μ k) : WS G E (d + 1) (p, e, s, m, args, below, meth, c, R, nc, ns, QS, A) Q pc lv st μ := by
  intro hG hC hY H locs ls hP hS hl hlo hso
  obtain ⟨hx, hb, hr, hml, hown, hts, hK, hlocks⟩ := id hC
  have hD := xD_wld hG hY.2.1 μ
  have htw : ∀ w, xin w → w.before args s = true := fun w hw => hts w (xin_gw hw)
  simp only [xchk, decide_eq_true_eq] at hch
  subst hch
  obtain ⟨y, s1, rfl, hh⟩ := xpL_ex (show xpL st _ from h)
  clear h
  have h := hh
  clear hh
  obtain ⟨x, s2, rfl, hh⟩ := xpL_ex h
  clear h
  have h := hh
  clear hh
  exact lv_lrem hx hb hdec h.1 (kN _ _ _ h.2 hG hC hY H locs ls hP hS hl hlo ⟨trivial, hso.2.2⟩)
