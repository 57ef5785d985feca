theorem am_c_iadd {Γ : am_G} {l : Launch} {mid d : Nat} {Q : am_Q} {p : Program} {e : Env} {R : Room} {s : State} {m : MethodId} {args : Array Value} {below : List Frame} {meth : Method} {c : Code} {Z : State → Prop} {K : am_K} {Cl : am_C} {n h : Nat} {ls st : List Value} {w : am_W} (hc : am_cx Γ l mid d Q p e R s m args below meth c Z) (hk : am_ck mid n h (.iadd)) (hK : ∀ n ls st w, K n ls st w → am_At Γ l mid p e R s m args below meth c Z n ls st w) (hs : am_stp Cl (am_bd mid) Q K (.iadd) n ls st w) : am_At Γ l mid p e R s m args below meth c Z n ls st w := by
  obtain ⟨hx, hb, hml, hown, hts, henv, hini, hfr, hlo, hbc, hbs, hsz, hret⟩ := hc
  intro H locs lc hr hcn hS hl hln
  simp only [am_ck, am_ck1, Bool.and_eq_true] at hk
  obtain ⟨hd, hn⟩ := hk
  have hd := am_dq_ok hd
  have hn := am_beq hn
  unfold am_stp at hs
  dsimp only at hs
  obtain ⟨x0, r0, e0, hs0⟩ := am_pi_ex hs
  subst e0
  obtain ⟨x1, r1, e1, hs1⟩ := am_pi_ex hs0
  subst e1
  have hq := hK _ _ _ _ hs1 H locs lc hr hcn hS hl hln
  rw [hn] at hq
  exact lv_iadd hx hb hd hq

theorem am_c_isub {Γ : am_G} {l : Launch} {mid d : Nat} {Q : am_Q} {p : Program} {e : Env} {R : Room} {s : State} {m : MethodId} {args : Array Value} {below : List Frame} {meth : Method} {c : Code} {Z : State → Prop} {K : am_K} {Cl : am_C} {n h : Nat} {ls st : List Value} {w : am_W} (hc : am_cx Γ l mid d Q p e R s m args below meth c Z) (hk : am_ck mid n h (.isub)) (hK : ∀ n ls st w, K n ls st w → am_At Γ l mid p e R s m args below meth c Z n ls st w) (hs : am_stp Cl (am_bd mid) Q K (.isub) n ls st w) : am_At Γ l mid p e R s m args below meth c Z n ls st w := by
  obtain ⟨hx, hb, hml, hown, hts, henv, hini, hfr, hlo, hbc, hbs, hsz, hret⟩ := hc
  intro H locs lc hr hcn hS hl hln
  simp only [am_ck, am_ck1, Bool.and_eq_true] at hk
  obtain ⟨hd, hn⟩ := hk
  have hd := am_dq_ok hd
  have hn := am_beq hn
  unfold am_stp at hs
  dsimp only at hs
  obtain ⟨x0, r0, e0, hs0⟩ := am_pi_ex hs
  subst e0
  obtain ⟨x1, r1, e1, hs1⟩ := am_pi_ex hs0
  subst e1
  have hq := hK _ _ _ _ hs1 H locs lc hr hcn hS hl hln
  rw [hn] at hq
  exact lv_isub hx hb hd hq

theorem am_c_imul {Γ : am_G} {l : Launch} {mid d : Nat} {Q : am_Q} {p : Program} {e : Env} {R : Room} {s : State} {m : MethodId} {args : Array Value} {below : List Frame} {meth : Method} {c : Code} {Z : State → Prop} {K : am_K} {Cl : am_C} {n h : Nat} {ls st : List Value} {w : am_W} (hc : am_cx Γ l mid d Q p e R s m args below meth c Z) (hk : am_ck mid n h (.imul)) (hK : ∀ n ls st w, K n ls st w → am_At Γ l mid p e R s m args below meth c Z n ls st w) (hs : am_stp Cl (am_bd mid) Q K (.imul) n ls st w) : am_At Γ l mid p e R s m args below meth c Z n ls st w := by
  obtain ⟨hx, hb, hml, hown, hts, henv, hini, hfr, hlo, hbc, hbs, hsz, hret⟩ := hc
  intro H locs lc hr hcn hS hl hln
  simp only [am_ck, am_ck1, Bool.and_eq_true] at hk
  obtain ⟨hd, hn⟩ := hk
  have hd := am_dq_ok hd
  have hn := am_beq hn
  unfold am_stp at hs
  dsimp only at hs
  obtain ⟨x0, r0, e0, hs0⟩ := am_pi_ex hs
  subst e0
  obtain ⟨x1, r1, e1, hs1⟩ := am_pi_ex hs0
  subst e1
  have hq := hK _ _ _ _ hs1 H locs lc hr hcn hS hl hln
  rw [hn] at hq
  exact lv_imul hx hb hd hq

theorem am_c_iand {Γ : am_G} {l : Launch} {mid d : Nat} {Q : am_Q} {p : Program} {e : Env} {R : Room} {s : State} {m : MethodId} {args : Array Value} {below : List Frame} {meth : Method} {c : Code} {Z : State → Prop} {K : am_K} {Cl : am_C} {n h : Nat} {ls st : List Value} {w : am_W} (hc : am_cx Γ l mid d Q p e R s m args below meth c Z) (hk : am_ck mid n h (.iand)) (hK : ∀ n ls st w, K n ls st w → am_At Γ l mid p e R s m args below meth c Z n ls st w) (hs : am_stp Cl (am_bd mid) Q K (.iand) n ls st w) : am_At Γ l mid p e R s m args below meth c Z n ls st w := by
  obtain ⟨hx, hb, hml, hown, hts, henv, hini, hfr, hlo, hbc, hbs, hsz, hret⟩ := hc
  intro H locs lc hr hcn hS hl hln
  simp only [am_ck, am_ck1, Bool.and_eq_true] at hk
  obtain ⟨hd, hn⟩ := hk
  have hd := am_dq_ok hd
  have hn := am_beq hn
  unfold am_stp at hs
  dsimp only at hs
  obtain ⟨x0, r0, e0, hs0⟩ := am_pi_ex hs
  subst e0
  obtain ⟨x1, r1, e1, hs1⟩ := am_pi_ex hs0
  subst e1
  have hq := hK _ _ _ _ hs1 H locs lc hr hcn hS hl hln
  rw [hn] at hq
  exact lv_iand hx hb hd hq

theorem am_c_ior {Γ : am_G} {l : Launch} {mid d : Nat} {Q : am_Q} {p : Program} {e : Env} {R : Room} {s : State} {m : MethodId} {args : Array Value} {below : List Frame} {meth : Method} {c : Code} {Z : State → Prop} {K : am_K} {Cl : am_C} {n h : Nat} {ls st : List Value} {w : am_W} (hc : am_cx Γ l mid d Q p e R s m args below meth c Z) (hk : am_ck mid n h (.ior)) (hK : ∀ n ls st w, K n ls st w → am_At Γ l mid p e R s m args below meth c Z n ls st w) (hs : am_stp Cl (am_bd mid) Q K (.ior) n ls st w) : am_At Γ l mid p e R s m args below meth c Z n ls st w := by
  obtain ⟨hx, hb, hml, hown, hts, henv, hini, hfr, hlo, hbc, hbs, hsz, hret⟩ := hc
  intro H locs lc hr hcn hS hl hln
  simp only [am_ck, am_ck1, Bool.and_eq_true] at hk
  obtain ⟨hd, hn⟩ := hk
  have hd := am_dq_ok hd
  have hn := am_beq hn
  unfold am_stp at hs
  dsimp only at hs
  obtain ⟨x0, r0, e0, hs0⟩ := am_pi_ex hs
  subst e0
  obtain ⟨x1, r1, e1, hs1⟩ := am_pi_ex hs0
  subst e1
  have hq := hK _ _ _ _ hs1 H locs lc hr hcn hS hl hln
  rw [hn] at hq
  exact lv_ior hx hb hd hq

theorem am_c_ixor {Γ : am_G} {l : Launch} {mid d : Nat} {Q : am_Q} {p : Program} {e : Env} {R : Room} {s : State} {m : MethodId} {args : Array Value} {below : List Frame} {meth : Method} {c : Code} {Z : State → Prop} {K : am_K} {Cl : am_C} {n h : Nat} {ls st : List Value} {w : am_W} (hc : am_cx Γ l mid d Q p e R s m args below meth c Z) (hk : am_ck mid n h (.ixor)) (hK : ∀ n ls st w, K n ls st w → am_At Γ l mid p e R s m args below meth c Z n ls st w) (hs : am_stp Cl (am_bd mid) Q K (.ixor) n ls st w) : am_At Γ l mid p e R s m args below meth c Z n ls st w := by
  obtain ⟨hx, hb, hml, hown, hts, henv, hini, hfr, hlo, hbc, hbs, hsz, hret⟩ := hc
  intro H locs lc hr hcn hS hl hln
  simp only [am_ck, am_ck1, Bool.and_eq_true] at hk
  obtain ⟨hd, hn⟩ := hk
  have hd := am_dq_ok hd
  have hn := am_beq hn
  unfold am_stp at hs
  dsimp only at hs
  obtain ⟨x0, r0, e0, hs0⟩ := am_pi_ex hs
  subst e0
  obtain ⟨x1, r1, e1, hs1⟩ := am_pi_ex hs0
  subst e1
  have hq := hK _ _ _ _ hs1 H locs lc hr hcn hS hl hln
  rw [hn] at hq
  exact lv_ixor hx hb hd hq

theorem am_c_ishl {Γ : am_G} {l : Launch} {mid d : Nat} {Q : am_Q} {p : Program} {e : Env} {R : Room} {s : State} {m : MethodId} {args : Array Value} {below : List Frame} {meth : Method} {c : Code} {Z : State → Prop} {K : am_K} {Cl : am_C} {n h : Nat} {ls st : List Value} {w : am_W} (hc : am_cx Γ l mid d Q p e R s m args below meth c Z) (hk : am_ck mid n h (.ishl)) (hK : ∀ n ls st w, K n ls st w → am_At Γ l mid p e R s m args below meth c Z n ls st w) (hs : am_stp Cl (am_bd mid) Q K (.ishl) n ls st w) : am_At Γ l mid p e R s m args below meth c Z n ls st w := by
  obtain ⟨hx, hb, hml, hown, hts, henv, hini, hfr, hlo, hbc, hbs, hsz, hret⟩ := hc
  intro H locs lc hr hcn hS hl hln
  simp only [am_ck, am_ck1, Bool.and_eq_true] at hk
  obtain ⟨hd, hn⟩ := hk
  have hd := am_dq_ok hd
  have hn := am_beq hn
  unfold am_stp at hs
  dsimp only at hs
  obtain ⟨x0, r0, e0, hs0⟩ := am_pi_ex hs
  subst e0
  obtain ⟨x1, r1, e1, hs1⟩ := am_pi_ex hs0
  subst e1
  have hq := hK _ _ _ _ hs1 H locs lc hr hcn hS hl hln
  rw [hn] at hq
  exact lv_ishl hx hb hd hq

theorem am_c_ishr {Γ : am_G} {l : Launch} {mid d : Nat} {Q : am_Q} {p : Program} {e : Env} {R : Room} {s : State} {m : MethodId} {args : Array Value} {below : List Frame} {meth : Method} {c : Code} {Z : State → Prop} {K : am_K} {Cl : am_C} {n h : Nat} {ls st : List Value} {w : am_W} (hc : am_cx Γ l mid d Q p e R s m args below meth c Z) (hk : am_ck mid n h (.ishr)) (hK : ∀ n ls st w, K n ls st w → am_At Γ l mid p e R s m args below meth c Z n ls st w) (hs : am_stp Cl (am_bd mid) Q K (.ishr) n ls st w) : am_At Γ l mid p e R s m args below meth c Z n ls st w := by
  obtain ⟨hx, hb, hml, hown, hts, henv, hini, hfr, hlo, hbc, hbs, hsz, hret⟩ := hc
  intro H locs lc hr hcn hS hl hln
  simp only [am_ck, am_ck1, Bool.and_eq_true] at hk
  obtain ⟨hd, hn⟩ := hk
  have hd := am_dq_ok hd
  have hn := am_beq hn
  unfold am_stp at hs
  dsimp only at hs
  obtain ⟨x0, r0, e0, hs0⟩ := am_pi_ex hs
  subst e0
  obtain ⟨x1, r1, e1, hs1⟩ := am_pi_ex hs0
  subst e1
  have hq := hK _ _ _ _ hs1 H locs lc hr hcn hS hl hln
  rw [hn] at hq
  exact lv_ishr hx hb hd hq

theorem am_c_idiv {Γ : am_G} {l : Launch} {mid d : Nat} {Q : am_Q} {p : Program} {e : Env} {R : Room} {s : State} {m : MethodId} {args : Array Value} {below : List Frame} {meth : Method} {c : Code} {Z : State → Prop} {K : am_K} {Cl : am_C} {n h : Nat} {ls st : List Value} {w : am_W} (hc : am_cx Γ l mid d Q p e R s m args below meth c Z) (hk : am_ck mid n h (.idiv)) (hK : ∀ n ls st w, K n ls st w → am_At Γ l mid p e R s m args below meth c Z n ls st w) (hs : am_stp Cl (am_bd mid) Q K (.idiv) n ls st w) : am_At Γ l mid p e R s m args below meth c Z n ls st w := by
  obtain ⟨hx, hb, hml, hown, hts, henv, hini, hfr, hlo, hbc, hbs, hsz, hret⟩ := hc
  intro H locs lc hr hcn hS hl hln
  simp only [am_ck, am_ck1, Bool.and_eq_true] at hk
  obtain ⟨hd, hn⟩ := hk
  have hd := am_dq_ok hd
  have hn := am_beq hn
  unfold am_stp at hs
  dsimp only at hs
  obtain ⟨x0, r0, e0, hs0⟩ := am_pi_ex hs
  subst e0
  obtain ⟨x1, r1, e1, hs1⟩ := am_pi_ex hs0
  subst e1
  obtain ⟨h0, hsz⟩ := hs1
  have hq := hK _ _ _ _ hsz H locs lc hr hcn hS hl hln
  rw [hn] at hq
  exact lv_idiv hx hb hd h0 hq

theorem am_c_irem {Γ : am_G} {l : Launch} {mid d : Nat} {Q : am_Q} {p : Program} {e : Env} {R : Room} {s : State} {m : MethodId} {args : Array Value} {below : List Frame} {meth : Method} {c : Code} {Z : State → Prop} {K : am_K} {Cl : am_C} {n h : Nat} {ls st : List Value} {w : am_W} (hc : am_cx Γ l mid d Q p e R s m args below meth c Z) (hk : am_ck mid n h (.irem)) (hK : ∀ n ls st w, K n ls st w → am_At Γ l mid p e R s m args below meth c Z n ls st w) (hs : am_stp Cl (am_bd mid) Q K (.irem) n ls st w) : am_At Γ l mid p e R s m args below meth c Z n ls st w := by
  obtain ⟨hx, hb, hml, hown, hts, henv, hini, hfr, hlo, hbc, hbs, hsz, hret⟩ := hc
  intro H locs lc hr hcn hS hl hln
  simp only [am_ck, am_ck1, Bool.and_eq_true] at hk
  obtain ⟨hd, hn⟩ := hk
  have hd := am_dq_ok hd
  have hn := am_beq hn
  unfold am_stp at hs
  dsimp only at hs
  obtain ⟨x0, r0, e0, hs0⟩ := am_pi_ex hs
  subst e0
  obtain ⟨x1, r1, e1, hs1⟩ := am_pi_ex hs0
  subst e1
  obtain ⟨h0, hsz⟩ := hs1
  have hq := hK _ _ _ _ hsz H locs lc hr hcn hS hl hln
  rw [hn] at hq
  exact lv_irem hx hb hd h0 hq

theorem am_c_iushr {Γ : am_G} {l : Launch} {mid d : Nat} {Q : am_Q} {p : Program} {e : Env} {R : Room} {s : State} {m : MethodId} {args : Array Value} {below : List Frame} {meth : Method} {c : Code} {Z : State → Prop} {K : am_K} {Cl : am_C} {n h : Nat} {ls st : List Value} {w : am_W} (hc : am_cx Γ l mid d Q p e R s m args below meth c Z) (hk : am_ck mid n h (.iushr)) (hK : ∀ n ls st w, K n ls st w → am_At Γ l mid p e R s m args below meth c Z n ls st w) (hs : am_stp Cl (am_bd mid) Q K (.iushr) n ls st w) : am_At Γ l mid p e R s m args below meth c Z n ls st w := by
  obtain ⟨hx, hb, hml, hown, hts, henv, hini, hfr, hlo, hbc, hbs, hsz, hret⟩ := hc
  intro H locs lc hr hcn hS hl hln
  simp only [am_ck, am_ck1, Bool.and_eq_true] at hk
  obtain ⟨hd, hn⟩ := hk
  have hd := am_dq_ok hd
  have hn := am_beq hn
  unfold am_stp at hs
  dsimp only at hs
  obtain ⟨x0, r0, e0, hs0⟩ := am_pi_ex hs
  subst e0
  obtain ⟨x1, r1, e1, hs1⟩ := am_pi_ex hs0
  subst e1
  have hq := hK _ _ _ _ hs1 H locs lc hr hcn hS hl hln
  rw [hn] at hq
  exact lv_iushr hx hb hd rfl hq

theorem am_c_ladd {Γ : am_G} {l : Launch} {mid d : Nat} {Q : am_Q} {p : Program} {e : Env} {R : Room} {s : State} {m : MethodId} {args : Array Value} {below : List Frame} {meth : Method} {c : Code} {Z : State → Prop} {K : am_K} {Cl : am_C} {n h : Nat} {ls st : List Value} {w : am_W} (hc : am_cx Γ l mid d Q p e R s m args below meth c Z) (hk : am_ck mid n h (.ladd)) (hK : ∀ n ls st w, K n ls st w → am_At Γ l mid p e R s m args below meth c Z n ls st w) (hs : am_stp Cl (am_bd mid) Q K (.ladd) n ls st w) : am_At Γ l mid p e R s m args below meth c Z n ls st w := by
  obtain ⟨hx, hb, hml, hown, hts, henv, hini, hfr, hlo, hbc, hbs, hsz, hret⟩ := hc
  intro H locs lc hr hcn hS hl hln
  simp only [am_ck, am_ck1, Bool.and_eq_true] at hk
  obtain ⟨hd, hn⟩ := hk
  have hd := am_dq_ok hd
  have hn := am_beq hn
  unfold am_stp at hs
  dsimp only at hs
  obtain ⟨x0, r0, e0, hs0⟩ := am_pl_ex hs
  subst e0
  obtain ⟨x1, r1, e1, hs1⟩ := am_pl_ex hs0
  subst e1
  have hq := hK _ _ _ _ hs1 H locs lc hr hcn hS hl hln
  rw [hn] at hq
  exact lv_ladd hx hb hd hq

theorem am_c_lsub {Γ : am_G} {l : Launch} {mid d : Nat} {Q : am_Q} {p : Program} {e : Env} {R : Room} {s : State} {m : MethodId} {args : Array Value} {below : List Frame} {meth : Method} {c : Code} {Z : State → Prop} {K : am_K} {Cl : am_C} {n h : Nat} {ls st : List Value} {w : am_W} (hc : am_cx Γ l mid d Q p e R s m args below meth c Z) (hk : am_ck mid n h (.lsub)) (hK : ∀ n ls st w, K n ls st w → am_At Γ l mid p e R s m args below meth c Z n ls st w) (hs : am_stp Cl (am_bd mid) Q K (.lsub) n ls st w) : am_At Γ l mid p e R s m args below meth c Z n ls st w := by
  obtain ⟨hx, hb, hml, hown, hts, henv, hini, hfr, hlo, hbc, hbs, hsz, hret⟩ := hc
  intro H locs lc hr hcn hS hl hln
  simp only [am_ck, am_ck1, Bool.and_eq_true] at hk
  obtain ⟨hd, hn⟩ := hk
  have hd := am_dq_ok hd
  have hn := am_beq hn
  unfold am_stp at hs
  dsimp only at hs
  obtain ⟨x0, r0, e0, hs0⟩ := am_pl_ex hs
  subst e0
  obtain ⟨x1, r1, e1, hs1⟩ := am_pl_ex hs0
  subst e1
  have hq := hK _ _ _ _ hs1 H locs lc hr hcn hS hl hln
  rw [hn] at hq
  exact lv_lsub hx hb hd hq

theorem am_c_lmul {Γ : am_G} {l : Launch} {mid d : Nat} {Q : am_Q} {p : Program} {e : Env} {R : Room} {s : State} {m : MethodId} {args : Array Value} {below : List Frame} {meth : Method} {c : Code} {Z : State → Prop} {K : am_K} {Cl : am_C} {n h : Nat} {ls st : List Value} {w : am_W} (hc : am_cx Γ l mid d Q p e R s m args below meth c Z) (hk : am_ck mid n h (.lmul)) (hK : ∀ n ls st w, K n ls st w → am_At Γ l mid p e R s m args below meth c Z n ls st w) (hs : am_stp Cl (am_bd mid) Q K (.lmul) n ls st w) : am_At Γ l mid p e R s m args below meth c Z n ls st w := by
  obtain ⟨hx, hb, hml, hown, hts, henv, hini, hfr, hlo, hbc, hbs, hsz, hret⟩ := hc
  intro H locs lc hr hcn hS hl hln
  simp only [am_ck, am_ck1, Bool.and_eq_true] at hk
  obtain ⟨hd, hn⟩ := hk
  have hd := am_dq_ok hd
  have hn := am_beq hn
  unfold am_stp at hs
  dsimp only at hs
  obtain ⟨x0, r0, e0, hs0⟩ := am_pl_ex hs
  subst e0
  obtain ⟨x1, r1, e1, hs1⟩ := am_pl_ex hs0
  subst e1
  have hq := hK _ _ _ _ hs1 H locs lc hr hcn hS hl hln
  rw [hn] at hq
  exact lv_lmul hx hb hd hq

theorem am_c_land {Γ : am_G} {l : Launch} {mid d : Nat} {Q : am_Q} {p : Program} {e : Env} {R : Room} {s : State} {m : MethodId} {args : Array Value} {below : List Frame} {meth : Method} {c : Code} {Z : State → Prop} {K : am_K} {Cl : am_C} {n h : Nat} {ls st : List Value} {w : am_W} (hc : am_cx Γ l mid d Q p e R s m args below meth c Z) (hk : am_ck mid n h (.land)) (hK : ∀ n ls st w, K n ls st w → am_At Γ l mid p e R s m args below meth c Z n ls st w) (hs : am_stp Cl (am_bd mid) Q K (.land) n ls st w) : am_At Γ l mid p e R s m args below meth c Z n ls st w := by
  obtain ⟨hx, hb, hml, hown, hts, henv, hini, hfr, hlo, hbc, hbs, hsz, hret⟩ := hc
  intro H locs lc hr hcn hS hl hln
  simp only [am_ck, am_ck1, Bool.and_eq_true] at hk
  obtain ⟨hd, hn⟩ := hk
  have hd := am_dq_ok hd
  have hn := am_beq hn
  unfold am_stp at hs
  dsimp only at hs
  obtain ⟨x0, r0, e0, hs0⟩ := am_pl_ex hs
  subst e0
  obtain ⟨x1, r1, e1, hs1⟩ := am_pl_ex hs0
  subst e1
  have hq := hK _ _ _ _ hs1 H locs lc hr hcn hS hl hln
  rw [hn] at hq
  exact lv_land hx hb hd hq

theorem am_c_lor {Γ : am_G} {l : Launch} {mid d : Nat} {Q : am_Q} {p : Program} {e : Env} {R : Room} {s : State} {m : MethodId} {args : Array Value} {below : List Frame} {meth : Method} {c : Code} {Z : State → Prop} {K : am_K} {Cl : am_C} {n h : Nat} {ls st : List Value} {w : am_W} (hc : am_cx Γ l mid d Q p e R s m args below meth c Z) (hk : am_ck mid n h (.lor)) (hK : ∀ n ls st w, K n ls st w → am_At Γ l mid p e R s m args below meth c Z n ls st w) (hs : am_stp Cl (am_bd mid) Q K (.lor) n ls st w) : am_At Γ l mid p e R s m args below meth c Z n ls st w := by
  obtain ⟨hx, hb, hml, hown, hts, henv, hini, hfr, hlo, hbc, hbs, hsz, hret⟩ := hc
  intro H locs lc hr hcn hS hl hln
  simp only [am_ck, am_ck1, Bool.and_eq_true] at hk
  obtain ⟨hd, hn⟩ := hk
  have hd := am_dq_ok hd
  have hn := am_beq hn
  unfold am_stp at hs
  dsimp only at hs
  obtain ⟨x0, r0, e0, hs0⟩ := am_pl_ex hs
  subst e0
  obtain ⟨x1, r1, e1, hs1⟩ := am_pl_ex hs0
  subst e1
  have hq := hK _ _ _ _ hs1 H locs lc hr hcn hS hl hln
  rw [hn] at hq
  exact lv_lor hx hb hd hq

theorem am_c_ldiv {Γ : am_G} {l : Launch} {mid d : Nat} {Q : am_Q} {p : Program} {e : Env} {R : Room} {s : State} {m : MethodId} {args : Array Value} {below : List Frame} {meth : Method} {c : Code} {Z : State → Prop} {K : am_K} {Cl : am_C} {n h : Nat} {ls st : List Value} {w : am_W} (hc : am_cx Γ l mid d Q p e R s m args below meth c Z) (hk : am_ck mid n h (.ldiv)) (hK : ∀ n ls st w, K n ls st w → am_At Γ l mid p e R s m args below meth c Z n ls st w) (hs : am_stp Cl (am_bd mid) Q K (.ldiv) n ls st w) : am_At Γ l mid p e R s m args below meth c Z n ls st w := by
  obtain ⟨hx, hb, hml, hown, hts, henv, hini, hfr, hlo, hbc, hbs, hsz, hret⟩ := hc
  intro H locs lc hr hcn hS hl hln
  simp only [am_ck, am_ck1, Bool.and_eq_true] at hk
  obtain ⟨hd, hn⟩ := hk
  have hd := am_dq_ok hd
  have hn := am_beq hn
  unfold am_stp at hs
  dsimp only at hs
  obtain ⟨x0, r0, e0, hs0⟩ := am_pl_ex hs
  subst e0
  obtain ⟨x1, r1, e1, hs1⟩ := am_pl_ex hs0
  subst e1
  obtain ⟨h0, hsz⟩ := hs1
  have hq := hK _ _ _ _ hsz H locs lc hr hcn hS hl hln
  rw [hn] at hq
  exact lv_ldiv hx hb hd h0 hq

theorem am_c_lrem {Γ : am_G} {l : Launch} {mid d : Nat} {Q : am_Q} {p : Program} {e : Env} {R : Room} {s : State} {m : MethodId} {args : Array Value} {below : List Frame} {meth : Method} {c : Code} {Z : State → Prop} {K : am_K} {Cl : am_C} {n h : Nat} {ls st : List Value} {w : am_W} (hc : am_cx Γ l mid d Q p e R s m args below meth c Z) (hk : am_ck mid n h (.lrem)) (hK : ∀ n ls st w, K n ls st w → am_At Γ l mid p e R s m args below meth c Z n ls st w) (hs : am_stp Cl (am_bd mid) Q K (.lrem) n ls st w) : am_At Γ l mid p e R s m args below meth c Z n ls st w := by
  obtain ⟨hx, hb, hml, hown, hts, henv, hini, hfr, hlo, hbc, hbs, hsz, hret⟩ := hc
  intro H locs lc hr hcn hS hl hln
  simp only [am_ck, am_ck1, Bool.and_eq_true] at hk
  obtain ⟨hd, hn⟩ := hk
  have hd := am_dq_ok hd
  have hn := am_beq hn
  unfold am_stp at hs
  dsimp only at hs
  obtain ⟨x0, r0, e0, hs0⟩ := am_pl_ex hs
  subst e0
  obtain ⟨x1, r1, e1, hs1⟩ := am_pl_ex hs0
  subst e1
  obtain ⟨h0, hsz⟩ := hs1
  have hq := hK _ _ _ _ hsz H locs lc hr hcn hS hl hln
  rw [hn] at hq
  exact lv_lrem hx hb hd h0 hq

theorem am_c_lshl {Γ : am_G} {l : Launch} {mid d : Nat} {Q : am_Q} {p : Program} {e : Env} {R : Room} {s : State} {m : MethodId} {args : Array Value} {below : List Frame} {meth : Method} {c : Code} {Z : State → Prop} {K : am_K} {Cl : am_C} {n h : Nat} {ls st : List Value} {w : am_W} (hc : am_cx Γ l mid d Q p e R s m args below meth c Z) (hk : am_ck mid n h (.lshl)) (hK : ∀ n ls st w, K n ls st w → am_At Γ l mid p e R s m args below meth c Z n ls st w) (hs : am_stp Cl (am_bd mid) Q K (.lshl) n ls st w) : am_At Γ l mid p e R s m args below meth c Z n ls st w := by
  obtain ⟨hx, hb, hml, hown, hts, henv, hini, hfr, hlo, hbc, hbs, hsz, hret⟩ := hc
  intro H locs lc hr hcn hS hl hln
  simp only [am_ck, am_ck1, Bool.and_eq_true] at hk
  obtain ⟨hd, hn⟩ := hk
  have hd := am_dq_ok hd
  have hn := am_beq hn
  unfold am_stp at hs
  dsimp only at hs
  obtain ⟨x0, r0, e0, hs0⟩ := am_pi_ex hs
  subst e0
  obtain ⟨x1, r1, e1, hs1⟩ := am_pl_ex hs0
  subst e1
  have hq := hK _ _ _ _ hs1 H locs lc hr hcn hS hl hln
  rw [hn] at hq
  exact lv_lshl hx hb hd rfl hq

theorem am_c_lushr {Γ : am_G} {l : Launch} {mid d : Nat} {Q : am_Q} {p : Program} {e : Env} {R : Room} {s : State} {m : MethodId} {args : Array Value} {below : List Frame} {meth : Method} {c : Code} {Z : State → Prop} {K : am_K} {Cl : am_C} {n h : Nat} {ls st : List Value} {w : am_W} (hc : am_cx Γ l mid d Q p e R s m args below meth c Z) (hk : am_ck mid n h (.lushr)) (hK : ∀ n ls st w, K n ls st w → am_At Γ l mid p e R s m args below meth c Z n ls st w) (hs : am_stp Cl (am_bd mid) Q K (.lushr) n ls st w) : am_At Γ l mid p e R s m args below meth c Z n ls st w := by
  obtain ⟨hx, hb, hml, hown, hts, henv, hini, hfr, hlo, hbc, hbs, hsz, hret⟩ := hc
  intro H locs lc hr hcn hS hl hln
  simp only [am_ck, am_ck1, Bool.and_eq_true] at hk
  obtain ⟨hd, hn⟩ := hk
  have hd := am_dq_ok hd
  have hn := am_beq hn
  unfold am_stp at hs
  dsimp only at hs
  obtain ⟨x0, r0, e0, hs0⟩ := am_pi_ex hs
  subst e0
  obtain ⟨x1, r1, e1, hs1⟩ := am_pl_ex hs0
  subst e1
  have hq := hK _ _ _ _ hs1 H locs lc hr hcn hS hl hln
  rw [hn] at hq
  exact lv_lushr hx hb hd rfl hq

theorem am_c_lcmp {Γ : am_G} {l : Launch} {mid d : Nat} {Q : am_Q} {p : Program} {e : Env} {R : Room} {s : State} {m : MethodId} {args : Array Value} {below : List Frame} {meth : Method} {c : Code} {Z : State → Prop} {K : am_K} {Cl : am_C} {n h : Nat} {ls st : List Value} {w : am_W} (hc : am_cx Γ l mid d Q p e R s m args below meth c Z) (hk : am_ck mid n h (.lcmp)) (hK : ∀ n ls st w, K n ls st w → am_At Γ l mid p e R s m args below meth c Z n ls st w) (hs : am_stp Cl (am_bd mid) Q K (.lcmp) n ls st w) : am_At Γ l mid p e R s m args below meth c Z n ls st w := by
  obtain ⟨hx, hb, hml, hown, hts, henv, hini, hfr, hlo, hbc, hbs, hsz, hret⟩ := hc
  intro H locs lc hr hcn hS hl hln
  simp only [am_ck, am_ck1, Bool.and_eq_true] at hk
  obtain ⟨hd, hn⟩ := hk
  have hd := am_dq_ok hd
  have hn := am_beq hn
  unfold am_stp at hs
  dsimp only at hs
  obtain ⟨x0, r0, e0, hs0⟩ := am_pl_ex hs
  subst e0
  obtain ⟨x1, r1, e1, hs1⟩ := am_pl_ex hs0
  subst e1
  have hq := hK _ _ _ _ hs1 H locs lc hr hcn hS hl hln
  rw [hn] at hq
  exact W.lcmp hx hb hd hq

theorem am_c_i2l {Γ : am_G} {l : Launch} {mid d : Nat} {Q : am_Q} {p : Program} {e : Env} {R : Room} {s : State} {m : MethodId} {args : Array Value} {below : List Frame} {meth : Method} {c : Code} {Z : State → Prop} {K : am_K} {Cl : am_C} {n h : Nat} {ls st : List Value} {w : am_W} (hc : am_cx Γ l mid d Q p e R s m args below meth c Z) (hk : am_ck mid n h (.i2l)) (hK : ∀ n ls st w, K n ls st w → am_At Γ l mid p e R s m args below meth c Z n ls st w) (hs : am_stp Cl (am_bd mid) Q K (.i2l) n ls st w) : am_At Γ l mid p e R s m args below meth c Z n ls st w := by
  obtain ⟨hx, hb, hml, hown, hts, henv, hini, hfr, hlo, hbc, hbs, hsz, hret⟩ := hc
  intro H locs lc hr hcn hS hl hln
  simp only [am_ck, am_ck1, Bool.and_eq_true] at hk
  obtain ⟨hd, hn⟩ := hk
  have hd := am_dq_ok hd
  have hn := am_beq hn
  unfold am_stp at hs
  dsimp only at hs
  obtain ⟨x0, r0, e0, hs0⟩ := am_pi_ex hs
  subst e0
  have hq := hK _ _ _ _ hs0 H locs lc hr hcn hS hl hln
  rw [hn] at hq
  exact lv_i2l hx hb hd rfl hq

theorem am_c_l2i {Γ : am_G} {l : Launch} {mid d : Nat} {Q : am_Q} {p : Program} {e : Env} {R : Room} {s : State} {m : MethodId} {args : Array Value} {below : List Frame} {meth : Method} {c : Code} {Z : State → Prop} {K : am_K} {Cl : am_C} {n h : Nat} {ls st : List Value} {w : am_W} (hc : am_cx Γ l mid d Q p e R s m args below meth c Z) (hk : am_ck mid n h (.l2i)) (hK : ∀ n ls st w, K n ls st w → am_At Γ l mid p e R s m args below meth c Z n ls st w) (hs : am_stp Cl (am_bd mid) Q K (.l2i) n ls st w) : am_At Γ l mid p e R s m args below meth c Z n ls st w := by
  obtain ⟨hx, hb, hml, hown, hts, henv, hini, hfr, hlo, hbc, hbs, hsz, hret⟩ := hc
  intro H locs lc hr hcn hS hl hln
  simp only [am_ck, am_ck1, Bool.and_eq_true] at hk
  obtain ⟨hd, hn⟩ := hk
  have hd := am_dq_ok hd
  have hn := am_beq hn
  unfold am_stp at hs
  dsimp only at hs
  obtain ⟨x0, r0, e0, hs0⟩ := am_pl_ex hs
  subst e0
  have hq := hK _ _ _ _ hs0 H locs lc hr hcn hS hl hln
  rw [hn] at hq
  exact lv_l2i hx hb hd rfl hq

theorem am_c_i2c {Γ : am_G} {l : Launch} {mid d : Nat} {Q : am_Q} {p : Program} {e : Env} {R : Room} {s : State} {m : MethodId} {args : Array Value} {below : List Frame} {meth : Method} {c : Code} {Z : State → Prop} {K : am_K} {Cl : am_C} {n h : Nat} {ls st : List Value} {w : am_W} (hc : am_cx Γ l mid d Q p e R s m args below meth c Z) (hk : am_ck mid n h (.i2c)) (hK : ∀ n ls st w, K n ls st w → am_At Γ l mid p e R s m args below meth c Z n ls st w) (hs : am_stp Cl (am_bd mid) Q K (.i2c) n ls st w) : am_At Γ l mid p e R s m args below meth c Z n ls st w := by
  obtain ⟨hx, hb, hml, hown, hts, henv, hini, hfr, hlo, hbc, hbs, hsz, hret⟩ := hc
  intro H locs lc hr hcn hS hl hln
  simp only [am_ck, am_ck1, Bool.and_eq_true] at hk
  obtain ⟨hd, hn⟩ := hk
  have hd := am_dq_ok hd
  have hn := am_beq hn
  unfold am_stp at hs
  dsimp only at hs
  obtain ⟨x0, r0, e0, hs0⟩ := am_pi_ex hs
  subst e0
  have hq := hK _ _ _ _ hs0 H locs lc hr hcn hS hl hln
  rw [hn] at hq
  exact lv_i2c hx hb hd rfl hq

theorem am_c_i2b {Γ : am_G} {l : Launch} {mid d : Nat} {Q : am_Q} {p : Program} {e : Env} {R : Room} {s : State} {m : MethodId} {args : Array Value} {below : List Frame} {meth : Method} {c : Code} {Z : State → Prop} {K : am_K} {Cl : am_C} {n h : Nat} {ls st : List Value} {w : am_W} (hc : am_cx Γ l mid d Q p e R s m args below meth c Z) (hk : am_ck mid n h (.i2b)) (hK : ∀ n ls st w, K n ls st w → am_At Γ l mid p e R s m args below meth c Z n ls st w) (hs : am_stp Cl (am_bd mid) Q K (.i2b) n ls st w) : am_At Γ l mid p e R s m args below meth c Z n ls st w := by
  obtain ⟨hx, hb, hml, hown, hts, henv, hini, hfr, hlo, hbc, hbs, hsz, hret⟩ := hc
  intro H locs lc hr hcn hS hl hln
  simp only [am_ck, am_ck1, Bool.and_eq_true] at hk
  obtain ⟨hd, hn⟩ := hk
  have hd := am_dq_ok hd
  have hn := am_beq hn
  unfold am_stp at hs
  dsimp only at hs
  obtain ⟨x0, r0, e0, hs0⟩ := am_pi_ex hs
  subst e0
  have hq := hK _ _ _ _ hs0 H locs lc hr hcn hS hl hln
  rw [hn] at hq
  exact lv_i2b hx hb hd rfl hq

theorem am_c_dup {Γ : am_G} {l : Launch} {mid d : Nat} {Q : am_Q} {p : Program} {e : Env} {R : Room} {s : State} {m : MethodId} {args : Array Value} {below : List Frame} {meth : Method} {c : Code} {Z : State → Prop} {K : am_K} {Cl : am_C} {n h : Nat} {ls st : List Value} {w : am_W} (hc : am_cx Γ l mid d Q p e R s m args below meth c Z) (hk : am_ck mid n h (.dup)) (hK : ∀ n ls st w, K n ls st w → am_At Γ l mid p e R s m args below meth c Z n ls st w) (hs : am_stp Cl (am_bd mid) Q K (.dup) n ls st w) : am_At Γ l mid p e R s m args below meth c Z n ls st w := by
  obtain ⟨hx, hb, hml, hown, hts, henv, hini, hfr, hlo, hbc, hbs, hsz, hret⟩ := hc
  intro H locs lc hr hcn hS hl hln
  simp only [am_ck, am_ck1, Bool.and_eq_true] at hk
  obtain ⟨hd, hn⟩ := hk
  have hd := am_dq_ok hd
  have hn := am_beq hn
  unfold am_stp at hs
  dsimp only at hs
  obtain ⟨v, r, e1, hs1, hv⟩ := am_p1_ex hs
  subst e1
  have hq := hK _ _ _ _ hs1 H locs lc hr hcn hS hl hln
  rw [hn] at hq
  exact lv_dup hx hb hd (am_cv_cat1 henv hv) hq

theorem am_c_pop {Γ : am_G} {l : Launch} {mid d : Nat} {Q : am_Q} {p : Program} {e : Env} {R : Room} {s : State} {m : MethodId} {args : Array Value} {below : List Frame} {meth : Method} {c : Code} {Z : State → Prop} {K : am_K} {Cl : am_C} {n h : Nat} {ls st : List Value} {w : am_W} (hc : am_cx Γ l mid d Q p e R s m args below meth c Z) (hk : am_ck mid n h (.pop)) (hK : ∀ n ls st w, K n ls st w → am_At Γ l mid p e R s m args below meth c Z n ls st w) (hs : am_stp Cl (am_bd mid) Q K (.pop) n ls st w) : am_At Γ l mid p e R s m args below meth c Z n ls st w := by
  obtain ⟨hx, hb, hml, hown, hts, henv, hini, hfr, hlo, hbc, hbs, hsz, hret⟩ := hc
  intro H locs lc hr hcn hS hl hln
  simp only [am_ck, am_ck1, Bool.and_eq_true] at hk
  obtain ⟨hd, hn⟩ := hk
  have hd := am_dq_ok hd
  have hn := am_beq hn
  unfold am_stp at hs
  dsimp only at hs
  obtain ⟨v, r, e1, hs1, hv⟩ := am_p1_ex hs
  subst e1
  have hq := hK _ _ _ _ hs1 H locs lc hr hcn hS hl hln
  rw [hn] at hq
  exact lv_pop hx hb hd (am_cv_cat1 henv hv) hq

theorem am_c_dup2 {Γ : am_G} {l : Launch} {mid d : Nat} {Q : am_Q} {p : Program} {e : Env} {R : Room} {s : State} {m : MethodId} {args : Array Value} {below : List Frame} {meth : Method} {c : Code} {Z : State → Prop} {K : am_K} {Cl : am_C} {n h : Nat} {ls st : List Value} {w : am_W} (hc : am_cx Γ l mid d Q p e R s m args below meth c Z) (hk : am_ck mid n h (.dup2)) (hK : ∀ n ls st w, K n ls st w → am_At Γ l mid p e R s m args below meth c Z n ls st w) (hs : am_stp Cl (am_bd mid) Q K (.dup2) n ls st w) : am_At Γ l mid p e R s m args below meth c Z n ls st w := by
  obtain ⟨hx, hb, hml, hown, hts, henv, hini, hfr, hlo, hbc, hbs, hsz, hret⟩ := hc
  intro H locs lc hr hcn hS hl hln
  simp only [am_ck, am_ck1, Bool.and_eq_true] at hk
  obtain ⟨hd, hn⟩ := hk
  have hd := am_dq_ok hd
  have hn := am_beq hn
  unfold am_stp at hs
  dsimp only at hs
  obtain ⟨v, r0, e1, hs0, hv⟩ := am_p1_ex hs
  subst e1
  obtain ⟨u, r, e2, hs1, hu⟩ := am_p1_ex hs0
  subst e2
  have hq := hK _ _ _ _ hs1 H locs lc hr hcn hS hl hln
  rw [hn] at hq
  exact lv_dup2_11 hx hb hd (am_cv_cat1 henv hv) (am_cv_cat1 henv hu) hq

theorem am_c_aconst_null {Γ : am_G} {l : Launch} {mid d : Nat} {Q : am_Q} {p : Program} {e : Env} {R : Room} {s : State} {m : MethodId} {args : Array Value} {below : List Frame} {meth : Method} {c : Code} {Z : State → Prop} {K : am_K} {Cl : am_C} {n h : Nat} {ls st : List Value} {w : am_W} (hc : am_cx Γ l mid d Q p e R s m args below meth c Z) (hk : am_ck mid n h (.aconst_null)) (hK : ∀ n ls st w, K n ls st w → am_At Γ l mid p e R s m args below meth c Z n ls st w) (hs : am_stp Cl (am_bd mid) Q K (.aconst_null) n ls st w) : am_At Γ l mid p e R s m args below meth c Z n ls st w := by
  obtain ⟨hx, hb, hml, hown, hts, henv, hini, hfr, hlo, hbc, hbs, hsz, hret⟩ := hc
  intro H locs lc hr hcn hS hl hln
  simp only [am_ck, am_ck1, Bool.and_eq_true] at hk
  obtain ⟨hd, hn⟩ := hk
  have hd := am_dq_ok hd
  have hn := am_beq hn
  unfold am_stp at hs
  dsimp only at hs
  have hq := hK _ _ _ _ hs H locs lc hr hcn hS hl hln
  rw [hn] at hq
  exact lv_null hx hb hd hq
