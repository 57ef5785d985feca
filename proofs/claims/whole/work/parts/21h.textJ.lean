/-! text, at J -/
theorem q_rl_er {b : Nat → Int} {n e : Nat} (h : q_rl b n = some (.inl e)) : e ≤ n := by
  have go : ∀ (m i : Nat) (cs : List Int) (a : q_AV), i ≤ n → q_lw b n 1500 m i cs a = some (.inl e) → e ≤ n := by
    intro m
    induction m with
    | zero => intro i cs a hi h; cases h
    | succ m ih =>
      intro i cs a hi h
      rw [q_lw_s] at h
      match ec : q_clause b n 1500 i cs, h with
      | none, h => cases h
      | some (.inl e'), h =>
        cases h
        exact q_clause_er ec hi
      | some (.inr (j, c, v, w)), h =>
        obtain ⟨p1, p2, -⟩ := q_clause_ok ec hi
        dsimp only at h
        by_cases k1 : n ≤ j
        · rw [if_pos k1] at h; cases h
        · rw [if_neg k1] at h
          by_cases k2 : q_tk b n j = 59
          · rw [if_pos k2] at h
            exact ih _ _ _ (q_s_le (show j + 1 ≤ n by omega)) h
          · rw [if_neg k2] at h
            cases h
            exact p2
  exact go 241 _ _ _ (q_s_le (Nat.zero_le _)) h
theorem q_num_er {b : Nat → Int} {n i e : Nat} {lo hi : Int} (h : q_num b n lo hi i = .inl e) (hi' : i ≤ n) : e ≤ n := by
  unfold q_num at h
  by_cases c : q_dg b n 3 i = 0
  · rw [if_pos c] at h; cases h; exact hi'
  · rw [if_neg c] at h
    by_cases c2 : 2 < q_dg b n 3 i ∨ q_nv b i (q_dg b n 3 i) < lo ∨ hi < q_nv b i (q_dg b n 3 i)
    · rw [if_pos c2] at h
      cases h
      have := q_dg_n b n 3 i hi'
      omega
    · rw [if_neg c2] at h; cases h
theorem q_its_er {b : Nat → Int} {n A : Nat} {kd : Int} {e : Nat} : ∀ (f i t : Nat) (V : Nat → Int), i ≤ n → q_its b n A kd f i t V = .inl e → e ≤ n
  | 0, i, t, V => fun hi h => by cases h; exact hi
  | f + 1, i, t, V => fun hi h => by
    rw [q_its_s] at h
    by_cases c : n ≤ i ∨ q_tk b n i = 59
    · rw [if_pos c] at h; cases h
    · rw [if_neg c] at h
      by_cases c2 : q_ix A (q_tk b n i) < 0 ∨ t.testBit (q_ix A (q_tk b n i)).toNat = true
      · rw [if_pos c2] at h; cases h; exact hi
      · rw [if_neg c2] at h
        have hs2 := q_s_le (b := b) (show i + 1 ≤ n by omega)
        cases en : q_num b n (q_lea kd (q_ix A (q_tk b n i)).toNat) (q_mo2 kd (q_ix A (q_tk b n i)).toNat) (q_s b n (i + 1)) with
        | inl e' => rw [en] at h; cases h; exact q_num_er en hs2
        | inr p =>
          obtain ⟨j1, v⟩ := p
          rw [en] at h
          exact q_its_er f j1 _ _ (q_num_ok en hs2).2.2 h
theorem q_fin_er {n R e : Nat} {ru to : Nat → Int} (h : q_fin n R ru to = .inl e) : e ≤ n := by
  unfold q_fin at h
  by_cases c : R < 2 ∨ q_tw1 to R 0 = true
  · rw [if_pos c] at h; cases h; exact Nat.le_refl _
  · rw [if_neg c] at h; cases h
theorem q_cls_er {b : Nat → Int} {n e : Nat} : ∀ (f i rl R : Nat) (ru to : Nat → Int), i ≤ n → q_vk 115 4 ru → q_cls b n f i rl R ru to = .inl e → e ≤ n
  | 0, i, rl, R, ru, to => fun hi _ h => by cases h; exact hi
  | f + 1, i, rl, R, ru, to => fun hi hv h => by
    rw [q_cls_s] at h
    by_cases c : q_tk b n i = 115 ∧ rl = 0
    · rw [if_pos c] at h
      have hin : i < n := q_tk_lt (b := b) (by omega)
      have hs2 := q_s_le (b := b) (show i + 1 ≤ n by omega)
      cases en : q_its b n 5102 115 5 (q_s b n (i + 1)) 0 ru with
      | inl e' => rw [en] at h; cases h; exact q_its_er _ _ _ _ hs2 en
      | inr p =>
        obtain ⟨j, V⟩ := p
        rw [en] at h
        have k1 := q_its_ok 5 _ 0 ru j V hv hs2 en
        have h : (if n ≤ j then q_fin n R V to else q_cls b n f (q_s b n (j + 1)) 1 R V to) = .inl e := h
        by_cases cj : n ≤ j
        · rw [if_pos cj] at h; exact q_fin_er h
        · rw [if_neg cj] at h
          exact q_cls_er f _ _ _ _ _ (q_s_le (show j + 1 ≤ n by omega)) k1.2.2 h
    · rw [if_neg c] at h
      by_cases c2 : q_tk b n i = 100 ∧ R < 8
      · rw [if_pos c2] at h
        have hin : i < n := q_tk_lt (b := b) (by omega)
        have hs2 := q_s_le (b := b) (show i + 1 ≤ n by omega)
        cases en : q_its b n 5103 100 6 (q_s b n (i + 1)) 0 (q_us2 100) with
        | inl e' => rw [en] at h; cases h; exact q_its_er _ _ _ _ hs2 en
        | inr p =>
          obtain ⟨j, V⟩ := p
          rw [en] at h
          have k1 := q_its_ok 6 _ 0 (q_us2 100) j V q_us_vk.2 hs2 en
          have h : (if n ≤ j then q_fin n (R + 1) ru (q_pt R to V) else q_cls b n f (q_s b n (j + 1)) rl (R + 1) ru (q_pt R to V)) = .inl e := h
          by_cases cj : n ≤ j
          · rw [if_pos cj] at h; exact q_fin_er h
          · rw [if_neg cj] at h
            exact q_cls_er f _ _ _ _ _ (q_s_le (show j + 1 ≤ n by omega)) hv h
      · rw [if_neg c2] at h; cases h; exact hi
theorem q_off_er {b : Nat → Int} {n e : Nat} (h : q_off b n = .inl e) : e ≤ n := q_cls_er 10 _ 0 0 _ _ (q_s_le (Nat.zero_le _)) q_us_vk.1 h
theorem q_rdn_er {b : Nat → Int} {n e : Nat} : ∀ (f i t m : Nat) (V : Nat → Int), i ≤ n → q_rdn b n f i t m V = .inl e → e ≤ n
  | 0, i, t, m, V => fun hi h => by cases h; exact hi
  | f + 1, i, t, m, V => fun hi h => by
    rw [q_rdn_s] at h
    by_cases c : n ≤ i
    · rw [if_pos c] at h
      by_cases c0 : m = 0
      · rw [if_pos c0] at h; cases h; exact Nat.le_refl _
      · rw [if_neg c0] at h; cases h
    · rw [if_neg c] at h
      by_cases c2 : b i - 48 < 0 ∨ 8 ≤ b i - 48 ∨ t.testBit (b i - 48).toNat = true
      · rw [if_pos c2] at h; cases h; exact hi
      · rw [if_neg c2] at h
        exact q_rdn_er f _ _ _ _ (q_s_le (show i + 1 ≤ n by omega)) h
theorem q_rnd_er {b : Nat → Int} {n e : Nat} (h : q_rnd b n = .inl e) : e ≤ n := q_rdn_er _ _ _ _ _ (q_s_le (Nat.zero_le _)) h
theorem q_rnd_ok {b : Nat → Int} {n m : Nat} {V : Nat → Int} (h : q_rnd b n = .inr (m, V)) : (∃ t, q_rv t m V) ∧ 1 ≤ m := q_rdn_ok _ _ 0 0 _ m V (by decide) (by decide) ⟨by omega, fun x hx => absurd hx (by omega), fun x _ => rfl, fun x x' hx => absurd hx (by omega)⟩ h
/-- both read, and the fault is told: nothing changes -/
theorem q_J_sc {I I1 L : Nat → Nat → Int} {lp : Nat} {a : q_A} {S : List (Nat × Nat × Nat)} (hP : q_JP a) (hC : q_JC I lp a) (hB : q_Bk I (j_z a)) (hM : q_JM I L a) (hf : x_fr S I I1) (hs : x_sub S q_fSc = true) : q_JC I1 lp a ∧ q_Bk I1 (j_z a) ∧ q_JM I1 L a := by
  have f1 : x_fr q_fSc I I1 := x_fr_mono hf hs
  refine ⟨q_JC_fr hP hC (x_fr_mono f1 (by decide +kernel)), ?_, q_JM_lo hP hM f1 (by decide)⟩
  unfold q_Bk
  rw [f1 161 1 rfl, f1 161 3 rfl, f1 161 4 rfl]
  exact hB
theorem q_J_sm {I1 I2 L : Nat → Nat → Int} {lp tp : Nat} {a : q_A} {S : List (Nat × Nat × Nat)} (hP : q_JP a) (hC : q_JC I1 lp a) (hB : q_Bk I1 (j_z a)) (hM : q_JM I1 L a) (hf : x_fr S (x_u I1 179 0 0) I2) (hs : x_sub S q_fSm = true) : q_J (I2, L, lp, tp) := by
  have f1 : x_fr q_fSm I1 I2 := x_fr_trans (x_fr_u (x_fr_refl _ _) rfl) (x_fr_mono hf hs)
  exact q_J_end hP hC hB f1 (by decide +kernel) (by decide +kernel) (q_JM_ag hP hM (q_agM_fr f1 (by decide +kernel)) (q_LM_S f1 (by decide) hM.2.1.2.2.2.1))
theorem q_Rm_s {S : List (Nat × Nat × Nat)} {I I' : Nat → Nat → Int} {w : Nat} {rd : Nat → Int} (hw : w < 4) (h : q_Rm I w rd) (hf : x_fr S I I') (h8 : ∀ t ∈ S, t.1 = 188 → 32 ≤ t.2.1) (h9 : ∀ t ∈ S, t.1 = 189 → 4 ≤ t.2.1) : q_Rm I' w rd := by
  obtain ⟨n, h1, h2, h3, h4⟩ := h
  have e188 : ∀ x, x < 8 → I' 188 (8 * w + x) = I 188 (8 * w + x) := fun x hx => hf 188 _ (by
    cases e : x_mem S 188 (8 * w + x) with
    | false => rfl
    | true =>
      obtain ⟨t, m1, m2, m3, m4⟩ := (x_mem_iff _ 188 (8 * w + x)).mp e
      have := h8 t m1 m2.symm
      omega)
  have e189 : I' 189 w = I 189 w := hf 189 w (by
    cases e : x_mem S 189 w with
    | false => rfl
    | true =>
      obtain ⟨t, m1, m2, m3, m4⟩ := (x_mem_iff _ 189 w).mp e
      have := h9 t m1 m2.symm
      omega)
  exact ⟨n, e189.trans h1, h2, fun x hx => by rw [e188 x (by omega)]; exact h3 x hx, h4⟩
theorem j_textX {g : x_G} {k : Nat} {w0 : x_W} (hJ : q_J w0) {s : Int} (hs : x_rg s) (hx : ¬ (0 ≤ s ∧ s ≤ 2)) : q_call g (k + 140) 121 223 [x_i s] w0 := by
  obtain ⟨I, L, lp, tp⟩ := w0
  obtain ⟨a, hP, hC, hB, hM⟩ := hJ
  dsimp only at hC hB hM
  refine x_le (show 3 ≤ k + 140 by omega) (v_text (k := 2) (x_le (show 1 ≤ 2 by omega) (v_fault (k := 0) ⟨hs, fun e => by omega, fun e => by omega, fun e => by omega, fun _ => ⟨_, rfl, by decide, fun h => absurd h (by decide), fun _ => ⟨_, rfl, ?_⟩⟩⟩)))
  exact x_le (show 2 ≤ k + 140 by omega) (v_textM (k := 0) ⟨hs, fun c => absurd c hx, fun _ => ⟨rfl, q_J_same hP hC hB hM, rfl⟩⟩)
theorem q_Tm_nil {I : Nat → Nat → Int} (h : I 179 6 = 0) : q_Tm I [] := ⟨h, by decide, fun k hk => absurd hk (by simp), fun b hb => absurd hb (by simp)⟩
theorem q_Tc_nil {I : Nat → Nat → Int} (h : I 2 1 = 0) : q_Tc I [] := ⟨h, by decide, fun k hk => absurd hk (by simp), fun b hb => absurd hb (by simp)⟩
theorem j_text0 {g : x_G} {k : Nat} {w0 : x_W} (hJ : q_J w0) : q_call g (k + 140) 121 223 [x_i 0] w0 := by
  obtain ⟨I, L, lp, tp⟩ := w0
  obtain ⟨a, hP, hC, hB, hM⟩ := hJ
  dsimp only at hC hB hM
  obtain ⟨h2, hn, hb⟩ := q_j_tape hC
  have hsta := hC.2.2.2.2.2.2.2.2.2.2.1
  have hstr := hC.2.2.2.2.2.2.2.2.2.2.2
  refine x_le (show 20 ≤ k + 140 by omega) (v_text (k := 19) (x_le (show 14 ≤ 19 by omega) (v_fault (k := 13) ⟨by decide, fun _ => ?_, fun e => absurd e (by decide), fun e => absurd e (by decide), fun e => absurd rfl e.1⟩)))
  refine s_oRead (k := 0) rfl h2 hn hb hstr hsta (fun e he I1 f1 => ⟨_, rfl, _, rfl, ?_, fun h => by omega, fun _ => ⟨_, rfl, ?_⟩⟩) (fun R ru to he I1 f1 e5 e6 e7 => ⟨_, rfl, _, rfl, by decide, fun _ => ⟨by decide, fun _ => ?_, fun e => absurd e (by decide), fun e => absurd rfl e.1⟩, fun h => absurd rfl h⟩)
  · have := q_off_er he
    exact ⟨by omega, by omega⟩
  · obtain ⟨C1, B1, M1⟩ := q_J_sc hP hC hB hM f1 (by decide)
    have hT := q_MT_0 (q_MT_0 (q_j_MT hC M1))
    refine x_le (show 20 ≤ k + 140 by omega) (v_textM (k := 18) ⟨by decide, fun _ => ⟨fun _ => ⟨fun _ => ?_, fun e => absurd e (by decide)⟩, fun e => absurd e (by decide)⟩, fun h => absurd ⟨by decide, by decide⟩ h⟩)
    refine x_le (show 15 ≤ 18 by omega) (v_faultM (k := 13) ⟨by decide, fun _ => ⟨fun h => absurd rfl h, fun _ => ?_⟩, fun h => absurd ⟨by decide, by decide⟩ h⟩)
    refine m_office (k := 0) hT (fun e' he' hen I2 f2 e11 => ⟨rfl, fun _ => ⟨fun _ => ⟨_, rfl, ?_, fun h => ?_, fun _ => ⟨rfl, ?_, rfl⟩⟩, fun e => absurd e (by decide)⟩, fun e => absurd e (by decide)⟩) (fun R ru to he' => by rw [he] at he'; cases he')
    · dsimp only; rw [e11]; exact ⟨by omega, by omega⟩
    · dsimp only at h; rw [e11] at h; omega
    · exact q_J_sm hP C1 B1 M1 (x_fr_trans (x_fr_u (x_fr_refl _ _) rfl) (x_fr_mono f2 (by decide))) (show x_sub q_fSm q_fSm = true by decide)
  · obtain ⟨C1, B1, M1⟩ := q_J_sc hP hC hB hM f1 (by decide)
    obtain ⟨hW, hR2⟩ := q_off_ok he
    have hR : R ≤ 8 := by rcases hW.1 with h | h <;> omega
    have hR8 := q_R8 hP
    have n4 := hP.2.2.2.2.1
    have t21 := (q_j_tape C1).1
    refine x_le (show 5 ≤ 19 by omega) (s_open (k := 0) hW e5 e6 e7 (by omega) (fun I2 f2 o2 n2 u5 u6 t2 s2 b2 l2 => ⟨_, rfl, _, rfl, ?_⟩))
    have hP' : q_JP ([], (R, ru, to), a.2.2.1, a.2.2.2.1, a.2.2.2.2.1, (q_N0 R ru to, q_vH (j_v a), 0, q_vl (j_v a), q_vr (j_v a)), (0, j_M a, j_li a), ((fun _ => 0), (fun _ => 1000000), 0)) := by
      refine ⟨hW, hP.2.1, hP.2.2.1, ⟨Nat.zero_le _, fun _ => 0, fun j hj => absurd hj (Nat.not_lt_zero j), q_N0_k hW hR2, ⟨rfl, rfl, fun i w hi => absurd hi (Nat.not_lt_zero i)⟩, fun j hj => absurd hj (Nat.not_lt_zero j)⟩, n4, hP.2.2.2.2.2.1, Or.inl rfl, Nat.zero_le _⟩
    have hi := x_fr_hi f2 (by decide)
    have C2 : q_JC I2 lp ([], (R, ru, to), a.2.2.1, a.2.2.2.1, a.2.2.2.2.1, (q_N0 R ru to, q_vH (j_v a), 0, q_vl (j_v a), q_vr (j_v a)), (0, j_M a, j_li a), ((fun _ => 0), (fun _ => 1000000), 0)) := by
      obtain ⟨h1, h2, ⟨h3, h4⟩, h5, h6, h7, ⟨h8, h9⟩, h10, h11, h12, h13, h14⟩ := C1
      obtain ⟨nx, x1, x2, x3, x4, x5⟩ := h2.2.2.2.2.2.1
      refine ⟨q_Tc_nil l2, ⟨o2, q_Lc_ag h2.2.1 (x_fr_ag f2 (by decide)), ⟨(f2 1 15 rfl).trans h2.2.2.1.1, fun j hj x hx => ?_⟩, (f2 1 16 rfl).trans h2.2.2.2.1, n2, ⟨nx, x1, (f2 21 4 rfl).trans x2, u5, Nat.zero_le _, fun j hj => absurd hj (Nat.not_lt_zero j)⟩, fun x => (f2 23 x rfl).trans (h2.2.2.2.2.2.2 x)⟩, ⟨(f2 1 13 rfl).trans h3, fun j hj => q_C1_s (by have : j < j_nl a := hj; omega) (h4 j hj) f2 (by decide)⟩, (f2 1 14 rfl).trans h5, h6, (f2 1 17 rfl).trans h7, ⟨u6, fun e => absurd e (show ¬ (0 : Int) = 1 by decide)⟩, ⟨_, s2, fun _ => rfl⟩, t2, q_Sf_fr h12 hi, q_sta_fr h13 hi, q_str_fr (S := []) h14 hi⟩
      have n4r := hP.2.1.1
      have hj' : j < j_nr a := hj
      refine (f2 (150 + j) x (x_nm x fun t m e => ?_)).trans (h2.2.2.1.2 j hj x hx)
      have hall : ∀ t ∈ q_fOp, t.1 < 150 ∨ 154 ≤ t.1 := by decide
      have := hall t m
      omega
    have M2 := q_JM_lo hP M1 f2 (by decide)
    have hT := q_MT_0 (q_MT_0 (q_j_MT hC M2))
    refine x_le (show 20 ≤ k + 140 by omega) (v_textM (k := 18) ⟨by decide, fun _ => ⟨fun _ => ⟨fun _ => ?_, fun e => absurd e (by decide)⟩, fun e => absurd e (by decide)⟩, fun h => absurd ⟨by decide, by decide⟩ h⟩)
    refine x_le (show 15 ≤ 18 by omega) (v_faultM (k := 13) ⟨by decide, fun _ => ⟨fun h => absurd rfl h, fun _ => ?_⟩, fun h => absurd ⟨by decide, by decide⟩ h⟩)
    refine m_office (k := 0) hT (fun e' he' => by rw [he] at he'; cases he') (fun R' ru' to' he' I3 f3 e11 e25 e185 e187 => ⟨rfl, fun _ => ⟨fun _ => ⟨_, rfl, ?_, fun h => ?_, fun h => ?_⟩, fun e => absurd e (by decide)⟩, fun e => absurd e (by decide)⟩)
    · dsimp only; rw [e11]; decide
    · rw [he] at he'
      cases he'
      refine m_t0 (k := 18) (R := R) (ru := ru) (to := to) hR e25 (fun x hx => e185 x hx) (fun x hx => e187 x hx) (fun I4 f4 g4 g6 g9 g55 g46 g61 => ⟨rfl, ?_, rfl⟩)
      have ff : x_fr ([(179, 6, 7), (179, 24, 25)] ++ q_fTo ++ q_fSm) I2 I4 := by
        refine x_fr_trans (x_fr_r (x_fr_trans (x_fr_u (x_fr_u (x_fr_refl _ _) rfl) rfl) (x_fr_mono f3 (by decide)))) (x_fr_l ?_)
        exact x_fr_trans (x_fr_l (x_fr_u (x_fr_u (x_fr_refl _ _) rfl) rfl)) (x_fr_r f4)
      refine q_J_end hP' C2 (Or.inl b2) ff (by decide +kernel) (by decide +kernel) ?_
      obtain ⟨h1, h2, h3, h4, h5, ⟨h6, h7⟩, h8⟩ := M2
      obtain ⟨k1, k2, k3, k4, k5, ⟨k6, k7⟩, k8, k9, k10⟩ := h2
      have kn := hP.2.1.1
      refine ⟨q_Tm_nil ((f4 179 6 rfl).trans rfl), ⟨(f4 179 24 rfl).trans e25, g4, g6, ?_, ?_, ⟨(ff 179 26 rfl).trans k6, fun j hj => ?_⟩, (ff 179 30 rfl).trans k8, g9, ⟨g46, Nat.zero_le _, fun j hj => absurd hj (Nat.not_lt_zero j)⟩⟩, (ff 179 7 rfl).trans h3, (ff 179 29 rfl).trans h4, (ff 179 31 rfl).trans h5, ⟨g61, fun e => absurd e (show ¬ (0 : Int) = 1 by decide)⟩, ⟨g55, Nat.zero_le _, fun k hk => absurd hk (Nat.not_lt_zero k), fun r hr T t0 t1 => ⟨fun _ k hk => absurd hk (Nat.not_lt_zero k), fun _ => ⟨t0, t1⟩⟩⟩⟩
      · exact q_LM_S ff (by decide) k4
      · unfold q_LH
        rw [ff 179 29 rfl]
        exact k5
      · have hj' : j < j_nr a := hj
        exact q_Rm_s (by omega) (k7 j hj) ff (by decide) (by decide)
    · dsimp only at h; rw [e11] at h; exact absurd rfl h
