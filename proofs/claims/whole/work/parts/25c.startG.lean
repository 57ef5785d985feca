/-! the start: the numbers of this run (Γ), and what holds of them -/
theorem st_env {s : State} {l : Launch} (hflags : l.flags = flags0) {b L : Nat} {xs : Nat → Int32} (hL : L ≤ 3072) (hts : ∀ w ∈ lw_tbl, w.before #[Value.ref b] s = true) (hgv : (Jvm.Cond.and given_1 narrow_1).before #[Value.ref b] s = true) (hX : va_X b L xs s s.heap) (hbl : b < s.heap.size) :
    ∃ Γ : am_G, Γ.2.2.1 + 1 = s.heap.size ∧ Γ.2.2.2.1 6000 = .ref b ∧ Γ.2.2.2.2.1 = x_sh L ∧ Γ.2.2.2.2.2 = st_int xs ∧ am_env Γ s s.heap ∧ am_ex Γ l s s.heap := by
  have hs : ∀ w ∈ nw_F, w.before #[Value.ref b] s = true := flat_of_before _ hgv
  have hA : ∀ a : Nat, a < s.heap.size → ¬ (fun q : Nat => s.heap.size - 1 + 1 ≤ q) a := fun a h g => by
    have g : s.heap.size - 1 + 1 ≤ a := g
    omega
  obtain ⟨D, hD⟩ := st_cls hts
  obtain ⟨cA, t0, t1, t2, t3, t4, t5, t6⟩ := st_tys hts
  have h5 : ∀ i : Nat, ∃ t : Nat, i < 7 → (sa_tm i).eval #[Value.ref b] s none [] s = some (.ref t) ∧ va_T .int t (sa_v.getD i []).length (fun j => .int ((sa_v.getD i []).getD j 0)) (fun q : Nat => s.heap.size - 1 + 1 ≤ q) s s.heap := by
    intro i
    by_cases hi : i < 7
    · obtain ⟨t, h⟩ := st_T (tm := sa_tm i) (ty := .int) (vs := sa_v.getD i []) (fun w hw => hs w (sa_in w (List.mem_flatMap.mpr ⟨i, List.mem_range.mpr hi, hw⟩))) (st_len5 i hi) hA
      exact ⟨t, fun _ => h⟩
    · exact ⟨0, fun h => absurd h hi⟩
  obtain ⟨tS, hT⟩ := Classical.axiomOfChoice h5
  have h1 : ∀ i : Nat, ∃ q : Nat × Nat, i < 4 → (tx_tm i).eval #[Value.ref b] s none [] s = some (.ref q.1) ∧ va_O "java/lang/String" q.1 (fun q : Nat => s.heap.size - 1 + 1 ≤ q) s s.heap ∧ va_OF "java/lang/String" "coder" "B" (.int 0) q.1 (fun q : Nat => s.heap.size - 1 + 1 ≤ q) s s.heap ∧ va_OF "java/lang/String" "value" "[B" (.ref q.2) q.1 (fun q : Nat => s.heap.size - 1 + 1 ≤ q) s s.heap ∧ va_T .byte q.2 (tx_v.getD i []).length (fun j => .int ((tx_v.getD i []).getD j 0)) (fun q : Nat => s.heap.size - 1 + 1 ≤ q) s s.heap := by
    intro i
    by_cases hi : i < 4
    · obtain ⟨q, h⟩ := st_X (t := tx_tm i) (vs := tx_v.getD i []) (fun w hw => hs w (tx_in w (List.mem_flatMap.mpr ⟨i, List.mem_range.mpr hi, hw⟩))) (st_len1 i hi) hA
      exact ⟨q, fun _ => h⟩
    · exact ⟨(0, 0), fun h => absurd h hi⟩
  obtain ⟨kv, hK⟩ := Classical.axiomOfChoice h1
  obtain ⟨v7, hv7, hZ7⟩ : ∃ v : Value, (v = .null ∨ ∃ t, v = .ref t) ∧ va_Z "jdk/internal/util/Preconditions" "SIOOBE_FORMATTER" "Ljava/util/function/BiFunction;" v (fun q : Nat => s.heap.size - 1 + 1 ≤ q) s s.heap := by
    rcases va_Zqof (st_w hts 8 rfl) (st_w hts 15 rfl) (nw_w hs 1 rfl) hA with h | ⟨t, h⟩
    · exact ⟨_, Or.inl rfl, h⟩
    · exact ⟨_, Or.inr ⟨t, rfl⟩, h⟩
  have ev : ∀ a, st_val tS (fun i => (kv i).1) (fun i => (kv i).2) b v7 a = .null ∨ ∃ t, st_val tS (fun i => (kv i).1) (fun i => (kv i).2) b v7 a = .ref t := by
    intro a
    unfold st_val
    split
    · exact hv7
    · split
      · exact Or.inr ⟨_, rfl⟩
      · split
        · exact Or.inr ⟨_, rfl⟩
        · split
          · exact Or.inr ⟨_, rfl⟩
          · split
            · exact Or.inr ⟨_, rfl⟩
            · exact Or.inl rfl
  have hAA : (Cond.arrayOver (.array .int)).before #[Value.ref b] s = true := st_w hts 26 rfl
  refine ⟨(D, cA, s.heap.size - 1, st_val tS (fun i => (kv i).1) (fun i => (kv i).2) b v7, x_sh L, st_int xs), by show s.heap.size - 1 + 1 = s.heap.size; omega, rfl, rfl, rfl, ⟨⟨hD, fun k q hq => ?_⟩, fun a ha => ?_, ?_, ?_, ev, fun x hx h3 => ?_, va_AO.of (st_w hts 27 rfl), va_AO.of (st_w hts 28 rfl), am_ML_ok, hAA⟩, ?_⟩
  · match k, hq with
    | 0, hq => cases hq; exact t0
    | 1, hq => cases hq; exact t1
    | 2, hq => cases hq; exact t2
    | 3, hq => cases hq; exact t3
    | 4, hq => cases hq; exact t4
    | 5, hq => cases hq; exact t5
    | 6, hq => cases hq; exact t6
    | k + 7, hq => cases hq
  · dsimp only
    by_cases c6 : a = 6000
    · subst c6
      refine Or.inr (Or.inl ⟨rfl, b, rfl, ?_⟩)
      obtain ⟨scr, x1, x2, x3, x4, x5⟩ := hX
      refine ⟨scr, x1, x2, x3, ?_, ?_, fun j hj => ?_, hA b hbl⟩
      · show L ≤ _
        omega
      · show scr.slots.size.toInt32 = Int32.ofNat L
        rw [x4]
      · exact x5 j hj
    · have e0 : x_sh L a = x_s0 a := by
        unfold x_sh
        rw [x_nbeq c6, cond_false]
      rw [e0]
      by_cases g5 : a < 5007
      · obtain ⟨i, rfl⟩ : ∃ i, a = 5000 + i := ⟨a - 5000, by omega⟩
        rw [st_s5 i (by omega)]
        refine Or.inr (Or.inl ⟨rfl, tS i, ?_, ?_⟩)
        · unfold st_val
          rw [if_neg (by omega), if_neg (by omega), if_neg (by omega), if_neg (by omega), if_pos (by omega), show 5000 + i - 5000 = i by omega]
        · have := (hT i (by omega)).2
          have ei : ∀ j, st_int xs (5000 + i) j = (sa_v.getD i []).getD j 0 := fun j => by
            unfold st_int
            rw [if_neg (by omega), if_neg (by omega), if_pos (by omega), show 5000 + i - 5000 = i by omega]
          simp only [ei]
          exact this
      · by_cases g1 : a < 5100
        · exact Or.inl (by rw [st_gap (Or.inl ⟨by omega, g1⟩)])
        · by_cases g2 : a < 5104
          · obtain ⟨i, rfl⟩ : ∃ i, a = 5100 + i := ⟨a - 5100, by omega⟩
            rw [st_s1 i (by omega)]
            obtain ⟨k1, k2, k3, k4, k5⟩ := hK i (by omega)
            refine Or.inr (Or.inr (Or.inr ⟨rfl, by omega, by omega, (kv i).1, ?_, k2, ?_, ?_⟩))
            · unfold st_val
              rw [if_neg (by omega), if_neg (by omega), if_neg (by omega), if_pos (by omega), show 5100 + i - 5100 = i by omega]
            · have ei : st_int xs (5100 + i) 1 = 0 := by
                unfold st_int
                rw [if_neg (by omega), if_neg (by omega), if_neg (by omega)]
              rw [ei]
              exact k3
            · have ei : st_val tS (fun i => (kv i).1) (fun i => (kv i).2) b v7 (5100 + i + 100) = .ref (kv i).2 := by
                unfold st_val
                rw [if_neg (by omega), if_neg (by omega), if_pos (by omega), show 5100 + i + 100 - 5200 = i by omega]
              rw [ei]
              exact k4
          · by_cases g3 : a < 5200
            · exact Or.inl (by rw [st_gap (Or.inr (Or.inl ⟨by omega, g3⟩))])
            · by_cases g4 : a < 5204
              · obtain ⟨i, rfl⟩ : ∃ i, a = 5200 + i := ⟨a - 5200, by omega⟩
                rw [st_s2 i (by omega)]
                obtain ⟨k1, k2, k3, k4, k5⟩ := hK i (by omega)
                refine Or.inr (Or.inr (Or.inl ⟨rfl, (kv i).2, ?_, ?_⟩))
                · unfold st_val
                  rw [if_neg (by omega), if_neg (by omega), if_pos (by omega), show 5200 + i - 5200 = i by omega]
                · have ei : ∀ j, st_int xs (5200 + i) j = (tx_v.getD i []).getD j 0 := fun j => by
                    unfold st_int
                    rw [if_neg (by omega), if_pos (by omega), show 5200 + i - 5200 = i by omega]
                  simp only [ei]
                  exact k5
              · exact Or.inl (by rw [st_gap (Or.inr (Or.inr (by omega)))])
  · intro x hx
    simp only [am_LG, List.mem_cons, List.not_mem_nil, or_false] at hx
    rcases hx with rfl | rfl | rfl | rfl | rfl | rfl | rfl | rfl | rfl
    · exact va_Zref (st_w hts 0 rfl) (st_w hts 11 rfl) (hT 0 (by decide)).1 hA
    · exact va_Zref (st_w hts 1 rfl) (st_w hts 11 rfl) (hT 1 (by decide)).1 hA
    · exact va_Zref (st_w hts 2 rfl) (st_w hts 12 rfl) (hT 2 (by decide)).1 hA
    · exact va_Zref (st_w hts 3 rfl) (st_w hts 12 rfl) (hT 3 (by decide)).1 hA
    · exact va_Zref (st_w hts 4 rfl) (st_w hts 12 rfl) (hT 4 (by decide)).1 hA
    · exact va_Zref (st_w hts 5 rfl) (st_w hts 12 rfl) (hT 5 (by decide)).1 hA
    · exact va_Zref (st_w hts 6 rfl) (st_w hts 13 rfl) (hT 6 (by decide)).1 hA
    · exact va_Zof (st_w hts 7 rfl) (st_w hts 14 rfl) (va_eqi (nw_w hs 0 rfl)) hA
    · exact hZ7
  · intro x hx
    have e0 := (hK 0 (by decide)).1
    have e1 := (hK 1 (by decide)).1
    have e2 := (hK 2 (by decide)).1
    have e3 := (hK 3 (by decide)).1
    simp only [am_LS, List.mem_cons, List.not_mem_nil, or_false] at hx
    rcases hx with rfl | rfl | rfl | rfl | rfl | rfl | rfl | rfl
    · exact ⟨(kv 1).1, _, rfl, vk_R.of (st_w hts 18 rfl) (st_eqR (nw_w hs 5 rfl) e1)⟩
    · exact ⟨(kv 2).1, _, rfl, vk_R.of (st_w hts 19 rfl) e2⟩
    · exact ⟨(kv 3).1, _, rfl, vk_R.of (st_w hts 20 rfl) e3⟩
    · exact ⟨(kv 1).1, _, rfl, vk_R.of (st_w hts 21 rfl) e1⟩
    · exact ⟨(kv 0).1, _, rfl, vk_R.of (st_w hts 23 rfl) e0⟩
    · exact ⟨(kv 1).1, _, rfl, vk_R.of (st_w hts 25 rfl) (st_eqR (nw_w hs 6 rfl) e1)⟩
    · exact ⟨(kv 2).1, _, rfl, vk_R.of (st_w hts 22 rfl) (st_eqR (nw_w hs 7 rfl) e2)⟩
    · exact ⟨(kv 3).1, _, rfl, vk_R.of (st_w hts 24 rfl) (st_eqR (nw_w hs 8 rfl) e3)⟩
  · exact va_Nw.of rfl (hts _ (st_nest _ (List.mem_map.mpr ⟨x, List.mem_filter.mpr ⟨hx, by rw [h3]; rfl⟩, rfl⟩)))
  · have h210 := nw_w hs 4 (w := .exactly (.string "TeaTrolley" 210) "java/lang/String") rfl
    obtain ⟨sa, c, cB, kB, q1, -⟩ := Cond.exactly_spec (args := #[Value.ref b]) (first := s) (o := none) (s := s) (idx := []) (t := .string "TeaTrolley" 210) (cls := "java/lang/String") h210
    exact ⟨by unfold Launch.stackTraces; rw [hflags]; decide, vx_Zqof (st_w hts 9 rfl) (st_w hts 16 rfl) (nw_w hs 2 rfl) hA, vx_Zqof (st_w hts 10 rfl) (st_w hts 16 rfl) (nw_w hs 3 rfl) hA, ⟨sa, vk_R.of (st_w hts 17 rfl) q1⟩, va_Nw.of rfl (st_w hts 33 rfl), va_Nw.of rfl (st_w hts 34 rfl), va_Nw.of rfl (st_w hts 35 rfl), va_Nw.of rfl (st_w hts 36 rfl)⟩
