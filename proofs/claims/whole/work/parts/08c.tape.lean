/-! The tape: what its methods do -/
/-- the last m bytes of a number, the highest first, without zeros -/
def q_bl (a : Int) : Nat → List Int
  | 0 => []
  | m + 1 => if q_byte a (8 * m) = 0 then q_bl a m else q_byte a (8 * m) :: q_bl a m
def q_Tc (I : Nat → Nat → Int) (t : List Int) : Prop := I 2 1 = (t.length : Int) ∧ t.length ≤ 240 ∧ (∀ k, k < t.length → I 3 k = t.getD k 0) ∧ ∀ b ∈ t, 1 ≤ b ∧ b ≤ 255
def q_Tm (I : Nat → Nat → Int) (t : List Int) : Prop := I 179 6 = (t.length : Int) ∧ t.length ≤ 240 ∧ (∀ k, k < t.length → I 180 k = Int.bmod (t.getD k 0) 256) ∧ ∀ b ∈ t, 1 ≤ b ∧ b ≤ 255
theorem q_byte_rg (a : Int) (k : Nat) : 0 ≤ q_byte a k ∧ q_byte a k ≤ 255 := by
  unfold q_byte
  constructor <;> omega
theorem q_bl_len (a : Int) : ∀ m, (q_bl a m).length ≤ m
  | 0 => Nat.le_refl _
  | m + 1 => by
    unfold q_bl
    have := q_bl_len a m
    split
    · omega
    · rw [List.length_cons]; omega
theorem q_bl_rg (a : Int) : ∀ m, ∀ b ∈ q_bl a m, 1 ≤ b ∧ b ≤ 255
  | 0, b, h => by cases h
  | m + 1, b, h => by
    unfold q_bl at h
    have hr := q_byte_rg a (8 * m)
    split at h
    · exact q_bl_rg a m b h
    · rcases List.mem_cons.mp h with rfl | h
      · constructor <;> omega
      · exact q_bl_rg a m b h
theorem q_sh8 (m : Nat) : 8 * ((m + 1 : Nat) : Int) - 8 = ((8 * m : Nat) : Int) := by omega
theorem q_sh0 : 8 * ((0 : Nat) : Int) - 8 = -8 := rfl
theorem s_signs_L {g : x_G} {k : Nat} {Q : x_Q} {w : x_W} {a : Int} : ∀ (m : Nat) (n : Int), m ≤ 4 → Q [x_i (n + ((q_bl a m).length : Int))] w → x_S g (k + 1) 96 Q 4 [x_i a, x_i n, x_i (8 * (m : Int) - 8)] [] w
  | 0, n, _, hq => by
    refine v_signs_L ⟨by decide, fun _ => ?_, fun c => absurd c (by decide)⟩
    simpa [q_bl] using hq
  | m + 1, n, hm, hq => by
    rw [q_sh8]
    have hb := q_byte_ush a (8 * m) (by omega)
    have hr := q_byte_rg a (8 * m)
    refine v_signs_L ⟨⟨by omega, by omega⟩, fun c => by omega, fun _ => ?_⟩
    rw [hb, show ((8 * m : Nat) : Int) + -8 = 8 * (m : Int) - 8 by omega]
    refine ⟨⟨by omega, by omega⟩, fun c => ?_, fun c => ?_⟩
    · refine s_signs_L m _ (by omega) ?_
      rw [q_bl, if_pos c] at hq
      rw [Int.add_zero]
      exact hq
    · refine s_signs_L m _ (by omega) ?_
      rw [q_bl, if_neg c, List.length_cons] at hq
      rw [show n + 1 + ((q_bl a m).length : Int) = n + (((q_bl a m).length + 1 : Nat) : Int) by omega]
      exact hq
theorem s_signs {g : x_G} {k : Nat} {Q : x_Q} {w : x_W} {a : Int} (hq : Q [x_i ((q_bl a 4).length : Int)] w) : x_X g (k + 1) 96 [x_i a] w Q :=
  v_signs (s_signs_L 4 0 (by decide) (by rw [Int.zero_add]; exact hq))
theorem s_bytesIn_L {g : x_G} {k : Nat} {Q : x_Q} {w : x_W} {a : Int} (ha : x_rg a) : ∀ (m : Nat) (n : Int), m ≤ 4 → Q [x_i (n + ((q_bl a m).length : Int))] w → x_S g (k + 1) 190 Q 4 [x_i a, x_i n, x_i (8 * (m : Int) - 8)] [] w
  | 0, n, _, hq => by
    refine v_bytesIn_L ⟨by decide, fun _ => ?_, fun c => absurd c (by decide)⟩
    simpa [q_bl] using hq
  | m + 1, n, hm, hq => by
    rw [q_sh8]
    have hb := q_byte_shr a (8 * m) ha (by omega)
    have hr := q_byte_rg a (8 * m)
    refine v_bytesIn_L ⟨⟨by omega, by omega⟩, fun c => by omega, fun _ => ?_⟩
    rw [hb, show ((8 * m : Nat) : Int) + -8 = 8 * (m : Int) - 8 by omega]
    refine ⟨⟨by omega, by omega⟩, fun c => ?_, fun c => ?_⟩
    · refine s_bytesIn_L ha m _ (by omega) ?_
      rw [q_bl, if_pos c] at hq
      rw [Int.add_zero]
      exact hq
    · refine s_bytesIn_L ha m _ (by omega) ?_
      rw [q_bl, if_neg c, List.length_cons] at hq
      rw [show n + 1 + ((q_bl a m).length : Int) = n + (((q_bl a m).length + 1 : Nat) : Int) by omega]
      exact hq
theorem s_bytesIn {g : x_G} {k : Nat} {Q : x_Q} {w : x_W} {a : Int} (ha : x_rg a) (hq : Q [x_i ((q_bl a 4).length : Int)] w) : x_X g (k + 1) 190 [x_i a] w Q :=
  v_bytesIn (s_bytesIn_L ha 4 0 (by decide) (by rw [Int.zero_add]; exact hq))
theorem q_getD_app (t : List Int) (b : Int) (k : Nat) : (t ++ [b]).getD k 0 = if k = t.length then b else t.getD k 0 := by
  by_cases h : k < t.length
  · rw [if_neg (by omega)]
    simp [List.getD, List.getElem?_append_left h]
  · by_cases e : k = t.length
    · subst e; simp [List.getD]
    · rw [if_neg e]
      have h1 : (t ++ [b])[k]? = none := List.getElem?_eq_none (by simp; omega)
      have h2 : t[k]? = none := List.getElem?_eq_none (by omega)
      simp [List.getD, h1, h2]
theorem q_Tc_push {I : Nat → Nat → Int} {t : List Int} {b : Int} (h : q_Tc I t) (hb : 1 ≤ b ∧ b ≤ 255) (hl : t.length < 240) : q_Tc (x_u (x_u I 3 (I 2 1).toNat b) 2 1 (I 2 1 + 1)) (t ++ [b]) := by
  obtain ⟨h1, h2, h3, h4⟩ := h
  have e : (I 2 1).toNat = t.length := by rw [h1]; rfl
  refine ⟨?_, ?_, fun k hk => ?_, fun c hc => ?_⟩
  · rw [x_u_same, h1, List.length_append]; rfl
  · rw [List.length_append]; exact hl
  · rw [x_u_ne _ _ (by omega), x_u_eq, e, q_getD_app]
    rw [List.length_append, List.length_singleton] at hk
    by_cases q : k = t.length
    · rw [if_pos ⟨rfl, q⟩, if_pos q]
    · rw [if_neg (fun z => q z.2), if_neg q]; exact h3 k (by omega)
  · rcases List.mem_append.mp hc with q | q
    · exact h4 c q
    · rw [List.mem_singleton.mp q]; exact hb
theorem q_Tm_push {I : Nat → Nat → Int} {t : List Int} {b : Int} (h : q_Tm I t) (hb : 1 ≤ b ∧ b ≤ 255) (hl : t.length < 240) : q_Tm (x_u (x_u I 180 (I 179 6).toNat (Int.bmod b 256)) 179 6 (I 179 6 + 1)) (t ++ [b]) := by
  obtain ⟨h1, h2, h3, h4⟩ := h
  have e : (I 179 6).toNat = t.length := by rw [h1]; rfl
  refine ⟨?_, ?_, fun k hk => ?_, fun c hc => ?_⟩
  · rw [x_u_same, h1, List.length_append]; rfl
  · rw [List.length_append]; exact hl
  · rw [x_u_ne _ _ (by omega), x_u_eq, e, q_getD_app]
    rw [List.length_append, List.length_singleton] at hk
    by_cases q : k = t.length
    · rw [if_pos ⟨rfl, q⟩, if_pos q]
    · rw [if_neg (fun z => q z.2), if_neg q]; exact h3 k (by omega)
  · rcases List.mem_append.mp hc with q | q
    · exact h4 c q
    · rw [List.mem_singleton.mp q]; exact hb
abbrev q_fT : List (Nat × Nat × Nat) := [(2, 1, 2), (3, 0, 240)]
abbrev q_fTm : List (Nat × Nat × Nat) := [(179, 6, 7), (180, 0, 240)]
theorem s_put_L {g : x_G} {k : Nat} {Q : x_Q} {L : Nat → Nat → Int} {lp tp : Nat} {a : Int} {I0 : Nat → Nat → Int} : ∀ (m : Nat) (I : Nat → Nat → Int) (t : List Int), m ≤ 4 → q_Tc I t → x_fr q_fT I0 I → t.length + (q_bl a m).length ≤ 240 → (∀ I', x_fr q_fT I0 I' → q_Tc I' (t ++ q_bl a m) → Q [] (I', L, lp, tp)) → x_S g (k + 1) 97 Q 2 [x_r 2, x_i a, x_i (8 * (m : Int) - 8), x_n] [] (I, L, lp, tp)
  | 0, I, t, _, ht, hf, _, hq => by
    refine v_put_L ⟨by decide, fun _ => ?_, fun c => absurd c (by decide)⟩
    refine hq I hf ?_
    rw [q_bl, List.append_nil]; exact ht
  | m + 1, I, t, hm, ht, hf, hl, hq => by
    rw [q_sh8]
    have hb := q_byte_ush a (8 * m) (by omega)
    have hr := q_byte_rg a (8 * m)
    have e1 := ht.1
    have e2 := ht.2.1
    refine v_put_L ⟨⟨by omega, by omega⟩, fun c => by omega, fun _ => ?_⟩
    rw [hb, show ((8 * m : Nat) : Int) + -8 = 8 * (m : Int) - 8 by omega]
    refine ⟨⟨by omega, by omega⟩, fun c => ?_, fun c => ⟨⟨by omega, by omega⟩, fun c2 => ?_, fun c2 => ⟨⟨by omega, by omega⟩, ?_⟩⟩⟩
    · rw [q_bl, if_pos c] at hl hq
      exact s_put_L m I t (by omega) ht hf hl hq
    · rw [q_bl, if_neg c, List.length_cons] at hl
      omega
    · rw [q_bl, if_neg c] at hl hq
      rw [List.length_cons] at hl
      refine s_put_L m _ (t ++ [q_byte a (8 * m)]) (by omega) (q_Tc_push ht ⟨by omega, by omega⟩ (by omega)) (x_fr_u (x_fr_u hf ?_) ?_) (by rw [List.length_append, List.length_singleton]; omega) (fun I' h1 h2 => hq I' h1 ?_)
      · exact x_memI (3, 0, 240) (by simp) rfl (by simp) (by simp; omega)
      · rfl
      · rw [List.append_assoc] at h2; exact h2
theorem s_put {g : x_G} {k : Nat} {Q : x_Q} {I L : Nat → Nat → Int} {lp tp : Nat} {a : Int} {t : List Int} (ht : q_Tc I t) (hl : t.length + (q_bl a 4).length ≤ 240) (hq : ∀ I', x_fr q_fT I I' → q_Tc I' (t ++ q_bl a 4) → Q [] (I', L, lp, tp)) : x_X g (k + 1) 97 [x_r 2, x_i a] (I, L, lp, tp) Q :=
  v_put (s_put_L 4 I t (by decide) ht (x_fr_refl _ _) hl hq)
theorem q_bb (z : Int) : Int.bmod (Int.bmod z 256) 256 = Int.bmod (z % 256) 256 := by
  rw [Int.bmod_def, Int.bmod_def, Int.bmod_def]
  omega
theorem s_putM_L {g : x_G} {k : Nat} {Q : x_Q} {L : Nat → Nat → Int} {lp tp : Nat} {a : Int} {I0 : Nat → Nat → Int} (ha : x_rg a) : ∀ (m : Nat) (I : Nat → Nat → Int) (t : List Int), m ≤ 4 → q_Tm I t → x_fr q_fTm I0 I → t.length + (q_bl a m).length ≤ 240 → (∀ I', x_fr q_fTm I0 I' → q_Tm I' (t ++ q_bl a m) → Q [] (I', L, lp, tp)) → x_S g (k + 1) 191 Q 2 [x_r 179, x_i a, x_i (8 * (m : Int) - 8)] [] (I, L, lp, tp)
  | 0, I, t, _, ht, hf, _, hq => by
    refine v_putM_L ⟨by decide, fun _ => ?_, fun c => absurd c (by decide)⟩
    refine hq I hf ?_
    rw [q_bl, List.append_nil]; exact ht
  | m + 1, I, t, hm, ht, hf, hl, hq => by
    rw [q_sh8]
    have hb := q_byte_shr a (8 * m) ha (by omega)
    have hr := q_byte_rg a (8 * m)
    have e1 := ht.1
    have e2 := ht.2.1
    refine v_putM_L ⟨⟨by omega, by omega⟩, fun c => by omega, fun _ => ?_⟩
    rw [hb, q_bb, ← q_and255, hb, show ((8 * m : Nat) : Int) + -8 = 8 * (m : Int) - 8 by omega]
    refine ⟨⟨by omega, by omega⟩, fun c => ?_, fun c => ?_⟩
    · rw [q_bl, if_neg c] at hl hq
      rw [List.length_cons] at hl
      refine ⟨⟨by omega, by omega⟩, ?_⟩
      refine s_putM_L ha m _ (t ++ [q_byte a (8 * m)]) (by omega) (q_Tm_push ht ⟨by omega, by omega⟩ (by omega)) (x_fr_u (x_fr_u hf ?_) ?_) (by rw [List.length_append, List.length_singleton]; omega) (fun I' h1 h2 => hq I' h1 ?_)
      · exact x_memI (180, 0, 240) (by simp) rfl (by simp) (by simp; omega)
      · rfl
      · rw [List.append_assoc] at h2; exact h2
    · rw [q_bl, if_pos c] at hl hq
      exact s_putM_L ha m I t (by omega) ht hf hl hq
theorem s_putM {g : x_G} {k : Nat} {Q : x_Q} {I L : Nat → Nat → Int} {lp tp : Nat} {a : Int} {t : List Int} (ha : x_rg a) (ht : q_Tm I t) (hl : t.length + (q_bl a 4).length ≤ 240) (hq : ∀ I', x_fr q_fTm I I' → q_Tm I' (t ++ q_bl a 4) → Q [] (I', L, lp, tp)) : x_X g (k + 1) 191 [x_r 179, x_i a] (I, L, lp, tp) Q :=
  v_putM (s_putM_L ha 4 I t (by decide) ht (x_fr_refl _ _) hl hq)
