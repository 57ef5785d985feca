/-! the world behind the constructors, in whole numbers -/
noncomputable def cr_b0 (g : x_G) : am_W := (fun a => if a < 5000 then (0, 0) else x_sh g.2.2 a, fun a k => if a < 5000 then 0 else g.1.2.2.2.2.2 a k, fun _ _ => 0, fun a k => if a < 5000 then 0 else x_r0 a k, 1, 0, 0)
theorem cr_b0_ok {g : x_G} (h : g.1.2.2.2.2.2 5101 1 = 0) : cr_b g.2.2 (cr_b0 g) := by
  refine ⟨fun a ha => ⟨if_pos ha, fun k => if_pos ha, fun k => rfl, fun k => if_pos ha⟩, fun a ha => ⟨if_neg (by omega), fun k => if_neg (by omega)⟩, rfl, ?_⟩
  show (if 5101 < 5000 then 0 else g.1.2.2.2.2.2 5101 1) = 0
  rw [if_neg (by decide)]
  exact h
noncomputable def cr_Se : cr_S := (cr_end.getD ([], [], [], 0, 0, 0)).2.2
theorem cr_end_eq : cr_end = some ([.ref 6000, .ref 1, .ref 179, .ref 203, .int 0, .retAddr 0, .retAddr 0], [], cr_Se) ∧ cr_Se.2 = (204, 203, 30530) := by
  have h := cr_end_ok
  unfold cr_Se
  cases e : cr_end with
  | none => rw [e] at h; cases h
  | some x =>
    rw [e] at h
    obtain ⟨x1, x2, x3, x4⟩ := x
    have h : some (x1, x2, x4) = some _ := h
    cases h
    exact ⟨rfl, rfl⟩
def cr_K0 : List (Nat × Nat) := [(1, 14), (1, 16), (161, 3), (161, 4), (161, 5), (161, 6), (162, 5), (179, 29), (179, 30)]
/-- an int field -/
def cr_I : cr_D → Nat → Nat → Nat → Int
  | [], _, _, _ => 0
  | (t, x, y, v) :: l, nx, a, k => match t with
    | 0 => bif Nat.beq (a + 1) nx then 0 else cr_I l (nx - 1) a k
    | 1 => bif Nat.beq a x && Nat.beq k y then v else cr_I l nx a k
    | 2 => cr_I l nx a k
    | 3 => cr_I l nx a k
    | _ => bif Nat.ble (nx - 5) a && Nat.blt a nx then 0 else cr_I l (nx - 5) a k
def cr_c1 (e : Nat × Nat × Nat × Int) : Bool := !Nat.beq e.1 1 || (Nat.blt e.2.1 204 && (decide (e.2.2.2 = 0) || cr_K0.any (fun p => Nat.beq p.1 e.2.1 && Nat.beq p.2 e.2.2.1)))
def cr_c2 (e : Nat × Nat × Nat × Int) : Bool := !Nat.beq e.1 2 || (Nat.blt e.2.1 204 && Nat.blt e.2.2.1 64)
theorem cr_Se_c1 : cr_Se.1.all cr_c1 = true := by decide +kernel
theorem cr_Se_c2 : cr_Se.1.all cr_c2 = true := by decide +kernel
theorem cr_Se_sh : (List.range 204).all (fun a => decide (cr_sh cr_Se.1 204 a = x_s0 a)) = true := by decide +kernel
/-- references that the end has as 0 are never written but by 0 -/
def cr_zr : cr_D → Nat → Bool
  | [], _ => true
  | (t, x, y, v) :: l, nx => match t with
    | 0 => cr_zr l (nx - 1)
    | 1 => cr_zr l nx
    | 2 => (Nat.beq v.toNat 0 || !Nat.beq (x_R 0 180 x y) 0) && cr_zr l nx
    | 3 => cr_zr l nx
    | _ => (!Nat.beq (x_R 0 180 (nx - 5) 0) 0 && (!Nat.beq (x_R 0 180 (nx - 5) 1) 0 && (!Nat.beq (x_R 0 180 (nx - 5) 2) 0 && !Nat.beq (x_R 0 180 (nx - 5) 3) 0))) && cr_zr l (nx - 5)
theorem cr_Se_zr : cr_zr cr_Se.1 204 = true := by decide +kernel
noncomputable def cr_rk (a : Nat) : Bool := (List.range 64).all (fun k => Nat.beq (x_R 0 180 a k) 0 || Nat.beq (cr_R cr_Se.1 204 a k) (x_R 0 180 a k))
theorem cr_Se_R0 : (List.range 26).all (fun j => cr_rk (j + 0)) = true := by decide +kernel
theorem cr_Se_R1 : (List.range 26).all (fun j => cr_rk (j + 26)) = true := by decide +kernel
theorem cr_Se_R2 : (List.range 26).all (fun j => cr_rk (j + 52)) = true := by decide +kernel
theorem cr_Se_R3 : (List.range 26).all (fun j => cr_rk (j + 78)) = true := by decide +kernel
theorem cr_Se_R4 : (List.range 26).all (fun j => cr_rk (j + 104)) = true := by decide +kernel
theorem cr_Se_R5 : (List.range 26).all (fun j => cr_rk (j + 130)) = true := by decide +kernel
theorem cr_Se_R6 : (List.range 26).all (fun j => cr_rk (j + 156)) = true := by decide +kernel
theorem cr_Se_R7 : (List.range 26).all (fun j => cr_rk (j + 182)) = true := by decide +kernel
theorem cr_Se_R {a k : Nat} (ha : a < 204) (hk : k < 64) (h : x_R 0 180 a k ≠ 0) : cr_R cr_Se.1 204 a k = x_R 0 180 a k := by
  have g : cr_rk a = true := by
    have f : ∀ i j, j < 26 → a = j + i → (List.range 26).all (fun j => cr_rk (j + i)) = true → cr_rk a = true := fun i j hj e h => by
      have := List.all_eq_true.mp h j (List.mem_range.mpr hj)
      rw [e]
      exact this
    rcases Nat.lt_or_ge a 26 with h0 | h0
    · exact f 0 (a - 0) (by omega) (by omega) cr_Se_R0
    rcases Nat.lt_or_ge a 52 with h1 | h1
    · exact f 26 (a - 26) (by omega) (by omega) cr_Se_R1
    rcases Nat.lt_or_ge a 78 with h2 | h2
    · exact f 52 (a - 52) (by omega) (by omega) cr_Se_R2
    rcases Nat.lt_or_ge a 104 with h3 | h3
    · exact f 78 (a - 78) (by omega) (by omega) cr_Se_R3
    rcases Nat.lt_or_ge a 130 with h4 | h4
    · exact f 104 (a - 104) (by omega) (by omega) cr_Se_R4
    rcases Nat.lt_or_ge a 156 with h5 | h5
    · exact f 130 (a - 130) (by omega) (by omega) cr_Se_R5
    rcases Nat.lt_or_ge a 182 with h6 | h6
    · exact f 156 (a - 156) (by omega) (by omega) cr_Se_R6
    exact f 182 (a - 182) (by omega) (by omega) cr_Se_R7
  have g2 := List.all_eq_true.mp g k (List.mem_range.mpr hk)
  rw [Bool.or_eq_true] at g2
  rcases g2 with g3 | g3
  · exact absurd (am_beq g3) h
  · exact am_beq g3
theorem cr_Se_I : cr_K0.all (fun p => decide (cr_I cr_Se.1 204 p.1 p.2 = -1)) = true := by decide +kernel
theorem cr_s0_mid : (List.range 4796).all (fun j => decide (x_s0 (j + 204) = (0, 0))) = true := by decide +kernel
