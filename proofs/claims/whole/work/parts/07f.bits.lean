/-! Bits of ints as whole numbers -/
theorem q_toBV (z : Int) : (Int32.ofInt z).toBitVec = BitVec.ofInt 32 z := rfl
theorem q_and_toInt (a b : Int32) : (a &&& b).toInt = (a.toBitVec &&& b.toBitVec).toInt := rfl
theorem q_bvnat (z : Int) : (BitVec.ofInt 32 z).toNat = (z % 4294967296).toNat := by
  rw [BitVec.toNat_ofInt]; rfl
theorem q_small (b : BitVec 32) (h : b.toNat < 2147483648) : b.toInt = (b.toNat : Int) := by
  rw [BitVec.toInt_eq_toNat_cond, if_pos (by omega)]
theorem q_and_mask (z : Int) (m : Nat) (hm : m < 31) : x_and z ((2 ^ m - 1 : Nat) : Int) = z % ((2 ^ m : Nat) : Int) := by
  have h1 : (2 : Nat) ^ m ≤ 2 ^ 30 := Nat.pow_le_pow_right (by decide) (by omega)
  have h2 : 0 < (2 : Nat) ^ m := Nat.pow_pos (by decide)
  unfold x_and
  rw [q_and_toInt, q_toBV, q_toBV]
  have e : (BitVec.ofInt 32 z &&& BitVec.ofInt 32 ((2 ^ m - 1 : Nat) : Int)).toNat = (z % 4294967296).toNat % 2 ^ m := by
    rw [BitVec.toNat_and, q_bvnat, q_bvnat]
    have e1 : (((2 ^ m - 1 : Nat) : Int) % 4294967296).toNat = 2 ^ m - 1 := by
      have : ((2 ^ m - 1 : Nat) : Int) < 4294967296 := by omega
      rw [Int.emod_eq_of_lt (by omega) this]; rfl
    rw [e1, Nat.and_two_pow_sub_one_eq_mod]
  have hl : (z % 4294967296).toNat % 2 ^ m < 2 ^ m := Nat.mod_lt _ h2
  rw [q_small _ (by rw [e]; omega), e]
  have hz : ((z % 4294967296).toNat : Int) = z % 4294967296 := Int.toNat_of_nonneg (Int.emod_nonneg _ (by decide))
  rw [Int.natCast_emod, hz]
  apply Int.emod_emod_of_dvd
  refine ⟨((2 ^ (32 - m) : Nat) : Int), ?_⟩
  rw [← Int.natCast_mul, ← Nat.pow_add, show m + (32 - m) = 32 by omega]
  rfl
theorem q_and255 (z : Int) : x_and z 255 = z % 256 := q_and_mask z 8 (by decide)
theorem q_and63 (z : Int) : x_and z 63 = z % 64 := q_and_mask z 6 (by decide)
theorem q_and1 (z : Int) : x_and z 1 = z % 2 := q_and_mask z 1 (by decide)
theorem q_k31 (k : Nat) (hk : k < 32) : (Int32.ofInt (k : Int) &&& 31) = Int32.ofInt (k : Int) := by
  have : ∀ k : Fin 32, (Int32.ofInt ((k.val : Nat) : Int) &&& 31) = Int32.ofInt ((k.val : Nat) : Int) := by decide +kernel
  exact this ⟨k, hk⟩
theorem q_shr (z : Int) (k : Nat) (hz : x_rg z) (hk : k < 32) : x_shr z (k : Int) = z / ((2 ^ k : Nat) : Int) := by
  unfold x_shr
  rw [q_k31 k hk]
  show ((Int32.ofInt z).toBitVec.sshiftRight' ((Int32.ofInt (k : Int)).toBitVec.smod 32#32)).toInt = _
  have e1 : (Int32.ofInt (k : Int)).toBitVec.smod 32#32 = BitVec.ofNat 32 k := by
    have : ∀ k : Fin 32, (Int32.ofInt ((k.val : Nat) : Int)).toBitVec.smod 32#32 = BitVec.ofNat 32 k.val := by decide +kernel
    exact this ⟨k, hk⟩
  rw [e1, BitVec.sshiftRight', BitVec.toInt_sshiftRight, BitVec.toNat_ofNat, Nat.mod_eq_of_lt (by omega)]
  have e2 : (Int32.ofInt z).toBitVec.toInt = z := x_ti hz
  rw [e2, Int.shiftRight_eq_div_pow]
theorem q_ush (z : Int) (k : Nat) (hk : k < 32) : x_ush z (k : Int) = (BitVec.ofInt 32 z >>> k).toInt := by
  unfold x_ush
  have e1 : ((Int32.ofInt (k : Int)).toUInt32 &&& Int32.toUInt32 31) = UInt32.ofNat k := by
    have : ∀ k : Fin 32, ((Int32.ofInt ((k.val : Nat) : Int)).toUInt32 &&& Int32.toUInt32 31) = UInt32.ofNat k.val := by decide +kernel
    exact this ⟨k, hk⟩
  rw [e1]
  show (BitVec.ofInt 32 z >>> (UInt32.ofNat k).toBitVec.umod 32#32).toInt = _
  have e2 : (UInt32.ofNat k).toBitVec.umod 32#32 = BitVec.ofNat 32 k := by
    have : ∀ k : Fin 32, (UInt32.ofNat k.val).toBitVec.umod 32#32 = BitVec.ofNat 32 k.val := by decide +kernel
    exact this ⟨k, hk⟩
  rw [e2]
  show (BitVec.ofInt 32 z >>> (BitVec.ofNat 32 k).toNat).toInt = _
  rw [BitVec.toNat_ofNat, Nat.mod_eq_of_lt (by omega)]
/-- a byte of a number -/
def q_byte (z : Int) (k : Nat) : Int := z / ((2 ^ k : Nat) : Int) % 256
theorem q_byte_shr (z : Int) (k : Nat) (hz : x_rg z) (hk : k < 32) : x_and (x_shr z (k : Int)) 255 = q_byte z k := by
  rw [q_and255, q_shr z k hz hk, q_byte]
theorem q_byte_ush (z : Int) (k : Nat) (hk : k = 0 ∨ k = 8 ∨ k = 16 ∨ k = 24) : x_and (x_ush z (k : Int)) 255 = q_byte z k := by
  rw [q_and255, q_ush z k (by omega), q_byte]
  have e : ((BitVec.ofInt 32 z >>> k).toInt % 256) = (((BitVec.ofInt 32 z >>> k).toNat : Nat) : Int) % 256 := by
    rw [BitVec.toInt_eq_toNat_cond]
    split
    · rfl
    · rw [show ((2 ^ 32 : Nat) : Int) = 4294967296 from rfl]
      omega
  rw [e, BitVec.toNat_ushiftRight, q_bvnat, Nat.shiftRight_eq_div_pow]
  rcases hk with rfl | rfl | rfl | rfl <;> simp <;> omega
/-- sets of rooms as bits -/
theorem q_shl1 (k : Nat) (hk : k < 31) : x_shl 1 (k : Int) = ((2 ^ k : Nat) : Int) := by
  have : ∀ k : Fin 31, x_shl 1 ((k.val : Nat) : Int) = ((2 ^ k.val : Nat) : Int) := by decide +kernel
  exact this ⟨k, hk⟩
theorem q_ofN (n : Nat) (h : n < 2147483648) : BitVec.ofInt 32 (n : Int) = BitVec.ofNat 32 n := by
  apply BitVec.eq_of_toNat_eq
  rw [q_bvnat, BitVec.toNat_ofNat]
  omega
theorem q_or_nat (a b : Nat) (ha : a < 2147483648) (hb : b < 2147483648) : x_or (a : Int) (b : Int) = ((a ||| b : Nat) : Int) := by
  unfold x_or
  show (BitVec.ofInt 32 (a : Int) ||| BitVec.ofInt 32 (b : Int)).toInt = _
  have hl : a ||| b < 2147483648 := Nat.or_lt_two_pow (n := 31) ha hb
  have e : (BitVec.ofInt 32 (a : Int) ||| BitVec.ofInt 32 (b : Int)).toNat = a ||| b := by
    rw [q_ofN a ha, q_ofN b hb, BitVec.toNat_or, BitVec.toNat_ofNat, BitVec.toNat_ofNat, Nat.mod_eq_of_lt (by omega), Nat.mod_eq_of_lt (by omega)]
  rw [q_small _ (by rw [e]; exact hl), e]
theorem q_and_nat (a b : Nat) (ha : a < 2147483648) (hb : b < 2147483648) : x_and (a : Int) (b : Int) = ((a &&& b : Nat) : Int) := by
  unfold x_and
  show (BitVec.ofInt 32 (a : Int) &&& BitVec.ofInt 32 (b : Int)).toInt = _
  have hl : a &&& b < 2147483648 := Nat.lt_of_le_of_lt Nat.and_le_left ha
  have e : (BitVec.ofInt 32 (a : Int) &&& BitVec.ofInt 32 (b : Int)).toNat = a &&& b := by
    rw [q_ofN a ha, q_ofN b hb, BitVec.toNat_and, BitVec.toNat_ofNat, BitVec.toNat_ofNat, Nat.mod_eq_of_lt (by omega), Nat.mod_eq_of_lt (by omega)]
  rw [q_small _ (by rw [e]; exact hl), e]
/-- whether k is among s -/
def q_has (s k : Int) : Prop := s.toNat.testBit k.toNat = true
theorem q_has_eq (s k : Nat) (hs : s < 2147483648) (hk : k < 31) : x_and (x_shr (s : Int) (k : Int)) 1 = if s.testBit k then 1 else 0 := by
  rw [q_and1, q_shr _ k ⟨by omega, by omega⟩ (by omega), Nat.testBit_eq_decide_div_mod_eq, ← Int.natCast_ediv, show (2 : Int) = ((2 : Nat) : Int) from rfl, ← Int.natCast_emod]
  have := Nat.mod_lt (s / 2 ^ k) (show 0 < 2 by decide)
  by_cases h : s / 2 ^ k % 2 = 1
  · rw [h]; simp
  · rw [show s / 2 ^ k % 2 = 0 by omega]; simp
/-- s without k (eight rooms) -/
def q_wo (s k : Nat) : Nat := s &&& (255 - 2 ^ k)
theorem q_wo_eq (s k : Nat) (hs : s < 256) (hk : k < 8) : x_and (s : Int) (x_xor (x_shl 1 (k : Int)) (-1)) = ((q_wo s k : Nat) : Int) := by
  have : ∀ s : Fin 256, ∀ k : Fin 8, x_and ((s.val : Nat) : Int) (x_xor (x_shl 1 ((k.val : Nat) : Int)) (-1)) = ((q_wo s.val k.val : Nat) : Int) := by decide +kernel
  exact this ⟨s, hs⟩ ⟨k, hk⟩
theorem q_wo_lt (s k : Nat) (hs : s < 256) : q_wo s k < 256 := Nat.lt_of_le_of_lt Nat.and_le_left hs
theorem q_wo_bit (s k j : Nat) (hs : s < 256) (hk : k < 8) : (q_wo s k).testBit j = (s.testBit j && !decide (j = k)) := by
  rcases Nat.lt_or_ge j 8 with hj | hj
  · have : ∀ s : Fin 256, ∀ k j : Fin 8, (q_wo s.val k.val).testBit j.val = (s.val.testBit j.val && !decide (j.val = k.val)) := by decide +kernel
    exact this ⟨s, hs⟩ ⟨k, hk⟩ ⟨j, hj⟩
  · have h1 : s.testBit j = false := Nat.testBit_lt_two_pow (Nat.lt_of_lt_of_le hs (Nat.pow_le_pow_right (n := 2) (by decide) hj))
    rw [q_wo, Nat.testBit_and, h1]
    rfl
theorem q_or1 (s k : Nat) (hs : s < 256) (hk : k < 8) : x_or (s : Int) (x_shl 1 (k : Int)) = ((s ||| 2 ^ k : Nat) : Int) ∧ s ||| 2 ^ k < 256 := by
  have h2 : 2 ^ k < 256 := Nat.pow_lt_pow_right (a := 2) (by decide) (show k < 8 from hk)
  rw [q_shl1 k (by omega), q_or_nat s (2 ^ k) (by omega) (by omega)]
  exact ⟨rfl, Nat.or_lt_two_pow (n := 8) hs h2⟩
theorem q_or1_bit (s k j : Nat) : (s ||| 2 ^ k).testBit j = (s.testBit j || decide (k = j)) := by
  rw [Nat.testBit_or, Nat.testBit_two_pow]
theorem q_every (r : Nat) (hr : r < 31) : x_shl 1 (r : Int) - 1 = ((2 ^ r - 1 : Nat) : Int) := by
  rw [q_shl1 r hr]
  have : 0 < 2 ^ r := Nat.pow_pos (by decide)
  omega
theorem q_every_bit (r j : Nat) : (2 ^ r - 1).testBit j = decide (j < r) := Nat.testBit_two_pow_sub_one r j
