/-! From the machine in whole numbers to the abstract one: values, worlds -/
theorem x_ti {z : Int} (h : x_rg z) : (Int32.ofInt z).toInt = z := Int32.toInt_ofInt_of_le (by have := h.1; omega) (by have := h.2; omega)
theorem x_tl {z : Int} (h : x_rl z) : (Int64.ofInt z).toInt = z := Int64.toInt_ofInt_of_le (by have := h.1; omega) (by have := h.2; omega)
theorem x_pi_am {st : List x_V} {f : Int → List x_V → Prop} {g : Int32 → List Value → Prop} (h : x_pi st f) (hg : ∀ x r, f x r → g (Int32.ofInt x) (r.map x_cV)) : am_pi (st.map x_cV) g := by
  unfold x_pi at h
  split at h
  · exact hg _ _ h
  · exact h.elim
theorem x_pl_am {st : List x_V} {f : Int → List x_V → Prop} {g : Int64 → List Value → Prop} (h : x_pl st f) (hg : ∀ x r, f x r → g (Int64.ofInt x) (r.map x_cV)) : am_pl (st.map x_cV) g := by
  unfold x_pl at h
  split at h
  · exact hg _ _ h
  · exact h.elim
theorem x_pr_am {st : List x_V} {f : Nat → List x_V → Prop} {g : Nat → List Value → Prop} (h : x_pr st f) (hg : ∀ x r, f x r → g x (r.map x_cV)) : am_pr (st.map x_cV) g := by
  unfold x_pr at h
  split at h
  · exact hg _ _ h
  · exact h.elim
theorem x_p1_am {st : List x_V} {f : x_V → List x_V → Prop} {g : Value → List Value → Prop} (h : x_p1 st f) (hg : ∀ x r, f x r → g (x_cV x) (r.map x_cV)) : am_p1 (st.map x_cV) g := by
  unfold x_p1 at h
  split at h
  · exact hg _ _ h
  · exact hg _ _ h
  · exact h.elim
theorem x_nth_am : ∀ (ls : List x_V) (k : Nat), am_nth (ls.map x_cV) k = x_cV (x_nth ls k)
  | [], _ => rfl
  | _ :: _, 0 => rfl
  | _ :: l, k + 1 => x_nth_am l k
theorem x_set_am : ∀ (ls : List x_V) (k : Nat) (v : x_V), (x_set ls k v).map x_cV = am_set (ls.map x_cV) k (x_cV v)
  | [], _, _ => rfl
  | _ :: _, 0, _ => rfl
  | a :: l, k + 1, v => by rw [x_set, List.map_cons, x_set_am l k v]; rfl
theorem x_inr_am : ∀ (ls : List x_V) (k : Nat), am_inr (ls.map x_cV) k = x_inr ls k
  | [], _ => rfl
  | _ :: _, 0 => rfl
  | _ :: l, k + 1 => x_inr_am l k
theorem x_lng_am (v : x_V) : am_lng (x_cV v) = x_lng v := by
  rcases v with z | z | a | u <;> rfl
theorem x_prv_am (ls : List x_V) (k : Nat) : am_prv (ls.map x_cV) k = x_prv ls k := by
  cases k with
  | zero => rfl
  | succ k => rw [am_prv, x_prv, x_nth_am, x_lng_am]
theorem x_okst_am (ls : List x_V) (k : Nat) : am_okst (ls.map x_cV) k = x_okst ls k := by
  rw [am_okst, x_okst, x_inr_am, x_prv_am]
theorem x_cat_am : ∀ (ls : List x_V), am_cat (ls.map x_cV) = x_cat ls := by
  intro ls
  induction ls with
  | nil => rfl
  | cons v l ih => rcases v with z | z | a | u <;> simp [am_cat, x_cat, x_cV, ih]
theorem x_ent_am : ∀ (ls : List x_V), am_ent (ls.map x_cV) = (x_ent ls).map x_cV := by
  intro ls
  induction ls with
  | nil => rfl
  | cons v l ih => rcases v with z | z | a | u <;> simp [am_ent, x_ent, x_cV, ih]
theorem x_pad_am (ls : List x_V) (n : Nat) : am_pad (ls.map x_cV) n = (x_pad ls n).map x_cV := by
  simp [am_pad, x_pad, x_cV]
theorem x_tk_am : ∀ (k : Nat) (st acc : List x_V) (f : List x_V → List x_V → Prop) (g : List Value → List Value → Prop), x_tk k st acc f → (∀ as r, f as r → g (as.map x_cV) (r.map x_cV)) → am_tk k (st.map x_cV) (acc.map x_cV) g := by
  intro k
  induction k with
  | zero => intro st acc f g h hg; exact hg _ _ h
  | succ k ih =>
    intro st acc f g h hg
    cases st with
    | nil => exact h.elim
    | cons v st => exact ih st (v :: acc) f g h hg
theorem x_nbeq {a b : Nat} (h : ¬ a = b) : Nat.beq a b = false := by
  cases q : Nat.beq a b with
  | false => rfl
  | true => exact absurd (Nat.eq_of_beq_eq_true q) h
theorem x_u_eq (f : Nat → Nat → Int) (a k : Nat) (v : Int) (b j : Nat) : x_u f a k v b j = if b = a ∧ j = k then v else f b j := by
  unfold x_u
  by_cases h1 : b = a <;> by_cases h2 : j = k
  · subst h1 h2; simp
  · have : Nat.beq j k = false := x_nbeq h2
    rw [this, Bool.and_false, cond_false, if_neg (fun q => h2 q.2)]
  · have : Nat.beq b a = false := x_nbeq h1
    rw [this, Bool.false_and, cond_false, if_neg (fun q => h1 q.1)]
  · have : Nat.beq b a = false := x_nbeq h1
    rw [this, Bool.false_and, cond_false, if_neg (fun q => h1 q.1)]
theorem x_cp_eq (f : Nat → Nat → Int) (a0 a sp dp n b j : Nat) : x_cp f a0 a sp dp n b j = if b = a ∧ dp ≤ j ∧ j < dp + n then f a0 (sp + (j - dp)) else f b j := by
  unfold x_cp
  by_cases h1 : b = a
  · have e1 : Nat.beq b a = true := by simp [h1]
    by_cases h2 : dp ≤ j
    · have e2 : Nat.ble dp j = true := Nat.ble_eq_true_of_le h2
      by_cases h3 : j + 1 ≤ dp + n
      · have e3 : Nat.ble (j + 1) (dp + n) = true := Nat.ble_eq_true_of_le h3
        rw [e1, e2, e3, if_pos ⟨h1, h2, h3⟩]; rfl
      · have e3 : Nat.ble (j + 1) (dp + n) = false := by
          cases q : Nat.ble (j + 1) (dp + n) with
          | false => rfl
          | true => exact absurd (Nat.le_of_ble_eq_true q) h3
        rw [e1, e2, e3, if_neg (fun q => h3 q.2.2)]; rfl
    · have e2 : Nat.ble dp j = false := by
        cases q : Nat.ble dp j with
        | false => rfl
        | true => exact absurd (Nat.le_of_ble_eq_true q) h2
      rw [e1, e2, if_neg (fun q => h2 q.2.1)]; rfl
  · have e1 : Nat.beq b a = false := x_nbeq h1
    rw [e1, if_neg (fun q => h1 q.1)]; rfl
theorem x_u_I (f : Nat → Nat → Int) (a k : Nat) (v : Int) : x_cI (x_u f a k v) = am_u (x_cI f) a k (Int32.ofInt v) := by
  funext b j
  simp only [x_cI, x_u_eq, am_u]
  by_cases h1 : b = a <;> by_cases h2 : j = k <;> simp [h1, h2]
theorem x_u_L (f : Nat → Nat → Int) (a k : Nat) (v : Int) : x_cL (x_u f a k v) = am_u (x_cL f) a k (Int64.ofInt v) := by
  funext b j
  simp only [x_cL, x_u_eq, am_u]
  by_cases h1 : b = a <;> by_cases h2 : j = k <;> simp [h1, h2]
theorem x_cp_I (f : Nat → Nat → Int) (a0 a sp dp n : Nat) : x_cI (x_cp f a0 a sp dp n) = am_cpI (x_cI f) a0 a sp dp n := by
  funext b j
  simp only [x_cI, x_cp_eq, am_cpI, va_cpy]
  by_cases h1 : b = a
  · subst h1
    by_cases h2 : dp ≤ j ∧ j < dp + n
    · rw [if_pos ⟨rfl, h2⟩, if_pos rfl, if_pos h2]
    · rw [if_neg (fun q => h2 q.2), if_pos rfl, if_neg h2]
  · rw [if_neg (fun q => h1 q.1), if_neg h1]
theorem x_R_lp (x lp tp : Nat) : x_R x tp = am_u (x_R lp tp) 154 2 x := by
  funext b j
  unfold x_R am_u
  by_cases h1 : b = 154 <;> by_cases h2 : j = 2
  · subst h1 h2; simp
  · have : Nat.beq j 2 = false := x_nbeq h2
    simp [h1, h2, this]
  · have : Nat.beq b 154 = false := x_nbeq h1
    simp [h1, h2, this]
  · have : Nat.beq b 154 = false := x_nbeq h1
    simp [h1, h2, this]
theorem x_R_tp (x lp tp : Nat) : x_R lp x = am_u (x_R lp tp) 179 5 x := by
  funext b j
  unfold x_R am_u
  by_cases h1 : b = 179 <;> by_cases h2 : j = 5
  · subst h1 h2; rfl
  · have : Nat.beq j 5 = false := x_nbeq h2
    simp [h1, h2, this]
  · have : Nat.beq b 179 = false := x_nbeq h1
    simp [h1, h2, this]
  · have : Nat.beq b 179 = false := x_nbeq h1
    simp [h1, h2, this]
theorem x_b1 {c : ClassFile.Cond} {x y : Int} (hx : x_rg x) (hy : x_rg y) (h : am_brc c (Int32.ofInt x) (Int32.ofInt y)) : x_brc c x y := by
  have ex := x_ti hx
  have ey := x_ti hy
  cases c <;> simp only [am_brc, x_brc, Int32.lt_iff_toInt_lt, Int32.le_iff_toInt_le, ← Int32.toInt_inj, ex, ey] at h ⊢ <;> exact h
theorem x_b2 {c : ClassFile.Cond} {x y : Int} (hx : x_rg x) (hy : x_rg y) (h : am_brn c (Int32.ofInt x) (Int32.ofInt y)) : x_brn c x y := by
  have ex := x_ti hx
  have ey := x_ti hy
  cases c <;> simp only [am_brn, x_brn, Int32.lt_iff_toInt_lt, Int32.le_iff_toInt_le, ← Int32.toInt_inj, ex, ey] at h ⊢ <;> omega
theorem x_tab_am {x lo : Int} {K : Nat → Prop} : ∀ (l : List Int) (lo d : Int), x_tab x lo K l d → K (am_tab x lo l d).toNat
  | [], _, _, h => h
  | t :: l, lo, d, h => by
    unfold am_tab
    by_cases e : x = lo
    · rw [if_pos e]; exact h.1 e
    · rw [if_neg e]; exact x_tab_am (lo := lo) l (lo + 1) d (h.2 e)
theorem x_lkp_am {x : Int} {K : Nat → Prop} : ∀ (l : List (Int × Int)) (d : Int), x_lkp x K l d → K (am_lkp x l d).toNat
  | [], _, h => h
  | q :: l, d, h => by
    unfold am_lkp
    by_cases e : x = q.1
    · rw [if_pos e]; exact h.1 e
    · rw [if_neg e]; exact x_lkp_am l d (h.2 e)
theorem x_fv_am (n : Nat) (w : x_W) (kd a k : Nat) : am_fv (x_cW n w) kd a k = x_cV (x_fv w kd a k) := by
  rcases kd with _ | _ | _ | kd <;> rfl
theorem x_s0z (a : Nat) : (x_s0 a).2 ≤ 20000 := by
  unfold x_s0
  repeat' (first | (refine (fun (b : Bool) (x y : Nat × Nat) (h1 : x.2 ≤ 20000) (h2 : y.2 ≤ 20000) => (by cases b <;> assumption : (bif b then x else y).2 ≤ 20000)) _ _ _ ?_ ?_) | decide)
theorem x_shz {n : Nat} (hn : n ≤ 3072) (a : Nat) : (x_sh n a).2 ≤ 20000 := by
  unfold x_sh
  cases Nat.beq a 6000
  · exact x_s0z a
  · show n ≤ 20000
    omega
theorem x_vp {i : Int} {n : Nat} (h : 0 ≤ i ∧ i < (n : Int)) (hn : n ≤ 20000) : vp_in (Int32.ofInt i) n ∧ (Int32.ofInt i).toNatClampNeg = i.toNat := by
  have hr : x_rg i := ⟨by omega, by omega⟩
  have e : (Int32.ofInt i).toNatClampNeg = i.toNat := Int32.toNatClampNeg_ofInt_of_le (by have := hr.1; omega) (by have := hr.2; omega)
  refine ⟨?_, e⟩
  unfold vp_in
  rw [e, Int32.lt_iff_toInt_lt, x_ti hr]
  show ¬ (i < 0 ∨ n ≤ i.toNat)
  omega
theorem x_min {x y : Int} (hx : x_rg x) (hy : x_rg y) : Int32.ofInt (min x y) = if Int32.ofInt y < Int32.ofInt x then Int32.ofInt y else Int32.ofInt x := by
  have e : (Int32.ofInt y < Int32.ofInt x) ↔ y < x := by rw [Int32.lt_iff_toInt_lt, x_ti hy, x_ti hx]
  by_cases h : y < x
  · rw [if_pos (e.mpr h), Int.min_eq_right (by omega)]
  · rw [if_neg (fun q => h (e.mp q)), Int.min_eq_left (by omega)]
theorem x_max {x y : Int} (hx : x_rg x) (hy : x_rg y) : Int32.ofInt (max x y) = if Int32.ofInt x < Int32.ofInt y then Int32.ofInt y else Int32.ofInt x := by
  have e : (Int32.ofInt x < Int32.ofInt y) ↔ x < y := by rw [Int32.lt_iff_toInt_lt, x_ti hx, x_ti hy]
  by_cases h : x < y
  · rw [if_pos (e.mpr h), Int.max_eq_right (by omega)]
  · rw [if_neg (fun q => h (e.mp q)), Int.max_eq_left (by omega)]
theorem x_minL {x y : Int} (hx : x_rl x) (hy : x_rl y) : Int64.ofInt (min x y) = if Int64.ofInt y < Int64.ofInt x then Int64.ofInt y else Int64.ofInt x := by
  have e : (Int64.ofInt y < Int64.ofInt x) ↔ y < x := by rw [Int64.lt_iff_toInt_lt, x_tl hy, x_tl hx]
  by_cases h : y < x
  · rw [if_pos (e.mpr h), Int.min_eq_right (by omega)]
  · rw [if_neg (fun q => h (e.mp q)), Int.min_eq_left (by omega)]
theorem x_maxL {x y : Int} (hx : x_rl x) (hy : x_rl y) : Int64.ofInt (max x y) = if Int64.ofInt y < Int64.ofInt x then Int64.ofInt x else Int64.ofInt y := by
  have e : (Int64.ofInt y < Int64.ofInt x) ↔ y < x := by rw [Int64.lt_iff_toInt_lt, x_tl hy, x_tl hx]
  by_cases h : y < x
  · rw [if_pos (e.mpr h), Int.max_eq_left (by omega)]
  · rw [if_neg (fun q => h (e.mp q)), Int.max_eq_right (by omega)]
theorem x_abs {x : Int} (hx : x_rg x) : Int32.ofInt (max x (-x)) = if 0 ≤ Int32.ofInt x then Int32.ofInt x else 0 - Int32.ofInt x := by
  have e : ((0 : Int32) ≤ Int32.ofInt x) ↔ 0 ≤ x := by rw [Int32.le_iff_toInt_le, x_ti hx]; exact Iff.rfl
  by_cases h : 0 ≤ x
  · rw [if_pos (e.mpr h), Int.max_eq_left (by omega)]
  · rw [if_neg (fun q => h (e.mp q)), Int.max_eq_right (by omega), show (0 : Int32) = Int32.ofInt 0 from rfl, ← Int32.ofInt_sub, Int.zero_sub]
theorem x_div {x y : Int} (hx : x_rg x) (hy : x_rg y) : Int32.ofInt (Int.tdiv x y) = Int32.ofInt x / Int32.ofInt y := Int32.ofInt_tdiv (by have := hx.1; exact this) (by have := hx.2; exact this) (by have := hy.1; exact this) (by have := hy.2; exact this)
theorem x_rem {x y : Int} (hx : x_rg x) (hy : x_rg y) : Int32.ofInt (Int.tmod x y) = Int32.ofInt x - Int32.ofInt x / Int32.ofInt y * Int32.ofInt y := by
  rw [← x_div hx hy, ← Int32.ofInt_mul, ← Int32.ofInt_sub]
  congr 1
  rw [Int.tmod_def, Int.mul_comm]
theorem x_divL {x y : Int} (hx : x_rl x) (hy : x_rl y) : Int64.ofInt (Int.tdiv x y) = Int64.ofInt x / Int64.ofInt y := Int64.ofInt_tdiv (by have := hx.1; exact this) (by have := hx.2; exact this) (by have := hy.1; exact this) (by have := hy.2; exact this)
theorem x_remL {x y : Int} (hx : x_rl x) (hy : x_rl y) : Int64.ofInt (Int.tmod x y) = Int64.ofInt x - Int64.ofInt x / Int64.ofInt y * Int64.ofInt y := by
  rw [← x_divL hx hy, ← Int64.ofInt_mul, ← Int64.ofInt_sub]
  congr 1
  rw [Int.tmod_def, Int.mul_comm]
theorem x_ne0 {y : Int} (hy : x_rg y) (h : ¬ y = 0) : ¬ Int32.ofInt y = 0 := fun e => h (by rw [← x_ti hy, e]; rfl)
theorem x_ne0L {y : Int} (hy : x_rl y) (h : ¬ y = 0) : ¬ Int64.ofInt y = 0 := fun e => h (by rw [← x_tl hy, e]; rfl)
theorem x_cmpL {x y : Int} (hx : x_rl x) (hy : x_rl y) : Int32.ofInt (x_cmp x y) = lg_cmp (Int64.ofInt x) (Int64.ofInt y) := by
  unfold x_cmp lg_cmp
  simp only [gt_iff_lt, Int64.lt_iff_toInt_lt, ← Int64.toInt_inj, x_tl hx, x_tl hy]
  by_cases h1 : x < y
  · rw [if_pos h1, if_neg (by omega), if_neg (by omega)]; rfl
  · by_cases h2 : x = y
    · rw [if_neg h1, if_pos h2, if_neg (by omega), if_pos h2]; rfl
    · rw [if_neg h1, if_neg h2, if_pos (by omega)]; rfl
theorem x_fm {x y : Int} (hx : x_rg x) (hy : x_rg y) (h0 : 0 < y) : Int32.ofInt (x % y) = am_fm (Int32.ofInt x) (Int32.ofInt y) := by
  have hs : (Int32.ofInt x ^^^ Int32.ofInt y < 0) ↔ x < 0 := by
    rw [Int32.lt_iff_toInt_lt]
    show (Int32.ofInt x ^^^ Int32.ofInt y).toBitVec.toInt < 0 ↔ x < 0
    have e1 : (Int32.ofInt x ^^^ Int32.ofInt y).toBitVec.msb = ((Int32.ofInt x).toBitVec.msb ^^ (Int32.ofInt y).toBitVec.msb) := BitVec.msb_xor
    rw [BitVec.msb_eq_toInt, BitVec.msb_eq_toInt, BitVec.msb_eq_toInt] at e1
    have e2 : (Int32.ofInt x).toBitVec.toInt = x := x_ti hx
    have e3 : (Int32.ofInt y).toBitVec.toInt = y := x_ti hy
    rw [e2, e3] at e1
    by_cases h1 : x < 0
    · have e4 : decide (y < 0) = false := decide_eq_false (by omega)
      rw [e4, decide_eq_true h1] at e1
      exact ⟨fun _ => h1, fun _ => of_decide_eq_true e1⟩
    · have e4 : decide (y < 0) = false := decide_eq_false (by omega)
      rw [e4, decide_eq_false h1] at e1
      exact ⟨fun q => absurd q (of_decide_eq_false e1), fun q => absurd q h1⟩
  have hd : x = y * (x.tdiv y) + x.tmod y := (Int.mul_tdiv_add_tmod x y).symm
  have hr : x_rg (x.tmod y) := by
    have := hx.1
    have := hx.2
    have e1 := Int.natAbs_tmod x y
    have e2 := Nat.mod_lt x.natAbs (show 0 < y.natAbs by omega)
    have := hy.2
    constructor <;> omega
  unfold am_fm
  rw [← x_rem hx hy]
  have hz : (Int32.ofInt (x.tmod y) = 0) ↔ x.tmod y = 0 := by
    rw [← Int32.toInt_inj, x_ti hr]
    exact Iff.rfl
  by_cases h1 : x < 0
  · by_cases h2 : x.tmod y = 0
    · rw [if_neg (fun q => q.2 (hz.mpr h2))]
      congr 1
      rw [Int.emod_eq_zero_of_dvd (Int.dvd_of_tmod_eq_zero h2), h2]
    · rw [if_pos ⟨hs.mpr h1, fun q => h2 (hz.mp q)⟩, ← Int32.ofInt_add]
      congr 1
      have := Int.tmod_eq_emod (a := x) (b := y)
      have hnd : ¬ y ∣ x := fun q => h2 (Int.tmod_eq_zero_of_dvd q)
      rw [if_neg (fun q => q.elim (fun q => by omega) hnd)] at this
      omega
  · rw [if_neg (fun q => h1 (hs.mp q.1))]
    congr 1
    exact (Int.tmod_eq_emod_of_nonneg (by omega)).symm
theorem x_i2c (x : Int) : Int32.ofInt (x % 65536) = ((Int32.ofInt x).toUInt32 % 65536).toInt32 := by
  apply Int32.toBitVec.inj
  apply BitVec.eq_of_toNat_eq
  show (BitVec.ofInt 32 (x % 65536)).toNat = (BitVec.ofInt 32 x % 65536#32).toNat
  rw [BitVec.toNat_umod, BitVec.toNat_ofInt, BitVec.toNat_ofInt]
  show (x % 65536 % 4294967296).toNat = (x % 4294967296).toNat % 65536
  omega
theorem x_bm (x : Int) : Int32.ofInt (Int.bmod x 256) = (Int32.ofInt x).toInt8.toInt32 := by
  rw [Int32.toInt8_ofInt, ← Int32.ofInt_int8ToInt, Int8.toInt_ofInt]
