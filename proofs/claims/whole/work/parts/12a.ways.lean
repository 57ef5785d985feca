/-! Ways and walks, pure. An office as it is now: y = (rooms, rules, told, law, pace, workers) -/
abbrev q_Y : Type := Nat × (Nat → Int) × (Nat → Int) × Option q_F6 × Int × (Nat → Int)
abbrev q_yR (y : q_Y) : Nat := y.1
abbrev q_yru (y : q_Y) : Nat → Int := y.2.1
abbrev q_yto (y : q_Y) : Nat → Int := y.2.2.1
abbrev q_ylo (y : q_Y) : Option q_F6 := y.2.2.2.1
abbrev q_ypa (y : q_Y) : Int := y.2.2.2.2.1
abbrev q_ywk (y : q_Y) : Nat → Int := y.2.2.2.2.2
def q_Yk (y : q_Y) : Prop := q_Wo (q_yR y) (q_yru y) (q_yto y) ∧ (q_yR y ≠ 0 → 1 ≤ q_ypa y ∧ q_ypa y ≤ 5) ∧ ∀ r, r < q_yR y → 0 ≤ q_ywk y r ∧ q_ywk y r ≤ 9
/-- steps, minutes, heat behind a way -/
def q_yst (y : q_Y) (f : Int) (t : Nat) : Int := q_st (q_yto y) f t
def q_ymi (y : q_Y) (f : Int) (t : Nat) : Int := q_yst y f t * q_ypa y
def q_yht (y : q_Y) (h f : Int) (t : Nat) (c n wb : Int) : Int := q_ht (q_yru y) (q_ylo y) h (q_ymi y f t + wb) (q_yto y (5 * t)) (q_yst y f t) c n
def q_up (f : Nat → Int) (k : Nat) (v : Int) : Nat → Int := fun j => if j = k then v else f j
/-- a walk: from, minutes, heat, cups, rooms, hot, tea, came, then by room minutes, heat, cups -/
abbrev q_S : Type := Int × Int × Int × Int × Int × Int × Int × Nat × (Nat → Int) × (Nat → Int) × (Nat → Int)
abbrev q_sf (s : q_S) : Int := s.1
abbrev q_sm (s : q_S) : Int := s.2.1
abbrev q_sh (s : q_S) : Int := s.2.2.1
abbrev q_sc (s : q_S) : Int := s.2.2.2.1
abbrev q_sn (s : q_S) : Int := s.2.2.2.2.1
abbrev q_so (s : q_S) : Int := s.2.2.2.2.2.1
abbrev q_sq (s : q_S) : Int := s.2.2.2.2.2.2.1
abbrev q_sb (s : q_S) : Nat := s.2.2.2.2.2.2.2.1
abbrev q_sM (s : q_S) : Nat → Int := s.2.2.2.2.2.2.2.2.1
abbrev q_sH (s : q_S) : Nat → Int := s.2.2.2.2.2.2.2.2.2.1
abbrev q_sP (s : q_S) : Nat → Int := s.2.2.2.2.2.2.2.2.2.2
def q_po (y : q_Y) (c : Int) (r : Nat) : Int := min c (q_ywk y r)
def q_stp (y : q_Y) (s : q_S) (r : Nat) : q_S :=
  ((r : Int), q_sm s + q_ymi y (q_sf s) r + q_yto y (5 * r + 4), q_yht y (q_sh s) (q_sf s) r (q_sc s) (q_sn s) 0, q_sc s - q_po y (q_sc s) r, q_sn s + 1,
   q_so s + (if q_yto y (5 * r + 3) ≤ q_yht y (q_sh s) (q_sf s) r (q_sc s) (q_sn s) 0 then q_po y (q_sc s) r else 0), q_sq s + q_po y (q_sc s) r, q_sb s ||| 2 ^ r,
   q_up (q_sM s) r (q_sm s + q_ymi y (q_sf s) r), q_up (q_sH s) r (q_yht y (q_sh s) (q_sf s) r (q_sc s) (q_sn s) 0), q_up (q_sP s) r (q_po y (q_sc s) r))
def q_s0 (h c : Int) : q_S := (-1, 0, h, c, 0, 0, 0, 0, fun _ => 0, fun _ => 0, fun _ => 0)
/-- rooms of a round that are there and open, from the i-th on -/
def q_vis (R sh : Nat) (rd : Nat → Int) : Nat → Nat → List Nat
  | 0, _ => []
  | m + 1, i => if (0 ≤ rd i ∧ rd i < (R : Int)) ∧ sh.testBit (rd i).toNat = false then (rd i).toNat :: q_vis R sh rd m (i + 1) else q_vis R sh rd m (i + 1)
def q_go (y : q_Y) (s : q_S) : List Nat → q_S
  | [] => s
  | r :: l => q_go y (q_stp y s r) l
theorem q_vis_lt (R sh : Nat) (rd : Nat → Int) : ∀ m i, ∀ r ∈ q_vis R sh rd m i, r < R ∧ sh.testBit r = false
  | 0, _, r, h => by cases h
  | m + 1, i, r, h => by
    rw [q_vis] at h
    by_cases q : (0 ≤ rd i ∧ rd i < (R : Int)) ∧ sh.testBit (rd i).toNat = false
    · rw [if_pos q] at h
      rcases List.mem_cons.mp h with rfl | h
      · exact ⟨by omega, q.2⟩
      · exact q_vis_lt R sh rd m (i + 1) r h
    · rw [if_neg q] at h
      exact q_vis_lt R sh rd m (i + 1) r h
theorem q_vis_len (R sh : Nat) (rd : Nat → Int) : ∀ m i, (q_vis R sh rd m i).length ≤ m
  | 0, _ => Nat.le_refl _
  | m + 1, i => by
    rw [q_vis]
    have := q_vis_len R sh rd m (i + 1)
    split
    · rw [List.length_cons]; omega
    · omega
theorem q_vis_none (R sh : Nat) (rd : Nat → Int) : ∀ m i, (∀ x, i ≤ x → x < i + m → rd x = -1) → q_vis R sh rd m i = []
  | 0, _, _ => rfl
  | m + 1, i, h => by
    rw [q_vis, if_neg (by have := h i (by omega) (by omega); omega)]
    exact q_vis_none R sh rd m (i + 1) (fun x h1 h2 => h x (by omega) (by omega))
/-- what holds of a walk on its way -/
def q_Si (y : q_Y) (s : q_S) : Prop := (q_sf s = -1 ∨ (0 ≤ q_sf s ∧ q_sf s < (q_yR y : Int))) ∧ (0 ≤ q_sh s ∧ q_sh s ≤ 99) ∧ 0 ≤ q_sc s ∧ 0 ≤ q_sq s ∧ q_sc s + q_sq s ≤ 60 ∧ 0 ≤ q_so s ∧ q_so s ≤ q_sq s ∧ 0 ≤ q_sn s ∧ 0 ≤ q_sm s ∧ q_sm s ≤ 150 * q_sn s ∧ q_sb s < 256
theorem q_ht_rg {ru : Nat → Int} {lo : Option q_F6} {h m f d k n : Int} (hh : 0 ≤ h ∧ h ≤ 99) : 0 ≤ q_ht ru lo h m f d k n ∧ q_ht ru lo h m f d k n ≤ h := by
  unfold q_ht
  omega
theorem q_ymi_rg {y : q_Y} (hY : q_Yk y) {f : Int} (hf : f = -1 ∨ (0 ≤ f ∧ f < (q_yR y : Int))) {t : Nat} (ht : t < q_yR y) : (0 ≤ q_yst y f t ∧ q_yst y f t ≤ 27) ∧ 0 ≤ q_ymi y f t ∧ q_ymi y f t ≤ 135 := by
  have hd := q_st_rg hY.1 hf ht
  have hp := hY.2.1 (by omega)
  unfold q_ymi q_yst
  refine ⟨hd, Int.mul_nonneg hd.1 (by omega), ?_⟩
  have := Int.mul_le_mul hd.2 hp.2 (by omega) (by decide)
  omega
theorem q_yto_rg {y : q_Y} (hY : q_Yk y) {r : Nat} (hr : r < q_yR y) : (0 ≤ q_yto y (5 * r) ∧ q_yto y (5 * r) ≤ 3) ∧ (0 ≤ q_yto y (5 * r + 3) ∧ q_yto y (5 * r + 3) ≤ 99) ∧ (0 ≤ q_yto y (5 * r + 4) ∧ q_yto y (5 * r + 4) ≤ 9) ∧ (0 ≤ q_ywk y r ∧ q_ywk y r ≤ 9) ∧ r < 8 := by
  obtain ⟨a, b, c, d, e⟩ := hY.1.2.2 r hr
  have : q_yR y ≤ 8 := by rcases hY.1.1 with q | q <;> omega
  exact ⟨a, d, e, hY.2.2 r hr, by omega⟩
theorem q_Si_stp {y : q_Y} (hY : q_Yk y) {s : q_S} (hS : q_Si y s) {r : Nat} (hr : r < q_yR y) : q_Si y (q_stp y s r) := by
  obtain ⟨h1, h2, h3, h4, h5, h6, h7, h8, h9, h10, h11⟩ := hS
  obtain ⟨-, m1, m2⟩ := q_ymi_rg hY h1 hr
  obtain ⟨t0, t3, t4, wk, r8⟩ := q_yto_rg hY hr
  have hh := q_ht_rg (ru := q_yru y) (lo := q_ylo y) (m := q_ymi y (q_sf s) r + 0) (f := q_yto y (5 * r)) (d := q_yst y (q_sf s) r) (k := q_sc s) (n := q_sn s) h2
  have hp : 0 ≤ q_po y (q_sc s) r ∧ q_po y (q_sc s) r ≤ q_sc s := by unfold q_po; omega
  have hb := (q_or1 (q_sb s) r h11 r8).2
  unfold q_stp
  refine ⟨Or.inr ⟨Int.natCast_nonneg _, by show (r : Int) < _; omega⟩, ⟨hh.1, by have := hh.2; show q_ht _ _ _ _ _ _ _ _ ≤ 99; omega⟩, ?_, ?_, ?_, ?_, ?_, ?_, ?_, ?_, hb⟩
  · show 0 ≤ q_sc s - q_po y (q_sc s) r
    omega
  · show 0 ≤ q_sq s + q_po y (q_sc s) r
    omega
  · show q_sc s - q_po y (q_sc s) r + (q_sq s + q_po y (q_sc s) r) ≤ 60
    omega
  · show 0 ≤ q_so s + (if q_yto y (5 * r + 3) ≤ q_yht y (q_sh s) (q_sf s) r (q_sc s) (q_sn s) 0 then q_po y (q_sc s) r else 0)
    split <;> omega
  · show q_so s + (if q_yto y (5 * r + 3) ≤ q_yht y (q_sh s) (q_sf s) r (q_sc s) (q_sn s) 0 then q_po y (q_sc s) r else 0) ≤ q_sq s + q_po y (q_sc s) r
    split <;> omega
  · show 0 ≤ q_sn s + 1
    omega
  · show 0 ≤ q_sm s + q_ymi y (q_sf s) r + q_yto y (5 * r + 4)
    omega
  · show q_sm s + q_ymi y (q_sf s) r + q_yto y (5 * r + 4) ≤ 150 * (q_sn s + 1)
    omega
theorem q_Si_0 (y : q_Y) {h c : Int} (hh : 0 ≤ h ∧ h ≤ 99) (hc : 0 ≤ c ∧ c ≤ 60) : q_Si y (q_s0 h c) := ⟨Or.inl rfl, hh, hc.1, Int.le_refl _, by show c + 0 ≤ 60; omega, Int.le_refl _, Int.le_refl _, Int.le_refl _, Int.le_refl _, by show (0 : Int) ≤ 150 * 0; decide, by show 0 < 256; decide⟩
/-- laws' functions of six numbers -/
def q_F (a : q_AV) : q_F6 := fun m h f d k n => (a (q_lt m h f d k n)).getD 0
def q_key (m h f d k n : Int) (j : Nat) : Int := 5 * (9 * (61 * (40 * (4 * (100 * m + h) + f) + d) + k) + n) + (j : Int) + 1
/-- the reference's text of law j -/
def q_Tx (I : Nat → Nat → Int) (j : Nat) (a : q_AV) : Prop := ∃ (b : Nat → Int) (n : Nat) (C : List Int), I 182 j = (n : Int) ∧ n ≤ 240 ∧ (∀ x, x < n → I 181 (240 * j + x) % 256 = b x) ∧ (∀ x, x < n → -128 ≤ I 181 (240 * j + x) ∧ I 181 (240 * j + x) ≤ 127) ∧ (∀ x, x < n → 1 ≤ b x ∧ b x ≤ 255) ∧ q_rl b n = some (.inr (C, a))
def q_Mo (I L : Nat → Nat → Int) (FA : Nat → q_AV) (nl : Nat) : Prop := ∀ p, p < 8191 → x_rl (L 194 p) ∧ (L 194 p = 0 ∨ ∃ m h f d k n j, q_lr m h f d k n ∧ j < nl ∧ L 194 p = q_key m h f d k n j ∧ I 195 p = q_F (FA j) m h f d k n)
def q_le (I : Nat → Nat → Int) : Prop := q_m6 (I 183 109) ∧ q_m6 (I 183 104) ∧ q_m6 (I 183 102) ∧ q_m6 (I 183 100) ∧ q_m6 (I 183 107) ∧ q_m6 (I 183 110)
/-- the reference's laws -/
def q_LM (I L : Nat → Nat → Int) (FA : Nat → q_AV) (nl : Nat) : Prop := nl ≤ 4 ∧ (∀ j, j < nl → q_Tx I j (FA j)) ∧ q_Mo I L FA nl ∧ q_le I ∧ q_str I
def q_LH (I : Nat → Nat → Int) (FA : Nat → q_AV) (nl : Nat) (lo : Option q_F6) : Prop := (I 179 29 = -1 ∧ lo = none) ∨ ∃ j, j < nl ∧ I 179 29 = (j : Int) ∧ lo = some (q_F (FA j))
def q_Lo (L L' : Nat → Nat → Int) : Prop := ∀ a k, a ≠ 194 → L' a k = L a k
/-- the reference's office as it is now -/
def q_Ym (I L : Nat → Nat → Int) (y : q_Y) (FA : Nat → q_AV) (nl : Nat) : Prop := I 179 24 = (q_yR y : Int) ∧ (∀ k, k < 4 → I 184 k = q_yru y k) ∧ (∀ k, k < 5 * q_yR y → I 186 k = q_yto y k) ∧ I 190 24 = q_ypa y ∧ (∀ r, r < q_yR y → I 190 r = q_ywk y r) ∧ q_LM I L FA nl ∧ q_LH I FA nl (q_ylo y)
abbrev q_fC : List (Nat × Nat × Nat) := [(179, 8, 15), (179, 17, 18), (183, 0, 128), (195, 0, 8191)]
theorem q_lr_key {m h f d k n : Int} {j : Nat} (hr : q_lr m h f d k n) (hj : j < 4) : 1 ≤ q_key m h f d k n j ∧ q_key m h f d k n j ≤ 100000000000 := by
  obtain ⟨h1, h2, h3, h4, h5, h6⟩ := hr
  unfold q_key
  omega
theorem q_key_inj {m h f d k n m' h' f' d' k' n' : Int} {j j' : Nat} (hr : q_lr m h f d k n) (hj : j < 4) (hr' : q_lr m' h' f' d' k' n') (hj' : j' < 4) (e : q_key m h f d k n j = q_key m' h' f' d' k' n' j') : m = m' ∧ h = h' ∧ f = f' ∧ d = d' ∧ k = k' ∧ n = n' ∧ j = j' := by
  obtain ⟨h1, h2, h3, h4, h5, h6⟩ := hr
  obtain ⟨g1, g2, g3, g4, g5, g6⟩ := hr'
  unfold q_key at e
  have e1 : (j : Int) = (j' : Int) := by omega
  have e2 : 9 * (61 * (40 * (4 * (100 * m + h) + f) + d) + k) + n = 9 * (61 * (40 * (4 * (100 * m' + h') + f') + d') + k') + n' := by omega
  have e3 : n = n' := by omega
  have e4 : 61 * (40 * (4 * (100 * m + h) + f) + d) + k = 61 * (40 * (4 * (100 * m' + h') + f') + d') + k' := by omega
  have e5 : k = k' := by omega
  have e6 : 40 * (4 * (100 * m + h) + f) + d = 40 * (4 * (100 * m' + h') + f') + d' := by omega
  have e7 : d = d' := by omega
  have e8 : 4 * (100 * m + h) + f = 4 * (100 * m' + h') + f' := by omega
  have e9 : f = f' := by omega
  exact ⟨by omega, by omega, e9, e7, e5, e3, by omega⟩
theorem q_LM_fr {S : List (Nat × Nat × Nat)} {I I' L L' : Nat → Nat → Int} {FA : Nat → q_AV} {nl : Nat} (h : q_LM I L FA nl) (e181 : ∀ k, I' 181 k = I 181 k) (e182 : ∀ k, I' 182 k = I 182 k) (e183 : ∀ k, I' 183 k = I 183 k) (e195 : ∀ k, I' 195 k = I 195 k) (e5 : ∀ a k, 5000 ≤ a → I' a k = I a k) (eL : ∀ k, L' 194 k = L 194 k) : q_LM I' L' FA nl := by
  obtain ⟨h1, h2, h3, h4, h5⟩ := h
  refine ⟨h1, fun j hj => ?_, fun p hp => ?_, ?_, q_str_fr (S := []) h5 e5⟩
  · obtain ⟨b, n, C, a1, a2, a3, a4, a5, a6⟩ := h2 j hj
    exact ⟨b, n, C, (e182 j).trans a1, a2, fun x hx => by rw [e181]; exact a3 x hx, fun x hx => by rw [e181]; exact a4 x hx, a5, a6⟩
  · rw [eL, e195]
    exact h3 p hp
  · unfold q_le
    rw [e183, e183, e183, e183, e183, e183]
    exact h4
