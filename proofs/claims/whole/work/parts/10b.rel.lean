/-! Offices, rows of numbers, ways: what the cells mean -/
def x_dj (S D : List (Nat × Nat × Nat)) : Bool := S.all fun s => D.all fun d => !Nat.beq s.1 d.1 || (Nat.ble s.2.2 d.2.1 || Nat.ble d.2.2 s.2.1)
def q_ag (D : List (Nat × Nat × Nat)) (I I' : Nat → Nat → Int) : Prop := ∀ a k, x_mem D a k = true → I' a k = I a k
theorem x_fr_ag {S D : List (Nat × Nat × Nat)} {I I' : Nat → Nat → Int} (h : x_fr S I I') (hd : x_dj S D = true) : q_ag D I I' := by
  intro a k hm
  refine h a k ?_
  cases e : x_mem S a k with
  | false => rfl
  | true =>
    obtain ⟨s, h1, h2, h3, h4⟩ := (x_mem_iff S a k).mp e
    obtain ⟨d, g1, g2, g3, g4⟩ := (x_mem_iff D a k).mp hm
    have := List.all_eq_true.mp (List.all_eq_true.mp hd s h1) d g1
    rw [Bool.or_eq_true, Bool.or_eq_true] at this
    rcases this with q | q | q
    · rw [show s.1 = d.1 from h2.symm.trans g2, Nat.beq_refl] at q; cases q
    · have := Nat.le_of_ble_eq_true q; omega
    · have := Nat.le_of_ble_eq_true q; omega
theorem q_ag_at {D : List (Nat × Nat × Nat)} {I I' : Nat → Nat → Int} (h : q_ag D I I') (t : Nat × Nat × Nat) (ht : t ∈ D) {k : Nat} (h1 : t.2.1 ≤ k) (h2 : k < t.2.2) : I' t.1 k = I t.1 k := h t.1 k (x_memI t ht rfl h1 h2)
abbrev q_F6 : Type := Int → Int → Int → Int → Int → Int → Int
def q_ab (z : Int) : Int := max z (-z)
def q_sd (fl fa : Int) (to : Nat → Int) (t : Nat) : Int := if fl = to (5 * t) then q_ab (fa - to (5 * t + 1)) else fa + to (5 * t + 1) + 3 * q_ab (fl - to (5 * t))
/-- STEPS from a room (-1: the lift) to a room -/
def q_st (to : Nat → Int) (f : Int) (t : Nat) : Int := if f = -1 then q_sd 0 0 to t else q_sd (to (5 * f.toNat)) (to (5 * f.toNat + 1)) to t
/-- an office: rooms, rules, what is told -/
def q_Wo (R : Nat) (ru to : Nat → Int) : Prop := (R = 0 ∨ (2 ≤ R ∧ R ≤ 8)) ∧ (R ≠ 0 → (10 ≤ ru 0 ∧ ru 0 ≤ 99) ∧ (0 ≤ ru 1 ∧ ru 1 ≤ 9) ∧ (1 ≤ ru 2 ∧ ru 2 ≤ 5) ∧ (1 ≤ ru 3 ∧ ru 3 ≤ 60)) ∧ ∀ r, r < R → (0 ≤ to (5 * r) ∧ to (5 * r) ≤ 3) ∧ (0 ≤ to (5 * r + 1) ∧ to (5 * r + 1) ≤ 9) ∧ (0 ≤ to (5 * r + 2) ∧ to (5 * r + 2) ≤ 9) ∧ (0 ≤ to (5 * r + 3) ∧ to (5 * r + 3) ≤ 99) ∧ (0 ≤ to (5 * r + 4) ∧ to (5 * r + 4) ≤ 9)
theorem q_ab_rg {z : Int} {b : Int} (h1 : -b ≤ z) (h2 : z ≤ b) : 0 ≤ q_ab z ∧ q_ab z ≤ b := by unfold q_ab; constructor <;> omega
theorem q_st_rg {R : Nat} {ru to : Nat → Int} (hW : q_Wo R ru to) {f : Int} (hf : f = -1 ∨ (0 ≤ f ∧ f < (R : Int))) {t : Nat} (ht : t < R) : 0 ≤ q_st to f t ∧ q_st to f t ≤ 27 := by
  obtain ⟨⟨a1, a2⟩, ⟨a3, a4⟩, -⟩ := hW.2.2 t ht
  have key : ∀ fl fa : Int, 0 ≤ fl → fl ≤ 3 → 0 ≤ fa → fa ≤ 9 → 0 ≤ q_sd fl fa to t ∧ q_sd fl fa to t ≤ 27 := by
    intro fl fa b1 b2 b3 b4
    unfold q_sd
    have c1 := q_ab_rg (z := fa - to (5 * t + 1)) (b := 9) (by omega) (by omega)
    have c2 := q_ab_rg (z := fl - to (5 * t)) (b := 3) (by omega) (by omega)
    split <;> constructor <;> omega
  unfold q_st
  by_cases e : f = -1
  · rw [if_pos e]; exact key 0 0 (by decide) (by decide) (by decide) (by decide)
  · rw [if_neg e]
    have hf' : f.toNat < R := by omega
    obtain ⟨⟨b1, b2⟩, ⟨b3, b4⟩, -⟩ := hW.2.2 f.toNat hf'
    exact key _ _ b1 b2 b3 b4
/-- the class's office -/
def q_Oc (I : Nat → Nat → Int) (R : Nat) (ru to : Nat → Int) : Prop := I 14 3 = (R : Int) ∧ (∀ k, k < 4 → I 15 k = ru k) ∧ (∀ k, k < 5 * R → I 16 k = to k) ∧ (∀ f t : Nat, f < R → t < R → I 17 (8 * f + t) = q_st to f t) ∧ ∀ t, t < R → I 17 (64 + t) = q_st to (-1) t
abbrev q_dOc : List (Nat × Nat × Nat) := [(14, 3, 4), (15, 0, 4), (16, 0, 40), (17, 0, 72)]
theorem q_Oc_ag {I I' : Nat → Nat → Int} {R : Nat} {ru to : Nat → Int} (hR : R ≤ 8) (h : q_Oc I R ru to) (ha : q_ag q_dOc I I') : q_Oc I' R ru to := by
  obtain ⟨h1, h2, h3, h4, h5⟩ := h
  refine ⟨(ha 14 3 rfl).trans h1, fun k hk => ?_, fun k hk => ?_, fun f t hf ht => ?_, fun t ht => ?_⟩
  · exact (q_ag_at ha (15, 0, 4) (by simp) (Nat.zero_le _) hk).trans (h2 k hk)
  · exact (q_ag_at ha (16, 0, 40) (by simp) (Nat.zero_le _) (show k < 40 by omega)).trans (h3 k hk)
  · exact (q_ag_at ha (17, 0, 72) (by simp) (Nat.zero_le _) (show 8 * f + t < 72 by omega)).trans (h4 f t hf ht)
  · exact (q_ag_at ha (17, 0, 72) (by simp) (Nat.zero_le _) (show 64 + t < 72 by omega)).trans (h5 t ht)
/-- what cools: by a law (some), or by minutes -/
def q_v (ru : Nat → Int) (lo : Option q_F6) (m h f d k n : Int) : Int := match lo with
  | none => m * ru 1
  | some F => F m h f d k n
def q_ht (ru : Nat → Int) (lo : Option q_F6) (h m f d k n : Int) : Int := max 0 (h - max 0 (min 99 (q_v ru lo m h f d k n)))
def q_lr (m h f d k n : Int) : Prop := (0 ≤ m ∧ m ≤ 200) ∧ (0 ≤ h ∧ h ≤ 99) ∧ (0 ≤ f ∧ f ≤ 3) ∧ (0 ≤ d ∧ d ≤ 39) ∧ (0 ≤ k ∧ k ≤ 60) ∧ (0 ≤ n ∧ n ≤ 8)
def q_lt (m h f d k n : Int) (j : Nat) : Int := if j = 0 then m else if j = 1 then h else if j = 2 then f else if j = 3 then d else if j = 4 then k else n
/-- the class's law that holds -/
def q_Lc (I : Nat → Nat → Int) (lp : Nat) (lo : Option q_F6) : Prop := (lp = 0 ∧ lo = none) ∨ ∃ (n : Nat) (c : Nat → Int) (F : q_F6), (lp = 167 ∨ lp = 170 ∨ lp = 173 ∨ lp = 176) ∧ lo = some F ∧ n ≤ 240 ∧ (∀ i, i < n → 0 ≤ c i ∧ c i ≤ 200000) ∧ (∀ i, i < n → I (lp + 1) i = c i) ∧ I lp 2 = (n : Int) ∧ ∀ m h f d k n', q_lr m h f d k n' → ∃ fu, q_ex c n (q_lt m h f d k n') fu 0 [] = some (F m h f d k n')
abbrev q_dLc : List (Nat × Nat × Nat) := [(167, 2, 3), (168, 0, 240), (170, 2, 3), (171, 0, 240), (173, 2, 3), (174, 0, 240), (176, 2, 3), (177, 0, 240)]
theorem q_Lc_ag {I I' : Nat → Nat → Int} {lp : Nat} {lo : Option q_F6} (h : q_Lc I lp lo) (ha : q_ag q_dLc I I') : q_Lc I' lp lo := by
  rcases h with h | ⟨n, c, F, h1, h2, h3, h4, h5, h6, h7⟩
  · exact Or.inl h
  · refine Or.inr ⟨n, c, F, h1, h2, h3, h4, fun i hi => ?_, ?_, h7⟩
    · rw [← h5 i hi]
      rcases h1 with rfl | rfl | rfl | rfl
      · exact q_ag_at ha (168, 0, 240) (by simp) (Nat.zero_le _) (show i < 240 by omega)
      · exact q_ag_at ha (171, 0, 240) (by simp) (Nat.zero_le _) (show i < 240 by omega)
      · exact q_ag_at ha (174, 0, 240) (by simp) (Nat.zero_le _) (show i < 240 by omega)
      · exact q_ag_at ha (177, 0, 240) (by simp) (Nat.zero_le _) (show i < 240 by omega)
    · rw [← h6]
      rcases h1 with rfl | rfl | rfl | rfl <;> exact ha _ _ rfl
abbrev q_fW : List (Nat × Nat × Nat) := [(155, 0, 6), (167, 3, 4), (169, 0, 40), (170, 3, 4), (172, 0, 40), (173, 3, 4), (175, 0, 40), (176, 3, 4), (178, 0, 40)]
theorem q_lt_m6 {m h f d k n : Int} (hr : q_lr m h f d k n) (j : Nat) : q_m6 (q_lt m h f d k n j) := by
  obtain ⟨h1, h2, h3, h4, h5, h6⟩ := hr
  unfold q_lt
  repeat' split
  all_goals constructor <;> omega
/-- the class's code for a room, or the lift -/
def q_fc (f : Int) : Int := if f = -1 then 8 else f
theorem q_fc_dist {I : Nat → Nat → Int} {R : Nat} {ru to : Nat → Int} (hR : R ≤ 8) (hO : q_Oc I R ru to) {f : Int} (hf : f = -1 ∨ (0 ≤ f ∧ f < (R : Int))) {t : Nat} (ht : t < R) : (0 ≤ q_fc f * 8 + (t : Int) ∧ q_fc f * 8 + (t : Int) < 72) ∧ I 17 (q_fc f * 8 + (t : Int)).toNat = q_st to f t := by
  unfold q_fc
  by_cases e : f = -1
  · rw [if_pos e, e]
    refine ⟨by omega, ?_⟩
    rw [show ((8 : Int) * 8 + (t : Int)).toNat = 64 + t by omega]
    exact hO.2.2.2.2 t ht
  · rw [if_neg e]
    obtain ⟨n, rfl⟩ := Int.eq_ofNat_of_zero_le (show 0 ≤ f by omega)
    refine ⟨by omega, ?_⟩
    rw [show ((n : Int) * 8 + (t : Int)).toNat = 8 * n + t by omega]
    exact hO.2.2.2.1 n t (by omega) ht
theorem s_heatBehind {g : x_G} {k : Nat} {Q : x_Q} {I L : Nat → Nat → Int} {lp tp : Nat} {f h c n wb pa : Int} {t R : Nat} {ru to : Nat → Int} {lo : Option q_F6} (hW : q_Wo R ru to) (hO : q_Oc I R ru to) (hL : q_Lc I lp lo) (hp : I 18 3 = pa) (hp1 : 1 ≤ pa ∧ pa ≤ 5) (hf : f = -1 ∨ (0 ≤ f ∧ f < (R : Int))) (ht : t < R) (hh : 0 ≤ h ∧ h ≤ 99) (hc : 0 ≤ c ∧ c ≤ 60) (hn : 0 ≤ n ∧ n ≤ 8) (hwb : 0 ≤ wb ∧ wb ≤ 5)
    (hq : ∀ I', x_fr q_fW I I' → Q [x_i (q_ht ru lo h (q_st to f t * pa + wb) (to (5 * t)) (q_st to f t) c n)] (I', L, lp, tp)) : x_X g (k + 6) 113 [x_r 154, x_i (q_fc f), x_i (t : Int), x_i h, x_i c, x_i n, x_i wb] (I, L, lp, tp) Q := by
  have hR : R ≤ 8 := by rcases hW.1 with q | q <;> omega
  obtain ⟨d1, d2⟩ := q_fc_dist hR hO hf ht
  have hd := q_st_rg hW hf ht
  generalize q_st to f t = d at *
  have h5 : (0 ≤ (t : Int) * 5 + 0 ∧ (t : Int) * 5 + 0 < 40) := by omega
  have e5 : I 16 ((t : Int) * 5 + 0).toNat = to (5 * t) := by
    rw [show ((t : Int) * 5 + 0).toNat = 5 * t by omega]
    exact hO.2.2.1 (5 * t) (by omega)
  have hR0 : R ≠ 0 := by omega
  obtain ⟨-, r1, -⟩ := hW.2.1 hR0
  have hto := (hW.2.2 t ht).1
  have hm : 0 ≤ d * pa ∧ d * pa ≤ 135 := by
    have a1 : d * pa ≤ 27 * 5 := Int.mul_le_mul hd.2 hp1.2 (by omega) (by decide)
    have a2 : 0 ≤ d * pa := Int.mul_nonneg hd.1 (by omega)
    omega
  rw [← hp] at hm hq
  refine v_heatBehind (k := k + 3) ⟨d1, ?_, fun q => ⟨h5, ?_, ?_⟩, fun q => ?_⟩
  · rcases hL with ⟨e, -⟩ | ⟨_, _, _, e, -⟩
    · omega
    · omega
  · rcases hL with ⟨e, -⟩ | ⟨_, _, _, e, -⟩
    · exact absurd e q
    · rcases e with rfl | rfl | rfl | rfl <;> rfl
  · rw [d2, e5]
    rcases hL with ⟨e, -⟩ | ⟨n', cc, F, e, e2, e3, e4, e6, e7, e8⟩
    · exact absurd e q
    · have hlr : q_lr (d * I 18 3 + wb) h (to (5 * t)) d c n := ⟨by omega, hh, hto, by omega, hc, hn⟩
      obtain ⟨fu, hfu⟩ := e8 _ _ _ _ _ _ hlr
      subst e2
      have fin : ∀ (I1 : Nat → Nat → Int) (z : Int), z = F (d * I 18 3 + wb) h (to (5 * t)) d c n → q_m6 z → x_fr q_fW I I1 → ∃ z2, [x_i z] = [x_i z2] ∧ x_rg z2 ∧ x_rg (h - max 0 (min z2 99)) ∧ Q [x_i (max 0 (h - max 0 (min z2 99)))] (I1, L, lp, tp) := by
        intro I1 z ez hz hf1
        refine ⟨z, rfl, ⟨by omega, by omega⟩, ⟨by omega, by omega⟩, ?_⟩
        have := hq I1 hf1
        unfold q_ht q_v at this
        dsimp only at this
        rw [← ez, Int.min_comm] at this
        exact this
      have f0 : x_fr q_fW I (x_u (x_u (x_u (x_u (x_u (x_u I 155 0 (d * I 18 3 + wb)) 155 1 h) 155 2 (to (5 * t))) 155 3 d) 155 4 c) 155 5 n) := x_fr_u (x_fr_u (x_fr_u (x_fr_u (x_fr_u (x_fr_u (x_fr_refl _ _) rfl) rfl) rfl) rfl) rfl) rfl
      have hlt : ∀ j, j < 6 → (x_u (x_u (x_u (x_u (x_u (x_u I 155 0 (d * I 18 3 + wb)) 155 1 h) 155 2 (to (5 * t))) 155 3 d) 155 4 c) 155 5 n) 155 j = q_lt (d * I 18 3 + wb) h (to (5 * t)) d c n j := by
        intro j hj
        rcases j with _ | _ | _ | _ | _ | _ | j
        · rfl
        · rfl
        · rfl
        · rfl
        · rfl
        · rfl
        · omega
      rcases e with rfl | rfl | rfl | rfl
      · exact s_worth167 e3 e4 (fun j _ => q_lt_m6 hlr j) (fun i hi => (f0 _ i rfl).trans (e6 i hi)) ((f0 _ _ rfl).trans e7) hlt hfu (fun I' hf' hv => fin I' _ rfl hv (x_fr_trans f0 (x_fr_mono hf' rfl)))
      · exact s_worth170 e3 e4 (fun j _ => q_lt_m6 hlr j) (fun i hi => (f0 _ i rfl).trans (e6 i hi)) ((f0 _ _ rfl).trans e7) hlt hfu (fun I' hf' hv => fin I' _ rfl hv (x_fr_trans f0 (x_fr_mono hf' rfl)))
      · exact s_worth173 e3 e4 (fun j _ => q_lt_m6 hlr j) (fun i hi => (f0 _ i rfl).trans (e6 i hi)) ((f0 _ _ rfl).trans e7) hlt hfu (fun I' hf' hv => fin I' _ rfl hv (x_fr_trans f0 (x_fr_mono hf' rfl)))
      · exact s_worth176 e3 e4 (fun j _ => q_lt_m6 hlr j) (fun i hi => (f0 _ i rfl).trans (e6 i hi)) ((f0 _ _ rfl).trans e7) hlt hfu (fun I' hf' hv => fin I' _ rfl hv (x_fr_trans f0 (x_fr_mono hf' rfl)))
  · rw [d2, hO.2.1 1 (by decide)]
    rcases hL with ⟨e, e2⟩ | ⟨_, _, _, e, -⟩
    · subst e2
      have hmul : 0 ≤ (d * I 18 3 + wb) * ru 1 ∧ (d * I 18 3 + wb) * ru 1 ≤ 1260 := by
        have a1 : (d * I 18 3 + wb) * ru 1 ≤ 140 * 9 := Int.mul_le_mul (by omega) r1.2 r1.1 (by decide)
        have a2 : 0 ≤ (d * I 18 3 + wb) * ru 1 := Int.mul_nonneg (by omega) r1.1
        omega
      refine ⟨⟨by omega, by omega⟩, ?_⟩
      have := hq I (x_fr_refl _ _)
      unfold q_ht q_v at this
      dsimp only at this
      rw [show max 0 (h - max 0 (min 99 ((d * I 18 3 + wb) * ru 1))) = max 0 (h - (d * I 18 3 + wb) * ru 1) by omega] at this
      exact this
    · omega
