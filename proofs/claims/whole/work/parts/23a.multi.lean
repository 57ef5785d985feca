/-! multianewarray: the world of a new table of rows -/
theorem am_wl_at {Γ : am_G} {w : am_W} {k : Nat} {q : Nat × va_E} (h : (am_wl Γ w)[k]? = some q) : k < w.2.2.2.2.1 - 1 ∧ q = (Γ.2.2.1 + (k + 1), am_cell Γ w (k + 1)) := by
  have hk : k < (am_wl Γ w).length := (List.getElem?_eq_some_iff.mp h).1
  rw [am_wl_len] at hk
  have := am_wl_get (Γ := Γ) (w := w) (a := k + 1) (by omega) (by omega)
  rw [show k + 1 - 1 = k by omega] at this
  rw [this] at h
  exact ⟨hk, (Option.some.inj h).symm⟩
theorem am_rep_mk {Γ : am_G} {w : am_W} {H : Heap} (hwf : am_wf Γ w) (hcell : ∀ a, 1 ≤ a → a < w.2.2.2.2.1 → va_at Γ.1 am_cls (Γ.2.2.1 + a, am_cell Γ w a) H) (hz : H.size = Γ.2.2.1 + w.2.2.2.2.1) : am_rep Γ w H := by
  refine ⟨hwf, fun k q hq => ?_, ⟨fun i j p q hp hq e => ?_, fun k q hq => ?_⟩, by omega, fun _ => hz⟩
  · obtain ⟨h1, rfl⟩ := am_wl_at hq
    exact hcell (k + 1) (by omega) (by omega)
  · obtain ⟨h1, rfl⟩ := am_wl_at hp
    obtain ⟨h2, rfl⟩ := am_wl_at hq
    dsimp only at e
    omega
  · obtain ⟨h1, rfl⟩ := am_wl_at hq
    show Γ.2.2.1 + 1 ≤ Γ.2.2.1 + (k + 1)
    omega
def am_w5 (w : am_W) : am_W := am_sR (am_rows (am_new w 106 4) 8 4) (fun b j => if b = w.2.2.2.2.1 then (if j < 4 then w.2.2.2.2.1 + 1 + j else 0) else (am_rows (am_new w 106 4) 8 4).2.2.2.1 b j)
theorem am_w5_1 (w : am_W) (a : Nat) : (am_w5 w).1 a = if a = w.2.2.2.2.1 + 4 then (100, 8) else if a = w.2.2.2.2.1 + 3 then (100, 8) else if a = w.2.2.2.2.1 + 2 then (100, 8) else if a = w.2.2.2.2.1 + 1 then (100, 8) else if a = w.2.2.2.2.1 then (106, 4) else w.1 a := rfl
theorem am_w5_I (w : am_W) (a k : Nat) : (am_w5 w).2.1 a k = if a = w.2.2.2.2.1 + 4 then 0 else if a = w.2.2.2.2.1 + 3 then 0 else if a = w.2.2.2.2.1 + 2 then 0 else if a = w.2.2.2.2.1 + 1 then 0 else if a = w.2.2.2.2.1 then 0 else w.2.1 a k := rfl
theorem am_w5_L (w : am_W) (a k : Nat) : (am_w5 w).2.2.1 a k = if a = w.2.2.2.2.1 + 4 then 0 else if a = w.2.2.2.2.1 + 3 then 0 else if a = w.2.2.2.2.1 + 2 then 0 else if a = w.2.2.2.2.1 + 1 then 0 else if a = w.2.2.2.2.1 then 0 else w.2.2.1 a k := rfl
theorem am_w5_R (w : am_W) (a k : Nat) : (am_w5 w).2.2.2.1 a k = if a = w.2.2.2.2.1 then (if k < 4 then w.2.2.2.2.1 + 1 + k else 0) else if a = w.2.2.2.2.1 + 4 then 0 else if a = w.2.2.2.2.1 + 3 then 0 else if a = w.2.2.2.2.1 + 2 then 0 else if a = w.2.2.2.2.1 + 1 then 0 else if a = w.2.2.2.2.1 then 0 else w.2.2.2.1 a k := rfl
theorem am_w5_n (w : am_W) : (am_w5 w).2.2.2.2.1 = w.2.2.2.2.1 + 5 := rfl
theorem am_w5_old {Γ : am_G} {w : am_W} {a : Nat} (h : a < w.2.2.2.2.1 ∨ w.2.2.2.2.1 + 5 ≤ a) : (am_w5 w).1 a = w.1 a ∧ (∀ k, (am_w5 w).2.1 a k = w.2.1 a k) ∧ (∀ k, (am_w5 w).2.2.1 a k = w.2.2.1 a k) ∧ (∀ k, (am_w5 w).2.2.2.1 a k = w.2.2.2.1 a k) := by
  refine ⟨?_, fun k => ?_, fun k => ?_, fun k => ?_⟩
  · rw [am_w5_1, if_neg (by omega), if_neg (by omega), if_neg (by omega), if_neg (by omega), if_neg (by omega)]
  · rw [am_w5_I, if_neg (by omega), if_neg (by omega), if_neg (by omega), if_neg (by omega), if_neg (by omega)]
  · rw [am_w5_L, if_neg (by omega), if_neg (by omega), if_neg (by omega), if_neg (by omega), if_neg (by omega)]
  · rw [am_w5_R, if_neg (by omega), if_neg (by omega), if_neg (by omega), if_neg (by omega), if_neg (by omega), if_neg (by omega)]
theorem am_cell_eq {Γ : am_G} {w w' : am_W} {a : Nat} (h1 : w'.1 a = w.1 a) (h2 : ∀ k, w'.2.1 a k = w.2.1 a k) (h3 : ∀ k, w'.2.2.1 a k = w.2.2.1 a k) (h4 : ∀ k, w'.2.2.2.1 a k = w.2.2.2.1 a k) : am_cell Γ w' a = am_cell Γ w a := by
  have e2 : w'.2.1 a = w.2.1 a := funext h2
  have e3 : w'.2.2.1 a = w.2.2.1 a := funext h3
  have e5 : ∀ kk k, am_fv w' kk a k = am_fv w kk a k := by
    intro kk k
    unfold am_fv
    rw [h2, h3, h4]
  unfold am_cell am_fs am_ar
  simp only [e5, h1, e2, e3, h4]
theorem am_w5_wf {Γ : am_G} {w : am_W} (hw : am_wf Γ w) (hN : w.2.2.2.2.1 + 4 < 204) : am_wf Γ (am_w5 w) := by
  obtain ⟨h1, h2, h3, h4⟩ := hw
  refine ⟨fun a ha => ?_, by rw [am_w5_n]; omega, fun a g1 g2 => ?_, fun a ha => ?_⟩
  · rw [am_w5_n] at ha
    rw [(am_w5_old (Γ := Γ) (by omega)).1]
    exact h1 a (by omega)
  · rw [am_w5_n] at g2
    by_cases c : a < w.2.2.2.2.1
    · obtain ⟨e1, e2, e3, e4⟩ := am_w5_old (Γ := Γ) (Or.inl c)
      rw [e1]
      rcases h3 a g1 c with g | ⟨g3, g4, g5⟩
      · exact Or.inl g
      · exact Or.inr ⟨g3, g4, fun g6 j => by rw [e4]; exact g5 g6 j⟩
    · by_cases c0 : a = w.2.2.2.2.1
      · have es : (am_w5 w).1 a = (106, 4) := by rw [am_w5_1, if_neg (by omega), if_neg (by omega), if_neg (by omega), if_neg (by omega), if_pos c0]
        rw [es]
        refine Or.inr ⟨by decide, by decide, fun _ j => ?_⟩
        rw [am_w5_R, if_pos c0]
        by_cases cj : j < 4
        · rw [if_pos cj]; omega
        · rw [if_neg cj]; decide
      · have es : (am_w5 w).1 a = (100, 8) := by
          rw [am_w5_1]
          by_cases c4 : a = w.2.2.2.2.1 + 4
          · rw [if_pos c4]
          · rw [if_neg c4]
            by_cases c3 : a = w.2.2.2.2.1 + 3
            · rw [if_pos c3]
            · rw [if_neg c3]
              by_cases c2 : a = w.2.2.2.2.1 + 2
              · rw [if_pos c2]
              · rw [if_neg c2, if_pos (by omega)]
        rw [es]
        exact Or.inr ⟨by decide, by decide, fun g => absurd g (by decide)⟩
  · obtain ⟨e1, e2, e3, e4⟩ := am_w5_old (Γ := Γ) (w := w) (a := a) (by omega)
    rw [e1]
    obtain ⟨g1, g2, g3⟩ := h4 a ha
    exact ⟨g1, fun j => by rw [e2]; exact g2 j, fun k => by rw [e4]; exact g3 k⟩
