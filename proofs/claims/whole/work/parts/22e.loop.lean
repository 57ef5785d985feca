/-! the law's loop -/
theorem whole_loop {g : x_G} {k : Nat} {Q : x_Q} (hQ : ∀ w, Q [x_i 1] w) (hn : g.2.2 ≤ 3072) (CB SB : Nat)
    (HR : ∀ (i : Int) (c s : Nat) (w : x_W), q_LI g w → 0 ≤ i → i + 6 ≤ (g.2.2 : Int) → c + 1 ≤ CB → s + 8 ≤ SB → (∀ w2, q_LI g w2 → x_SL g (k + 140 + 1) Q (c + 1) (s + 8) 13 [x_r 6000, x_r 1, x_r 179, x_r 203, x_i (i + 6), x_n, x_n] [] w2) → x_SL g (k + 140 + 1) Q c s 162 [x_r 6000, x_r 1, x_r 179, x_r 203, x_i i, x_n, x_n] [x_r 203, x_i (w.1 6000 (i + 2).toNat), x_i (w.1 6000 (i + 1).toNat), x_r 1] w) :
    ∀ (m : Nat) (i : Int) (c s : Nat) (w : x_W), q_LI g w → 0 ≤ i → i ≤ (g.2.2 : Int) → (g.2.2 : Int) < i + 6 * (m : Int) + 6 → c + m ≤ CB → s + 8 * m ≤ SB → x_SL g (k + 140 + 1) Q c s 13 [x_r 6000, x_r 1, x_r 179, x_r 203, x_i i, x_n, x_n] [] w := by
  intro m
  induction m with
  | zero =>
    intro i c s w hL h0 h1 h2 hc hs
    obtain ⟨I, L, lp, tp⟩ := w
    have en : ((x_sh g.2.2 6000).2 : Int) = (g.2.2 : Int) := rfl
    refine v_whole_L13 (k := k + 140) ⟨⟨by omega, by omega⟩, by rw [en]; exact ⟨by omega, by omega⟩, fun _ => hQ _, fun c => by rw [en] at c; omega⟩
  | succ m ih =>
    intro i c s w hL h0 h1 h2 hc hs
    obtain ⟨I, L, lp, tp⟩ := w
    obtain ⟨hJ, hI⟩ := hL
    have hI : ∀ j, I 6000 j = q_scp g j := hI
    have en : ((x_sh g.2.2 6000).2 : Int) = (g.2.2 : Int) := rfl
    have rg : ∀ j, x_rg (I 6000 j) := fun j => by rw [hI j]; exact x_i32rg _
    refine v_whole_L13 (k := k + 140) ⟨⟨by omega, by omega⟩, by rw [en]; exact ⟨by omega, by omega⟩, fun _ => hQ _, fun cc => ?_⟩
    rw [en] at cc
    have nx : ∀ w2, q_LI g w2 → x_SL g (k + 140 + 1) Q c s 13 [x_r 6000, x_r 1, x_r 179, x_r 203, x_i (i + 6), x_n, x_n] [] w2 := fun w2 h => ih (i + 6) c s w2 h (by omega) (by omega) (by omega) (by omega) (by omega)
    have go : ∀ {mc mm : Nat} {as : List x_V}, q_call g (k + 140) mc mm as (I, L, lp, tp) → x_X g (k + 140) mc (x_r 1 :: as) (I, L, lp, tp) (fun rv w1 => ∃ z, rv = [x_i z] ∧ (∀ j, w1.1 6000 j = I 6000 j) ∧ x_X g (k + 140) mm (x_r 179 :: as) w1 (fun rv w2 => ∃ z', rv = [x_i z'] ∧ x_rg z ∧ x_rg z' ∧ (z = z' → x_SL g (k + 140 + 1) Q c s 13 [x_r 6000, x_r 1, x_r 179, x_r 203, x_i (i + 6), x_n, x_n] [] w2) ∧ (¬ z = z' → Q [x_i 0] w2))) := fun h => x_mono (q_callX h) (Nat.le_refl _) (fun rv w1 ⟨z, e, hs, h⟩ => ⟨z, e, fun j => (hs j).trans (hI j).symm, x_mono h (Nat.le_refl _) (fun rv w2 ⟨z', e', r1, r2, e3, h3⟩ => ⟨z', e', r1, r2, fun _ => nx w2 h3, fun hne => absurd e3 hne⟩)⟩)
    have bd : ∀ d : Int, 0 ≤ d → d ≤ 5 → 0 ≤ i + d ∧ i + d < ((x_sh g.2.2 6000).2 : Int) := fun d d0 d5 => by rw [en]; exact ⟨by omega, by omega⟩
    have b1 := bd 1 (by decide) (by decide)
    have b2 := bd 2 (by decide) (by decide)
    have b3 := bd 3 (by decide) (by decide)
    have b4 := bd 4 (by decide) (by decide)
    have b5 := bd 5 (by decide) (by decide)
    have rga : x_rg (x_and (I 6000 i.toNat) 63) := by
      rw [q_and63]
      exact ⟨by omega, by omega⟩
    refine ⟨by rw [en]; exact ⟨h0, by omega⟩, rga, ?_, ?_, ?_, ?_, ?_, ?_, ?_, ?_, ?_, ?_, ?_, ?_, ?_, ?_, ?_, ?_, ?_, ?_, ?_, ?_, ?_, ?_, ?_, ?_, ?_, ?_, ?_, ?_, ?_, ?_, ?_, ?_, ?_, ?_, ?_, ?_, ?_, ?_, ?_, ?_, ?_, ?_, ?_⟩
    · exact fun _ => ⟨b1, b2, b3, b4, b5, x_mono (go (j_feed hJ (rg _) (rg _) (rg _) (rg _) (rg _))) (Nat.le_refl _) (fun rv w1 ⟨z, ez, e, h⟩ => ⟨z, ez, by simp only [e]; exact h⟩)⟩
    · exact fun _ => ⟨b1, x_mono (go (j_end hJ (rg _))) (Nat.le_refl _) (fun rv w1 ⟨z, ez, e, h⟩ => ⟨z, ez, by simp only [e]; exact h⟩)⟩
    · exact fun _ => ⟨b1, x_mono (go (j_fault hJ (rg _))) (Nat.le_refl _) (fun rv w1 ⟨z, ez, e, h⟩ => ⟨z, ez, by simp only [e]; exact h⟩)⟩
    · exact fun _ => ⟨b1, x_mono (go (j_text hJ (rg _))) (Nat.le_refl _) (fun rv w1 ⟨z, ez, e, h⟩ => ⟨z, ez, by simp only [e]; exact h⟩)⟩
    · exact fun _ => ⟨b1, x_mono (go (j_rule hJ (rg _))) (Nat.le_refl _) (fun rv w1 ⟨z, ez, e, h⟩ => ⟨z, ez, by simp only [e]; exact h⟩)⟩
    · exact fun _ => ⟨b1, b2, HR i c s (I, L, lp, tp) ⟨hJ, hI⟩ h0 (by omega) (by omega) (by omega) (fun w2 h => ih (i + 6) (c + 1) (s + 8) w2 h (by omega) (by omega) (by omega) (by omega) (by omega))⟩
    · exact fun _ => ⟨b1, x_mono (go (j_law hJ (rg _))) (Nat.le_refl _) (fun rv w1 ⟨z, ez, e, h⟩ => ⟨z, ez, by simp only [e]; exact h⟩)⟩
    · exact fun _ => ⟨b1, x_mono (go (j_hold hJ (rg _))) (Nat.le_refl _) (fun rv w1 ⟨z, ez, e, h⟩ => ⟨z, ez, by simp only [e]; exact h⟩)⟩
    · exact fun _ => ⟨b1, b2, x_mono (go (j_round hJ (rg _) (rg _))) (Nat.le_refl _) (fun rv w1 ⟨z, ez, e, h⟩ => ⟨z, ez, by simp only [e]; exact h⟩)⟩
    · exact fun _ => ⟨b1, x_mono (go (j_wobble hJ (rg _))) (Nat.le_refl _) (fun rv w1 ⟨z, ez, e, h⟩ => ⟨z, ez, by simp only [e]; exact h⟩)⟩
    · exact fun _ => ⟨b1, b2, x_mono (go (j_steps hJ (rg _) (rg _))) (Nat.le_refl _) (fun rv w1 ⟨z, ez, e, h⟩ => ⟨z, ez, by simp only [e]; exact h⟩)⟩
    · exact fun _ => x_mono (go (j_day hJ)) (Nat.le_refl _) (fun rv w1 ⟨z, ez, e, h⟩ => ⟨z, ez, h⟩)
    · exact fun _ => ⟨b1, x_mono (go (j_shut hJ (rg _))) (Nat.le_refl _) (fun rv w1 ⟨z, ez, e, h⟩ => ⟨z, ez, by simp only [e]; exact h⟩)⟩
    · exact fun _ => ⟨b1, rg _, fun cz => x_mono (go (j_wheels hJ (o := 0) (Or.inl rfl))) (Nat.le_refl _) (fun rv w1 ⟨z, ez, e, h⟩ => ⟨z, ez, by simp only [e]; exact ⟨rg _, fun _ => h, fun hne => absurd cz hne⟩⟩), fun cz => x_mono (go (j_wheels hJ (o := 1) (Or.inr rfl))) (Nat.le_refl _) (fun rv w1 ⟨z, ez, e, h⟩ => ⟨z, ez, by simp only [e]; exact ⟨rg _, fun he => absurd he cz, fun _ => h⟩⟩)⟩
    · exact fun _ => ⟨b1, b2, b3, x_mono (go (j_move hJ (rg _) (rg _) (rg _))) (Nat.le_refl _) (fun rv w1 ⟨z, ez, e, h⟩ => ⟨z, ez, by simp only [e]; exact h⟩)⟩
    · exact fun _ => ⟨b1, b2, x_mono (go (j_fill hJ (rg _) (rg _))) (Nat.le_refl _) (fun rv w1 ⟨z, ez, e, h⟩ => ⟨z, ez, by simp only [e]; exact h⟩)⟩
    · exact fun _ => ⟨b1, b2, rg _, b3, rg _, x_mono (go (j_decades hJ (rg _))) (Nat.le_refl _) (fun rv w1 ⟨z, ez, e, h⟩ => ⟨z, ez, by simp only [e]; exact ⟨rg _, rg _, h⟩⟩)⟩
    · exact fun _ => x_mono (go (j_undo hJ)) (Nat.le_refl _) (fun rv w1 ⟨z, ez, e, h⟩ => ⟨z, ez, h⟩)
    · exact fun _ => ⟨b1, b2, x_mono (go (j_log hJ (rg _) (rg _))) (Nat.le_refl _) (fun rv w1 ⟨z, ez, e, h⟩ => ⟨z, ez, by simp only [e]; exact h⟩)⟩
    · exact fun _ => ⟨b1, b2, x_mono (go (j_comes hJ (rg _) (rg _))) (Nat.le_refl _) (fun rv w1 ⟨z, ez, e, h⟩ => ⟨z, ez, by simp only [e]; exact h⟩)⟩
    · exact fun _ => ⟨b1, x_mono (go (j_best hJ (rg _))) (Nat.le_refl _) (fun rv w1 ⟨z, ez, e, h⟩ => ⟨z, ez, by simp only [e]; exact h⟩)⟩
    · exact fun _ => ⟨b1, b2, x_mono (go (j_shortest hJ (rg _) (rg _))) (Nat.le_refl _) (fun rv w1 ⟨z, ez, e, h⟩ => ⟨z, ez, by simp only [e]; exact h⟩)⟩
    · exact fun _ => ⟨b1, x_mono (go (j_seat hJ (rg _))) (Nat.le_refl _) (fun rv w1 ⟨z, ez, e, h⟩ => ⟨z, ez, by simp only [e]; exact h⟩)⟩
    · exact fun _ => ⟨b1, b2, b3, rg _, fun cz => x_mono (go (j_seen hJ (rg _) (rg _) (h := 0) (Or.inl rfl))) (Nat.le_refl _) (fun rv w1 ⟨z, ez, e, h⟩ => ⟨z, ez, by simp only [e]; exact ⟨rg _, fun _ => h, fun hne => absurd cz hne⟩⟩), fun cz => x_mono (go (j_seen hJ (rg _) (rg _) (h := 1) (Or.inr rfl))) (Nat.le_refl _) (fun rv w1 ⟨z, ez, e, h⟩ => ⟨z, ez, by simp only [e]; exact ⟨rg _, fun he => absurd he cz, fun _ => h⟩⟩)⟩
    · exact fun _ => ⟨b1, x_mono (go (j_fits hJ (rg _))) (Nat.le_refl _) (fun rv w1 ⟨z, ez, e, h⟩ => ⟨z, ez, by simp only [e]; exact h⟩)⟩
    · exact fun _ => x_mono (go (j_second hJ)) (Nat.le_refl _) (fun rv w1 ⟨z, ez, e, h⟩ => ⟨z, ez, h⟩)
    · exact fun _ => ⟨b1, x_mono (go (j_ask hJ (rg _))) (Nat.le_refl _) (fun rv w1 ⟨z, ez, e, h⟩ => ⟨z, ez, by simp only [e]; exact h⟩)⟩
    · exact fun _ => ⟨b1, b2, x_mono (go (j_crumbs hJ (rg _) (rg _))) (Nat.le_refl _) (fun rv w1 ⟨z, ez, e, h⟩ => ⟨z, ez, by simp only [e]; exact h⟩)⟩
    · exact fun _ => ⟨b1, b2, x_mono (go (j_shares hJ (rg _) (rg _))) (Nat.le_refl _) (fun rv w1 ⟨z, ez, e, h⟩ => ⟨z, ez, by simp only [e]; exact h⟩)⟩
    · exact fun _ => ⟨b1, b2, b3, b4, b5, x_mono (go (j_game hJ (rg _) (rg _) (rg _) (rg _) (rg _))) (Nat.le_refl _) (fun rv w1 ⟨z, ez, e, h⟩ => ⟨z, ez, by simp only [e]; exact h⟩)⟩
    · exact fun _ => ⟨b1, b2, b3, x_mono (go (j_rests hJ (rg _) (rg _) (rg _))) (Nat.le_refl _) (fun rv w1 ⟨z, ez, e, h⟩ => ⟨z, ez, by simp only [e]; exact h⟩)⟩
    · exact fun _ => ⟨b1, b2, x_mono (go (j_meet hJ (rg _) (rg _))) (Nat.le_refl _) (fun rv w1 ⟨z, ez, e, h⟩ => ⟨z, ez, by simp only [e]; exact h⟩)⟩
    · exact fun _ => ⟨b1, x_mono (go (j_thaw hJ (rg _))) (Nat.le_refl _) (fun rv w1 ⟨z, ez, e, h⟩ => ⟨z, ez, by simp only [e]; exact h⟩)⟩
    · exact fun _ => ⟨b1, b2, x_mono (go (j_odds hJ (rg _) (rg _))) (Nat.le_refl _) (fun rv w1 ⟨z, ez, e, h⟩ => ⟨z, ez, by simp only [e]; exact h⟩)⟩
    · exact fun _ => ⟨b1, x_mono (go (j_season hJ (rg _))) (Nat.le_refl _) (fun rv w1 ⟨z, ez, e, h⟩ => ⟨z, ez, by simp only [e]; exact h⟩)⟩
    · exact fun _ => ⟨b1, x_mono (go (j_all hJ (rg _))) (Nat.le_refl _) (fun rv w1 ⟨z, ez, e, h⟩ => ⟨z, ez, by simp only [e]; exact h⟩)⟩
    · exact fun _ => ⟨b1, x_mono (go (j_floor hJ (rg _))) (Nat.le_refl _) (fun rv w1 ⟨z, ez, e, h⟩ => ⟨z, ez, by simp only [e]; exact h⟩)⟩
    · exact fun _ => ⟨b1, x_mono (go (j_nearest hJ (rg _))) (Nat.le_refl _) (fun rv w1 ⟨z, ez, e, h⟩ => ⟨z, ez, by simp only [e]; exact h⟩)⟩
    · exact fun _ => ⟨b1, x_mono (go (j_happy hJ (rg _))) (Nat.le_refl _) (fun rv w1 ⟨z, ez, e, h⟩ => ⟨z, ez, by simp only [e]; exact h⟩)⟩
    · exact fun _ => x_mono (go (j_image hJ)) (Nat.le_refl _) (fun rv w1 ⟨z, ez, e, h⟩ => ⟨z, ez, h⟩)
    · exact fun _ => x_mono (go (j_back hJ)) (Nat.le_refl _) (fun rv w1 ⟨z, ez, e, h⟩ => ⟨z, ez, h⟩)
    · exact fun _ => ⟨b1, x_mono (go (j_count hJ (rg _))) (Nat.le_refl _) (fun rv w1 ⟨z, ez, e, h⟩ => ⟨z, ez, by simp only [e]; exact h⟩)⟩
    · exact fun _ => nx _ ⟨hJ, hI⟩
