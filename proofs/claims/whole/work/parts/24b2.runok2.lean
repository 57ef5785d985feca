/-! the run of the constructors is the machine's: calls, methods, the law's own first rows -/
theorem cr_cl0 {i : Instr} (h : (cr_cl i).1 = 0) : i = .return_ := by
  cases i
  case return_ => rfl
  all_goals cases h
theorem cr_cl1 {i : Instr} (h : (cr_cl i).1 = 1) : i = .ireturn := by
  cases i
  case ireturn => rfl
  all_goals cases h
theorem cr_cl2 {i : Instr} (h : (cr_cl i).1 = 2) : i = .ret (cr_cl i).2 := by
  cases i
  case ret t => rfl
  all_goals cases h
theorem cr_cl3 {i : Instr} (h : (cr_cl i).1 = 3) : i = .invokespecial (cr_cl i).2 := by
  cases i
  case invokespecial t => rfl
  all_goals cases h
theorem cr_cl4 {i : Instr} (h : (cr_cl i).1 = 4) : i = .invokevirtual (cr_cl i).2 := by
  cases i
  case invokevirtual t => rfl
  all_goals cases h
/-- what is known of the calls -/
def cr_rec (b : am_W) (Γ : am_G) (l : Launch) (dp : Nat) (rec : Nat → List Value → cr_S → Option (List Value × cr_S)) : Prop := ∀ (m : Nat) (ls : List Value) (S : cr_S) (v : List Value) (S' : cr_S), rec m ls S = some (v, S') → am_isM (m - 20) → cr_ok b S → cr_ok b S' ∧ ∀ d, dp ≤ d → am_Sm Γ l d m (fun r w => r = v ∧ w = cr_w b S'.1) 0 ls [] (cr_w b S.1)
theorem cr_sp_ok {b : am_W} {Γ : am_G} {l : Launch} {dp : Nat} {rec : Nat → List Value → cr_S → Option (List Value × cr_S)} (hrec : cr_rec b Γ l dp rec) {bd : Nat × Nat} {q : Nat} {st st' : List Value} {S S' : cr_S} (h : cr_sp rec bd q st S = some (st', S')) (hS : cr_ok b S) : cr_ok b S' ∧ ∀ d, dp ≤ d → ∀ (Q : am_Q) (K : am_K) (pc : Nat) (ls : List Value), K (pc + 1) ls st' (cr_w b S'.1) → am_stp (am_Cl Γ l d) bd Q K (.invokespecial q) pc ls st (cr_w b S.1) := by
  have e1 : (cr_w b S.1).2.2.2.2.1 = S.2.1 := by rw [hS.1]
  have e2 : (cr_w b S.1).2.2.2.2.2.1 = S.2.2.1 := by rw [hS.1]
  have e3 : (cr_w b S.1).2.2.2.2.2.2 = S.2.2.2 := by rw [hS.1]
  unfold cr_sp at h
  split at h
  · rename_i a as r htk
    cases hc : ((Nat.ble 1 a && Nat.blt a 5000) && (Nat.ble (am_cat r) 8 && (Nat.ble (S.2.2.1 + q / 2097152 % 1000) bd.1 && Nat.ble (S.2.2.2 + q / 2097152000) bd.2)) && cr_in (q / 2048 % 1024) (.ref a :: as)) with
    | false => rw [hc, cond_false] at h; cases h
    | true =>
      rw [hc, cond_true] at h
      rw [Bool.and_eq_true] at hc
      obtain ⟨hc, hin⟩ := hc
      rw [Bool.and_eq_true] at hc
      obtain ⟨hc1, hc2⟩ := hc
      rw [Bool.and_eq_true] at hc1
      obtain ⟨hM2, hok, hn⟩ := cr_in_ok hin
      split at h
      · rename_i v1 S1 hr1
        cases h
        obtain ⟨ok1, K1⟩ := hrec _ _ _ v1 S1 hr1 hM2 (show cr_ok b ((3, 0, 0, 0) :: S.1, S.2.1, 0, 0) from ⟨by show ((cr_w b S.1).2.2.2.2.1, 0, 0) = _; rw [e1], hS.2⟩)
        refine ⟨⟨by show ((cr_w b S1.1).2.2.2.2.1, _, _) = _; rw [ok1.1], ok1.2⟩, fun d hd Q K pc ls hK => ?_⟩
        refine cr_tk_ok _ _ _ htk ?_
        refine ⟨Nat.le_of_ble_eq_true hc1.1, Nat.le_of_ble_eq_true hc1.2, ?_⟩
        rw [e2, e3, hc2, cond_true]
        refine am_Cl_mono (am_enter hM2 hok hn ⟨rfl, rfl⟩ (K1 d hd)) ?_
        rintro r9 w9 ⟨rfl, rfl⟩
        exact hK
      · cases h
  · cases h
theorem cr_vi_ok {n0 : Nat} {b : am_W} (hb : cr_b n0 b) {Γ : am_G} {l : Launch} {dp : Nat} {rec : Nat → List Value → cr_S → Option (List Value × cr_S)} (hrec : cr_rec b Γ l dp rec) {q : Nat} {st st' : List Value} {S S' : cr_S} (h : cr_vi rec q st S = some (st', S')) (hS : cr_ok b S) : cr_ok b S' ∧ ∀ d, dp ≤ d → ∀ (bd : Nat × Nat) (Q : am_Q) (K : am_K) (pc : Nat) (ls : List Value), K (pc + 1) ls st' (cr_w b S'.1) → am_stp (am_Cl Γ l d) bd Q K (.invokevirtual q) pc ls st (cr_w b S.1) := by
  have e1 : (cr_w b S.1).2.2.2.2.1 = S.2.1 := by rw [hS.1]
  have e2 : (cr_w b S.1).2.2.2.2.2.1 = S.2.2.1 := by rw [hS.1]
  have e3 : (cr_w b S.1).2.2.2.2.2.2 = S.2.2.2 := by rw [hS.1]
  unfold cr_vi at h
  split at h
  · rename_i a as r htk
    cases hc : ((Nat.beq (cr_sh S.1 S.2.1 a).1 (q % 128) && !Nat.beq a 6000) && Nat.ble (am_cat r) 8 && cr_in (q / 2048) (.ref a :: as)) with
    | false => rw [hc, cond_false] at h; cases h
    | true =>
      rw [hc, cond_true] at h
      rw [Bool.and_eq_true] at hc
      obtain ⟨hc, hin⟩ := hc
      rw [Bool.and_eq_true] at hc
      obtain ⟨hc1, hc2⟩ := hc
      rw [Bool.and_eq_true] at hc1
      obtain ⟨hM2, hok, hn⟩ := cr_in_ok hin
      split at h
      · rename_i v1 S1 hr1
        cases h
        obtain ⟨ok1, K1⟩ := hrec _ _ _ v1 S1 hr1 hM2 (show cr_ok b ((3, 0, 0, 0) :: S.1, S.2.1, 0, 0) from ⟨by show ((cr_w b S.1).2.2.2.2.1, 0, 0) = _; rw [e1], hS.2⟩)
        refine ⟨⟨by show ((cr_w b S1.1).2.2.2.2.1, _, _) = _; rw [ok1.1], ok1.2⟩, fun d hd bd Q K pc ls hK => ?_⟩
        refine cr_tk_ok _ _ _ htk ?_
        refine ⟨?_, ?_⟩
        · rw [cr_w_sh hb S.1 S.2.1 a e1 (cr_beqf hc1.2)]
          exact am_beq hc1.1
        · rw [hc2, cond_true]
          refine am_Cl_mono (am_enter hM2 hok hn ⟨rfl, rfl⟩ (K1 d hd)) ?_
          rintro r9 w9 ⟨rfl, rfl⟩
          rw [e2, e3]
          exact hK
      · cases h
  · cases h
theorem cr_run_eq (n dp mid pc : Nat) (ls st : List Value) (S : cr_S) : cr_run (n + 1) dp mid pc ls st S = cr_body (fun dp' m ls S => cr_run n dp' m 0 ls [] S) (fun dp pc ls st S => cr_run n dp mid pc ls st S) (am_bd mid) (am_fe (am_cod mid) pc) dp pc ls st S := rfl
theorem cr_run_ok {n0 : Nat} {b : am_W} (hb : cr_b n0 b) {Γ : am_G} {l : Launch} : ∀ (n dp mid pc : Nat) (ls st : List Value) (S : cr_S) (v : List Value) (S' : cr_S), cr_run n dp mid pc ls st S = some (v, S') → am_isM (mid - 20) → cr_ok b S → cr_ok b S' ∧ ∀ d, dp ≤ d → am_Sm Γ l d mid (fun r w => r = v ∧ w = cr_w b S'.1) pc ls st (cr_w b S.1) := by
  intro n
  induction n with
  | zero => intro dp mid pc ls st S v S' h; cases h
  | succ n ih =>
    intro dp mid pc ls st S v S' h hM hS
    have hrec : ∀ dp', cr_rec b Γ l dp' (fun m ls S => cr_run n dp' m 0 ls [] S) := fun dp' m ls S v S' h hm ho => ih dp' m 0 ls [] S v S' h hm ho
    rw [cr_run_eq] at h
    have go : ∀ {d : Nat} {i : Instr} {Q : am_Q} {w : am_W}, am_fe (am_cod mid) pc = i → am_stp (am_Clp Γ l d) (am_bd mid) Q (am_Sm Γ l d mid Q) i pc ls st w → am_Sm Γ l d mid Q pc ls st w := fun e h => cr_go hM (by rw [e]; exact h)
    generalize hi0 : am_fe (am_cod mid) pc = i at h
    unfold cr_body at h
    split at h
    · rename_i hi
      have hi := cr_cl0 hi
      split at h
      · cases h
        refine ⟨hS, fun d _ => go (hi0.trans hi) ?_⟩
        exact ⟨rfl, rfl⟩
      · cases h
    · rename_i hi
      have hi := cr_cl1 hi
      split at h
      · cases h
        refine ⟨hS, fun d _ => go (hi0.trans hi) ?_⟩
        exact ⟨rfl, rfl⟩
      · cases h
    · rename_i hi
      have hi := cr_cl2 hi
      split at h
      · obtain ⟨hc, h⟩ := cr_bif h
        cases h
        rw [Bool.and_eq_true, decide_eq_true_eq] at hc
        refine ⟨hS, fun d _ => go (hi0.trans hi) ?_⟩
        rw [am_beq hc.1]
        exact ⟨hc.2, rfl, rfl⟩
      · cases h
    · rename_i hi
      have hi := cr_cl3 hi
      split at h
      · cases h
      · rename_i dp'
        split at h
        · rename_i st1 S1 hr1
          obtain ⟨ok1, K1⟩ := cr_sp_ok (hrec dp') hr1 hS
          obtain ⟨ok2, K2⟩ := ih (dp' + 1) mid (pc + 1) ls st1 S1 v S' h hM ok1
          refine ⟨ok2, fun d hd => go (hi0.trans hi) ?_⟩
          obtain ⟨d', rfl⟩ : ∃ d', d = d' + 1 := ⟨d - 1, by omega⟩
          exact K1 d' (by omega) _ _ pc ls (K2 (d' + 1) hd)
        · cases h
    · rename_i hi
      have hi := cr_cl4 hi
      split at h
      · cases h
      · rename_i dp'
        split at h
        · rename_i st1 S1 hr1
          obtain ⟨ok1, K1⟩ := cr_vi_ok hb (hrec dp') hr1 hS
          obtain ⟨ok2, K2⟩ := ih (dp' + 1) mid (pc + 1) ls st1 S1 v S' h hM ok1
          refine ⟨ok2, fun d hd => go (hi0.trans hi) ?_⟩
          obtain ⟨d', rfl⟩ : ∃ d', d = d' + 1 := ⟨d - 1, by omega⟩
          exact K1 d' (by omega) _ _ _ pc ls (K2 (d' + 1) hd)
        · cases h
    · split at h
      · rename_i pc' ls' st' S1 hr1
        have g := fun (d : Nat) => cr_st_ok (Cl := am_Clp Γ l d) (Q := fun r w => r = v ∧ w = cr_w b S'.1) (K := am_Sm Γ l d mid (fun r w => r = v ∧ w = cr_w b S'.1)) hb hr1 hS
        obtain ⟨ok2, K2⟩ := ih dp mid pc' ls' st' S1 v S' h hM (g 0).1
        exact ⟨ok2, fun d hd => go hi0 ((g d).2 (K2 d hd))⟩
      · cases h
theorem cr_law_ok {n0 : Nat} {b : am_W} (hb : cr_b n0 b) {E : am_E} {Γ : am_G} {l : Launch} {Q : am_Q} : ∀ (n pc : Nat) (ls st : List Value) (S : cr_S) (ls' st' : List Value) (S' : cr_S), cr_law n pc ls st S = some (ls', st', S') → cr_ok b S → cr_ok b S' ∧ ∀ d, 6 ≤ d → am_SmE E Γ l d 286 Q 13 ls' st' (cr_w b S'.1) → am_SmE E Γ l d 286 Q pc ls st (cr_w b S.1) := by
  intro n
  induction n with
  | zero => intro pc ls st S ls' st' S' h; cases h
  | succ n ih =>
    intro pc ls st S ls' st' S' h hS
    have hrec : cr_rec b Γ l 5 (fun m ls S => cr_run 900 5 m 0 ls [] S) := fun m ls S v S' h hm ho => cr_run_ok hb 900 5 m 0 ls [] S v S' h hm ho
    rw [cr_law] at h
    cases h13 : Nat.beq pc 13 with
    | true =>
      rw [h13, cond_true] at h
      cases h
      exact ⟨hS, fun d _ k => by rw [am_beq h13]; exact k⟩
    | false =>
      rw [h13, cond_false] at h
      cases hlt : !Nat.blt pc 13 with
      | true => rw [hlt, cond_true] at h; cases h
      | false =>
        rw [hlt, cond_false] at h
        have hlt : pc < 13 := by
          have : Nat.blt pc 13 = true := by
            cases g : Nat.blt pc 13 with
            | true => rfl
            | false => rw [g] at hlt; cases hlt
          exact Nat.le_of_ble_eq_true this
        have go : ∀ {d : Nat} {ls st : List Value} {w : am_W}, am_stp (am_Clp Γ l d) (am_bd 286) Q (am_SmE E Γ l d 286 Q) (am_fe (am_cod 286) pc) pc ls st w → am_SmE E Γ l d 286 Q pc ls st w := fun h => am_stepE (am_lck (by rw [am_llen]; omega)) (am_ln0 (by omega)) h
        split at h
        · rename_i hi
          have hi := cr_cl3 hi
          split at h
          · rename_i st1 S1 hr1
            obtain ⟨ok1, K1⟩ := cr_sp_ok hrec hr1 hS
            obtain ⟨ok2, K2⟩ := ih (pc + 1) ls st1 S1 ls' st' S' h ok1
            refine ⟨ok2, fun d hd kE => go ?_⟩
            obtain ⟨d', rfl⟩ : ∃ d', d = d' + 1 := ⟨d - 1, by omega⟩
            rw [hi]
            exact K1 d' (by omega) _ _ pc ls (K2 (d' + 1) hd kE)
          · cases h
        · split at h
          · rename_i pc' ls1 st1 S1 hr1
            have g := fun (d : Nat) => cr_st_ok (Cl := am_Clp Γ l d) (Q := Q) (K := am_SmE E Γ l d 286 Q) hb hr1 hS
            obtain ⟨ok2, K2⟩ := ih pc' ls1 st1 S1 ls' st' S' h (g 0).1
            exact ⟨ok2, fun d hd kE => go ((g d).2 (K2 d hd kE))⟩
          · cases h
