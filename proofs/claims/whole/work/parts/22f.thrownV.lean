/-! thrown; printed by a program (wip/whole/vc.py) -/
theorem v_thrown {g : x_G} {k : Nat} {Q : x_Q} {I L : Nat → Nat → Int} {lp tp : Nat} (hP : Q [x_i (I 179 0)] (I, L, lp, tp)) : x_X g (k + 1) 186 [x_r 179] (I, L, lp, tp) Q := x_in m_186 [] 600 rfl rfl (⟨rfl, hP⟩)
