def RelX : Rho → Nat → Nat → Nat → Prop := fun _ _ _ _ => True
theorem the_start : Sim_start RelX := sorry
theorem the_sims : SimAll RelX := sorry
