def InvP : Mem → Prop := fun _ => True
theorem law_step : LawStep InvP := sorry
theorem inv_0 : InvP σ0 := trivial
