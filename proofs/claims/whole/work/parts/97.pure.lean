/-! PURE: every operation keeps what both sides hold in common. -/
def InvP : Mem → Prop := fun σ => InvF FOK σ
theorem law_step : LawStep InvP := fun σ h => ⟨op_rowI FOK_loc σ h, op_setI FOK_loc σ h, op_copyI FOK_loc σ h, op_dropI FOK_loc σ h, op_feedI FOK_loc σ h, op_book σ h, op_fault σ h, op_undo σ h, op_put σ h, op_take σ h, op_move σ h, op_measure σ h, op_become σ h, op_law σ h, op_page σ h, op_apart σ h, op_spread σ h, op_whole σ h, op_hand σ h, op_run σ h, op_sign σ h, op_say σ h, op_without σ h, op_least σ h, op_pairs σ h, op_who σ h, op_lost σ h, op_drawn σ h, op_image FOK_loc σ h, op_restore σ h, op_kind σ h, op_as FOK_loc σ h, op_ask σ h, op_trace σ h, op_count σ h, op_status σ h⟩
theorem at_0 (k : Nat) (h : k ≠ 12) (h2 : k ≠ 252) : AtB σ0 k (fun _ => 0) := ⟨by rw [σ0_z h h2]; rfl, by rw [σ0_z h h2]; rfl, by rw [σ0_z h h2]; rfl, fun p hp => absurd hp (Nat.not_lt_zero p)⟩
theorem ok_0 : okB (fun _ => 0) := ⟨by show 0 ≤ 10; omega, by show 0 ≤ 60; omega, by show 0 ≤ 20; omega, fun p hp => absurd hp (Nat.not_lt_zero p)⟩
theorem inv_0 : InvP σ0 := by
  refine ⟨fun _ => 0, 0, fun _ _ => 0, fun _ _ => 0, ?_, ?_, ?_, ?_, ?_, ok_0, at_0 22 (by omega) (by omega), ?_, ⟨by omega, fun i hi => absurd hi (Nat.not_lt_zero i)⟩, ⟨0, by omega, ?_, ?_, fun i hi => absurd hi (Nat.not_lt_zero i)⟩, ⟨?_, fun i hi => absurd hi (Nat.not_lt_zero i)⟩, ?_, Or.inl ?_⟩
  · exact fun r hr => Or.inl ⟨rfl, rfl⟩
  · exact ⟨0, by omega, by rw [σ0_z (by omega) (by omega)]; rfl, by rw [σ0_z (by omega) (by omega)]; rfl, fun i hi => absurd hi (Nat.not_lt_zero i)⟩
  · rw [σ0_z (by omega) (by omega), σ0_z (by omega) (by omega)]
  · rw [σ0_z (by omega) (by omega), σ0_z (by omega) (by omega)]
  · exact ⟨0, by omega, by rw [σ0_z (by omega) (by omega)]; rfl, by rw [σ0_z (by omega) (by omega)]; rfl, fun i hi => absurd hi (Nat.not_lt_zero i)⟩
  · intro i hi
    rw [σ0_z (by omega) (by omega)]
    rfl
  · rw [σ0_z (by omega) (by omega)]
    rfl
  · rw [σ0_z (by omega) (by omega)]
    rfl
  · rw [σ0_z (by omega) (by omega)]
    rfl
  · intro k hk
    refine ⟨ok_0, at_0 _ (by omega) (by omega), Or.inl ⟨rfl, ?_⟩⟩
    rw [σ0_z (by omega) (by omega)]
  · rw [σ0_z (by omega) (by omega)]
