/-! PURE: ones counted. -/
theorem bitc_s : ∀ m : Nat, m < 1024 → J6_bitCount_0f7a4 (nI m) = nI (pc 10 m) := by decide +kernel
