/-! PURE: long numbers. -/
theorem lT {a : Nat} (h : a < 2 ^ 63) : (lN a).toInt = a := by
  have e : lN a = Int64.ofNat a := rfl
  rw [e, Int64.toInt_ofNat_of_lt h]
theorem lM (a b : Nat) : lN a * lN b = lN (a * b) := (Int64.ofNat_mul a b).symm
theorem lA (a b : Nat) : lN a + lN b = lN (a + b) := (Int64.ofNat_add a b).symm
theorem lS {a b : Nat} (h : b ≤ a) : lN a - lN b = lN (a - b) := (Int64.ofNat_sub a b h).symm
theorem lD {a b : Nat} (ha : a < 2 ^ 63) (hb : b < 2 ^ 63) : lN a / lN b = lN (a / b) := by
  have h2 : a / b < 2 ^ 63 := Nat.lt_of_le_of_lt (Nat.div_le_self a b) ha
  rw [← Int64.toInt_inj, Int64.toInt_div, lT ha, lT hb, lT h2]
  have e : ((a : Int).tdiv (b : Int)) = ((a / b : Nat) : Int) := by
    rw [Int.tdiv_eq_ediv_of_nonneg (by omega)]
    rfl
  rw [e]
  generalize a / b = c at h2
  rw [Int.bmod_eq_of_le] <;> omega
theorem lR {a b : Nat} (ha : a < 2 ^ 63) (hb : b < 2 ^ 63) : lrm (lN a) (lN b) = lN (a % b) := by
  show lN a - lN a / lN b * lN b = _
  rw [lD ha hb, lM, lS (Nat.div_mul_le_self a b)]
  congr 1
  have := Nat.div_add_mod' a b
  omega
theorem lI (a : Nat) : Int64.toInt32 (lN a) = nI a := Int64.toInt32_ofNat
theorem lL (a : Nat) (h : a < 2 ^ 31) : Int32.toInt64 (nI a) = lN a := nI_l h
theorem l_inj {a b : Nat} (ha : a < 2 ^ 63) (hb : b < 2 ^ 63) : lN a = lN b ↔ a = b := by
  rw [← Int64.toInt_inj, lT ha, lT hb]
  omega
theorem l_lt {a b : Nat} (ha : a < 2 ^ 63) (hb : b < 2 ^ 63) : lN a < lN b ↔ a < b := by
  rw [Int64.lt_iff_toInt_lt, lT ha, lT hb]
  omega
theorem gdl_n {α : Type} {n : Nat} (h0 : 0 < n) (h : n < 2 ^ 63) (x : Option α) : gdl (lN n) x = x := by
  unfold gdl
  rw [if_neg]
  intro q
  have : n = 0 := (l_inj (b := 0) h (by omega)).mp q
  omega
