/-! PURE: numbers, guards, memory. -/
theorem nI_mul (a b : Nat) : nI a * nI b = nI (a * b) := (Int32.ofNat_mul a b).symm
theorem nI_sub {a b : Nat} (h : b ≤ a) : nI a - nI b = nI (a - b) := (Int32.ofNat_sub a b h).symm
theorem nI_le_iff {a b : Nat} (ha : a < 2 ^ 31) (hb : b < 2 ^ 31) : nI a ≤ nI b ↔ a ≤ b := by
  rw [Int32.le_iff_toInt_le, nI_toInt ha, nI_toInt hb]
  omega
theorem nI_lt_iff {a b : Nat} (ha : a < 2 ^ 31) (hb : b < 2 ^ 31) : nI a < nI b ↔ a < b := by
  rw [Int32.lt_iff_toInt_lt, nI_toInt ha, nI_toInt hb]
  omega
theorem nI_inj {a b : Nat} (ha : a < 2 ^ 31) (hb : b < 2 ^ 31) : nI a = nI b ↔ a = b := by
  rw [← Int32.toInt_inj, nI_toInt ha, nI_toInt hb]
  omega
theorem nI_nn {a : Nat} (ha : a < 2 ^ 31) : ¬ nI a < 0 := nI_pos ha
theorem nI_ge0 {a : Nat} (ha : a < 2 ^ 31) : 0 ≤ nI a := nI_pos' ha
/-- a number that isn't less than none is one of ours -/
theorem i32_nat {v : Int32} (h : ¬ v < 0) : ∃ n : Nat, n < 2 ^ 31 ∧ v = nI n := by
  have h1 : (0 : Int) ≤ v.toInt := by
    have := Int32.not_lt.mp h
    simpa using Int32.le_iff_toInt_le.mp this
  have h2 : v.toInt < 2 ^ 31 := Int32.toInt_lt v
  refine ⟨v.toInt.toNat, by omega, ?_⟩
  rw [← Int32.toInt_inj, nI_toInt (by omega)]
  omega
theorem i32_nat' {v : Int32} (h : 0 ≤ v) : ∃ n : Nat, n < 2 ^ 31 ∧ v = nI n := i32_nat (Int32.not_lt.mpr h)
theorem i32_upto {v : Int32} {N : Nat} (h : ¬ v < 0) (h2 : ¬ nI N < v) (hN : N < 2 ^ 31) : ∃ n : Nat, n ≤ N ∧ v = nI n := by
  obtain ⟨n, h3, rfl⟩ := i32_nat h
  exact ⟨n, by rw [nI_lt_iff hN h3] at h2; omega, rfl⟩
theorem gdx_n {α : Type} {n N : Nat} (h : n < N) (hn : n < 2 ^ 31) (x : Option α) : gdx (nI n) N x = x := by
  unfold gdx
  rw [if_neg]
  rintro (q | q)
  · exact nI_nn hn q
  · rw [nI_clamp hn] at q
    omega
theorem nc_n {n : Nat} (h : n < 2 ^ 31) : nc (nI n) = n := nI_clamp h
theorem ob_some {α β : Type} (a : α) (f : α → Option β) : ob (some a) f = f a := rfl
theorem ob2_some {α β : Type} (a : α) (σ : Mem) (f : α → Mem → Option β) : ob2 (some (a, σ)) f = f a σ := rfl
theorem letv_eq {α β : Type} (x : α) (f : α → β) : letv x f = f x := rfl
theorem gdb_0 {α : Type} (x : Option α) : gdb 0 x = x := rfl
theorem gdb_1 {α : Type} (x : Option α) : gdb 1 x = x := rfl
theorem gdc_n {α : Type} {a b n n0 n1 : Nat} (h1 : a + n ≤ n0) (h2 : b + n ≤ n1) (h3 : n0 < 2 ^ 31) (h4 : n1 < 2 ^ 31) (x : Option α) : gdc (nI a) (nI b) (nI n) n0 n1 x = x := by
  unfold gdc
  rw [if_pos]
  rw [nI_clamp (by omega), nI_clamp (by omega), nI_clamp (by omega)]
  exact ⟨nI_nn (by omega), nI_nn (by omega), nI_nn (by omega), h1, h2⟩
theorem wr_row (σ : Mem) (k j : Nat) (v : Int32) : wr σ k j v k = upd (σ k) j v := wrF_same _ _ _
theorem wr_off (σ : Mem) {k q : Nat} (j : Nat) (v : Int32) (h : q ≠ k) : wr σ k j v q = σ q := wrF_ne _ _ h
theorem wr_at (σ : Mem) (k j : Nat) (v : Int32) : wr σ k j v k j = v := by
  rw [wr_row]
  exact if_pos rfl
theorem wr_in (σ : Mem) {k j i : Nat} (v : Int32) (h : i ≠ j) : wr σ k j v k i = σ k i := by
  rw [wr_row]
  exact if_neg h
theorem upd_at (f : Nat → Int32) (k : Nat) (x : Int32) : upd f k x k = x := if_pos rfl
theorem upd_ne (f : Nat → Int32) {k j : Nat} (x : Int32) (h : j ≠ k) : upd f k x j = f j := if_neg h
/-- the model's look at a number -/
theorem m_in (x y z : Int64) : X12_in x y z = if y.toInt ≤ x.toInt ∧ x.toInt ≤ z.toInt then 1 else 0 := by
  unfold X12_in X12_in_b0
  have e1 : lg_cmp x y < 0 ↔ x.toInt < y.toInt := (lg_cmp_lt x y).trans Int64.lt_iff_toInt_lt
  have e2 : 0 < lg_cmp x z ↔ z.toInt < x.toInt := (lg_cmp_gt x z).trans Int64.lt_iff_toInt_lt
  by_cases h1 : x.toInt < y.toInt
  · rw [if_pos (e1.mpr h1), if_neg (by omega)]
  · rw [if_neg (fun q => h1 (e1.mp q))]
    by_cases h2 : z.toInt < x.toInt
    · rw [if_pos (e2.mpr h2), if_neg (by omega)]
    · rw [if_neg (fun q => h2 (e2.mp q)), if_pos (by omega)]
theorem l_0 : (0 : Int64).toInt = 0 := by decide
theorem l_lit (n : Nat) (h : n < 2 ^ 31) : (lN n).toInt = n := lN_toInt h
theorem fu_succ : FU = 999999999 + 1 := rfl
theorem wr_wr (σ : Mem) (k j : Nat) (a b : Int32) : wr (wr σ k j a) k j b = wr σ k j b := by
  funext q i
  by_cases hq : q = k
  · subst hq
    by_cases hi : i = j
    · subst hi
      rw [wr_at, wr_at]
    · rw [wr_in _ _ hi, wr_in _ _ hi, wr_in _ _ hi]
  · rw [wr_off _ _ _ hq, wr_off _ _ _ hq, wr_off _ _ _ hq]
