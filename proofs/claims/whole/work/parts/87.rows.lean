/-! PURE: rows. -/
theorem fill_l (n k : Nat) (v : Int32) (hn : n < 2 ^ 31) : ∀ (d i m : Nat) (σ : Mem), i + d = n → d < m → ∃ σ', J7_fill_53178_l5 m n k v (nI i) (nI n) σ = some σ' ∧ (∀ q, q ≠ k → σ' q = σ q) ∧ ∀ j, σ' k j = if i ≤ j ∧ j < n then v else σ k j := by
  intro d
  induction d with
  | zero =>
    intro i m σ hi hm
    obtain ⟨m, rfl⟩ : ∃ m', m = m' + 1 := ⟨m - 1, by omega⟩
    refine ⟨σ, ?_, fun _ _ => rfl, fun j => ?_⟩
    · show J7_fill_53178_b5 _ n k v (nI i) (nI n) σ = _
      unfold J7_fill_53178_b5
      rw [if_pos (nI_le (by omega) (by omega))]
    · rw [if_neg (by omega)]
  | succ d ih =>
    intro i m σ hi hm
    obtain ⟨m, rfl⟩ : ∃ m', m = m' + 1 := ⟨m - 1, by omega⟩
    obtain ⟨σ', h1, h2, h3⟩ := ih (i + 1) m (wr σ k i v) (by omega) (by omega)
    refine ⟨σ', ?_, fun q hq => (h2 q hq).trans (wr_off _ _ _ hq), fun j => ?_⟩
    · show J7_fill_53178_b5 _ n k v (nI i) (nI n) σ = _
      unfold J7_fill_53178_b5
      rw [if_neg (nI_ge (by omega) (by omega)), gdx_n (by omega) (by omega), nI_1, nc_n (by omega)]
      exact h1
    · rw [h3 j]
      by_cases e : j = i
      · subst e
        rw [if_neg (by omega), if_pos (by omega), wr_at]
      · rw [wr_in _ _ e]
        by_cases c : i + 1 ≤ j ∧ j < n
        · rw [if_pos c, if_pos (by omega)]
        · rw [if_neg c, if_neg (by omega)]
theorem fill_s (n k : Nat) (v : Int32) (σ : Mem) (hn : n < 2 ^ 20) : ∃ σ', J7_fill_53178 n k v σ = some σ' ∧ (∀ q, q ≠ k → σ' q = σ q) ∧ ∀ j, σ' k j = if j < n then v else σ k j := by
  obtain ⟨σ', h1, h2, h3⟩ := fill_l n k v (by omega) n 0 FU σ (by omega) (by unfold FU; omega)
  refine ⟨σ', h1, h2, fun j => ?_⟩
  rw [h3 j]
  by_cases c : j < n
  · rw [if_pos c, if_pos ⟨Nat.zero_le _, c⟩]
  · rw [if_neg c, if_neg (fun q => c q.2)]
theorem h_isRow (v : Int32) : (X11_isRow v = 0 ∧ X12_isRow v = 0) ∨ ∃ r : Nat, r < 8 ∧ v = nI r ∧ X11_isRow v = 1 ∧ X12_isRow v = 1 := by
  unfold X11_isRow X11_isRow_b0 X12_isRow X12_isRow_b0
  rw [m_in]
  by_cases h1 : v < 0
  · left
    rw [if_pos h1, if_neg]
    · exact ⟨rfl, rfl⟩
    · rw [Int32.toInt_toInt64]
      rw [Int32.lt_iff_toInt_lt] at h1
      have : (0 : Int32).toInt = 0 := by decide
      have := l_0
      omega
  · obtain ⟨n, hn, rfl⟩ := i32_nat h1
    rw [if_neg h1]
    by_cases h2 : n < 8
    · right
      refine ⟨n, h2, rfl, ?_, ?_⟩
      · rw [if_neg (show ¬ (8 : Int32) ≤ nI n from nI_ge (b := 8) h2 (by omega))]
      · rw [if_pos]
        rw [Int32.toInt_toInt64, nI_toInt hn]
        have : (7 : Int64).toInt = 7 := by decide
        have := l_0
        omega
    · left
      refine ⟨?_, ?_⟩
      · rw [if_pos (show (8 : Int32) ≤ nI n from nI_le (a := 8) (by omega) hn)]
      · rw [if_neg]
        rw [Int32.toInt_toInt64, nI_toInt hn]
        have : (7 : Int64).toInt = 7 := by decide
        omega
/-- rows of the class and of the model -/
def IRow (σ : Mem) : Prop := ∀ r, r < 8 → (σ 12 r = -1 ∧ σ 252 r = -1) ∨ ∃ l n : Nat, l ≤ 2 ∧ n ≤ 40 ∧ σ 11 r = nI l ∧ σ 252 r = nI l ∧ σ 12 r = nI n ∧ σ 253 r = nI n ∧ ∀ i, i < n → σ (3 + r) i = σ 254 (40 * r + i)
theorem lay_s (r : Nat) (hr : r < 8) (v2 v3 : Int32) (σ : Mem) : ∃ σ', X8_lay 1 (nI r) v2 v3 σ = some σ' ∧ (∀ q, q ≠ 3 + r → q ≠ 11 → q ≠ 12 → σ' q = σ q) ∧ (∀ j, j < 40 → σ' (3 + r) j = 0) ∧ (∀ j, σ' 11 j = if j = r then v2 else σ 11 j) ∧ ∀ j, σ' 12 j = if j = r then v3 else σ 12 j := by
  obtain ⟨σ1, h1, h2, h3⟩ := fill_s 40 (3 + r) 0 σ (by omega)
  refine ⟨wr (wr σ1 11 r v2) 12 r v3, ?_, ?_, ?_, ?_, ?_⟩
  · unfold X8_lay X8_lay_b0
    rw [gdx_n hr (by omega), nc_n (by omega), show 1 + 1 + 1 + r = 3 + r by omega, h1, ob_some, gdx_n hr (by omega), letv_eq, gdx_n hr (by omega)]
  · intro q a1 a2 a3
    rw [wr_off _ _ _ a3, wr_off _ _ _ a2, h2 q a1]
  · intro j hj
    rw [wr_off _ _ _ (by omega), wr_off _ _ _ (by omega), h3 j, if_pos hj]
  · intro j
    rw [wr_off _ _ _ (by omega)]
    by_cases e : j = r
    · subst e
      rw [if_pos rfl, wr_at]
    · rw [if_neg e, wr_in _ _ e, h2 11 (by omega)]
  · intro j
    by_cases e : j = r
    · subst e
      rw [if_pos rfl, wr_at]
    · rw [if_neg e, wr_in _ _ e, wr_off _ _ _ (by omega), h2 12 (by omega)]
theorem mrow_l (r : Nat) (hr : r < 8) (v3 : Int32) : ∀ (d i m : Nat) (σ : Mem), i + d = 40 → d < m → ∃ σ', X12_row_l60 m 251 (nI r) v3 (nI i) σ = some (v3, σ') ∧ (∀ q, q ≠ 254 → σ' q = σ q) ∧ ∀ j, σ' 254 j = if 40 * r + i ≤ j ∧ j < 40 * r + 40 then 0 else σ 254 j := by
  intro d
  induction d with
  | zero =>
    intro i m σ hi hm
    obtain ⟨m, rfl⟩ : ∃ m', m = m' + 1 := ⟨m - 1, by omega⟩
    refine ⟨σ, ?_, fun _ _ => rfl, fun j => ?_⟩
    · show X12_row_b60 _ 251 (nI r) v3 (nI i) σ = _
      unfold X12_row_b60
      rw [if_pos (show (40 : Int32) ≤ nI i from nI_le (a := 40) (by omega) (by omega))]
    · rw [if_neg (by omega)]
  | succ d ih =>
    intro i m σ hi hm
    obtain ⟨m, rfl⟩ : ∃ m', m = m' + 1 := ⟨m - 1, by omega⟩
    obtain ⟨σ', h1, h2, h3⟩ := ih (i + 1) m (wr σ 254 (40 * r + i) 0) (by omega) (by omega)
    refine ⟨σ', ?_, fun q hq => (h2 q hq).trans (wr_off _ _ _ hq), fun j => ?_⟩
    · show X12_row_b60 _ 251 (nI r) v3 (nI i) σ = _
      unfold X12_row_b60
      rw [if_neg (show ¬ (40 : Int32) ≤ nI i from nI_ge (b := 40) (by omega) (by omega)), show (40 : Int32) = nI 40 from rfl, nI_mul, nI_add, gdx_n (by omega) (by omega), nI_1, nc_n (by omega)]
      exact h1
    · rw [h3 j]
      by_cases e : j = 40 * r + i
      · subst e
        rw [if_neg (by omega), if_pos (by omega), wr_at]
      · rw [wr_in _ _ e]
        by_cases c : 40 * r + (i + 1) ≤ j ∧ j < 40 * r + 40
        · rw [if_pos c, if_pos (by omega)]
        · rw [if_neg c, if_neg (by omega)]
/-- what a call with rows may change: cells of rows, the finding -/
def FrR (σ σ' : Mem) : Prop := (∀ q, q ≠ 0 → (q < 3 ∨ 12 < q) → (q < 251 ∨ 254 < q) → σ' q = σ q) ∧ (∀ j, j ≠ 11 → σ' 0 j = σ 0 j) ∧ ∀ j, j ≠ 0 → σ' 251 j = σ 251 j
theorem FrR.rf (σ : Mem) : FrR σ σ := ⟨fun _ _ _ _ => rfl, fun _ _ => rfl, fun _ _ => rfl⟩
theorem t_lit (n : Nat) (h : n < 2 ^ 31) : (nI n).toInt = n := nI_toInt h
theorem finds_s (k : Nat) (σ : Mem) : X11_finds 0 (nI k) σ = some ((-1000010) - nI k, wr σ 0 11 (nI k)) := rfl
theorem finding_s (k : Nat) (σ : Mem) : X12_finding 251 (nI k) σ = some ((-1000010) - nI k, wr σ 251 0 (nI k)) := rfl
/-- both write the same finding -/
theorem both_find (k : Int32) (σ : Mem) (h : IRow σ) : IRow (wr (wr σ 0 11 k) 251 0 k) ∧ FrR σ (wr (wr σ 0 11 k) 251 0 k) ∧ (wr (wr σ 0 11 k) 251 0 k) 0 11 = (wr (wr σ 0 11 k) 251 0 k) 251 0 := by
  refine ⟨fun r hr => ?_, ⟨fun q a b c => ?_, fun j hj => ?_, fun j hj => ?_⟩, ?_⟩
  · have e : ∀ q, q ≠ 0 → q ≠ 251 → (wr (wr σ 0 11 k) 251 0 k) q = σ q := fun q a b => by rw [wr_off _ _ _ b, wr_off _ _ _ a]
    rw [e 12 (by omega) (by omega), e 252 (by omega) (by omega), e 11 (by omega) (by omega), e 253 (by omega) (by omega), e 254 (by omega) (by omega), e (3 + r) (by omega) (by omega)]
    exact h r hr
  · rw [wr_off _ _ _ (by omega), wr_off _ _ _ a]
  · rw [wr_off _ _ _ (by omega), wr_in _ _ hj]
  · rw [wr_in _ _ hj, wr_off _ _ _ (by omega)]
  · rw [wr_at, wr_off _ _ _ (by omega), wr_at]
