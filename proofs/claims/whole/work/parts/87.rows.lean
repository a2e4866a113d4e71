/-! PURE: rows. -/
theorem fill_l (n k : Nat) (v : Int32) (hn : n < 2 ^ 31) : ∀ (d i m : Nat) (σ : Mem), i + d = n → d < m → ∃ σ', J7_fill_53178_l5 m n k v (nI i) (nI n) σ = some σ' ∧ (∀ q, q ≠ k → σ' q = σ q) ∧ ∀ j, σ' k j = if i ≤ j ∧ j < n then v else σ k j := by
  intro d
  induction d with
  | zero =>
    intro i m σ hi hm
    obtain ⟨m, rfl⟩ : ∃ m', m = m' + 1 := ⟨m - 1, by omega⟩
    refine ⟨σ, ?_, fun _ _ => rfl, fun j => ?_⟩
    · show J7_fill_53178_b5 _ n k v (nI i) (nI n) σ = _
      unfold J7_fill_53178_b5
      rw [if_pos (nI_le (by omega) (by omega))]
    · rw [if_neg (by omega)]
  | succ d ih =>
    intro i m σ hi hm
    obtain ⟨m, rfl⟩ : ∃ m', m = m' + 1 := ⟨m - 1, by omega⟩
    obtain ⟨σ', h1, h2, h3⟩ := ih (i + 1) m (wr σ k i v) (by omega) (by omega)
    refine ⟨σ', ?_, fun q hq => (h2 q hq).trans (wr_off _ _ _ hq), fun j => ?_⟩
    · show J7_fill_53178_b5 _ n k v (nI i) (nI n) σ = _
      unfold J7_fill_53178_b5
      rw [if_neg (nI_ge (by omega) (by omega)), gdx_n (by omega) (by omega), nI_1, nc_n (by omega)]
      exact h1
    · rw [h3 j]
      by_cases e : j = i
      · subst e
        rw [if_neg (by omega), if_pos (by omega), wr_at]
      · rw [wr_in _ _ e]
        by_cases c : i + 1 ≤ j ∧ j < n
        · rw [if_pos c, if_pos (by omega)]
        · rw [if_neg c, if_neg (by omega)]
theorem fill_s (n k : Nat) (v : Int32) (σ : Mem) (hn : n < 2 ^ 20) : ∃ σ', J7_fill_53178 n k v σ = some σ' ∧ (∀ q, q ≠ k → σ' q = σ q) ∧ ∀ j, σ' k j = if j < n then v else σ k j := by
  obtain ⟨σ', h1, h2, h3⟩ := fill_l n k v (by omega) n 0 FU σ (by omega) (by unfold FU; omega)
  refine ⟨σ', h1, h2, fun j => ?_⟩
  rw [h3 j]
  by_cases c : j < n
  · rw [if_pos c, if_pos ⟨Nat.zero_le _, c⟩]
  · rw [if_neg c, if_neg (fun q => c q.2)]
theorem h_isRow (v : Int32) : (X11_isRow v = 0 ∧ X12_isRow v = 0) ∨ ∃ r : Nat, r < 8 ∧ v = nI r ∧ X11_isRow v = 1 ∧ X12_isRow v = 1 := by
  unfold X11_isRow X11_isRow_b0 X12_isRow X12_isRow_b0
  rw [m_in]
  by_cases h1 : v < 0
  · left
    rw [if_pos h1, if_neg]
    · exact ⟨rfl, rfl⟩
    · rw [Int32.toInt_toInt64]
      rw [Int32.lt_iff_toInt_lt] at h1
      have : (0 : Int32).toInt = 0 := by decide
      have := l_0
      omega
  · obtain ⟨n, hn, rfl⟩ := i32_nat h1
    rw [if_neg h1]
    by_cases h2 : n < 8
    · right
      refine ⟨n, h2, rfl, ?_, ?_⟩
      · rw [if_neg (show ¬ (8 : Int32) ≤ nI n from nI_ge (b := 8) h2 (by omega))]
      · rw [if_pos]
        rw [Int32.toInt_toInt64, nI_toInt hn]
        have : (7 : Int64).toInt = 7 := by decide
        have := l_0
        omega
    · left
      refine ⟨?_, ?_⟩
      · rw [if_pos (show (8 : Int32) ≤ nI n from nI_le (a := 8) (by omega) hn)]
      · rw [if_neg]
        rw [Int32.toInt_toInt64, nI_toInt hn]
        have : (7 : Int64).toInt = 7 := by decide
        omega
/-- rows of the class and of the model -/
def IRow (σ : Mem) : Prop := ∀ r, r < 8 → (σ 12 r = -1 ∧ σ 252 r = -1) ∨ ∃ l n : Nat, l ≤ 2 ∧ n ≤ 40 ∧ σ 11 r = nI l ∧ σ 252 r = nI l ∧ σ 12 r = nI n ∧ σ 253 r = nI n ∧ ∀ i, i < n → σ (3 + r) i = σ 254 (40 * r + i)
theorem lay_s (r : Nat) (hr : r < 8) (v2 v3 : Int32) (σ : Mem) : ∃ σ', X8_lay 1 (nI r) v2 v3 σ = some σ' ∧ (∀ q, q ≠ 3 + r → q ≠ 11 → q ≠ 12 → σ' q = σ q) ∧ (∀ j, j < 40 → σ' (3 + r) j = 0) ∧ (∀ j, σ' 11 j = if j = r then v2 else σ 11 j) ∧ ∀ j, σ' 12 j = if j = r then v3 else σ 12 j := by
  obtain ⟨σ1, h1, h2, h3⟩ := fill_s 40 (3 + r) 0 σ (by omega)
  refine ⟨wr (wr σ1 11 r v2) 12 r v3, ?_, ?_, ?_, ?_, ?_⟩
  · unfold X8_lay X8_lay_b0
    rw [gdx_n hr (by omega), nc_n (by omega), show 1 + 1 + 1 + r = 3 + r by omega, h1, ob_some, gdx_n hr (by omega), letv_eq, gdx_n hr (by omega)]
  · intro q a1 a2 a3
    rw [wr_off _ _ _ a3, wr_off _ _ _ a2, h2 q a1]
  · intro j hj
    rw [wr_off _ _ _ (by omega), wr_off _ _ _ (by omega), h3 j, if_pos hj]
  · intro j
    rw [wr_off _ _ _ (by omega)]
    by_cases e : j = r
    · subst e
      rw [if_pos rfl, wr_at]
    · rw [if_neg e, wr_in _ _ e, h2 11 (by omega)]
  · intro j
    by_cases e : j = r
    · subst e
      rw [if_pos rfl, wr_at]
    · rw [if_neg e, wr_in _ _ e, wr_off _ _ _ (by omega), h2 12 (by omega)]
theorem mrow_l (r : Nat) (hr : r < 8) (v3 : Int32) : ∀ (d i m : Nat) (σ : Mem), i + d = 40 → d < m → ∃ σ', X12_row_l60 m 251 (nI r) v3 (nI i) σ = some (v3, σ') ∧ (∀ q, q ≠ 254 → σ' q = σ q) ∧ ∀ j, σ' 254 j = if 40 * r + i ≤ j ∧ j < 40 * r + 40 then 0 else σ 254 j := by
  intro d
  induction d with
  | zero =>
    intro i m σ hi hm
    obtain ⟨m, rfl⟩ : ∃ m', m = m' + 1 := ⟨m - 1, by omega⟩
    refine ⟨σ, ?_, fun _ _ => rfl, fun j => ?_⟩
    · show X12_row_b60 _ 251 (nI r) v3 (nI i) σ = _
      unfold X12_row_b60
      rw [if_pos (show (40 : Int32) ≤ nI i from nI_le (a := 40) (by omega) (by omega))]
    · rw [if_neg (by omega)]
  | succ d ih =>
    intro i m σ hi hm
    obtain ⟨m, rfl⟩ : ∃ m', m = m' + 1 := ⟨m - 1, by omega⟩
    obtain ⟨σ', h1, h2, h3⟩ := ih (i + 1) m (wr σ 254 (40 * r + i) 0) (by omega) (by omega)
    refine ⟨σ', ?_, fun q hq => (h2 q hq).trans (wr_off _ _ _ hq), fun j => ?_⟩
    · show X12_row_b60 _ 251 (nI r) v3 (nI i) σ = _
      unfold X12_row_b60
      rw [if_neg (show ¬ (40 : Int32) ≤ nI i from nI_ge (b := 40) (by omega) (by omega)), show (40 : Int32) = nI 40 from rfl, nI_mul, nI_add, gdx_n (by omega) (by omega), nI_1, nc_n (by omega)]
      exact h1
    · rw [h3 j]
      by_cases e : j = 40 * r + i
      · subst e
        rw [if_neg (by omega), if_pos (by omega), wr_at]
      · rw [wr_in _ _ e]
        by_cases c : 40 * r + (i + 1) ≤ j ∧ j < 40 * r + 40
        · rw [if_pos c, if_pos (by omega)]
        · rw [if_neg c, if_neg (by omega)]
/-- what a call with rows may change: cells of rows, the finding -/
def FrR (σ σ' : Mem) : Prop := (∀ q, q ≠ 0 → (q < 3 ∨ 12 < q) → (q < 251 ∨ 254 < q) → σ' q = σ q) ∧ (∀ j, j ≠ 11 → σ' 0 j = σ 0 j) ∧ ∀ j, j ≠ 0 → σ' 251 j = σ 251 j
theorem FrR.rf (σ : Mem) : FrR σ σ := ⟨fun _ _ _ _ => rfl, fun _ _ => rfl, fun _ _ => rfl⟩
theorem t_lit (n : Nat) (h : n < 2 ^ 31) : (nI n).toInt = n := nI_toInt h
theorem finds_s (k : Nat) (σ : Mem) : X11_finds 0 (nI k) σ = some ((-1000010) - nI k, wr σ 0 11 (nI k)) := rfl
theorem finding_s (k : Nat) (σ : Mem) : X12_finding 251 (nI k) σ = some ((-1000010) - nI k, wr σ 251 0 (nI k)) := rfl
/-- both write the same finding -/
theorem both_find (k : Int32) (σ : Mem) (h : IRow σ) : IRow (wr (wr σ 0 11 k) 251 0 k) ∧ FrR σ (wr (wr σ 0 11 k) 251 0 k) ∧ (wr (wr σ 0 11 k) 251 0 k) 0 11 = (wr (wr σ 0 11 k) 251 0 k) 251 0 := by
  refine ⟨fun r hr => ?_, ⟨fun q a b c => ?_, fun j hj => ?_, fun j hj => ?_⟩, ?_⟩
  · have e : ∀ q, q ≠ 0 → q ≠ 251 → (wr (wr σ 0 11 k) 251 0 k) q = σ q := fun q a b => by rw [wr_off _ _ _ b, wr_off _ _ _ a]
    rw [e 12 (by omega) (by omega), e 252 (by omega) (by omega), e 11 (by omega) (by omega), e 253 (by omega) (by omega), e 254 (by omega) (by omega), e (3 + r) (by omega) (by omega)]
    exact h r hr
  · rw [wr_off _ _ _ (by omega), wr_off _ _ _ a]
  · rw [wr_off _ _ _ (by omega), wr_in _ _ hj]
  · rw [wr_in _ _ hj, wr_off _ _ _ (by omega)]
  · rw [wr_at, wr_off _ _ _ (by omega), wr_at]
theorem in_lit (v : Int32) (b : Nat) (hb : b < 2 ^ 31) : (X12_in v.toInt64 0 (lN b) = 1 ∧ ¬ v < 0 ∧ ¬ nI b < v ∧ ∃ n : Nat, n ≤ b ∧ v = nI n) ∨ (X12_in v.toInt64 0 (lN b) = 0 ∧ (v < 0 ∨ nI b < v)) := by
  rw [m_in, Int32.toInt_toInt64, lN_toInt hb, l_0]
  by_cases h1 : v < 0
  · right
    refine ⟨if_neg (fun q => ?_), Or.inl h1⟩
    rw [Int32.lt_iff_toInt_lt] at h1
    have : (0 : Int32).toInt = 0 := by decide
    omega
  · obtain ⟨n, hn, rfl⟩ := i32_nat h1
    rw [nI_toInt hn, nI_lt_iff hb hn]
    by_cases h2 : n ≤ b
    · left
      exact ⟨if_pos ⟨by omega, by omega⟩, h1, by omega, n, h2, rfl⟩
    · right
      exact ⟨if_neg (by omega), Or.inr (by omega)⟩
theorem op_row (σ : Mem) (h : IRow σ) (hs : σ 0 11 = σ 251 0) (v1 v2 v3 : Int32) : ∃ (r : Int32) (σ1 σ2 : Mem), X11_row 0 v1 v2 v3 σ = some (r, σ1) ∧ X12_row 251 v1 v2 v3 σ1 = some (r, σ2) ∧ IRow σ2 ∧ FrR σ σ2 ∧ σ2 0 11 = σ2 251 0 := by
  unfold X11_row X11_row_b0 X12_row X12_row_b0
  rcases h_isRow v1 with ⟨e1, e2⟩ | ⟨r, hr, rfl, e1, e2⟩
  · refine ⟨-1000001, σ, σ, ?_, ?_, h, FrR.rf σ, hs⟩
    · rw [if_pos e1]
    · rw [if_pos e2]
  · rw [if_neg (by rw [e1]; decide)]
    rcases in_lit v2 2 (by omega) with ⟨f1, f2, f3, n2, f4, rfl⟩ | ⟨f1, f2⟩
    · rw [if_neg f2, if_neg (show ¬ (2 : Int32) < nI n2 from f3)]
      by_cases c40 : v3 ≤ 40
      · by_cases c0 : 0 ≤ v3
        · obtain ⟨n, hn, rfl⟩ := i32_nat' c0
          have hn40 : n ≤ 40 := by
            have : nI n ≤ nI 40 := c40
            rwa [nI_le_iff hn (by omega)] at this
          obtain ⟨σ1, g1, g2, g3, g4, g5⟩ := lay_s r hr (nI n2) (nI n) (wr σ 0 11 0)
          obtain ⟨σ2, k1, k2, k3⟩ := mrow_l r hr (nI n) 40 0 FU (wr (wr (wr σ1 251 0 0) 252 r (nI n2)) 253 r (nI n)) (by omega) (by unfold FU; omega)
          have G : ∀ q, q ≠ 0 → q ≠ 3 + r → q ≠ 11 → q ≠ 12 → σ1 q = σ q := fun q a1 a2 a3 a4 => by rw [g2 q a2 a3 a4, wr_off _ _ _ a1]
          have K : ∀ q, q ≠ 251 → q ≠ 252 → q ≠ 253 → q ≠ 254 → σ2 q = σ1 q := fun q a1 a2 a3 a4 => by rw [k2 q a4, wr_off _ _ _ a3, wr_off _ _ _ a2, wr_off _ _ _ a1]
          refine ⟨nI n, σ1, σ2, ?_, ?_, ?_, ?_, ?_⟩
          · rw [if_pos c40, if_pos c0]
            show ob (X8_lay 1 (nI r) (nI n2) (nI n) (wr σ 0 11 0)) _ = _
            rw [g1]
            rfl
          · rw [if_neg (by rw [e2]; decide), if_neg (by rw [show X12_in (nI n2).toInt64 0 2 = 1 from f1]; decide), if_pos c40, if_pos c0, letv_eq, gdx_n hr (by omega), letv_eq, gdx_n hr (by omega), nc_n (by omega)]
            exact k1
          · intro q hq
            by_cases e : q = r
            · subst e
              right
              refine ⟨n2, n, f4, hn40, ?_, ?_, ?_, ?_, fun i hi => ?_⟩
              · rw [K 11 (by omega) (by omega) (by omega) (by omega), g4, if_pos rfl]
              · rw [k2 252 (by omega), wr_off _ _ _ (by omega), wr_at]
              · rw [K 12 (by omega) (by omega) (by omega) (by omega), g5, if_pos rfl]
              · rw [k2 253 (by omega), wr_at]
              · rw [K (3 + q) (by omega) (by omega) (by omega) (by omega), g3 i (by omega), k3, if_pos (by omega)]
            · have E1 : ∀ i, σ2 252 i = if i = r then nI n2 else σ 252 i := fun i => by
                rw [k2 252 (by omega), wr_off _ _ _ (by omega)]
                by_cases e2 : i = r
                · subst e2
                  rw [wr_at, if_pos rfl]
                · rw [wr_in _ _ e2, if_neg e2, wr_off _ _ _ (by omega), G 252 (by omega) (by omega) (by omega) (by omega)]
              have E2 : ∀ i, σ2 253 i = if i = r then nI n else σ 253 i := fun i => by
                rw [k2 253 (by omega)]
                by_cases e2 : i = r
                · subst e2
                  rw [wr_at, if_pos rfl]
                · rw [wr_in _ _ e2, if_neg e2, wr_off _ _ _ (by omega), wr_off _ _ _ (by omega), G 253 (by omega) (by omega) (by omega) (by omega)]
              rw [E1, E2, if_neg e, if_neg e, K 11 (by omega) (by omega) (by omega) (by omega), K 12 (by omega) (by omega) (by omega) (by omega), g4, g5, if_neg e, if_neg e, wr_off _ _ _ (by omega), wr_off _ _ _ (by omega), K (3 + q) (by omega) (by omega) (by omega) (by omega), G (3 + q) (by omega) (by omega) (by omega) (by omega)]
              rcases h q hq with c | ⟨l, n', a1, a2, a3, a4, a5, a6, a7⟩
              · exact Or.inl c
              · refine Or.inr ⟨l, n', a1, a2, a3, a4, a5, a6, fun i hi => ?_⟩
                rw [a7 i hi, k3, if_neg (by omega), wr_off _ _ _ (by omega), wr_off _ _ _ (by omega), wr_off _ _ _ (by omega), G 254 (by omega) (by omega) (by omega) (by omega)]
          · refine ⟨fun q a1 a2 a3 => ?_, fun j hj => ?_, fun j hj => ?_⟩
            · rw [K q (by omega) (by omega) (by omega) (by omega), G q a1 (by omega) (by omega) (by omega)]
            · rw [K 0 (by omega) (by omega) (by omega) (by omega), g2 0 (by omega) (by omega) (by omega), wr_in _ _ hj]
            · rw [k2 251 (by omega), wr_off _ _ _ (by omega), wr_off _ _ _ (by omega), wr_in _ _ hj, G 251 (by omega) (by omega) (by omega) (by omega)]
          · rw [K 0 (by omega) (by omega) (by omega) (by omega), g2 0 (by omega) (by omega) (by omega), wr_at, k2 251 (by omega), wr_off _ _ _ (by omega), wr_off _ _ _ (by omega), wr_at]
        · obtain ⟨q1, q2, q3⟩ := both_find 4 σ h
          refine ⟨(-1000010) - 4, wr σ 0 11 4, wr (wr σ 0 11 4) 251 0 4, ?_, ?_, q1, q2, q3⟩
          · rw [if_pos c40, if_neg c0]
            rfl
          · rw [if_neg (by rw [e2]; decide), if_neg (by rw [show X12_in (nI n2).toInt64 0 2 = 1 from f1]; decide), if_pos c40, if_neg c0]
            show some ((-1000010) - 4, wr (wr (wr σ 0 11 4) 251 0 0) 251 0 4) = _
            rw [wr_wr]
      · refine ⟨-1000001, σ, σ, ?_, ?_, h, FrR.rf σ, hs⟩
        · rw [if_neg c40]
        · rw [if_neg (by rw [e2]; decide), if_neg (by rw [show X12_in (nI n2).toInt64 0 2 = 1 from f1]; decide), if_neg c40]
    · refine ⟨-1000001, σ, σ, ?_, ?_, h, FrR.rf σ, hs⟩
      · rcases f2 with f2 | f2
        · rw [if_pos f2]
        · by_cases f3 : v2 < 0
          · rw [if_pos f3]
          · rw [if_neg f3, if_pos (show (2 : Int32) < v2 from f2)]
      · rw [if_neg (by rw [e2]; decide), if_pos (show X12_in v2.toInt64 0 2 = 0 from f1)]
