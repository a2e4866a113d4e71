/-! PURE: copy. -/
theorem cp_up (r i s j c : Nat) (hr : r < 8) (hs : s < 8) (hi : i + c ≤ 40) (hj : j + c ≤ 40) (H : 40 * s + j ≤ 40 * r + i ∨ 40 * r + i + c ≤ 40 * s + j) : ∀ (d t m : Nat) (σ : Mem), t + d = c → d < m → ∃ σ', X12_copy_l138 m 251 (nI r) (nI i) (nI s) (nI j) (nI c) 1 (nI t) σ = some (nI c, σ') ∧ (∀ q, q ≠ 254 → σ' q = σ q) ∧ ∀ q, σ' 254 q = if 40 * s + j + t ≤ q ∧ q < 40 * s + j + c then σ 254 (40 * r + i + (q - (40 * s + j))) else σ 254 q := by
  intro d
  induction d with
  | zero =>
    intro t m σ ht hm
    obtain ⟨m, rfl⟩ : ∃ m', m = m' + 1 := ⟨m - 1, by omega⟩
    refine ⟨σ, ?_, fun _ _ => rfl, fun q => ?_⟩
    · show X12_copy_b138 _ 251 _ _ _ _ _ _ _ σ = _
      unfold X12_copy_b138
      rw [if_pos (nI_le (by omega) (by omega))]
    · rw [if_neg (by omega)]
  | succ d ih =>
    intro t m σ ht hm
    obtain ⟨m, rfl⟩ : ∃ m', m = m' + 1 := ⟨m - 1, by omega⟩
    obtain ⟨σ', h1, h2, h3⟩ := ih (t + 1) m (wr σ 254 (40 * s + j + t) (σ 254 (40 * r + i + t))) (by omega) (by omega)
    refine ⟨σ', ?_, fun q hq => (h2 q hq).trans (wr_off _ _ _ hq), fun q => ?_⟩
    · show X12_copy_b138 _ 251 _ _ _ _ _ _ _ σ = _
      unfold X12_copy_b138
      rw [if_neg (nI_ge (by omega) (by omega)), if_neg (by decide)]
      unfold X12_copy_b162
      rw [show (40 : Int32) = nI 40 from rfl, nI_mul, nI_mul, nI_add, nI_add, nI_add, nI_add, gdx_n (by omega) (by omega), gdx_n (by omega) (by omega), nI_1, nc_n (by omega), nc_n (by omega)]
      exact h1
    · rw [h3 q]
      by_cases c1 : q = 40 * s + j + t
      · subst c1
        rw [if_neg (by omega), if_pos (by omega), wr_at]
        congr 1
        omega
      · by_cases c2 : 40 * s + j + (t + 1) ≤ q ∧ q < 40 * s + j + c
        · rw [if_pos c2, if_pos (by omega), wr_in _ _ (by omega)]
        · rw [if_neg c2, if_neg (by omega), wr_in _ _ c1]
theorem cp_dn (r i s j c : Nat) (hr : r < 8) (hs : s < 8) (hi : i + c ≤ 40) (hj : j + c ≤ 40) (H : 40 * r + i ≤ 40 * s + j ∨ 40 * s + j + c ≤ 40 * r + i) : ∀ (d t m : Nat) (σ : Mem), t + d = c → d < m → ∃ σ', X12_copy_l138 m 251 (nI r) (nI i) (nI s) (nI j) (nI c) 0 (nI t) σ = some (nI c, σ') ∧ (∀ q, q ≠ 254 → σ' q = σ q) ∧ ∀ q, σ' 254 q = if 40 * s + j ≤ q ∧ q < 40 * s + j + d then σ 254 (40 * r + i + (q - (40 * s + j))) else σ 254 q := by
  intro d
  induction d with
  | zero =>
    intro t m σ ht hm
    obtain ⟨m, rfl⟩ : ∃ m', m = m' + 1 := ⟨m - 1, by omega⟩
    refine ⟨σ, ?_, fun _ _ => rfl, fun q => ?_⟩
    · show X12_copy_b138 _ 251 _ _ _ _ _ _ _ σ = _
      unfold X12_copy_b138
      rw [if_pos (nI_le (by omega) (by omega))]
    · rw [if_neg (by omega)]
  | succ d ih =>
    intro t m σ ht hm
    obtain ⟨m, rfl⟩ : ∃ m', m = m' + 1 := ⟨m - 1, by omega⟩
    obtain ⟨σ', h1, h2, h3⟩ := ih (t + 1) m (wr σ 254 (40 * s + j + (c - 1 - t)) (σ 254 (40 * r + i + (c - 1 - t)))) (by omega) (by omega)
    refine ⟨σ', ?_, fun q hq => (h2 q hq).trans (wr_off _ _ _ hq), fun q => ?_⟩
    · show X12_copy_b138 _ 251 _ _ _ _ _ _ _ σ = _
      unfold X12_copy_b138
      rw [if_neg (nI_ge (by omega) (by omega)), if_pos rfl]
      unfold X12_copy_b162
      have e1 : nI c - 1 = nI (c - 1) := nI_sub (b := 1) (by omega)
      rw [show (40 : Int32) = nI 40 from rfl, nI_mul, nI_mul, nI_add, nI_add, e1, nI_sub (by omega), nI_add, nI_add, gdx_n (by omega) (by omega), gdx_n (by omega) (by omega), nI_1, nc_n (by omega), nc_n (by omega)]
      exact h1
    · rw [h3 q]
      by_cases c1 : q = 40 * s + j + (c - 1 - t)
      · subst c1
        rw [if_neg (by omega), if_pos (by omega), wr_at]
        congr 1
        omega
      · by_cases c2 : 40 * s + j ≤ q ∧ q < 40 * s + j + d
        · rw [if_pos c2, if_pos (by omega), wr_in _ _ (by omega)]
        · rw [if_neg c2, if_neg (by omega), wr_in _ _ c1]
theorem hold_neg (r : Nat) (v c : Int32) (σ : Mem) (hc : c < 0) : X8_holds 1 (nI r) v c σ = some 0 := by
  unfold X8_holds X8_holds_b0
  by_cases h1 : v < 0
  · rw [if_pos h1]
  · rw [if_neg h1, if_pos hc]
theorem lcmp_sum (a b n : Nat) (ha : a < 2 ^ 31) (hb : b < 2 ^ 31) (hn : n < 2 ^ 31) : (0 < lg_cmp ((nI a).toInt64 + (nI b).toInt64) (nI n).toInt64 ↔ n < a + b) ∧ (lg_cmp ((nI a).toInt64 + (nI b).toInt64) (nI n).toInt64 ≤ 0 ↔ a + b ≤ n) := by
  have e : ((nI a).toInt64 + (nI b).toInt64).toInt = (a : Int) + b := by
    rw [Int64.toInt_add, Int32.toInt_toInt64, Int32.toInt_toInt64, nI_toInt ha, nI_toInt hb, Int.bmod_eq_of_le (by omega) (by omega)]
  have e1 : 0 < lg_cmp ((nI a).toInt64 + (nI b).toInt64) (nI n).toInt64 ↔ n < a + b := by
    rw [lg_cmp_gt, Int64.lt_iff_toInt_lt, e, Int32.toInt_toInt64, nI_toInt hn]
    omega
  refine ⟨e1, ?_⟩
  rw [← Int32.not_lt, e1]
  omega
/-- what the model's copy does -/
theorem mcopy_s (r s : Nat) (hr : r < 8) (hs : s < 8) (v2 v4 v5 : Int32) (τ : Mem) (e2 : X12_isRow (nI r) = 1) (e3 : X12_isRow (nI s) = 1) :
    (τ 252 r = -1 ∨ τ 252 s = -1 → X12_copy 251 (nI r) v2 (nI s) v4 v5 τ = some ((-1000010) - 1, wr τ 251 0 1)) ∧
    ∀ l l' n n' : Nat, l ≤ 2 → l' ≤ 2 → n ≤ 40 → n' ≤ 40 → τ 252 r = nI l → τ 252 s = nI l' → τ 253 r = nI n → τ 253 s = nI n' →
      (l ≠ l' → X12_copy 251 (nI r) v2 (nI s) v4 v5 τ = some ((-1000010) - 5, wr τ 251 0 5)) ∧
      (l = l' → (v2 < 0 ∨ v4 < 0 ∨ v5 < 0 → X12_copy 251 (nI r) v2 (nI s) v4 v5 τ = some ((-1000010) - 2, wr τ 251 0 2)) ∧
        ∀ i j c : Nat, i < 2 ^ 31 → j < 2 ^ 31 → c < 2 ^ 31 → v2 = nI i → v4 = nI j → v5 = nI c →
          (n < i + c ∨ n' < j + c → X12_copy 251 (nI r) v2 (nI s) v4 v5 τ = some ((-1000010) - 2, wr τ 251 0 2)) ∧
          (i + c ≤ n → j + c ≤ n' → ∃ τ', X12_copy 251 (nI r) v2 (nI s) v4 v5 τ = some (nI c, τ') ∧ (∀ q, q ≠ 254 → τ' q = wr τ 251 0 0 q) ∧ ∀ q, τ' 254 q = if 40 * s + j ≤ q ∧ q < 40 * s + j + c then τ 254 (40 * r + i + (q - (40 * s + j))) else τ 254 q)) := by
  have w : ∀ q, q ≠ 251 → (wr τ 251 0 0) q = τ q := fun q hq => wr_off _ _ _ hq
  have f1 : X12_copy_b40 251 (wr τ 251 0 0) = some ((-1000010) - 1, wr τ 251 0 1) := by
    show some ((-1000010) - 1, wr (wr τ 251 0 0) 251 0 1) = _
    rw [wr_wr]
  have f2 : X12_copy_b116 251 (wr τ 251 0 0) = some ((-1000010) - 2, wr τ 251 0 2) := by
    show some ((-1000010) - 2, wr (wr τ 251 0 0) 251 0 2) = _
    rw [wr_wr]
  have f5 : ob2 (X12_finding 251 5 (wr τ 251 0 0)) (fun r19 σ20 => some (r19, σ20)) = some ((-1000010) - 5, wr τ 251 0 5) := by
    show some ((-1000010) - 5, wr (wr τ 251 0 0) 251 0 5) = _
    rw [wr_wr]
  unfold X12_copy X12_copy_b0
  rw [if_neg (by rw [e2]; decide), if_neg (by rw [e3]; decide), letv_eq, gdx_n hr (by omega), gdx_n hs (by omega), gdx_n hr (by omega), gdx_n hs (by omega), gdx_n hr (by omega), gdx_n hs (by omega), nc_n (by omega), nc_n (by omega), f1, f2, f5, show 251 + 1 = 252 from rfl, show 251 + 2 = 253 from rfl, w 252 (by omega), w 253 (by omega)]
  refine ⟨fun hm => ?_, fun l l' n n' a1 a2 a3 a4 b1 b2 b3 b4 => ?_⟩
  · by_cases c1 : τ 252 r < 0
    · rw [if_pos c1]
    · rw [if_neg c1]
      rcases hm with hm | hm
      · rw [hm] at c1
        exact absurd (by decide) c1
      · rw [hm, if_neg (by decide)]
  · rw [b1, b2, b3, b4, if_neg (nI_nn (by omega)), if_pos (nI_ge0 (by omega))]
    refine ⟨fun hl => ?_, fun hl => ⟨fun hv => ?_, fun i j c hi hj hc d1 d2 d3 => ⟨fun hb => ?_, fun g1 g2 => ?_⟩⟩⟩
    · rw [if_neg (fun q => hl ((nI_inj (by omega) (by omega)).mp q))]
    · rw [if_pos (by rw [hl])]
      by_cases c1 : v2 < 0
      · rw [if_pos c1]
      · rw [if_neg c1]
        by_cases c2 : v4 < 0
        · rw [if_pos c2]
        · rw [if_neg c2, if_pos]
          rcases hv with q | q | q
          · exact absurd q c1
          · exact absurd q c2
          · exact q
    · subst d1 d2 d3
      rw [if_pos (by rw [hl]), if_neg (nI_nn hi), if_neg (nI_nn hj), if_neg (nI_nn hc)]
      by_cases c1 : n < i + c
      · rw [if_pos ((lcmp_sum i c n hi hc (by omega)).1.mpr c1)]
      · rw [if_neg (fun q => c1 ((lcmp_sum i c n hi hc (by omega)).1.mp q)), if_neg]
        intro q
        have := (lcmp_sum j c n' hj hc (by omega)).2.mp q
        omega
    · subst d1 d2 d3
      rw [if_pos (by rw [hl]), if_neg (nI_nn hi), if_neg (nI_nn hj), if_neg (nI_nn hc), if_neg (fun q => by have := (lcmp_sum i c n hi hc (by omega)).1.mp q; omega), if_pos ((lcmp_sum j c n' hj hc (by omega)).2.mpr (by omega))]
      unfold X12_copy_b133
      by_cases c1 : i < j
      · rw [if_pos (nI_lt c1 (by omega))]
        obtain ⟨τ', x1, x2, x3⟩ := cp_dn r i s j c hr hs (by omega) (by omega) (by omega) c 0 FU (wr τ 251 0 0) (by omega) (by unfold FU; omega)
        exact ⟨τ', x1, x2, fun q => by rw [x3 q, w 254 (by omega)]⟩
      · rw [if_neg (nI_nlt (by omega) (by omega))]
        obtain ⟨τ', x1, x2, x3⟩ := cp_up r i s j c hr hs (by omega) (by omega) (by omega) c 0 FU (wr τ 251 0 0) (by omega) (by unfold FU; omega)
        exact ⟨τ', x1, x2, fun q => by rw [x3 q, w 254 (by omega), Nat.add_zero]⟩
