/-! PURE: copy. -/
theorem cp_up (r i s j c : Nat) (hr : r < 8) (hs : s < 8) (hi : i + c ≤ 40) (hj : j + c ≤ 40) (H : 40 * s + j ≤ 40 * r + i ∨ 40 * r + i + c ≤ 40 * s + j) : ∀ (d t m : Nat) (σ : Mem), t + d = c → d < m → ∃ σ', X12_copy_l138 m 251 (nI r) (nI i) (nI s) (nI j) (nI c) 1 (nI t) σ = some (nI c, σ') ∧ (∀ q, q ≠ 254 → σ' q = σ q) ∧ ∀ q, σ' 254 q = if 40 * s + j + t ≤ q ∧ q < 40 * s + j + c then σ 254 (40 * r + i + (q - (40 * s + j))) else σ 254 q := by
  intro d
  induction d with
  | zero =>
    intro t m σ ht hm
    obtain ⟨m, rfl⟩ : ∃ m', m = m' + 1 := ⟨m - 1, by omega⟩
    refine ⟨σ, ?_, fun _ _ => rfl, fun q => ?_⟩
    · show X12_copy_b138 _ 251 _ _ _ _ _ _ _ σ = _
      unfold X12_copy_b138
      rw [if_pos (nI_le (by omega) (by omega))]
    · rw [if_neg (by omega)]
  | succ d ih =>
    intro t m σ ht hm
    obtain ⟨m, rfl⟩ : ∃ m', m = m' + 1 := ⟨m - 1, by omega⟩
    obtain ⟨σ', h1, h2, h3⟩ := ih (t + 1) m (wr σ 254 (40 * s + j + t) (σ 254 (40 * r + i + t))) (by omega) (by omega)
    refine ⟨σ', ?_, fun q hq => (h2 q hq).trans (wr_off _ _ _ hq), fun q => ?_⟩
    · show X12_copy_b138 _ 251 _ _ _ _ _ _ _ σ = _
      unfold X12_copy_b138
      rw [if_neg (nI_ge (by omega) (by omega)), if_neg (by decide)]
      unfold X12_copy_b162
      rw [show (40 : Int32) = nI 40 from rfl, nI_mul, nI_mul, nI_add, nI_add, nI_add, nI_add, gdx_n (by omega) (by omega), gdx_n (by omega) (by omega), nI_1, nc_n (by omega), nc_n (by omega)]
      exact h1
    · rw [h3 q]
      by_cases c1 : q = 40 * s + j + t
      · subst c1
        rw [if_neg (by omega), if_pos (by omega), wr_at]
        congr 1
        omega
      · by_cases c2 : 40 * s + j + (t + 1) ≤ q ∧ q < 40 * s + j + c
        · rw [if_pos c2, if_pos (by omega), wr_in _ _ (by omega)]
        · rw [if_neg c2, if_neg (by omega), wr_in _ _ c1]
theorem cp_dn (r i s j c : Nat) (hr : r < 8) (hs : s < 8) (hi : i + c ≤ 40) (hj : j + c ≤ 40) (H : 40 * r + i ≤ 40 * s + j ∨ 40 * s + j + c ≤ 40 * r + i) : ∀ (d t m : Nat) (σ : Mem), t + d = c → d < m → ∃ σ', X12_copy_l138 m 251 (nI r) (nI i) (nI s) (nI j) (nI c) 0 (nI t) σ = some (nI c, σ') ∧ (∀ q, q ≠ 254 → σ' q = σ q) ∧ ∀ q, σ' 254 q = if 40 * s + j ≤ q ∧ q < 40 * s + j + d then σ 254 (40 * r + i + (q - (40 * s + j))) else σ 254 q := by
  intro d
  induction d with
  | zero =>
    intro t m σ ht hm
    obtain ⟨m, rfl⟩ : ∃ m', m = m' + 1 := ⟨m - 1, by omega⟩
    refine ⟨σ, ?_, fun _ _ => rfl, fun q => ?_⟩
    · show X12_copy_b138 _ 251 _ _ _ _ _ _ _ σ = _
      unfold X12_copy_b138
      rw [if_pos (nI_le (by omega) (by omega))]
    · rw [if_neg (by omega)]
  | succ d ih =>
    intro t m σ ht hm
    obtain ⟨m, rfl⟩ : ∃ m', m = m' + 1 := ⟨m - 1, by omega⟩
    obtain ⟨σ', h1, h2, h3⟩ := ih (t + 1) m (wr σ 254 (40 * s + j + (c - 1 - t)) (σ 254 (40 * r + i + (c - 1 - t)))) (by omega) (by omega)
    refine ⟨σ', ?_, fun q hq => (h2 q hq).trans (wr_off _ _ _ hq), fun q => ?_⟩
    · show X12_copy_b138 _ 251 _ _ _ _ _ _ _ σ = _
      unfold X12_copy_b138
      rw [if_neg (nI_ge (by omega) (by omega)), if_pos rfl]
      unfold X12_copy_b162
      have e1 : nI c - 1 = nI (c - 1) := nI_sub (b := 1) (by omega)
      rw [show (40 : Int32) = nI 40 from rfl, nI_mul, nI_mul, nI_add, nI_add, e1, nI_sub (by omega), nI_add, nI_add, gdx_n (by omega) (by omega), gdx_n (by omega) (by omega), nI_1, nc_n (by omega), nc_n (by omega)]
      exact h1
    · rw [h3 q]
      by_cases c1 : q = 40 * s + j + (c - 1 - t)
      · subst c1
        rw [if_neg (by omega), if_pos (by omega), wr_at]
        congr 1
        omega
      · by_cases c2 : 40 * s + j ≤ q ∧ q < 40 * s + j + d
        · rw [if_pos c2, if_pos (by omega), wr_in _ _ (by omega)]
        · rw [if_neg c2, if_neg (by omega), wr_in _ _ c1]
theorem hold_neg (r : Nat) (v c : Int32) (σ : Mem) (hc : c < 0) : X8_holds 1 (nI r) v c σ = some 0 := by
  unfold X8_holds X8_holds_b0
  by_cases h1 : v < 0
  · rw [if_pos h1]
  · rw [if_neg h1, if_pos hc]
theorem lcmp_sum (a b n : Nat) (ha : a < 2 ^ 31) (hb : b < 2 ^ 31) (hn : n < 2 ^ 31) : (0 < lg_cmp ((nI a).toInt64 + (nI b).toInt64) (nI n).toInt64 ↔ n < a + b) ∧ (lg_cmp ((nI a).toInt64 + (nI b).toInt64) (nI n).toInt64 ≤ 0 ↔ a + b ≤ n) := by
  have e : ((nI a).toInt64 + (nI b).toInt64).toInt = (a : Int) + b := by
    rw [Int64.toInt_add, Int32.toInt_toInt64, Int32.toInt_toInt64, nI_toInt ha, nI_toInt hb, Int.bmod_eq_of_le (by omega) (by omega)]
  have e1 : 0 < lg_cmp ((nI a).toInt64 + (nI b).toInt64) (nI n).toInt64 ↔ n < a + b := by
    rw [lg_cmp_gt, Int64.lt_iff_toInt_lt, e, Int32.toInt_toInt64, nI_toInt hn]
    omega
  refine ⟨e1, ?_⟩
  rw [← Int32.not_lt, e1]
  omega
/-- what the model's copy does -/
theorem mcopy_s (r s : Nat) (hr : r < 8) (hs : s < 8) (v2 v4 v5 : Int32) (τ : Mem) (e2 : X12_isRow (nI r) = 1) (e3 : X12_isRow (nI s) = 1) :
    (τ 252 r = -1 ∨ τ 252 s = -1 → X12_copy 251 (nI r) v2 (nI s) v4 v5 τ = some ((-1000010) - 1, wr τ 251 0 1)) ∧
    ∀ l l' n n' : Nat, l ≤ 2 → l' ≤ 2 → n ≤ 40 → n' ≤ 40 → τ 252 r = nI l → τ 252 s = nI l' → τ 253 r = nI n → τ 253 s = nI n' →
      (l ≠ l' → X12_copy 251 (nI r) v2 (nI s) v4 v5 τ = some ((-1000010) - 5, wr τ 251 0 5)) ∧
      (l = l' → (v2 < 0 ∨ v4 < 0 ∨ v5 < 0 → X12_copy 251 (nI r) v2 (nI s) v4 v5 τ = some ((-1000010) - 2, wr τ 251 0 2)) ∧
        ∀ i j c : Nat, i < 2 ^ 31 → j < 2 ^ 31 → c < 2 ^ 31 → v2 = nI i → v4 = nI j → v5 = nI c →
          (n < i + c ∨ n' < j + c → X12_copy 251 (nI r) v2 (nI s) v4 v5 τ = some ((-1000010) - 2, wr τ 251 0 2)) ∧
          (i + c ≤ n → j + c ≤ n' → ∃ τ', X12_copy 251 (nI r) v2 (nI s) v4 v5 τ = some (nI c, τ') ∧ (∀ q, q ≠ 254 → τ' q = wr τ 251 0 0 q) ∧ ∀ q, τ' 254 q = if 40 * s + j ≤ q ∧ q < 40 * s + j + c then τ 254 (40 * r + i + (q - (40 * s + j))) else τ 254 q)) := by
  have w : ∀ q, q ≠ 251 → (wr τ 251 0 0) q = τ q := fun q hq => wr_off _ _ _ hq
  have f1 : X12_copy_b40 251 (wr τ 251 0 0) = some ((-1000010) - 1, wr τ 251 0 1) := by
    show some ((-1000010) - 1, wr (wr τ 251 0 0) 251 0 1) = _
    rw [wr_wr]
  have f2 : X12_copy_b116 251 (wr τ 251 0 0) = some ((-1000010) - 2, wr τ 251 0 2) := by
    show some ((-1000010) - 2, wr (wr τ 251 0 0) 251 0 2) = _
    rw [wr_wr]
  have f5 : ob2 (X12_finding 251 5 (wr τ 251 0 0)) (fun r19 σ20 => some (r19, σ20)) = some ((-1000010) - 5, wr τ 251 0 5) := by
    show some ((-1000010) - 5, wr (wr τ 251 0 0) 251 0 5) = _
    rw [wr_wr]
  unfold X12_copy X12_copy_b0
  rw [if_neg (by rw [e2]; decide), if_neg (by rw [e3]; decide), letv_eq, gdx_n hr (by omega), gdx_n hs (by omega), gdx_n hr (by omega), gdx_n hs (by omega), gdx_n hr (by omega), gdx_n hs (by omega), nc_n (by omega), nc_n (by omega), f1, f2, f5, show 251 + 1 = 252 from rfl, show 251 + 2 = 253 from rfl, w 252 (by omega), w 253 (by omega)]
  refine ⟨fun hm => ?_, fun l l' n n' a1 a2 a3 a4 b1 b2 b3 b4 => ?_⟩
  · by_cases c1 : τ 252 r < 0
    · rw [if_pos c1]
    · rw [if_neg c1]
      rcases hm with hm | hm
      · rw [hm] at c1
        exact absurd (by decide) c1
      · rw [hm, if_neg (by decide)]
  · rw [b1, b2, b3, b4, if_neg (nI_nn (by omega)), if_pos (nI_ge0 (by omega))]
    refine ⟨fun hl => ?_, fun hl => ⟨fun hv => ?_, fun i j c hi hj hc d1 d2 d3 => ⟨fun hb => ?_, fun g1 g2 => ?_⟩⟩⟩
    · rw [if_neg (fun q => hl ((nI_inj (by omega) (by omega)).mp q))]
    · rw [if_pos (by rw [hl])]
      by_cases c1 : v2 < 0
      · rw [if_pos c1]
      · rw [if_neg c1]
        by_cases c2 : v4 < 0
        · rw [if_pos c2]
        · rw [if_neg c2, if_pos]
          rcases hv with q | q | q
          · exact absurd q c1
          · exact absurd q c2
          · exact q
    · subst d1 d2 d3
      rw [if_pos (by rw [hl]), if_neg (nI_nn hi), if_neg (nI_nn hj), if_neg (nI_nn hc)]
      by_cases c1 : n < i + c
      · rw [if_pos ((lcmp_sum i c n hi hc (by omega)).1.mpr c1)]
      · rw [if_neg (fun q => c1 ((lcmp_sum i c n hi hc (by omega)).1.mp q)), if_neg]
        intro q
        have := (lcmp_sum j c n' hj hc (by omega)).2.mp q
        omega
    · subst d1 d2 d3
      rw [if_pos (by rw [hl]), if_neg (nI_nn hi), if_neg (nI_nn hj), if_neg (nI_nn hc), if_neg (fun q => by have := (lcmp_sum i c n hi hc (by omega)).1.mp q; omega), if_pos ((lcmp_sum j c n' hj hc (by omega)).2.mpr (by omega))]
      unfold X12_copy_b133
      by_cases c1 : i < j
      · rw [if_pos (nI_lt c1 (by omega))]
        obtain ⟨τ', x1, x2, x3⟩ := cp_dn r i s j c hr hs (by omega) (by omega) (by omega) c 0 FU (wr τ 251 0 0) (by omega) (by unfold FU; omega)
        exact ⟨τ', x1, x2, fun q => by rw [x3 q, w 254 (by omega)]⟩
      · rw [if_neg (nI_nlt (by omega) (by omega))]
        obtain ⟨τ', x1, x2, x3⟩ := cp_up r i s j c hr hs (by omega) (by omega) (by omega) c 0 FU (wr τ 251 0 0) (by omega) (by unfold FU; omega)
        exact ⟨τ', x1, x2, fun q => by rw [x3 q, w 254 (by omega), Nat.add_zero]⟩
theorem row_l (v : Int32) (r : Nat) (hr : r < 8) (h : v = nI r) : X12_isRow v = 1 ∧ X11_isRow v = 1 := by
  rcases h_isRow v with ⟨a, b⟩ | ⟨q, _, _, a, b⟩
  · exfalso
    subst h
    rw [show X11_isRow (nI r) = 1 by
      unfold X11_isRow X11_isRow_b0
      rw [if_neg (nI_nn (by omega)), if_neg (show ¬ (8 : Int32) ≤ nI r from nI_ge (b := 8) hr (by omega))]] at a
    exact absurd a (by decide)
  · exact ⟨b, a⟩
theorem op_copy (σ : Mem) (h : IRow σ) (hs : σ 0 11 = σ 251 0) (v1 v2 v3 v4 v5 : Int32) : ∃ (r : Int32) (σ1 σ2 : Mem), X11_copy 0 v1 v2 v3 v4 v5 σ = some (r, σ1) ∧ X12_copy 251 v1 v2 v3 v4 v5 σ1 = some (r, σ2) ∧ IRow σ2 ∧ FrR σ σ2 ∧ σ2 0 11 = σ2 251 0 := by
  rcases h_isRow v1 with ⟨e1, e2⟩ | ⟨r, hr, rfl, e1, e2⟩
  · refine ⟨-1000001, σ, σ, ?_, ?_, h, FrR.rf σ, hs⟩
    · unfold X11_copy X11_copy_b0
      rw [if_pos e1]
    · unfold X12_copy X12_copy_b0
      rw [if_pos e2]
  rcases h_isRow v3 with ⟨e3, e4⟩ | ⟨s, hs', rfl, e3, e4⟩
  · refine ⟨-1000001, σ, σ, ?_, ?_, h, FrR.rf σ, hs⟩
    · unfold X11_copy X11_copy_b0
      rw [if_neg (by rw [e1]; decide), if_pos e3]
    · unfold X12_copy X12_copy_b0
      rw [if_neg (by rw [e2]; decide), if_pos e4]
  have b39 : X11_copy_b39 0 σ = some ((-1000010) - 1, wr σ 0 11 1) := rfl
  have b101 : X11_copy_b101 0 σ = some ((-1000010) - 2, wr σ 0 11 2) := rfl
  have b5 : ob2 (X11_finds 0 5 σ) (fun r18 σ19 => some (r18, σ19)) = some ((-1000010) - 5, wr σ 0 11 5) := rfl
  have w : ∀ (k : Int32) q, q ≠ 0 → (wr σ 0 11 k) q = σ q := fun k q hq => wr_off _ _ _ hq
  unfold X11_copy X11_copy_b0
  rw [if_neg (by rw [e1]; decide), if_neg (by rw [e3]; decide), show (0 : Nat) + 1 = 1 from rfl, missing_s r hr, ob_some, missing_s s hs', ob_some, b39, b101, b5]
  rcases h r hr with ⟨m1, m2⟩ | ⟨l, n, a1, a2, a3, a4, a5, a6, a7⟩
  · obtain ⟨q1, q2, q3⟩ := both_find 1 σ h
    refine ⟨(-1000010) - 1, wr σ 0 11 1, wr (wr σ 0 11 1) 251 0 1, ?_, (mcopy_s r s hr hs' v2 v4 v5 _ e2 e4).1 (Or.inl ?_), q1, q2, q3⟩
    · rw [if_pos m1]
      rfl
    · rw [w 1 252 (by omega), m2]
  have hm : ¬ σ 12 r = -1 := by rw [a5]; exact nI_nm1 (n := n) (by omega)
  rcases h s hs' with ⟨m1, m2⟩ | ⟨l', n', a1', a2', a3', a4', a5', a6', a7'⟩
  · obtain ⟨q1, q2, q3⟩ := both_find 1 σ h
    refine ⟨(-1000010) - 1, wr σ 0 11 1, wr (wr σ 0 11 1) 251 0 1, ?_, (mcopy_s r s hr hs' v2 v4 v5 _ e2 e4).1 (Or.inr ?_), q1, q2, q3⟩
    · rw [if_neg hm, if_pos m1]
      rfl
    · rw [w 1 252 (by omega), m2]
  have hm' : ¬ σ 12 s = -1 := by rw [a5']; exact nI_nm1 (n := n') (by omega)
  rw [if_neg hm, if_neg hm', if_pos rfl, if_pos rfl, gdx_n hr (by omega), gdx_n hs' (by omega), nc_n (by omega), nc_n (by omega), show 1 + 10 = 11 from rfl, a3, a3']
  by_cases hl : l = l'
  rotate_left
  · obtain ⟨q1, q2, q3⟩ := both_find 5 σ h
    refine ⟨(-1000010) - 5, wr σ 0 11 5, wr (wr σ 0 11 5) 251 0 5, ?_, ((mcopy_s r s hr hs' v2 v4 v5 _ e2 e4).2 l l' n n' a1 a1' a2 a2' ?_ ?_ ?_ ?_).1 hl, q1, q2, q3⟩
    · rw [if_neg (fun q => hl ((nI_inj (by omega) (by omega)).mp q))]
    · rw [w 5 252 (by omega), a4]
    · rw [w 5 252 (by omega), a4']
    · rw [w 5 253 (by omega), a6]
    · rw [w 5 253 (by omega), a6']
  subst hl
  rw [if_pos rfl]
  have M : ∀ k, _ := fun k => ((mcopy_s r s hr hs' v2 v4 v5 (wr σ 0 11 k) e2 e4).2 l l n n' a1 a1' a2 a2' (by rw [w k 252 (by omega), a4]) (by rw [w k 252 (by omega), a4']) (by rw [w k 253 (by omega), a6]) (by rw [w k 253 (by omega), a6'])).2 rfl
  have bad : X12_copy 251 (nI r) v2 (nI s) v4 v5 (wr σ 0 11 2) = some ((-1000010) - 2, wr (wr σ 0 11 2) 251 0 2) → ∃ (r_1 : Int32) (σ1 σ2 : Mem), (some ((-1000010 : Int32) - 2, wr σ 0 11 2)) = some (r_1, σ1) ∧ X12_copy 251 (nI r) v2 (nI s) v4 v5 σ1 = some (r_1, σ2) ∧ IRow σ2 ∧ FrR σ σ2 ∧ σ2 0 11 = σ2 251 0 := fun q => by
    obtain ⟨q1, q2, q3⟩ := both_find 2 σ h
    exact ⟨_, _, _, rfl, q, q1, q2, q3⟩
  by_cases h5 : v5 < 0
  · rw [hold_neg r v2 v5 σ h5, ob_some, if_pos rfl]
    exact bad ((M 2).1 (Or.inr (Or.inr h5)))
  obtain ⟨c, hc, rfl⟩ := i32_nat h5
  by_cases h2 : v2 < 0
  · rcases holds_s r n c hr a2 hc v2 σ a5 with ⟨_, i, rfl, _⟩ | ⟨b1, _⟩
    · exact absurd h2 (nI_nn (by omega))
    · rw [b1, ob_some, if_pos rfl]
      exact bad ((M 2).1 (Or.inl h2))
  obtain ⟨i, hi, rfl⟩ := i32_nat h2
  rcases holds_s r n c hr a2 hc (nI i) σ a5 with ⟨b1, i', b2, b3⟩ | ⟨b1, b2⟩
  rotate_left
  · rw [b1, ob_some, if_pos rfl]
    by_cases h4 : v4 < 0
    · exact bad ((M 2).1 (Or.inr (Or.inl h4)))
    · obtain ⟨j, hj, rfl⟩ := i32_nat h4
      refine bad (((M 2).2 i j c hi hj hc rfl rfl rfl).1 (Or.inl ?_))
      rcases b2 with b2 | ⟨i', y1, y2, y3⟩
      · exact absurd b2 (nI_nn hi)
      · rw [nI_inj hi y1] at y2
        omega
  rw [b1, ob_some, if_neg (by decide)]
  rw [nI_inj hi (by omega)] at b2
  subst b2
  by_cases h4 : v4 < 0
  · rcases holds_s s n' c hs' a2' hc v4 σ a5' with ⟨_, j, rfl, _⟩ | ⟨b1, _⟩
    · exact absurd h4 (nI_nn (by omega))
    · rw [b1, ob_some, if_pos rfl]
      exact bad ((M 2).1 (Or.inr (Or.inl h4)))
  obtain ⟨j, hj, rfl⟩ := i32_nat h4
  rcases holds_s s n' c hs' a2' hc (nI j) σ a5' with ⟨b1', j', b2, b3'⟩ | ⟨b1', b2⟩
  rotate_left
  · rw [b1', ob_some, if_pos rfl]
    refine bad (((M 2).2 i j c hi hj hc rfl rfl rfl).1 (Or.inr ?_))
    rcases b2 with b2 | ⟨i', y1, y2, y3⟩
    · exact absurd b2 (nI_nn hj)
    · rw [nI_inj hj y1] at y2
      omega
  rw [b1', ob_some, if_neg (by decide)]
  rw [nI_inj hj (by omega)] at b2
  subst b2
  rw [gdx_n hr (by omega), gdx_n hs' (by omega), letv_eq, gdc_n (by omega) (by omega) (by omega) (by omega), nc_n (by omega), nc_n (by omega), nc_n (by omega), show 1 + 1 + 1 + r = 3 + r by omega, show 1 + 1 + 1 + s = 3 + s by omega, w 0 (3 + r) (by omega), w 0 (3 + s) (by omega)]
  have M' : ∃ τ', X12_copy 251 (nI r) (nI i) (nI s) (nI j) (nI c) (wrF (wr σ 0 11 0) (3 + s) (va_cpy (σ (3 + r)) (σ (3 + s)) i j c)) = some (nI c, τ') ∧ (∀ q, q ≠ 254 → τ' q = wr (wrF (wr σ 0 11 0) (3 + s) (va_cpy (σ (3 + r)) (σ (3 + s)) i j c)) 251 0 0 q) ∧ ∀ q, τ' 254 q = if 40 * s + j ≤ q ∧ q < 40 * s + j + c then σ 254 (40 * r + i + (q - (40 * s + j))) else σ 254 q := by
    have w' : ∀ q, q ≠ 0 → q ≠ 3 + s → (wrF (wr σ 0 11 0) (3 + s) (va_cpy (σ (3 + r)) (σ (3 + s)) i j c)) q = σ q := fun q x1 x2 => by rw [wrF_ne _ _ x2, wr_off _ _ _ x1]
    obtain ⟨τ', x1, x2, x3⟩ := (((((mcopy_s r s hr hs' (nI i) (nI j) (nI c) (wrF (wr σ 0 11 0) (3 + s) (va_cpy (σ (3 + r)) (σ (3 + s)) i j c)) e2 e4).2 l l n n' a1 a1' a2 a2' (by rw [w' 252 (by omega) (by omega), a4]) (by rw [w' 252 (by omega) (by omega), a4']) (by rw [w' 253 (by omega) (by omega), a6]) (by rw [w' 253 (by omega) (by omega), a6'])).2 rfl).2 i j c hi hj hc rfl rfl rfl).2 b3 b3')
    exact ⟨τ', x1, x2, fun q => by rw [x3 q, w' 254 (by omega) (by omega)]⟩
  obtain ⟨τ', x1, x2, x3⟩ := M'
  have w' : ∀ q, q ≠ 0 → q ≠ 3 + s → q ≠ 251 → q ≠ 254 → τ' q = σ q := fun q y1 y2 y3 y4 => by rw [x2 q y4, wr_off _ _ _ y3, wrF_ne _ _ y2, wr_off _ _ _ y1]
  have ws : τ' (3 + s) = va_cpy (σ (3 + r)) (σ (3 + s)) i j c := by rw [x2 _ (by omega), wr_off _ _ _ (by omega), wrF_same]
  refine ⟨nI c, _, τ', rfl, x1, ?_, ⟨fun q y1 y2 y3 => w' q y1 (by omega) (by omega) (by omega), fun k hk => ?_, fun k hk => ?_⟩, ?_⟩
  · intro q hq
    rw [w' 12 (by omega) (by omega) (by omega) (by omega), w' 11 (by omega) (by omega) (by omega) (by omega), w' 252 (by omega) (by omega) (by omega) (by omega), w' 253 (by omega) (by omega) (by omega) (by omega)]
    by_cases cq : q = s
    · subst cq
      refine Or.inr ⟨l, n', a1', a2', a3', a4', a5', a6', fun k hk => ?_⟩
      rw [ws, x3]
      unfold va_cpy
      by_cases ck : j ≤ k ∧ k < j + c
      · rw [if_pos ck, if_pos (by omega), a7 _ (by omega)]
        congr 1
        omega
      · rw [if_neg ck, if_neg (by omega), a7' _ hk]
    · rw [w' (3 + q) (by omega) (by omega) (by omega) (by omega)]
      rcases h q hq with y | ⟨l1, n1, y1, y2, y3, y4, y5, y6, y7⟩
      · exact Or.inl y
      · refine Or.inr ⟨l1, n1, y1, y2, y3, y4, y5, y6, fun k hk => ?_⟩
        rw [x3, if_neg (by omega)]
        exact y7 k hk
  · rw [x2 0 (by omega), wr_off _ _ _ (by omega), wrF_ne _ _ (by omega), wr_in _ _ hk]
  · rw [x2 251 (by omega), wr_in _ _ hk, wrF_ne _ _ (by omega), wr_off _ _ _ (by omega)]
  · rw [x2 0 (by omega), x2 251 (by omega), wr_at, wr_off _ _ _ (by omega), wrF_ne _ _ (by omega), wr_at]
