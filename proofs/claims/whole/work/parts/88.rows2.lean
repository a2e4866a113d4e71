/-! PURE: drop, set, copy. -/
theorem nI_nm1 {n : Nat} (h : n < 2 ^ 31) : ¬ nI n = -1 := fun e => nI_nn h (by rw [e]; decide)
theorem missing_s (r : Nat) (hr : r < 8) (σ : Mem) : X8_isMissing 1 (nI r) σ = some (if σ 12 r = -1 then 1 else 0) := by
  unfold X8_isMissing X8_isMissing_b0
  rw [gdx_n hr (by omega), nc_n (by omega)]
  show (if σ 12 r = -1 then some 1 else some 0) = _
  by_cases c : σ 12 r = -1
  · rw [if_pos c, if_pos c]
  · rw [if_neg c, if_neg c]
theorem op_drop (σ : Mem) (h : IRow σ) (hs : σ 0 11 = σ 251 0) (v1 : Int32) : ∃ (r : Int32) (σ1 σ2 : Mem), X11_drop 0 v1 σ = some (r, σ1) ∧ X12_drop 251 v1 σ1 = some (r, σ2) ∧ IRow σ2 ∧ FrR σ σ2 ∧ σ2 0 11 = σ2 251 0 := by
  unfold X11_drop X11_drop_b0 X12_drop X12_drop_b0
  rcases h_isRow v1 with ⟨e1, e2⟩ | ⟨r, hr, rfl, e1, e2⟩
  · refine ⟨-1000001, σ, σ, ?_, ?_, h, FrR.rf σ, hs⟩
    · rw [if_pos e1]
    · rw [if_pos e2]
  · rw [if_neg (by rw [e1]; decide), show (0 : Nat) + 1 = 1 from rfl, missing_s r hr, ob_some]
    rcases h r hr with ⟨m1, m2⟩ | ⟨l, n, a1, a2, a3, a4, a5, a6, a7⟩
    · obtain ⟨q1, q2, q3⟩ := both_find 1 σ h
      refine ⟨(-1000010) - 1, wr σ 0 11 1, wr (wr σ 0 11 1) 251 0 1, ?_, ?_, q1, q2, q3⟩
      · rw [if_pos m1]
        rfl
      · rw [if_neg (by rw [e2]; decide), letv_eq, gdx_n hr (by omega), nc_n (by omega), if_neg]
        · show some ((-1000010) - 1, wr (wr (wr σ 0 11 1) 251 0 0) 251 0 1) = _
          rw [wr_wr]
        · show ¬ 0 ≤ (wr (wr σ 0 11 1) 251 0 0) 252 r
          rw [wr_off _ _ _ (by omega), wr_off _ _ _ (by omega), m2]
          decide
    · refine ⟨nI n, wr (wr σ 0 11 0) 12 r (-1), wr (wr (wr (wr σ 0 11 0) 12 r (-1)) 251 0 0) 252 r (-1), ?_, ?_, ?_, ?_, ?_⟩
      · have hm : ¬ σ 12 r = -1 := by rw [a5]; exact nI_nm1 (n := n) (by omega)
        rw [if_neg hm, if_pos rfl]
        unfold X8_lose X8_lose_b0
        rw [gdx_n hr (by omega), letv_eq, gdx_n hr (by omega), nc_n (by omega)]
        show some ((wr σ 0 11 0) 12 r, _) = _
        rw [wr_off _ _ _ (by omega), a5]
      · rw [if_neg (by rw [e2]; decide), letv_eq, gdx_n hr (by omega), nc_n (by omega), if_pos]
        · rw [gdx_n hr (by omega), letv_eq, gdx_n hr (by omega)]
          show some ((wr (wr (wr (wr σ 0 11 0) 12 r (-1)) 251 0 0) 252 r (-1)) 253 r, _) = _
          rw [wr_off _ _ _ (by omega), wr_off _ _ _ (by omega), wr_off _ _ _ (by omega), wr_off _ _ _ (by omega), a6]
        · show 0 ≤ (wr (wr (wr σ 0 11 0) 12 r (-1)) 251 0 0) 252 r
          rw [wr_off _ _ _ (by omega), wr_off _ _ _ (by omega), wr_off _ _ _ (by omega), a4]
          exact nI_ge0 (by omega)
      · have e : ∀ q, q ≠ 0 → q ≠ 12 → q ≠ 251 → q ≠ 252 → (wr (wr (wr (wr σ 0 11 0) 12 r (-1)) 251 0 0) 252 r (-1)) q = σ q := fun q x1 x2 x3 x4 => by rw [wr_off _ _ _ x4, wr_off _ _ _ x3, wr_off _ _ _ x2, wr_off _ _ _ x1]
        intro q hq
        by_cases c : q = r
        · subst c
          left
          exact ⟨by rw [wr_off _ _ _ (by omega), wr_off _ _ _ (by omega), wr_at], by rw [wr_at]⟩
        · rw [e 11 (by omega) (by omega) (by omega) (by omega), e 253 (by omega) (by omega) (by omega) (by omega), e 254 (by omega) (by omega) (by omega) (by omega), e (3 + q) (by omega) (by omega) (by omega) (by omega), wr_in _ _ c, wr_off _ _ _ (by omega : 252 ≠ 251), wr_off _ _ _ (by omega : 252 ≠ 12), wr_off _ _ _ (by omega : 252 ≠ 0), wr_off _ _ _ (by omega : 12 ≠ 252), wr_off _ _ _ (by omega : 12 ≠ 251), wr_in _ _ c, wr_off _ _ _ (by omega : 12 ≠ 0)]
          exact h q hq
      · refine ⟨fun q x1 x2 x3 => ?_, fun j hj => ?_, fun j hj => ?_⟩
        · rw [wr_off _ _ _ (by omega), wr_off _ _ _ (by omega), wr_off _ _ _ (by omega), wr_off _ _ _ x1]
        · rw [wr_off _ _ _ (by omega), wr_off _ _ _ (by omega), wr_off _ _ _ (by omega), wr_in _ _ hj]
        · rw [wr_off _ _ _ (by omega), wr_in _ _ hj, wr_off _ _ _ (by omega), wr_off _ _ _ (by omega)]
      · rw [wr_off _ _ _ (by omega), wr_off _ _ _ (by omega), wr_off _ _ _ (by omega), wr_at, wr_off _ _ _ (by omega), wr_at]
theorem holds_s (r n c : Nat) (hr : r < 8) (hn : n ≤ 40) (hc : c < 2 ^ 31) (v : Int32) (σ : Mem) (h : σ 12 r = nI n) : (X8_holds 1 (nI r) v (nI c) σ = some 1 ∧ ∃ i : Nat, v = nI i ∧ i + c ≤ n) ∨ (X8_holds 1 (nI r) v (nI c) σ = some 0 ∧ (v < 0 ∨ ∃ i : Nat, i < 2 ^ 31 ∧ v = nI i ∧ n < i + c)) := by
  unfold X8_holds X8_holds_b0
  by_cases h1 : v < 0
  · right
    exact ⟨by rw [if_pos h1], Or.inl h1⟩
  · obtain ⟨i, hi, rfl⟩ := i32_nat h1
    rw [if_neg h1, if_neg (nI_nn hc), gdx_n hr (by omega), gdx_n hr (by omega), nc_n (by omega)]
    show ((if σ 12 r < nI c then some 0 else if σ 12 r - nI c < nI i then some 0 else some 1) = some 1 ∧ _) ∨ ((if σ 12 r < nI c then some 0 else if σ 12 r - nI c < nI i then some 0 else some 1) = some 0 ∧ _)
    rw [h]
    by_cases h2 : n < c
    · right
      exact ⟨by rw [if_pos (nI_lt h2 hc)], Or.inr ⟨i, hi, rfl, by omega⟩⟩
    · rw [if_neg (nI_nlt (by omega) (by omega)), nI_sub (by omega)]
      by_cases h3 : n - c < i
      · right
        exact ⟨by rw [if_pos (nI_lt h3 hi)], Or.inr ⟨i, hi, rfl, by omega⟩⟩
      · left
        exact ⟨by rw [if_neg (nI_nlt (by omega) (by omega))], i, rfl, by omega⟩
def cutL (l : Nat) (v : Int32) : Int32 := if l = 0 then i2b v else if l = 1 then i2s v else v
theorem write_s (r i l : Nat) (hr : r < 8) (hi : i < 40) (hl : l ≤ 2) (v : Int32) (σ : Mem) (h : σ 11 r = nI l) : X8_write 1 (nI r) (nI i) v σ = some (cutL l v, wr σ (3 + r) i (cutL l v)) := by
  unfold X8_write X8_write_b0
  rw [gdx_n hr (by omega), gdx_n hr (by omega), nc_n (by omega)]
  have e : ∀ w, X8_write_b33 1 (nI r) (nI i) w σ = some (w, wr σ (3 + r) i w) := fun w => by
    unfold X8_write_b33
    rw [gdx_n hr (by omega), gdx_n hi (by omega), nc_n (by omega), nc_n (by omega), show 1 + 1 + 1 + r = 3 + r by omega]
  show (if σ 11 r = 0 then _ else if σ 11 r = 1 then _ else _) = _
  rw [h, letv_eq, letv_eq, e, e, e]
  unfold cutL
  have c0 : nI l = 0 ↔ l = 0 := nI_inj (b := 0) (by omega) (by omega)
  have c1 : nI l = 1 ↔ l = 1 := nI_inj (b := 1) (by omega) (by omega)
  by_cases d0 : l = 0
  · rw [if_pos (c0.mpr d0), if_pos d0]
  · rw [if_neg (fun q => d0 (c0.mp q)), if_neg d0]
    by_cases d1 : l = 1
    · rw [if_pos (c1.mpr d1), if_pos d1]
    · rw [if_neg (fun q => d1 (c1.mp q)), if_neg d1]
theorem toInt_m1 {n : Nat} (h : n < 2 ^ 30) : (nI n - 1).toInt = (n : Int) - 1 := by
  rw [Int32.toInt_sub, nI_toInt (by omega)]
  have h1 : (1 : Int32).toInt = 1 := by decide
  rw [h1, Int.bmod_eq_of_le (by omega) (by omega)]
/-- the model's look at a place of n -/
theorem in_m1 (v : Int32) (n : Nat) (hn : n < 2 ^ 30) : (∃ i : Nat, i < n ∧ v = nI i ∧ X12_in v.toInt64 0 (nI n - 1).toInt64 = 1) ∨ (X12_in v.toInt64 0 (nI n - 1).toInt64 = 0 ∧ (v < 0 ∨ ∃ i : Nat, i < 2 ^ 31 ∧ v = nI i ∧ n ≤ i)) := by
  rw [m_in, Int32.toInt_toInt64, Int32.toInt_toInt64, toInt_m1 hn, l_0]
  by_cases h1 : v < 0
  · right
    refine ⟨if_neg (fun q => ?_), Or.inl h1⟩
    rw [Int32.lt_iff_toInt_lt] at h1
    have : (0 : Int32).toInt = 0 := by decide
    omega
  · obtain ⟨i, hi, rfl⟩ := i32_nat h1
    rw [nI_toInt hi]
    by_cases h2 : i < n
    · left
      exact ⟨i, h2, rfl, if_pos (by omega)⟩
    · right
      exact ⟨if_neg (by omega), Or.inr ⟨i, hi, rfl, by omega⟩⟩
theorem mset_s (r i l : Nat) (hr : r < 8) (hi : i < 40) (hl : l ≤ 2) (v : Int32) (σ : Mem) (h : σ 252 r = nI l) : (if σ 252 r = 0 then X12_set_b94 251 (nI r) (nI i) 254 ((40 * nI r) + nI i) (i2b v) σ else if σ 252 r = 1 then X12_set_b94 251 (nI r) (nI i) 254 ((40 * nI r) + nI i) (i2s v) σ else X12_set_b94 251 (nI r) (nI i) 254 ((40 * nI r) + nI i) v σ) = some (cutL l v, wr σ 254 (40 * r + i) (cutL l v)) := by
  have e : ∀ w, X12_set_b94 251 (nI r) (nI i) 254 ((40 * nI r) + nI i) w σ = some (w, wr σ 254 (40 * r + i) w) := fun w => by
    unfold X12_set_b94
    rw [show (40 : Int32) = nI 40 from rfl, nI_mul, nI_add, gdx_n (by omega) (by omega), letv_eq, gdx_n (by omega) (by omega), nc_n (by omega)]
    show some ((wr σ 254 (40 * r + i) w) 254 (40 * r + i), _) = _
    rw [wr_at]
  rw [h, e, e, e]
  unfold cutL
  have c0 : nI l = 0 ↔ l = 0 := nI_inj (b := 0) (by omega) (by omega)
  have c1 : nI l = 1 ↔ l = 1 := nI_inj (b := 1) (by omega) (by omega)
  by_cases d0 : l = 0
  · rw [if_pos (c0.mpr d0), if_pos d0]
  · rw [if_neg (fun q => d0 (c0.mp q)), if_neg d0]
    by_cases d1 : l = 1
    · rw [if_pos (c1.mpr d1), if_pos d1]
    · rw [if_neg (fun q => d1 (c1.mp q)), if_neg d1]
theorem op_set (σ : Mem) (h : IRow σ) (hs : σ 0 11 = σ 251 0) (v1 v2 v3 : Int32) : ∃ (r : Int32) (σ1 σ2 : Mem), X11_set 0 v1 v2 v3 σ = some (r, σ1) ∧ X12_set 251 v1 v2 v3 σ1 = some (r, σ2) ∧ IRow σ2 ∧ FrR σ σ2 ∧ σ2 0 11 = σ2 251 0 := by
  unfold X11_set X11_set_b0 X12_set X12_set_b0
  rcases h_isRow v1 with ⟨e1, e2⟩ | ⟨r, hr, rfl, e1, e2⟩
  · refine ⟨-1000001, σ, σ, ?_, ?_, h, FrR.rf σ, hs⟩
    · rw [if_pos e1]
    · rw [if_pos e2]
  · rw [if_neg (by rw [e1]; decide), show (0 : Nat) + 1 = 1 from rfl, missing_s r hr, ob_some]
    rcases h r hr with ⟨m1, m2⟩ | ⟨l, n, a1, a2, a3, a4, a5, a6, a7⟩
    · obtain ⟨q1, q2, q3⟩ := both_find 1 σ h
      refine ⟨(-1000010) - 1, wr σ 0 11 1, wr (wr σ 0 11 1) 251 0 1, ?_, ?_, q1, q2, q3⟩
      · rw [if_pos m1]
        rfl
      · rw [if_neg (by rw [e2]; decide), letv_eq, gdx_n hr (by omega), nc_n (by omega), if_neg]
        · show some ((-1000010) - 1, wr (wr (wr σ 0 11 1) 251 0 0) 251 0 1) = _
          rw [wr_wr]
        · show ¬ 0 ≤ (wr (wr σ 0 11 1) 251 0 0) 252 r
          rw [wr_off _ _ _ (by omega), wr_off _ _ _ (by omega), m2]
          decide
    · have hm : ¬ σ 12 r = -1 := by rw [a5]; exact nI_nm1 (n := n) (by omega)
      rw [if_neg hm, if_pos rfl]
      rcases holds_s r n 1 hr a2 (by omega) v2 σ a5 with ⟨b1, i, rfl, b2⟩ | ⟨b1, b2⟩
      · rw [show (1 : Int32) = nI 1 from rfl, b1, ob_some, if_neg (by decide)]
        have hx : σ 11 r = (wr σ 0 11 0) 11 r := by rw [wr_off _ _ _ (by omega)]
        rw [write_s r i l hr (by omega) a1 v3 (wr σ 0 11 0) (by rw [← hx]; exact a3), ob2_some]
        have P : ∀ q, q ≠ 0 → q ≠ 3 + r → q ≠ 251 → q ≠ 254 → (wr (wr (wr (wr σ 0 11 0) (3 + r) i (cutL l v3)) 251 0 0) 254 (40 * r + i) (cutL l v3)) q = σ q := fun q x1 x2 x3 x4 => by rw [wr_off _ _ _ x4, wr_off _ _ _ x3, wr_off _ _ _ x2, wr_off _ _ _ x1]
        refine ⟨cutL l v3, wr (wr σ 0 11 0) (3 + r) i (cutL l v3), wr (wr (wr (wr σ 0 11 0) (3 + r) i (cutL l v3)) 251 0 0) 254 (40 * r + i) (cutL l v3), rfl, ?_, ?_, ?_, ?_⟩
        · rw [if_neg (by rw [e2]; decide), letv_eq, gdx_n hr (by omega), gdx_n hr (by omega), gdx_n hr (by omega), gdx_n hr (by omega), nc_n (by omega)]
          have z1 : (wr (wr (wr σ 0 11 0) (3 + r) i (cutL l v3)) 251 0 0) 252 r = nI l := by rw [wr_off _ _ _ (by omega), wr_off _ _ _ (by omega), wr_off _ _ _ (by omega), a4]
          have z2 : (wr (wr (wr σ 0 11 0) (3 + r) i (cutL l v3)) 251 0 0) 253 r = nI n := by rw [wr_off _ _ _ (by omega), wr_off _ _ _ (by omega), wr_off _ _ _ (by omega), a6]
          rw [if_pos (show 0 ≤ (wr (wr (wr σ 0 11 0) (3 + r) i (cutL l v3)) 251 0 0) 252 r by rw [z1]; exact nI_ge0 (by omega)), if_neg]
          · exact mset_s r i l hr (by omega) a1 v3 _ z1
          · show ¬ X12_in (nI i).toInt64 0 ((wr (wr (wr σ 0 11 0) (3 + r) i (cutL l v3)) 251 0 0) 253 r - 1).toInt64 = 0
            rw [z2]
            rcases in_m1 (nI i) n (by omega) with ⟨_, _, _, y⟩ | ⟨_, y⟩
            · rw [y]
              decide
            · rcases y with y | ⟨i', y1, y2, y3⟩
              · exact absurd y (nI_nn (by omega))
              · rw [nI_inj (by omega) y1] at y2
                omega
        · intro q hq
          by_cases c : q = r
          · subst c
            right
            refine ⟨l, n, a1, a2, by rw [P 11 (by omega) (by omega) (by omega) (by omega)]; exact a3, by rw [P 252 (by omega) (by omega) (by omega) (by omega)]; exact a4, by rw [P 12 (by omega) (by omega) (by omega) (by omega)]; exact a5, by rw [P 253 (by omega) (by omega) (by omega) (by omega)]; exact a6, fun j hj => ?_⟩
            rw [wr_off _ _ _ (by omega : 3 + q ≠ 254), wr_off _ _ _ (by omega : 3 + q ≠ 251)]
            by_cases cj : j = i
            · subst cj
              rw [wr_at, wr_at]
            · rw [wr_in _ _ cj, wr_off _ _ _ (by omega), wr_in _ _ (by omega), wr_off _ _ _ (by omega), wr_off _ _ _ (by omega), wr_off _ _ _ (by omega)]
              exact a7 j hj
          · rw [P 11 (by omega) (by omega) (by omega) (by omega), P 252 (by omega) (by omega) (by omega) (by omega), P 12 (by omega) (by omega) (by omega) (by omega), P 253 (by omega) (by omega) (by omega) (by omega), P (3 + q) (by omega) (by omega) (by omega) (by omega)]
            rcases h q hq with y | ⟨l', n', y1, y2, y3, y4, y5, y6, y7⟩
            · exact Or.inl y
            · refine Or.inr ⟨l', n', y1, y2, y3, y4, y5, y6, fun j hj => ?_⟩
              rw [wr_in _ _ (by omega), wr_off _ _ _ (by omega), wr_off _ _ _ (by omega), wr_off _ _ _ (by omega)]
              exact y7 j hj
        · refine ⟨fun q x1 x2 x3 => P q x1 (by omega) (by omega) (by omega), fun j hj => ?_, fun j hj => ?_⟩
          · rw [wr_off _ _ _ (by omega), wr_off _ _ _ (by omega), wr_off _ _ _ (by omega), wr_in _ _ hj]
          · rw [wr_off _ _ _ (by omega), wr_in _ _ hj, wr_off _ _ _ (by omega), wr_off _ _ _ (by omega)]
        · rw [wr_off _ _ _ (by omega), wr_off _ _ _ (by omega), wr_off _ _ _ (by omega), wr_at, wr_off _ _ _ (by omega), wr_at]
      · rw [show (1 : Int32) = nI 1 from rfl, b1, ob_some, if_pos rfl]
        obtain ⟨q1, q2, q3⟩ := both_find 2 σ h
        refine ⟨(-1000010) - 2, wr σ 0 11 2, wr (wr σ 0 11 2) 251 0 2, rfl, ?_, q1, q2, q3⟩
        rw [if_neg (by rw [e2]; decide), letv_eq, gdx_n hr (by omega), gdx_n hr (by omega), nc_n (by omega)]
        have z1 : (wr (wr σ 0 11 2) 251 0 0) 252 r = nI l := by rw [wr_off _ _ _ (by omega), wr_off _ _ _ (by omega), a4]
        have z2 : (wr (wr σ 0 11 2) 251 0 0) 253 r = nI n := by rw [wr_off _ _ _ (by omega), wr_off _ _ _ (by omega), a6]
        rw [if_pos (show 0 ≤ (wr (wr σ 0 11 2) 251 0 0) 252 r by rw [z1]; exact nI_ge0 (by omega)), if_pos]
        · show some ((-1000010) - 2, wr (wr (wr σ 0 11 2) 251 0 0) 251 0 2) = _
          rw [wr_wr]
        · show X12_in v2.toInt64 0 ((wr (wr σ 0 11 2) 251 0 0) 253 r - 1).toInt64 = 0
          rw [z2]
          rcases in_m1 v2 n (by omega) with ⟨i, y1, rfl, y⟩ | ⟨y, _⟩
          · rcases b2 with b2 | ⟨i', w1, w2, w3⟩
            · exact absurd b2 (nI_nn (by omega))
            · rw [nI_inj (by omega) w1] at w2
              omega
          · exact y
