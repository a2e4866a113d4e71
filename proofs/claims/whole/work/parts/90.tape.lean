/-! PURE: the tape. -/
theorem inr_s (v : Int32) (N : Nat) (hN : N < 2 ^ 31) : (∃ n : Nat, n ≤ N ∧ v = nI n ∧ X12_in v.toInt64 0 (lN N) = 1) ∨ (X12_in v.toInt64 0 (lN N) = 0 ∧ (v < 0 ∨ ∃ n : Nat, n < 2 ^ 31 ∧ v = nI n ∧ N < n)) := by
  rw [m_in, Int32.toInt_toInt64, l_lit N hN, l_0]
  by_cases h1 : v < 0
  · right
    refine ⟨if_neg (fun q => ?_), Or.inl h1⟩
    rw [Int32.lt_iff_toInt_lt] at h1
    have : (0 : Int32).toInt = 0 := by decide
    omega
  · obtain ⟨i, hi, rfl⟩ := i32_nat h1
    rw [nI_toInt hi]
    by_cases h2 : i ≤ N
    · left
      exact ⟨i, h2, rfl, if_pos (by omega)⟩
    · right
      exact ⟨if_neg (by omega), Or.inr ⟨i, hi, rfl, by omega⟩⟩
def ITape (σ : Mem) : Prop := ∃ t : Nat, t ≤ 130 ∧ σ 13 1 = nI t ∧ σ 251 10 = nI t ∧ ∀ i, i < t → σ 14 i = σ 259 i ∧ ∃ b : Nat, b ≤ 255 ∧ σ 14 i = nI b
/-- what feed leaves alone -/
def FrT (σ σ' : Mem) : Prop := (∀ q, q ≠ 13 → q ≠ 14 → q ≠ 251 → q ≠ 259 → σ' q = σ q) ∧ ∀ j, j ≠ 10 → σ' 251 j = σ 251 j
theorem op_feed (σ : Mem) (h : ITape σ) (v1 : Int32) : ∃ (r : Int32) (σ1 σ2 : Mem), X11_feed 0 v1 σ = some (r, σ1) ∧ X12_feed 251 v1 σ1 = some (r, σ2) ∧ ITape σ2 ∧ FrT σ σ2 := by
  obtain ⟨t, h1, h2, h3, h4⟩ := h
  unfold X11_feed X11_feed_b0 X12_feed X12_feed_b0
  rw [show (255 : Int64) = lN 255 from rfl, show (255 : Int32) = nI 255 from rfl, show (130 : Int32) = nI 130 from rfl]
  rcases inr_s v1 255 (by omega) with ⟨b, hb, rfl, e⟩ | ⟨e, e'⟩
  · rw [e]
    rw [if_neg (nI_nn (by omega)), if_pos (nI_le hb (by omega)), show 0 + 13 = 13 from rfl, h2]
    by_cases c : t = 130
    · subst c
      refine ⟨-1000003, σ, σ, ?_, ?_, ⟨130, h1, h2, h3, h4⟩, ⟨fun _ _ _ _ _ => rfl, fun _ _ => rfl⟩⟩
      · rw [if_neg (nI_nlt (by omega) (by omega))]
      · rw [if_neg (by decide), h3, if_pos rfl]
    · rw [if_pos (nI_lt (by omega) (by omega))]
      unfold X10_add X10_add_b0
      rw [h2, show (130 : Int32) = nI 130 from rfl, if_neg (nI_ge (by omega) (by omega)), gdx_n (by omega) (by omega), nc_n (by omega), letv_eq, letv_eq, show 13 + 1 = 14 from rfl]
      simp (disch := omega) only [wr_off, wr_at, h2, nI_1, ob2_some]
      refine ⟨_, _, wr (wr (wr (wr σ 14 t (nI b)) 13 1 (nI (t + 1))) 259 t (nI b)) 251 10 (nI (t + 1)), rfl, ?_, ⟨t + 1, by omega, ?_, ?_, fun i hi => ?_⟩, ⟨fun q x1 x2 x3 x4 => ?_, fun j hj => ?_⟩⟩
      · simp (disch := omega) only [wr_off, wr_at, h3, nI_inj, if_neg c, gdx_n, nc_n, letv_eq, nI_1, if_neg (show ¬ (1 : Int32) = 0 by decide)]
      · simp (disch := omega) only [wr_off, wr_at]
      · simp (disch := omega) only [wr_off, wr_at]
      · by_cases ci : i = t
        · subst ci
          simp (disch := omega) only [wr_off, wr_at]
          exact ⟨trivial, b, hb, rfl⟩
        · simp (disch := omega) only [wr_off, wr_in]
          exact h4 i (by omega)
      · simp (disch := omega) only [wr_off]
      · simp (disch := omega) only [wr_off, wr_in]
  · refine ⟨-1000001, σ, σ, ?_, ?_, ⟨t, h1, h2, h3, h4⟩, ⟨fun _ _ _ _ _ => rfl, fun _ _ => rfl⟩⟩
    · rcases e' with e' | ⟨n, a, rfl, b⟩
      · rw [if_pos e']
      · rw [if_neg (nI_nn a), if_neg (nI_ge b a)]
    · rw [e]
      rfl
