/-! PURE: whole, hand, run. -/
def FrM (σ σ' : Mem) : Prop := (∀ q, q ≠ 251 → (q < 256 ∨ 268 ≤ q ∨ q = 258 ∨ q = 259) → σ' q = σ q) ∧ ∀ j, j ≠ 25 → j ≠ 27 → σ' 251 j = σ 251 j
theorem FrM.rf (σ : Mem) : FrM σ σ := ⟨fun _ _ _ => rfl, fun _ _ _ => rfl⟩
theorem ans_s {σ τ : Mem} {B : Nat → Nat} (hF : FOK σ B) (hA : AtB σ 22 B) (ho : okB B) (hn0 : 0 < B 0) (hR : RwB (τ 255) 0 B) (w : Nat) (hw : w ≤ 8) : ∃ r τ', X11_answer 0 (nI w) σ = some r ∧ X12_whole 251 (nI w) τ = some (r, τ') ∧ FrM τ τ' := by
  have hn := ho.1
  have hl := ho.2.1
  have n3 : τ 255 0 = nI (B 0) := hR 0 (by omega)
  obtain ⟨_, f1, f2, f3⟩ := hF
  rcases f3 with ⟨f3, _⟩ | ⟨_, kk, h, M, f, mm, D, k1, k2, k3, k4, k5, k6, k7, k8, k9, k10, k11, k12, k13⟩
  · omega
  have hkk := hands_le (nrM_rf (far_self B)) k1
  have hhp : ∀ q, q < B 0 → h q < 2 ^ 31 := fun q hq => by have := k1.1.1.1 q hq; omega
  have h2n : 2 ^ B 0 ≤ 2 ^ 10 := Nat.pow_le_pow_right (by omega) hn
  have hth : X12_isThere 251 τ = some 1 := by
    rcases there (B 0) hn with ⟨c0, _⟩ | ⟨_, _, t2⟩
    · omega
    · exact t2 τ n3
  unfold X11_answer X11_answer_b0 X12_whole X12_whole_b0
  rw [hth, ob_some, if_neg (show ¬ (1 : Int32) = 0 by decide)]
  rcases (show w = 0 ∨ w = 1 ∨ w = 2 ∨ w = 3 ∨ w = 4 ∨ w = 5 ∨ w = 6 ∨ w = 7 ∨ w = 8 by omega) with rfl | rfl | rfl | rfl | rfl | rfl | rfl | rfl | rfl
  · obtain ⟨τ2, kk', h', g1, g2, g3, g4, g5⟩ := hands_s (k1 := 255) (by omega) ho hn0 (B 1) (by omega) τ hR (hR 1 (by omega))
    obtain ⟨u1, u2⟩ := HOK_uniq g2 k1
    refine ⟨nI kk, τ2, ?_, ?_, fun q x y => g5 q (by omega), fun j _ _ => by rw [g5 251 (by omega)]⟩
    · rw [if_pos (show nI 0 = 0 from rfl), show σ (0 + 175 + 1) 3 = _ from k3]
    · rw [if_pos (show nI 0 = 0 from rfl), show X12_layHands 251 (251 + 4) τ = _ from g1, ob2_some, u1]
  · obtain ⟨τ2, kk', h', g1, g2, g3, g4, g5⟩ := hands_s (k1 := 255) (by omega) ho hn0 (B 1) (by omega) τ hR (hR 1 (by omega))
    obtain ⟨u1, u2⟩ := HOK_uniq g2 k1
    subst u1
    refine ⟨nI (pc 10 D), τ2, ?_, ?_, fun q x y => g5 q (by omega), fun j _ _ => by rw [g5 251 (by omega)]⟩
    · rw [if_neg (show ¬ nI 1 = 0 by decide), if_pos (show nI 1 = 1 from rfl), show σ (0 + 175) 5 = _ from k12, bitc_s D k11.1]
    · rw [if_neg (show ¬ nI 1 = 0 by decide), if_pos (show nI 1 = 1 from rfl), show X12_layHands 251 (251 + 4) τ = _ from g1, ob2_some, doubts_s (h := h) (N := nrN (far B) (B 0) (B 1)) hn (by omega) (show τ2 255 0 = nI (B 0) by rw [g5 255 (by omega)]; exact n3) (fun q hq => ⟨by rw [g3 q hq, u2 q hq], hhp q hq⟩) (fun q hq => nrN_lt (far B) hn hq) g4 (Dbt_nr (nrNM (far B) (B 0) (B 1)) k11), ob_some]
  · obtain ⟨τ2, M', g1, g2, g3, g4, g5, g6, g7⟩ := mruns_s hR ho hn0
    have eM := OptM_uniq g2 k4
    subst eM
    refine ⟨nI (cn (B 0) M' (B 0) + 1), τ2, ?_, ?_, fun q x y => g6 q x (by omega), fun j x _ => g7 j x⟩
    · rw [if_neg (show ¬ nI 2 = 0 by decide), if_neg (show ¬ nI 2 = 1 by decide), if_pos (show nI 2 = 2 from rfl), show σ (0 + 175 + 17) 5 = _ from k5.1]
    · rw [if_neg (show ¬ nI 2 = 0 by decide), if_neg (show ¬ nI 2 = 1 by decide), if_pos (show nI 2 = 2 from rfl), g1, ob2_some]
  · obtain ⟨τ2, M', g1, g2, g3, g4, g5, g6, g7⟩ := mruns_s hR ho hn0
    have eM := OptM_uniq g2 k4
    subst eM
    refine ⟨nI (wt (wdf (far B) (B 0)) (B 2) (B 0) (B 0 - 1) M'), τ2, ?_, ?_, fun q x y => g6 q x (by omega), fun j x _ => g7 j x⟩
    · rw [if_neg (show ¬ nI 3 = 0 by decide), if_neg (show ¬ nI 3 = 1 by decide), if_neg (show ¬ nI 3 = 2 by decide), if_pos (show nI 3 = 3 from rfl), nc_0, show σ (0 + 175 + 17 + 1) 0 = _ from k6]
    · rw [if_neg (show ¬ nI 3 = 0 by decide), if_neg (show ¬ nI 3 = 1 by decide), if_neg (show ¬ nI 3 = 2 by decide), if_pos (show nI 3 = 3 from rfl), g1, ob2_some, g3]
  · obtain ⟨τ2, f', m', g1, g2, g3, g4, g5⟩ := mgrp_s ho hn0 hR
    obtain ⟨u1, u2⟩ := ChE_uniq k7 g2
    refine ⟨nI (B 0 - mm), τ2, ?_, ?_, fun q x y => g5 q (by omega), fun j _ _ => by rw [g5 251 (by omega)]⟩
    · rw [if_neg (show ¬ nI 4 = 0 by decide), if_neg (show ¬ nI 4 = 1 by decide), if_neg (show ¬ nI 4 = 2 by decide), if_neg (show ¬ nI 4 = 3 by decide), if_pos (show nI 4 = 4 from rfl), show σ (0 + 175) 4 = _ from k10]
    · rw [if_neg (show ¬ nI 4 = 0 by decide), if_neg (show ¬ nI 4 = 1 by decide), if_neg (show ¬ nI 4 = 2 by decide), if_neg (show ¬ nI 4 = 3 by decide), if_pos (show nI 4 = 4 from rfl), g1, ob2_some, u1]
  · refine ⟨nI (wid (far B) (B 0) (2 ^ B 0 - 1)), τ, ?_, ?_, FrM.rf τ⟩
    · rw [if_neg (show ¬ nI 5 = 0 by decide), if_neg (show ¬ nI 5 = 1 by decide), if_neg (show ¬ nI 5 = 2 by decide), if_neg (show ¬ nI 5 = 3 by decide), if_neg (show ¬ nI 5 = 4 by decide), if_pos (show nI 5 = 5 from rfl), show σ (0 + 22) 0 = _ from hA.1, shl_1 (B 0) (by omega), nI_p1 Nat.one_le_two_pow, show X5_widest (0 + 175 + 1 + 1) (nI (2 ^ B 0 - 1)) σ = _ from widest_s f1 hn (far20 ho) _ (by omega), ob_some]
    · rw [if_neg (show ¬ nI 5 = 0 by decide), if_neg (show ¬ nI 5 = 1 by decide), if_neg (show ¬ nI 5 = 2 by decide), if_neg (show ¬ nI 5 = 3 by decide), if_neg (show ¬ nI 5 = 4 by decide), if_pos (show nI 5 = 5 from rfl), show X12_allOf (251 + 4) τ = _ from allOf_s hn n3, ob_some, show X12_spreadOf (251 + 4) (nI (2 ^ B 0 - 1)) τ = _ from spread_s hR ho _ (by omega), ob_some]
  · refine ⟨nI (B 1), τ, ?_, ?_, FrM.rf τ⟩
    · rw [if_neg (show ¬ nI 6 = 0 by decide), if_neg (show ¬ nI 6 = 1 by decide), if_neg (show ¬ nI 6 = 2 by decide), if_neg (show ¬ nI 6 = 3 by decide), if_neg (show ¬ nI 6 = 4 by decide), if_neg (show ¬ nI 6 = 5 by decide), if_pos (show nI 6 = 6 from rfl), show σ (0 + 22) 1 = _ from hA.2.1]
    · rw [if_neg (show ¬ nI 6 = 0 by decide), if_neg (show ¬ nI 6 = 1 by decide), if_neg (show ¬ nI 6 = 2 by decide), if_neg (show ¬ nI 6 = 3 by decide), if_neg (show ¬ nI 6 = 4 by decide), if_neg (show ¬ nI 6 = 5 by decide), if_pos (show nI 6 = 6 from rfl)]
      unfold X12_whole_b123
      rw [show (1 : Int32) + nI 6 - 6 = nI 1 from rfl, gdx_n (by omega) (by omega), nc_n (by omega), show τ (251 + 4) 1 = nI (B 1) from hR 1 (by omega)]
  · refine ⟨nI (B 2), τ, ?_, ?_, FrM.rf τ⟩
    · rw [if_neg (show ¬ nI 7 = 0 by decide), if_neg (show ¬ nI 7 = 1 by decide), if_neg (show ¬ nI 7 = 2 by decide), if_neg (show ¬ nI 7 = 3 by decide), if_neg (show ¬ nI 7 = 4 by decide), if_neg (show ¬ nI 7 = 5 by decide), if_neg (show ¬ nI 7 = 6 by decide), if_pos (show nI 7 = 7 from rfl), show σ (0 + 22) 2 = _ from hA.2.2.1]
    · rw [if_neg (show ¬ nI 7 = 0 by decide), if_neg (show ¬ nI 7 = 1 by decide), if_neg (show ¬ nI 7 = 2 by decide), if_neg (show ¬ nI 7 = 3 by decide), if_neg (show ¬ nI 7 = 4 by decide), if_neg (show ¬ nI 7 = 5 by decide), if_neg (show ¬ nI 7 = 6 by decide), if_pos (show nI 7 = 7 from rfl)]
      unfold X12_whole_b123
      rw [show (1 : Int32) + nI 7 - 6 = nI 2 from rfl, gdx_n (by omega) (by omega), nc_n (by omega), show τ (251 + 4) 2 = nI (B 2) from hR 2 (by omega)]
  · obtain ⟨τ2, g1, g2, g3, g4⟩ := mwr_s ho hn0 hR k1 k11 k4
    refine ⟨nI (wall (B 0) kk D (fun j => msk (fun q => decide (h q = j)) (B 0)) (cn (B 0) M (B 0) + 1) (fps (B 0) M (B 0))).length, τ2, ?_, ?_, fun q x y => g3 q x (by omega), g4⟩
    · rw [if_neg (show ¬ nI 8 = 0 by decide), if_neg (show ¬ nI 8 = 1 by decide), if_neg (show ¬ nI 8 = 2 by decide), if_neg (show ¬ nI 8 = 3 by decide), if_neg (show ¬ nI 8 = 4 by decide), if_neg (show ¬ nI 8 = 5 by decide), if_neg (show ¬ nI 8 = 6 by decide), if_neg (show ¬ nI 8 = 7 by decide), if_pos (show nI 8 = 8 from rfl), show σ (0 + 175) 7 = _ from k13.1]
    · rw [if_neg (show ¬ nI 8 = 0 by decide), if_neg (show ¬ nI 8 = 1 by decide), if_neg (show ¬ nI 8 = 2 by decide), if_neg (show ¬ nI 8 = 3 by decide), if_neg (show ¬ nI 8 = 4 by decide), if_neg (show ¬ nI 8 = 5 by decide), if_neg (show ¬ nI 8 = 6 by decide), if_neg (show ¬ nI 8 = 7 by decide), if_pos (show nI 8 = 8 from rfl), g1, ob_some, g2.1]
theorem op_whole (σ : Mem) (h : InvF FOK σ) (v1 : Int32) : ∃ (r : Int32) (σ1 σ2 : Mem), X11_whole 0 v1 σ = some (r, σ1) ∧ X12_whole 251 v1 σ1 = some (r, σ2) ∧ InvF FOK σ2 := by
  have hI := h
  obtain ⟨B, m, L, I, h⟩ := h
  obtain ⟨r6, r7, r8⟩ := ref_rb h
  have n1 : σ 22 0 = nI (B 0) := r7.1
  have n2 : σ 255 0 = nI (B 0) := r8 0 (by omega)
  have hn := r6.1
  unfold X11_whole X11_whole_b0
  rcases there (B 0) hn with ⟨c0, t1, t2⟩ | ⟨c0, t1, t2⟩
  · refine ⟨-1000002, σ, σ, by rw [t1 σ n1]; rfl, ?_, hI⟩
    unfold X12_whole X12_whole_b0
    rw [t2 σ n2]
    rfl
  rw [t1 σ n1, if_pos rfl]
  rcases in_r v1 0 8 (by omega) (by omega) with ⟨w, a1, a2, rfl, a3⟩ | ⟨a3, a4⟩
  · obtain ⟨σ1, l1, l2, l3, l4, l5⟩ := look_s h
    obtain ⟨q6, q7, q8⟩ := ref_rb l3
    obtain ⟨r, σ2, e1, e2, e3⟩ := ans_s l2 q7 q6 c0 q8 w a2
    refine ⟨r, σ1, σ2, ?_, e2, ⟨B, m, L, I, Ref.mdl l3 e3.1 e3.2⟩⟩
    rw [if_neg (nI_nn (by omega)), if_pos (show nI w ≤ 8 from nI_le (b := 8) (by omega) (by omega)), l1, ob_some, e1, ob_some]
  · refine ⟨-1000001, σ, σ, ?_, ?_, hI⟩
    · rcases a4 with a4 | a4
      · rw [if_pos (show v1 < 0 from a4)]
      · rw [if_neg (show ¬ v1 ≤ 8 from fun q => Int32.not_lt.mpr q a4)]
        split <;> rfl
    · have hne : ∀ w : Nat, w ≤ 8 → ¬ v1 = nI w := fun w hw q => by
        rcases a4 with a4 | a4
        · rw [q] at a4
          exact nI_nn (show w < 2 ^ 31 by omega) a4
        · rw [q, nI_lt_iff (by omega) (by omega)] at a4
          omega
      unfold X12_whole X12_whole_b0
      rw [t2 σ n2, ob_some, if_neg (by decide), if_neg (show ¬ v1 = 0 from hne 0 (by omega)), if_neg (show ¬ v1 = 1 from hne 1 (by omega)), if_neg (show ¬ v1 = 2 from hne 2 (by omega)), if_neg (show ¬ v1 = 3 from hne 3 (by omega)), if_neg (show ¬ v1 = 4 from hne 4 (by omega)), if_neg (show ¬ v1 = 5 from hne 5 (by omega)), if_neg (show ¬ v1 = 6 from hne 6 (by omega)), if_neg (show ¬ v1 = 7 from hne 7 (by omega)), if_neg (show ¬ v1 = 8 from hne 8 (by omega))]
/-- a number below another, on both sides -/
theorem blw (v : Int32) (k : Nat) (hk : k < 2 ^ 31) : (∃ i : Nat, i < k ∧ v = nI i ∧ X12_in v.toInt64 0 (Int32.toInt64 (nI k - 1)) = 1) ∨ ((v < 0 ∨ nI k ≤ v) ∧ X12_in v.toInt64 0 (Int32.toInt64 (nI k - 1)) = 0) := by
  by_cases h0 : v < 0
  · right
    refine ⟨Or.inl h0, ?_⟩
    rw [m_in, Int32.toInt_toInt64, l_0]
    refine if_neg (fun q => ?_)
    rw [Int32.lt_iff_toInt_lt] at h0
    have : (0 : Int32).toInt = 0 := by decide
    omega
  · obtain ⟨p, hp, rfl⟩ := i32_nat h0
    have key : X12_in (nI p).toInt64 0 (Int32.toInt64 (nI k - 1)) = if p < k then 1 else 0 := by
      rw [m_in, Int32.toInt_toInt64, Int32.toInt_toInt64, l_0, nI_toInt hp]
      cases k with
      | zero => rw [show (nI 0 - 1 : Int32).toInt = -1 from rfl, if_neg (by omega), if_neg (by omega)]
      | succ k =>
        rw [nI_s1, nI_toInt (by omega)]
        by_cases c : p < k + 1
        · rw [if_pos c, if_pos (by omega)]
        · rw [if_neg c, if_neg (by omega)]
    by_cases c : p < k
    · exact Or.inl ⟨p, c, rfl, by rw [key, if_pos c]⟩
    · exact Or.inr ⟨Or.inr (nI_le (by omega) hp), by rw [key, if_neg c]⟩
theorem ne3 {v : Int32} (h : v < 0 ∨ nI 2 < v) (w : Nat) (hw : w ≤ 2) : ¬ v = nI w := fun q => by
  rcases h with h | h
  · rw [q] at h
    exact nI_nn (show w < 2 ^ 31 by omega) h
  · rw [q, nI_lt_iff (by omega) (by omega)] at h
    omega
theorem op_hand (σ : Mem) (h : InvF FOK σ) (v1 v2 : Int32) : ∃ (r : Int32) (σ1 σ2 : Mem), X11_hand 0 v1 v2 σ = some (r, σ1) ∧ X12_hand 251 v1 v2 σ1 = some (r, σ2) ∧ InvF FOK σ2 := by
  obtain ⟨B, m, L, I, h⟩ := h
  obtain ⟨σ1, l1, l2, l3, l4, l5⟩ := look_s h
  obtain ⟨q6, q7, q8⟩ := ref_rb l3
  have n3 : σ1 255 0 = nI (B 0) := q8 0 (by omega)
  have hn := q6.1
  have hl := q6.2.1
  obtain ⟨_, f1, f2, f3⟩ := id l2
  unfold X11_hand X11_hand_b0 X12_hand X12_hand_b0
  rw [l1, ob_some]
  rcases f3 with ⟨hn0, g1, _⟩ | ⟨hn0, kk, h, M, f, mm, D, k1, k2, k3, k4, k5, k6, k7, k8, k9, k10, k11, k12, k13⟩
  · -- no book
    have t2 : X12_isThere 251 σ1 = some 0 := by
      rcases there (B 0) hn with ⟨_, _, t2⟩ | ⟨c0, _⟩
      · exact t2 σ1 n3
      · omega
    refine ⟨-1000001, σ1, σ1, ?_, ?_, ⟨B, m, L, I, l3⟩⟩
    · rw [show σ1 (0 + 175 + 1) 3 = 0 from g1]
      by_cases c : v1 < 0
      · rw [if_pos c]
      · rw [if_neg c, if_pos (Int32.not_lt.mp c)]
    · rw [t2, ob_some, if_pos rfl]
      unfold X12_hand_b19
      rcases blw v1 0 (by omega) with ⟨i, hi, _⟩ | ⟨_, e⟩
      · omega
      · rw [show X12_in v1.toInt64 0 (Int32.toInt64 (0 - 1)) = 0 from e, if_pos rfl]
  · have t2 : X12_isThere 251 σ1 = some 1 := by
      rcases there (B 0) hn with ⟨c0, _⟩ | ⟨_, _, t2⟩
      · omega
      · exact t2 σ1 n3
    have hkk := hands_le (nrM_rf (far_self B)) k1
    have hhp : ∀ q, q < B 0 → h q < 2 ^ 31 := fun q hq => by have := k1.1.1.1 q hq; omega
    obtain ⟨σ2, kk', h', g1, g2, g3, g4, g5⟩ := hands_s (k1 := 255) (by omega) q6 hn0 (B 1) (by omega) σ1 q8 (q8 1 (by omega))
    obtain ⟨u1, u2⟩ := HOK_uniq g2 k1
    subst u1
    have hI2 : InvF FOK σ2 := ⟨B, m, L, I, Ref.mdl l3 (fun q x y => g5 q (by omega)) (fun j _ _ => by rw [g5 251 (by omega)])⟩
    have hR2 : RwB (σ2 255) 0 B := by rw [g5 255 (by omega)]; exact q8
    rw [show σ1 (0 + 175 + 1) 3 = _ from k3]
    have hm : X12_hand_b0 251 v1 v2 σ1 = X12_hand_b19 251 v1 v2 (nI kk') σ2 := by
      unfold X12_hand_b0
      rw [t2, ob_some, if_neg (by decide), show X12_layHands 251 (251 + 4) σ1 = _ from g1, ob2_some]
    unfold X12_hand_b0 at hm
    rcases blw v1 kk' (by omega) with ⟨i, hi, rfl, e⟩ | ⟨hb, e⟩
    · have hS : msk (fun q => decide (h q = i)) (B 0) < 2 ^ 10 := Nat.lt_of_lt_of_le (msk_lt _ (B 0)) (Nat.pow_le_pow_right (by omega) hn)
      have hpg : X12_pagesOf 251 (nI i) σ2 = some (nI (msk (fun q => decide (h q = i)) (B 0))) := pagesOf_s hn (hR2 0 (by omega)) (fun q hq => ⟨by rw [g3 q hq, u2 q hq], hhp q hq⟩) i (by omega)
      rw [if_neg (nI_nn (by omega)), if_neg (show ¬ nI kk' ≤ nI i by rw [nI_le_iff (by omega) (by omega)]; omega), gdx_n (by omega) (by omega), letv_eq, nc_n (by omega), show σ1 (0 + 175 + 1 + 15) i = _ from k2.2 i (by omega)]
      rcases in_r v2 0 2 (by omega) (by omega) with ⟨w, a1, a2, rfl, a3⟩ | ⟨a3, a4⟩
      · rw [if_neg (nI_nn (by omega)), if_pos (show nI w ≤ 2 from nI_le (b := 2) (by omega) (by omega))]
        rcases (show w = 0 ∨ w = 1 ∨ w = 2 by omega) with rfl | rfl | rfl
        · refine ⟨_, σ1, σ2, by rw [if_pos (show nI 0 = 0 from rfl)], ?_, hI2⟩
          rw [hm]
          unfold X12_hand_b19
          rw [e, if_neg (by decide), if_pos (show nI 0 = 0 from rfl), hpg, ob_some]
        · refine ⟨nI (wid (far B) (B 0) (msk (fun q => decide (h q = i)) (B 0))), σ1, σ2, ?_, ?_, hI2⟩
          · rw [if_neg (show ¬ nI 1 = 0 by decide), if_pos (show nI 1 = 1 from rfl), show X5_widest (0 + 175 + 1 + 1) _ σ1 = _ from widest_s f1 hn (far20 q6) _ (by omega), ob_some]
          · rw [hm]
            unfold X12_hand_b19
            rw [e, if_neg (by decide), if_neg (show ¬ nI 1 = 0 by decide), if_pos (show nI 1 = 1 from rfl), hpg, ob_some, show X12_spreadOf (251 + 4) _ σ2 = _ from spread_s hR2 q6 _ (by omega), ob_some]
        · obtain ⟨p, p1, p2⟩ := hands_used k1 i hi
          obtain ⟨r, m1, m2⟩ := mid_s q6 (ρ := σ1) hR2 f1 (msk (fun q => decide (h q = i)) (B 0)) (by omega) (B 0) 0 FU FU (-1000000) 0 0 (-1000000) (by omega) (by unfold FU; omega) (by unfold FU; omega) (Or.inl ⟨rfl, rfl, p, by omega, p1, by rw [msk_bit]; simp [p1, p2]⟩)
          refine ⟨r, σ1, σ2, ?_, ?_, hI2⟩
          · rw [if_neg (show ¬ nI 2 = 0 by decide), if_neg (show ¬ nI 2 = 1 by decide)]
            rw [show X5_middle (0 + 175 + 1 + 1) (nI (msk (fun q => decide (h q = i)) (B 0))) σ1 = some r from m1, ob_some]
          · rw [hm]
            unfold X12_hand_b19
            rw [e, if_neg (by decide), if_neg (show ¬ nI 2 = 0 by decide), if_neg (show ¬ nI 2 = 1 by decide), if_pos (show nI 2 = 2 from rfl), hpg, ob_some, show X12_middleOf 251 (nI (msk (fun q => decide (h q = i)) (B 0))) σ2 = some r from m2, ob_some]
      · refine ⟨-1000001, σ1, σ2, ?_, ?_, hI2⟩
        · rcases a4 with a4 | a4
          · rw [if_pos (show v2 < 0 from a4)]
          · rw [if_neg (show ¬ v2 ≤ 2 from fun q => Int32.not_lt.mpr q a4)]
            split <;> rfl
        · rw [hm]
          unfold X12_hand_b19
          rw [e, if_neg (by decide), if_neg (show ¬ v2 = 0 from ne3 a4 0 (by omega)), if_neg (show ¬ v2 = 1 from ne3 a4 1 (by omega)), if_neg (show ¬ v2 = 2 from ne3 a4 2 (by omega))]
    · refine ⟨-1000001, σ1, σ2, ?_, ?_, hI2⟩
      · rcases hb with hb | hb
        · rw [if_pos hb]
        · rw [if_pos hb]
          split <;> rfl
      · rw [hm]
        unfold X12_hand_b19
        rw [e, if_pos rfl]
/-- where run j begins -/
def fpp (n M j : Nat) : Nat := if j = 0 then 0 else if j = cn n M n + 1 then n else fps n M n j
theorem fpp_s {σ : Mem} {k n M : Nat} (h : Beg σ k n M n) (h2 : σ k (cn n M n + 1) = nI n) (j : Nat) (hj : j ≤ cn n M n + 1) : σ k j = nI (fpp n M j) := by
  unfold fpp
  by_cases c : j = 0
  · rw [if_pos c, c]
    exact h 0 (by omega) (Or.inl rfl)
  · rw [if_neg c]
    by_cases c2 : j = cn n M n + 1
    · rw [if_pos c2, c2]
      exact h2
    · rw [if_neg c2]
      exact Beg_F h j (by omega) (by omega)
theorem fpp_le {n M j : Nat} (hj : j ≤ cn n M n) : fpp n M j ≤ fpp n M (j + 1) ∧ fpp n M (j + 1) ≤ n := by
  have pos : ∀ t, 1 ≤ t → t ≤ cn n M n → ∃ u, 0 < u ∧ u ≤ n ∧ cutb n M u = true ∧ cn n M u = t ∧ fpp n M t = u := by
    intro t h1 h2
    obtain ⟨u, u1, u2, u3, u4⟩ := cn_ex n M n t h1 h2
    refine ⟨u, u1, u2, u3, u4, ?_⟩
    unfold fpp
    rw [if_neg (by omega), if_neg (by omega), ← u4]
    exact fps_s u1 u3 n u2
  by_cases c2 : j + 1 = cn n M n + 1
  · have e : fpp n M (j + 1) = n := by
      unfold fpp
      rw [if_neg (by omega), if_pos c2]
    rw [e]
    refine ⟨?_, Nat.le_refl n⟩
    by_cases c : j = 0
    · rw [c]
      exact Nat.zero_le _
    · obtain ⟨u, _, u2, _, _, u5⟩ := pos j (by omega) hj
      rw [u5]
      exact u2
  · obtain ⟨v, v1, v2, v3, v4, v5⟩ := pos (j + 1) (by omega) (by omega)
    rw [v5]
    refine ⟨?_, v2⟩
    by_cases c : j = 0
    · rw [c]
      exact Nat.zero_le _
    · obtain ⟨u, _, u2, _, u4, u5⟩ := pos j (by omega) hj
      rw [u5]
      have := (cn_cut (p := u) v1 v3).mpr (by omega)
      omega
theorem shl_rm : ∀ a : Nat, a < 11 → ∀ b : Nat, b < 11 → a ≤ b → shl (shl 1 (nI (b - a)) - 1) (nI a) = nI (2 ^ b - 2 ^ a) := by decide
theorem op_run (σ : Mem) (h : InvF FOK σ) (v1 v2 : Int32) : ∃ (r : Int32) (σ1 σ2 : Mem), X11_run 0 v1 v2 σ = some (r, σ1) ∧ X12_run 251 v1 v2 σ1 = some (r, σ2) ∧ InvF FOK σ2 := by
  obtain ⟨B, m, L, I, h⟩ := h
  obtain ⟨σ1, l1, l2, l3, l4, l5⟩ := look_s h
  obtain ⟨q6, q7, q8⟩ := ref_rb l3
  have n3 : σ1 255 0 = nI (B 0) := q8 0 (by omega)
  have hn := q6.1
  obtain ⟨_, f1, f2, f3⟩ := id l2
  unfold X11_run X11_run_b0 X12_run X12_run_b0
  rw [l1, ob_some]
  rcases f3 with ⟨hn0, _, g1⟩ | ⟨hn0, kk, h, M, f, mm, D, k1, k2, k3, k4, k5, k6, k7, k8, k9, k10, k11, k12, k13⟩
  · have t2 : X12_isThere 251 σ1 = some 0 := by
      rcases there (B 0) hn with ⟨_, _, t2⟩ | ⟨c0, _⟩
      · exact t2 σ1 n3
      · omega
    refine ⟨-1000001, σ1, σ1, ?_, ?_, ⟨B, m, L, I, l3⟩⟩
    · rw [show σ1 (0 + 175 + 17) 5 = 0 from g1]
      by_cases c : v1 < 0
      · rw [if_pos c]
      · rw [if_neg c, if_pos (Int32.not_lt.mp c)]
    · rw [t2, ob_some, if_pos rfl]
      unfold X12_run_b15
      rcases blw v1 0 (by omega) with ⟨i, hi, _⟩ | ⟨_, e⟩
      · omega
      · rw [show X12_in v1.toInt64 0 (Int32.toInt64 (0 - 1)) = 0 from e, if_pos rfl]
  · have t2 : X12_isThere 251 σ1 = some 1 := by
      rcases there (B 0) hn with ⟨c0, _⟩ | ⟨_, _, t2⟩
      · omega
      · exact t2 σ1 n3
    obtain ⟨σ2, M', g1, g2, g3, g4, g5, g6, g7⟩ := mruns_s q8 q6 hn0
    have eM := OptM_uniq g2 k4
    subst eM
    have hcn := cn_ten (M := M') hn hn0
    have hI2 : InvF FOK σ2 := ⟨B, m, L, I, Ref.mdl l3 (fun q x y => g6 q x (by omega)) (fun j x _ => g7 j x)⟩
    have hR2 : RwB (σ2 255) 0 B := by rw [g6 255 (by omega) (by omega)]; exact q8
    rw [show σ1 (0 + 175 + 17) 5 = _ from k5.1]
    have hm : X12_run_b0 251 v1 v2 σ1 = X12_run_b15 251 v1 v2 (nI (cn (B 0) M' (B 0) + 1)) σ2 := by
      unfold X12_run_b0
      rw [t2, ob_some, if_neg (by decide), g1, ob2_some]
    unfold X12_run_b0 at hm
    rcases blw v1 (cn (B 0) M' (B 0) + 1) (by omega) with ⟨i, hi, rfl, e⟩ | ⟨hb, e⟩
    · obtain ⟨o1, o2⟩ := fpp_le (n := B 0) (M := M') (j := i) (by omega)
      have hm2 : X12_run_b15 251 (nI i) v2 (nI (cn (B 0) M' (B 0) + 1)) σ2 = if v2 = 0 then some (nI (fpp (B 0) M' i), σ2) else if v2 = 1 then some (nI (fpp (B 0) M' (i + 1)) - nI (fpp (B 0) M' i), σ2) else if v2 = 2 then ob (X12_spreadOf (251 + 4) (shl (shl 1 (nI (fpp (B 0) M' (i + 1)) - nI (fpp (B 0) M' i)) - 1) (nI (fpp (B 0) M' i))) σ2) (fun r10 => some (r10, σ2)) else some (-1000001, σ2) := by
        unfold X12_run_b15
        rw [e, if_neg (by decide), nI_1]
        simp (disch := omega) only [gdx_n, nc_n, letv_eq]
        rw [show σ2 (251 + 15) (i + 1) = _ from fpp_s g4 g5 (i + 1) (by omega), show σ2 (251 + 15) i = _ from fpp_s g4 g5 i (by omega)]
      rw [if_neg (nI_nn (by omega)), if_neg (show ¬ nI (cn (B 0) M' (B 0) + 1) ≤ nI i by rw [nI_le_iff (by omega) (by omega)]; omega), nI_1]
      simp (disch := omega) only [gdx_n, nc_n, letv_eq]
      rw [show σ1 (0 + 175 + 17 + 4) i = _ from fpp_s k5.2.2.1 k5.2.1 i (by omega), show σ1 (0 + 175 + 17 + 4) (i + 1) = _ from fpp_s k5.2.2.1 k5.2.1 (i + 1) (by omega)]
      rcases in_r v2 0 2 (by omega) (by omega) with ⟨w, a1, a2, rfl, a3⟩ | ⟨a3, a4⟩
      · rw [if_neg (nI_nn (by omega)), if_pos (show nI w ≤ 2 from nI_le (b := 2) (by omega) (by omega))]
        rcases (show w = 0 ∨ w = 1 ∨ w = 2 by omega) with rfl | rfl | rfl
        · exact ⟨_, σ1, σ2, by rw [if_pos (show nI 0 = 0 from rfl)], by rw [hm, hm2, if_pos (show nI 0 = 0 from rfl)], hI2⟩
        · exact ⟨_, σ1, σ2, by rw [if_neg (show ¬ nI 1 = 0 by decide), if_pos (show nI 1 = 1 from rfl)], by rw [hm, hm2, if_neg (show ¬ nI 1 = 0 by decide), if_pos (show nI 1 = 1 from rfl)], hI2⟩
        · have hp1 : 2 ^ fpp (B 0) M' i ≤ 2 ^ fpp (B 0) M' (i + 1) := Nat.pow_le_pow_right (by omega) o1
          have hp2 : 2 ^ fpp (B 0) M' (i + 1) ≤ 2 ^ 10 := Nat.pow_le_pow_right (by omega) (by omega)
          have hp3 : 2 ^ fpp (B 0) M' (i + 1) - 2 ^ fpp (B 0) M' i < 2 ^ 31 := Nat.lt_of_le_of_lt (Nat.sub_le _ _) (Nat.lt_of_le_of_lt hp2 (by decide))
          refine ⟨nI (wid (far B) (B 0) (2 ^ fpp (B 0) M' (i + 1) - 2 ^ fpp (B 0) M' i)), σ1, σ2, ?_, ?_, hI2⟩
          · rw [if_neg (show ¬ nI 2 = 0 by decide), if_neg (show ¬ nI 2 = 1 by decide), shl_1 _ (by omega), shl_1 _ (by omega), nI_sub hp1, show X5_widest (0 + 175 + 1 + 1) _ σ1 = _ from widest_s f1 hn (far20 q6) _ hp3, ob_some]
          · rw [hm, hm2, if_neg (show ¬ nI 2 = 0 by decide), if_neg (show ¬ nI 2 = 1 by decide), if_pos (show nI 2 = 2 from rfl), nI_sub o1, shl_rm _ (by omega) _ (by omega) o1, show X12_spreadOf (251 + 4) _ σ2 = _ from spread_s hR2 q6 _ hp3, ob_some]
      · refine ⟨-1000001, σ1, σ2, ?_, ?_, hI2⟩
        · rcases a4 with a4 | a4
          · rw [if_pos (show v2 < 0 from a4)]
          · rw [if_neg (show ¬ v2 ≤ 2 from fun q => Int32.not_lt.mpr q a4)]
            split <;> rfl
        · rw [hm, hm2, if_neg (show ¬ v2 = 0 from ne3 a4 0 (by omega)), if_neg (show ¬ v2 = 1 from ne3 a4 1 (by omega)), if_neg (show ¬ v2 = 2 from ne3 a4 2 (by omega))]
    · refine ⟨-1000001, σ1, σ2, ?_, ?_, hI2⟩
      · rcases hb with hb | hb
        · rw [if_pos hb]
        · rw [if_pos hb]
          split <;> rfl
      · rw [hm]
        unfold X12_run_b15
        rw [e, if_pos rfl]
