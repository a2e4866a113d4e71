/-! PURE: the tape read, on the model's side. -/
def TPm (τ : Mem) (t : Nat) (b : Nat → Nat) : Prop := t ≤ 130 ∧ τ 251 10 = nI t ∧ ∀ i, i < t → τ 259 i = nI (b i) ∧ b i ≤ 255
def isDg (b : Nat → Nat) (c : Nat) : Prop := 48 ≤ b c ∧ b c ≤ 57
/-- the token at c has been looked at -/
def TK (b : Nat → Nat) (t : Nat) (τ : Mem) (c : Nat) : Prop := τ 251 12 = nI c ∧ ((c = t ∧ τ 251 11 = nI c ∧ τ 251 13 = 1) ∨ (c < t ∧ 97 ≤ b c ∧ b c ≤ 122 ∧ τ 251 11 = nI (c + 1) ∧ τ 251 13 = 2 ∧ τ 251 14 = nI (b c)) ∨ (c < t ∧ isDg b c ∧ τ 251 11 = nI (c + figs b t c) ∧ ((figs b t c ≤ 2 ∧ τ 251 13 = 3 ∧ τ 251 14 = nI (num b t c)) ∨ (2 < figs b t c ∧ τ 251 13 = 0))) ∨ (c < t ∧ (b c = 44 ∨ b c = 59) ∧ τ 251 11 = nI (c + 1) ∧ τ 251 13 = 4 ∧ τ 251 14 = nI (b c)) ∨ (c < t ∧ ¬ isDg b c ∧ ¬ (97 ≤ b c ∧ b c ≤ 122) ∧ b c ≠ 44 ∧ b c ≠ 59 ∧ τ 251 11 = nI (c + 1) ∧ τ 251 13 = 0))
def FrN (τ τ' : Mem) : Prop := (∀ q, q ≠ 251 → τ' q = τ q) ∧ ∀ j, (j < 11 ∨ 16 < j) → τ' 251 j = τ 251 j
theorem FrN.rf (σ : Mem) : FrN σ σ := ⟨fun _ _ => rfl, fun _ _ => rfl⟩
theorem FrN.tr {a b c : Mem} (h : FrN a b) (h' : FrN b c) : FrN a c := ⟨fun q x => by rw [h'.1 q x, h.1 q x], fun j hj => by rw [h'.2 j hj, h.2 j hj]⟩
theorem TPm.fr {τ τ' : Mem} {t : Nat} {b : Nat → Nat} (h : TPm τ t b) (f : FrN τ τ') : TPm τ' t b := ⟨h.1, by rw [f.2 10 (by omega)]; exact h.2.1, fun i hi => by rw [f.1 259 (by omega)]; exact h.2.2 i hi⟩
theorem in_ab {x a b : Nat} (hx : x < 2 ^ 31) (ha : a < 2 ^ 31) (hb : b < 2 ^ 31) : X12_in (nI x).toInt64 (lN a) (lN b) = if a ≤ x ∧ x ≤ b then 1 else 0 := by
  rw [m_in, Int32.toInt_toInt64, nI_toInt hx, l_lit a ha, l_lit b hb]
  by_cases c : a ≤ x ∧ x ≤ b
  · rw [if_pos c, if_pos (by omega)]
  · rw [if_neg c, if_neg (by omega)]
/-- the figures of a number, from the second on -/
theorem dgl {t : Nat} {b : Nat → Nat} (c : Nat) (hd : isDg b c) : ∀ (d k m : Nat) (τ : Mem), d = t - (c + k) → c + k ≤ t → 1 ≤ k → d < m → figs b t c = k + figs b t (c + k) → TPm τ t b → τ 251 11 = nI (c + k) → τ 251 12 = nI c → τ 251 14 = nI (if k = 1 then b c - 48 else 10 * (b c - 48) + (b (c + 1) - 48)) → ∃ τ', X12_nextToken_l165 m 251 τ = some τ' ∧ τ' 251 12 = nI c ∧ τ' 251 11 = nI (c + figs b t c) ∧ ((figs b t c ≤ 2 ∧ τ' 251 13 = 3 ∧ τ' 251 14 = nI (num b t c)) ∨ (2 < figs b t c ∧ τ' 251 13 = 0)) ∧ τ' 251 15 = τ 251 15 ∧ FrN τ τ' := by
  unfold isDg at hd
  intro d
  induction d with
  | zero =>
    intro k m τ hk hkt hk1 hm hf hT h11 h12 h14
    obtain ⟨m, rfl⟩ : ∃ m', m = m' + 1 := ⟨m - 1, by omega⟩
    have ht := hT.1
    have hz : figs b t (c + k) = 0 := figs_end (by omega)
    rw [hz, Nat.add_zero] at hf
    show ∃ τ', X12_nextToken_b165 _ 251 τ = some τ' ∧ _
    unfold X12_nextToken_b165 X12_nextToken_b255
    rw [hT.2.1, h11, h12, if_pos (nI_le (by omega) (by omega)), nI_sub (by omega), show c + k - c = k by omega]
    by_cases e : k ≤ 2
    · rw [if_pos (show nI k ≤ 2 from nI_le (b := 2) e (by omega))]
      refine ⟨_, rfl, by rw [wr_in _ _ (by omega)]; exact h12, by rw [wr_in _ _ (by omega), hf]; exact h11, Or.inl ⟨by omega, wr_at _ _ _ _, ?_⟩, wr_in _ _ (by omega), fun q hq => wr_off _ _ _ hq, fun j hj => wr_in _ _ (by omega)⟩
      rw [wr_in _ _ (by omega), h14]
      unfold num
      rw [hf]
      by_cases e1 : k = 1
      · rw [if_pos e1, if_neg (by omega)]
      · rw [if_neg e1, if_pos (by omega)]
    · rw [if_neg (show ¬ nI k ≤ 2 by rw [show (2 : Int32) = nI 2 from rfl, nI_le_iff (by omega) (by omega)]; exact e)]
      exact ⟨_, rfl, by rw [wr_in _ _ (by omega)]; exact h12, by rw [wr_in _ _ (by omega), hf]; exact h11, Or.inr ⟨by omega, wr_at _ _ _ _⟩, wr_in _ _ (by omega), fun q hq => wr_off _ _ _ hq, fun j hj => wr_in _ _ (by omega)⟩
  | succ d ih =>
    intro k m τ hk hkt hk1 hm hf hT h11 h12 h14
    obtain ⟨m, rfl⟩ : ∃ m', m = m' + 1 := ⟨m - 1, by omega⟩
    have ht := hT.1
    obtain ⟨hb1, hb2⟩ := hT.2.2 (c + k) (by omega)
    obtain ⟨hc1, hc2⟩ := hT.2.2 c (by omega)
    by_cases hdk : 48 ≤ b (c + k) ∧ b (c + k) ≤ 57
    · have hf2 := figs_dg (b := b) (t := t) (c := c + k) (by omega) hdk
      -- the value after this figure
      have hgo : ∀ V : Nat, V = (if k + 1 = 1 then b c - 48 else 10 * (b c - 48) + (b (c + 1) - 48)) → X12_nextToken_l165 (m + 1) 251 τ = X12_nextToken_l165 m 251 (wr (wr τ 251 14 (nI V)) 251 11 (nI (c + (k + 1)))) → ∃ τ', X12_nextToken_l165 (m + 1) 251 τ = some τ' ∧ τ' 251 12 = nI c ∧ τ' 251 11 = nI (c + figs b t c) ∧ ((figs b t c ≤ 2 ∧ τ' 251 13 = 3 ∧ τ' 251 14 = nI (num b t c)) ∨ (2 < figs b t c ∧ τ' 251 13 = 0)) ∧ τ' 251 15 = τ 251 15 ∧ FrN τ τ' := by
        intro V hV he
        have f1 : FrN τ (wr (wr τ 251 14 (nI V)) 251 11 (nI (c + (k + 1)))) := ⟨fun q hq => by rw [wr_off _ _ _ hq, wr_off _ _ _ hq], fun j hj => by rw [wr_in _ _ (by omega), wr_in _ _ (by omega)]⟩
        obtain ⟨τ', q1, q2, q3, q4, q5, q6⟩ := ih (k + 1) m (wr (wr τ 251 14 (nI V)) 251 11 (nI (c + (k + 1)))) (by omega) (by omega) (by omega) (by omega) (by rw [hf, hf2, show c + (k + 1) = c + k + 1 by omega]; omega) (hT.fr f1) (wr_at _ _ _ _) (by rw [wr_in _ _ (by omega), wr_in _ _ (by omega)]; exact h12) (by rw [wr_in _ _ (by omega), wr_at, hV])
        exact ⟨τ', by rw [he]; exact q1, q2, q3, q4, by rw [q5, wr_in _ _ (by omega), wr_in _ _ (by omega)], f1.tr q6⟩
      by_cases e : 2 ≤ k
      · refine hgo (10 * (b c - 48) + (b (c + 1) - 48)) (by rw [if_neg (by omega)]) ?_
        rw [if_neg (show ¬ k = 1 by omega)] at h14
        show X12_nextToken_b165 _ 251 τ = _
        unfold X12_nextToken_b165 X12_nextToken_b239
        rw [hT.2.1, h11, h12, if_neg (show ¬ nI t ≤ nI (c + k) by rw [nI_le_iff (by omega) (by omega)]; omega), gdx_n (by omega) (by omega), nc_n (by omega), show τ (251 + 8) (c + k) = _ from hb1, show X12_in (nI (b (c + k))).toInt64 48 57 = _ from in_ab (a := 48) (b := 57) (by omega) (by omega) (by omega), if_pos hdk, if_neg (show ¬ (1 : Int32) = 0 by decide), nI_sub (by omega), show c + k - c = k by omega, if_pos (show (2 : Int32) ≤ nI k from nI_le (a := 2) e (by omega)), letv_eq, wr_in _ _ (by omega), h11, nI_1, h14]
        rfl
      · obtain rfl : k = 1 := by omega
        refine hgo (10 * (b c - 48) + (b (c + 1) - 48)) (by rw [if_neg (by omega)]) ?_
        rw [if_pos rfl] at h14
        show X12_nextToken_b165 _ 251 τ = _
        unfold X12_nextToken_b165 X12_nextToken_b239
        rw [hT.2.1, h11, h12, if_neg (show ¬ nI t ≤ nI (c + 1) by rw [nI_le_iff (by omega) (by omega)]; omega), gdx_n (by omega) (by omega), nc_n (by omega), show τ (251 + 8) (c + 1) = _ from hb1, show X12_in (nI (b (c + 1))).toInt64 48 57 = _ from in_ab (a := 48) (b := 57) (by omega) (by omega) (by omega), if_pos hdk, if_neg (show ¬ (1 : Int32) = 0 by decide), nI_sub (by omega), show c + 1 - c = 1 by omega, if_neg (show ¬ (2 : Int32) ≤ nI 1 by decide), gdx_n (by omega) (by omega), h14, letv_eq, wr_in _ _ (by omega), h11, nI_1, show (10 : Int32) = nI 10 from rfl, show (48 : Int32) = nI 48 from rfl, nI_mul, nI_add, nI_sub (by omega), show 10 * (b c - 48) + b (c + 1) - 48 = 10 * (b c - 48) + (b (c + 1) - 48) by omega]
    · have hz : figs b t (c + k) = 0 := figs_no hdk
      rw [hz, Nat.add_zero] at hf
      show ∃ τ', X12_nextToken_b165 _ 251 τ = some τ' ∧ _
      unfold X12_nextToken_b165 X12_nextToken_b255
      rw [hT.2.1, h11, h12, if_neg (show ¬ nI t ≤ nI (c + k) by rw [nI_le_iff (by omega) (by omega)]; omega), gdx_n (by omega) (by omega), nc_n (by omega), show τ (251 + 8) (c + k) = _ from hb1, show X12_in (nI (b (c + k))).toInt64 48 57 = _ from in_ab (a := 48) (b := 57) (by omega) (by omega) (by omega), if_neg hdk, if_pos rfl, nI_sub (by omega), show c + k - c = k by omega]
      by_cases e : k ≤ 2
      · rw [if_pos (show nI k ≤ 2 from nI_le (b := 2) e (by omega))]
        refine ⟨_, rfl, by rw [wr_in _ _ (by omega)]; exact h12, by rw [wr_in _ _ (by omega), hf]; exact h11, Or.inl ⟨by omega, wr_at _ _ _ _, ?_⟩, wr_in _ _ (by omega), fun q hq => wr_off _ _ _ hq, fun j hj => wr_in _ _ (by omega)⟩
        rw [wr_in _ _ (by omega), h14]
        unfold num
        rw [hf]
        by_cases e1 : k = 1
        · rw [if_pos e1, if_neg (by omega)]
        · rw [if_neg e1, if_pos (by omega)]
      · rw [if_neg (show ¬ nI k ≤ 2 by rw [show (2 : Int32) = nI 2 from rfl, nI_le_iff (by omega) (by omega)]; exact e)]
        exact ⟨_, rfl, by rw [wr_in _ _ (by omega)]; exact h12, by rw [wr_in _ _ (by omega), hf]; exact h11, Or.inr ⟨by omega, wr_at _ _ _ _⟩, wr_in _ _ (by omega), fun q hq => wr_off _ _ _ hq, fun j hj => wr_in _ _ (by omega)⟩
theorem tok_s {t : Nat} {b : Nat → Nat} {τ : Mem} (hT : TPm τ t b) (c : Nat) (hc : c ≤ t) (h11 : τ 251 11 = nI c) : ∃ τ', X12_nextToken 251 τ = some τ' ∧ TK b t τ' c ∧ τ' 251 15 = τ 251 15 ∧ FrN τ τ' := by
  have ht := hT.1
  unfold X12_nextToken X12_nextToken_b0
  rw [letv_eq, wr_in _ _ (show 10 ≠ 12 by omega), wr_in _ _ (show 11 ≠ 12 by omega), h11, hT.2.1]
  by_cases e : c = t
  · subst e
    rw [if_pos (nI_le (by omega) (by omega))]
    unfold X12_nextToken_b34
    rw [letv_eq]
    simp (disch := omega) only [wr_in, h11, hT.2.1]
    rw [if_pos trivial]
    unfold X12_nextToken_b118
    rw [letv_eq]
    simp (disch := omega) only [wr_in, h11, hT.2.1]
    rw [if_pos (nI_le (by omega) (by omega))]
    unfold X12_nextToken_b142
    rw [letv_eq]
    simp (disch := omega) only [wr_in, wr_at]
    rw [if_neg (show ¬ (1 : Int32) = 3 by decide), Int32.add_zero]
    refine ⟨_, rfl, ⟨?_, Or.inl ⟨rfl, ?_, ?_⟩⟩, ?_, fun q hq => ?_, fun j hj => ?_⟩
    · simp (disch := omega) only [wr_in, wr_at]
    · simp (disch := omega) only [wr_in, wr_at]
    · simp (disch := omega) only [wr_in, wr_at]
    · simp (disch := omega) only [wr_in, wr_at]
    · simp (disch := omega) only [wr_off]
    · simp (disch := omega) only [wr_in]
  · obtain ⟨hb1, hb2⟩ := hT.2.2 c (by omega)
    rw [if_neg (show ¬ nI t ≤ nI c by rw [nI_le_iff (by omega) (by omega)]; omega), gdx_n (by omega) (by omega), nc_n (by omega), wr_off _ _ _ (show 251 + 8 ≠ 251 by omega), show τ (251 + 8) c = _ from hb1]
    -- from the kind of the token on
    have b118 : ∀ s : Int32, X12_nextToken_b118 251 251 s (wr (wr τ 251 12 (nI c)) 251 14 (nI (b c))) = if s = 3 then X12_nextToken_l165 FU 251 (wr (wr (wr (wr (wr τ 251 12 (nI c)) 251 14 (nI (b c))) 251 13 s) 251 11 (nI (c + 1))) 251 14 (nI (b c) - 48)) else some (wr (wr (wr (wr τ 251 12 (nI c)) 251 14 (nI (b c))) 251 13 s) 251 11 (nI (c + 1))) := by
      intro s
      unfold X12_nextToken_b118
      rw [letv_eq]
      simp (disch := omega) only [wr_in, h11, hT.2.1]
      rw [if_neg (show ¬ nI t ≤ nI c by rw [nI_le_iff (by omega) (by omega)]; omega)]
      unfold X12_nextToken_b142
      rw [letv_eq, nI_1]
      simp (disch := omega) only [wr_in, wr_at]
    have b34 : X12_nextToken_b34 251 251 (nI (b c)) (wr τ 251 12 (nI c)) = if 97 ≤ b c ∧ b c ≤ 122 then X12_nextToken_b118 251 251 2 (wr (wr τ 251 12 (nI c)) 251 14 (nI (b c))) else if 48 ≤ b c ∧ b c ≤ 57 then X12_nextToken_b118 251 251 3 (wr (wr τ 251 12 (nI c)) 251 14 (nI (b c))) else if b c = 44 ∨ b c = 59 then X12_nextToken_b118 251 251 4 (wr (wr τ 251 12 (nI c)) 251 14 (nI (b c))) else X12_nextToken_b118 251 251 0 (wr (wr τ 251 12 (nI c)) 251 14 (nI (b c))) := by
      unfold X12_nextToken_b34 X12_nextToken_b113
      rw [letv_eq]
      simp (disch := omega) only [wr_in, wr_at, h11, hT.2.1]
      rw [if_neg (show ¬ nI c = nI t from fun q => e ((nI_inj (by omega) (by omega)).mp q)), show X12_in (nI (b c)).toInt64 97 122 = _ from in_ab (a := 97) (b := 122) (by omega) (by omega) (by omega), show X12_in (nI (b c)).toInt64 48 57 = _ from in_ab (a := 48) (b := 57) (by omega) (by omega) (by omega)]
      by_cases e1 : 97 ≤ b c ∧ b c ≤ 122
      · rw [if_pos e1, if_pos e1, if_neg (by decide)]
      · rw [if_neg e1, if_neg e1, if_pos rfl]
        by_cases e2 : 48 ≤ b c ∧ b c ≤ 57
        · rw [if_pos e2, if_pos e2, if_neg (by decide)]
        · rw [if_neg e2, if_neg e2, if_pos rfl]
          by_cases e3 : b c = 44
          · rw [if_pos (show nI (b c) = 44 by rw [e3]; rfl), if_pos (Or.inl e3)]
          · rw [if_neg (show ¬ nI (b c) = 44 from fun q => e3 ((nI_inj (b := 44) (by omega) (by omega)).mp q))]
            by_cases e4 : b c = 59
            · rw [if_pos (show nI (b c) = 59 by rw [e4]; rfl), if_pos (Or.inr e4)]
            · rw [if_neg (show ¬ nI (b c) = 59 from fun q => e4 ((nI_inj (b := 59) (by omega) (by omega)).mp q)), if_neg (by omega)]
    have fin : ∀ s : Int32, ¬ s = 3 → ∃ τ', X12_nextToken_b118 251 251 s (wr (wr τ 251 12 (nI c)) 251 14 (nI (b c))) = some τ' ∧ τ' 251 12 = nI c ∧ τ' 251 11 = nI (c + 1) ∧ τ' 251 13 = s ∧ τ' 251 14 = nI (b c) ∧ τ' 251 15 = τ 251 15 ∧ FrN τ τ' := by
      intro s hs
      rw [b118 s, if_neg hs]
      refine ⟨_, rfl, ?_, ?_, ?_, ?_, ?_, fun q hq => ?_, fun j hj => ?_⟩
      · simp (disch := omega) only [wr_in, wr_at]
      · simp (disch := omega) only [wr_in, wr_at]
      · simp (disch := omega) only [wr_in, wr_at]
      · simp (disch := omega) only [wr_in, wr_at]
      · simp (disch := omega) only [wr_in, wr_at]
      · simp (disch := omega) only [wr_off]
      · simp (disch := omega) only [wr_in]
    rw [b34]
    by_cases e1 : 97 ≤ b c ∧ b c ≤ 122
    · rw [if_pos e1]
      obtain ⟨τ', q1, q2, q3, q4, q5, q6, q7⟩ := fin 2 (by decide)
      exact ⟨τ', q1, ⟨q2, Or.inr (Or.inl ⟨by omega, e1.1, e1.2, q3, q4, q5⟩)⟩, q6, q7⟩
    · rw [if_neg e1]
      by_cases e2 : 48 ≤ b c ∧ b c ≤ 57
      · rw [if_pos e2, b118 3, if_pos rfl, show (48 : Int32) = nI 48 from rfl, nI_sub e2.1]
        have f1 : FrN τ (wr (wr (wr (wr (wr τ 251 12 (nI c)) 251 14 (nI (b c))) 251 13 3) 251 11 (nI (c + 1))) 251 14 (nI (b c - 48))) := ⟨fun q hq => by simp (disch := omega) only [wr_off], fun j hj => by simp (disch := omega) only [wr_in]⟩
        obtain ⟨τ', q1, q2, q3, q4, q5, q6⟩ := dgl (t := t) c e2 (t - (c + 1)) 1 FU (wr (wr (wr (wr (wr τ 251 12 (nI c)) 251 14 (nI (b c))) 251 13 3) 251 11 (nI (c + 1))) 251 14 (nI (b c - 48))) rfl (by omega) (by omega) (by unfold FU; omega) (by rw [figs_dg (by omega) e2]; omega) (hT.fr f1) (by simp (disch := omega) only [wr_in, wr_at]) (by simp (disch := omega) only [wr_in, wr_at]) (by rw [wr_at, if_pos rfl])
        refine ⟨τ', q1, ⟨q2, Or.inr (Or.inr (Or.inl ⟨by omega, e2, q3, q4⟩))⟩, ?_, f1.tr q6⟩
        rw [q5]
        simp (disch := omega) only [wr_in]
      · rw [if_neg e2]
        by_cases e3 : b c = 44 ∨ b c = 59
        · rw [if_pos e3]
          obtain ⟨τ', q1, q2, q3, q4, q5, q6, q7⟩ := fin 4 (by decide)
          exact ⟨τ', q1, ⟨q2, Or.inr (Or.inr (Or.inr (Or.inl ⟨by omega, e3, q3, q4, q5⟩)))⟩, q6, q7⟩
        · rw [if_neg e3]
          obtain ⟨τ', q1, q2, q3, q4, q5, q6, q7⟩ := fin 0 (by decide)
          exact ⟨τ', q1, ⟨q2, Or.inr (Or.inr (Or.inr (Or.inr ⟨by omega, e2, e1, by omega, by omega, q3, q4⟩)))⟩, q6, q7⟩
