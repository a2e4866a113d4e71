/-! PURE: steps of reading, on both sides. -/
def MT (b : Nat → Nat) (t : Nat) (τ : Mem) (c : Nat) : Prop := TPm τ t b ∧ TK b t τ c ∧ τ 251 15 = 0
def MF (τ : Mem) (n c : Nat) : Prop := τ 251 15 = nI n ∧ τ 251 16 = nI c ∧ 1 ≤ n ∧ n ≤ 3
section
variable {t : Nat} {b : Nat → Nat} {τ : Mem} {c : Nat}
theorem next_s (hT : TPm τ t b) (h15 : τ 251 15 = 0) (hc : c ≤ t) (h11 : τ 251 11 = nI c) : ∃ τ', X12_must 251 1 τ = some τ' ∧ MT b t τ' c ∧ FrN τ τ' := by
  obtain ⟨τ', q1, q2, q3, q4⟩ := tok_s hT c hc h11
  refine ⟨τ', ?_, ⟨hT.fr q4, q2, by rw [q3]; exact h15⟩, q4⟩
  unfold X12_must X12_must_b0 X12_must_b9
  rw [if_neg (by decide), if_pos h15, q1, ob_some]
theorem bad_s (h15 : τ 251 15 = 0) (h12 : τ 251 12 = nI c) (n : Nat) (hn : 1 ≤ n) (hn3 : n ≤ 3) : ∃ τ', X12_bad 251 (nI n) τ = some τ' ∧ MF τ' n c ∧ FrN τ τ' := by
  refine ⟨wr (wr τ 251 15 (nI n)) 251 16 (nI c), ?_, ⟨by rw [wr_in _ _ (by omega), wr_at], wr_at _ _ _ _, hn, hn3⟩, fun q hq => by rw [wr_off _ _ _ hq, wr_off _ _ _ hq], fun j hj => by rw [wr_in _ _ (by omega), wr_in _ _ (by omega)]⟩
  unfold X12_bad X12_bad_b0
  rw [if_pos h15, letv_eq, wr_in _ _ (by omega), h12]
theorem mf_ne {n : Nat} (h : MF τ n c) : ¬ τ 251 15 = 0 := by
  rw [h.1]
  exact nI_ne0 (by have := h.2.2.1; omega) (by have := h.2.2.2; omega)
theorem must_f {n : Nat} (h : MF τ n c) (v : Int32) : X12_must 251 v τ = some τ := by
  unfold X12_must X12_must_b0 X12_must_b9 X12_bad X12_bad_b0
  by_cases d : v = 0
  · rw [if_pos d, if_neg (mf_ne h), ob_some, if_neg (mf_ne h)]
  · rw [if_neg d, if_neg (mf_ne h)]
theorem sign_f {n : Nat} (h : MF τ n c) (x : Int32) : X12_mustSign 251 x τ = some τ := by
  unfold X12_mustSign X12_mustSign_b0 X12_mustSign_b21 X12_mustSign_b22
  rw [must_f h 1, must_f h 0, ob_some]
  split
  · split <;> rfl
  · rfl
theorem num_f {n : Nat} (h : MF τ n c) (hi : Int32) : X12_number 251 0 hi τ = some (0, τ) := by
  unfold X12_number X12_number_b0 X12_number_b20 X12_number_b47 X12_number_b62
  rw [if_neg (mf_ne h), if_neg (mf_ne h), if_neg (mf_ne h), must_f h 1, ob_some]
theorem sign_ok (h : MT b t τ c) {x : Nat} (hx : x = 44 ∨ x = 59) (ho : sgOk b t c x) : ∃ τ', X12_mustSign 251 (nI x) τ = some τ' ∧ MT b t τ' (c + 1) ∧ FrN τ τ' := by
  obtain ⟨h1, ⟨h2, h3⟩, h4⟩ := h
  obtain ⟨o1, o2⟩ := ho
  have ht := h1.1
  rcases h3 with ⟨e, _⟩ | ⟨_, e1, e2, _⟩ | ⟨_, e1, _⟩ | ⟨_, _, e3, e4, e5⟩ | ⟨_, _, _, e1, e2, _⟩
  · omega
  · omega
  · unfold isDg at e1
    omega
  · obtain ⟨τ', q1, q2, q3⟩ := next_s h1 h4 (show c + 1 ≤ t by omega) e3
    refine ⟨τ', ?_, q2, q3⟩
    unfold X12_mustSign X12_mustSign_b0 X12_mustSign_b22
    rw [e4, if_pos rfl, e5, if_pos (show nI (b c) = nI x by rw [o2]), q1, ob_some]
  · omega
theorem sign_bad (h : MT b t τ c) {x : Nat} (hx : x = 44 ∨ x = 59) (ho : ¬ sgOk b t c x) : ∃ τ', X12_mustSign 251 (nI x) τ = some τ' ∧ MF τ' 1 c ∧ FrN τ τ' := by
  obtain ⟨h1, ⟨h2, h3⟩, h4⟩ := h
  obtain ⟨τ', q1, q2, q3⟩ := bad_s h4 h2 1 (by omega) (by omega)
  have hm : X12_must 251 0 τ = some τ' := by
    unfold X12_must X12_must_b0 X12_must_b9
    rw [if_pos rfl, show X12_bad 251 1 τ = _ from q1, ob_some, if_neg (mf_ne q2)]
  refine ⟨τ', ?_, q2, q3⟩
  unfold X12_mustSign X12_mustSign_b0 X12_mustSign_b21 X12_mustSign_b22
  rw [hm, ob_some]
  by_cases c4 : τ 251 13 = 4
  · rw [if_pos c4]
    have hne : ¬ τ 251 14 = nI x := by
      rcases h3 with ⟨_, _, e⟩ | ⟨_, _, _, _, e, _⟩ | ⟨_, _, _, e⟩ | ⟨e1, e2, _, _, e5⟩ | ⟨_, _, _, _, _, _, e⟩
      · rw [e] at c4
        exact absurd c4 (by decide)
      · rw [e] at c4
        exact absurd c4 (by decide)
      · rcases e with ⟨_, e, _⟩ | ⟨_, e⟩
        · rw [e] at c4
          exact absurd c4 (by decide)
        · rw [e] at c4
          exact absurd c4 (by decide)
      · have hb := (h1.2.2 c e1).2
        rw [e5]
        exact fun q => ho ⟨e1, (nI_inj (by omega) (by omega)).mp q⟩
      · rw [e] at c4
        exact absurd c4 (by decide)
    rw [if_neg hne]
  · rw [if_neg c4]
theorem numm_ok (h : MT b t τ c) {hi : Nat} (hhi : hi ≤ 60) (ho : nmOk b t c hi) : ∃ τ', X12_number 251 0 (nI hi) τ = some (nI (num b t c), τ') ∧ MT b t τ' (c + figs b t c) ∧ FrN τ τ' := by
  obtain ⟨h1, ⟨h2, h3⟩, h4⟩ := h
  obtain ⟨o1, o2⟩ := ho
  obtain ⟨p1, p2, p3⟩ := figs_pos (show 1 ≤ figs b t c by omega)
  have hfl := figs_le b t (t - c) c rfl
  rcases h3 with ⟨e, _⟩ | ⟨_, e1, _⟩ | ⟨_, _, e3, e4⟩ | ⟨_, e1, _⟩ | ⟨_, e1, _⟩
  · omega
  · omega
  · rcases e4 with ⟨_, e5, e6⟩ | ⟨e5, _⟩
    · obtain ⟨τ', q1, q2, q3⟩ := next_s h1 h4 (show c + figs b t c ≤ t by omega) e3
      refine ⟨τ', ?_, q2, q3⟩
      unfold X12_number X12_number_b0 X12_number_b20 X12_number_b47 X12_number_b62
      rw [if_pos h4, if_pos e5, if_pos h4, e6, show X12_in (nI (num b t c)).toInt64 (Int32.toInt64 0) (Int32.toInt64 (nI hi)) = 1 by
        rw [lL hi (by omega)]
        exact (in_ab (a := 0) (b := hi) (by omega) (by omega) (by omega)).trans (if_pos ⟨Nat.zero_le _, o2⟩), if_neg (by decide), if_pos h4, q1, ob_some]
    · omega
  · omega
  · exact absurd (show isDg b c from ⟨p2, p3⟩) e1
theorem numm_bad (h : MT b t τ c) {hi : Nat} (hhi : hi ≤ 60) (ho : ¬ nmOk b t c hi) : ∃ τ', X12_number 251 0 (nI hi) τ = some (0, τ') ∧ MF τ' (nmF b t c) c ∧ FrN τ τ' := by
  obtain ⟨h1, ⟨h2, h3⟩, h4⟩ := h
  have ht := h1.1
  by_cases hf : figs b t c = 1 ∨ figs b t c = 2
  · -- the figures are right, the number is too great
    have hF : nmF b t c = 2 := by
      unfold nmF
      rw [if_pos hf]
    obtain ⟨p1, p2, p3⟩ := figs_pos (show 1 ≤ figs b t c by omega)
    have hb := (h1.2.2 c p1).2
    have hn99 : num b t c < 2 ^ 31 := by
      unfold num
      split
      · next e =>
        obtain ⟨q1, q2, q3⟩ := figs_two (show 2 ≤ figs b t c by omega)
        omega
      · omega
    obtain ⟨τ', q1, q2, q3⟩ := bad_s h4 h2 2 (by omega) (by omega)
    rw [hF]
    refine ⟨τ', ?_, q2, q3⟩
    have e56 : τ 251 13 = 3 ∧ τ 251 14 = nI (num b t c) := by
      rcases h3 with ⟨e, _⟩ | ⟨_, e1, _⟩ | ⟨_, _, _, e4⟩ | ⟨_, e1, _⟩ | ⟨_, e1, _⟩
      · omega
      · omega
      · rcases e4 with ⟨_, e5, e6⟩ | ⟨e5, _⟩
        · exact ⟨e5, e6⟩
        · omega
      · omega
      · exact absurd (show isDg b c from ⟨p2, p3⟩) e1
    unfold X12_number X12_number_b0 X12_number_b20 X12_number_b47 X12_number_b62
    rw [if_pos h4, if_pos e56.1, if_pos h4, e56.2, show X12_in (nI (num b t c)).toInt64 (Int32.toInt64 0) (Int32.toInt64 (nI hi)) = 0 by
      rw [lL hi (by omega)]
      exact (in_ab (a := 0) (b := hi) hn99 (by omega) (by omega)).trans (if_neg (fun q => ho ⟨hf, q.2⟩)), if_pos rfl, show X12_bad 251 2 τ = _ from q1, ob_some, if_neg (mf_ne q2), must_f q2 1, ob_some]
  · have hF : nmF b t c = 1 := by
      unfold nmF
      rw [if_neg hf]
    obtain ⟨τ', q1, q2, q3⟩ := bad_s h4 h2 1 (by omega) (by omega)
    rw [hF]
    refine ⟨τ', ?_, q2, q3⟩
    have e3 : ¬ τ 251 13 = 3 := by
      rcases h3 with ⟨_, _, e⟩ | ⟨_, _, _, _, e, _⟩ | ⟨e0, e1, _, e⟩ | ⟨_, _, _, e, _⟩ | ⟨_, _, _, _, _, _, e⟩
      · rw [e]
        decide
      · rw [e]
        decide
      · rcases e with ⟨e2, _⟩ | ⟨_, e⟩
        · have := figs_dg (b := b) (t := t) e0 e1
          omega
        · rw [e]
          decide
      · rw [e]
        decide
      · rw [e]
        decide
    unfold X12_number X12_number_b0 X12_number_b20 X12_number_b47 X12_number_b62
    rw [if_pos h4, if_neg e3, show X12_bad 251 1 τ = _ from q1, ob_some, if_neg (mf_ne q2), if_neg (mf_ne q2), must_f q2 1, ob_some]
end
def kl (x : Nat) : Nat := if x = 112 then 1 else if x = 102 then 2 else if x = 114 then 3 else if x = 99 then 4 else if x = 103 then 5 else 0
def kc (b : Nat → Nat) (t c : Nat) : Nat := if c < t then kl (b c) else 0
theorem kl_le (x : Nat) : kl x ≤ 5 := by
  unfold kl
  split
  · omega
  · split
    · omega
    · split
      · omega
      · split
        · omega
        · split <;> omega
theorem kl_let {x : Nat} (h : kl x ≠ 0) : 97 ≤ x ∧ x ≤ 122 := by
  unfold kl at h
  by_cases c1 : x = 112
  · omega
  · by_cases c2 : x = 102
    · omega
    · by_cases c3 : x = 114
      · omega
      · by_cases c4 : x = 99
        · omega
        · by_cases c5 : x = 103
          · omega
          · rw [if_neg c1, if_neg c2, if_neg c3, if_neg c4, if_neg c5] at h
            omega
theorem ckind (b : Nat → Nat) (t c : Nat) (hb : c < t → b c ≤ 255) : X7_kindOfLetter (if c < t then nI (b c) else -1) = if kc b t c = 0 then -1000000 else nI (kc b t c) := by
  unfold kc
  by_cases d : c < t
  · rw [if_pos d, if_pos d]
    have h255 := hb d
    have ne : ∀ k : Nat, k < 300 → b c ≠ k → ¬ nI (b c) = nI k := fun k hk h q => h ((nI_inj (by omega) (by omega)).mp q)
    unfold X7_kindOfLetter X7_kindOfLetter_b0 kl
    by_cases c4 : b c = 99
    · rw [if_pos (show nI (b c) = 99 by rw [c4]; rfl), c4]
      rfl
    · rw [if_neg (show ¬ nI (b c) = 99 from ne 99 (by omega) c4)]
      by_cases c2 : b c = 102
      · rw [if_pos (show nI (b c) = 102 by rw [c2]; rfl), c2]
        rfl
      · rw [if_neg (show ¬ nI (b c) = 102 from ne 102 (by omega) c2)]
        by_cases c5 : b c = 103
        · rw [if_pos (show nI (b c) = 103 by rw [c5]; rfl), c5]
          rfl
        · rw [if_neg (show ¬ nI (b c) = 103 from ne 103 (by omega) c5)]
          by_cases c1 : b c = 112
          · rw [if_pos (show nI (b c) = 112 by rw [c1]; rfl), c1]
            rfl
          · rw [if_neg (show ¬ nI (b c) = 112 from ne 112 (by omega) c1)]
            by_cases c3 : b c = 114
            · rw [if_pos (show nI (b c) = 114 by rw [c3]; rfl), c3]
              rfl
            · rw [if_neg (show ¬ nI (b c) = 114 from ne 114 (by omega) c3), if_neg c1, if_neg c2, if_neg c3, if_neg c4, if_neg c5]
              rfl
  · rw [if_neg d, if_neg d]
    rfl
theorem msort (x : Nat) (hx : x ≤ 255) : X12_sortOf (nI x) = nI (kl x) := by
  have ne : ∀ k : Nat, k < 300 → x ≠ k → ¬ nI x = nI k := fun k hk h q => h ((nI_inj (by omega) (by omega)).mp q)
  unfold X12_sortOf X12_sortOf_b0 kl
  by_cases c1 : x = 112
  · rw [if_pos (show nI x = 112 by rw [c1]; rfl), if_pos c1]
    rfl
  · rw [if_neg (show ¬ nI x = 112 from ne 112 (by omega) c1), if_neg c1]
    by_cases c2 : x = 102
    · rw [if_pos (show nI x = 102 by rw [c2]; rfl), if_pos c2]
      rfl
    · rw [if_neg (show ¬ nI x = 102 from ne 102 (by omega) c2), if_neg c2]
      by_cases c3 : x = 114
      · rw [if_pos (show nI x = 114 by rw [c3]; rfl), if_pos c3]
        rfl
      · rw [if_neg (show ¬ nI x = 114 from ne 114 (by omega) c3), if_neg c3]
        by_cases c4 : x = 99
        · rw [if_pos (show nI x = 99 by rw [c4]; rfl), if_pos c4]
          rfl
        · rw [if_neg (show ¬ nI x = 99 from ne 99 (by omega) c4), if_neg c4]
          by_cases c5 : x = 103
          · rw [if_pos (show nI x = 103 by rw [c5]; rfl), if_pos c5]
            rfl
          · rw [if_neg (show ¬ nI x = 103 from ne 103 (by omega) c5), if_neg c5]
            rfl
/-- what the model sees of a page's letter -/
theorem msee {b : Nat → Nat} {t : Nat} {τ : Mem} {c : Nat} (h : MT b t τ c) : X12_readPage 251 τ = X12_readPage_b19 251 (nI (kc b t c)) τ := by
  obtain ⟨h1, ⟨h2, h3⟩, h4⟩ := h
  unfold X12_readPage X12_readPage_b0 kc
  rcases h3 with ⟨e0, _, e⟩ | ⟨e0, _, _, _, e, e'⟩ | ⟨e0, e1, _, e⟩ | ⟨e0, e1, _, e, _⟩ | ⟨e0, e1, e2, e3, e4, _, e⟩
  · rw [e, if_neg (by decide), if_neg (by omega)]
    rfl
  · have hb := (h1.2.2 c e0).2
    rw [e, if_pos rfl, e', msort _ hb, if_pos e0]
  · have hk : kl (b c) = 0 := by
      unfold isDg at e1
      rcases Nat.eq_zero_or_pos (kl (b c)) with q | q
      · exact q
      · have := kl_let (show kl (b c) ≠ 0 by omega)
        omega
    rw [if_pos e0, hk]
    rcases e with ⟨_, e, _⟩ | ⟨_, e⟩
    · rw [e, if_neg (by decide)]
      rfl
    · rw [e, if_neg (by decide)]
      rfl
  · have hk : kl (b c) = 0 := by
      rcases Nat.eq_zero_or_pos (kl (b c)) with q | q
      · exact q
      · have := kl_let (show kl (b c) ≠ 0 by omega)
        omega
    rw [e, if_neg (by decide), if_pos e0, hk]
    rfl
  · have hk : kl (b c) = 0 := by
      rcases Nat.eq_zero_or_pos (kl (b c)) with q | q
      · exact q
      · exact absurd (kl_let (show kl (b c) ≠ 0 by omega)) e2
    rw [e, if_neg (by decide), if_pos e0, hk]
    rfl
