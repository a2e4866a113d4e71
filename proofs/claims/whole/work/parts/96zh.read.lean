/-! PURE: the tape read, on the class's side. -/
def figN (b : Nat → Nat) : Nat → Nat → Nat
  | 0, _ => 0
  | d + 1, c => if 48 ≤ b c ∧ b c ≤ 57 then figN b d (c + 1) + 1 else 0
def figs (b : Nat → Nat) (t c : Nat) : Nat := figN b (t - c) c
theorem figs_end {b : Nat → Nat} {t c : Nat} (h : t ≤ c) : figs b t c = 0 := by
  unfold figs
  rw [show t - c = 0 by omega]
  rfl
theorem figs_dg {b : Nat → Nat} {t c : Nat} (h : c < t) (hd : 48 ≤ b c ∧ b c ≤ 57) : figs b t c = figs b t (c + 1) + 1 := by
  unfold figs
  rw [show t - c = (t - (c + 1)) + 1 by omega]
  show (if 48 ≤ b c ∧ b c ≤ 57 then figN b (t - (c + 1)) (c + 1) + 1 else 0) = _
  rw [if_pos hd]
theorem figs_no {b : Nat → Nat} {t c : Nat} (hd : ¬ (48 ≤ b c ∧ b c ≤ 57)) : figs b t c = 0 := by
  unfold figs
  cases h : t - c with
  | zero => rfl
  | succ d =>
    show (if 48 ≤ b c ∧ b c ≤ 57 then figN b d (c + 1) + 1 else 0) = 0
    rw [if_neg hd]
theorem figs_le (b : Nat → Nat) (t : Nat) : ∀ d c, d = t - c → figs b t c ≤ t - c := by
  intro d
  induction d with
  | zero =>
    intro c hc
    rw [figs_end (by omega)]
    exact Nat.zero_le _
  | succ d ih =>
    intro c hc
    by_cases h : 48 ≤ b c ∧ b c ≤ 57
    · have := ih (c + 1) (by omega)
      rw [figs_dg (by omega) h]
      omega
    · rw [figs_no h]
      exact Nat.zero_le _
theorem figs_pos {b : Nat → Nat} {t c : Nat} (h : 1 ≤ figs b t c) : c < t ∧ 48 ≤ b c ∧ b c ≤ 57 := by
  by_cases h1 : c < t
  · by_cases h2 : 48 ≤ b c ∧ b c ≤ 57
    · exact ⟨h1, h2⟩
    · rw [figs_no h2] at h
      omega
  · rw [figs_end (by omega)] at h
    omega
theorem figs_two {b : Nat → Nat} {t c : Nat} (h : 2 ≤ figs b t c) : c + 1 < t ∧ 48 ≤ b (c + 1) ∧ b (c + 1) ≤ 57 := by
  obtain ⟨h1, h2⟩ := figs_pos (show 1 ≤ figs b t c by omega)
  rw [figs_dg h1 h2] at h
  exact figs_pos (by omega)
def num (b : Nat → Nat) (t c : Nat) : Nat := if figs b t c = 2 then 10 * (b c - 48) + (b (c + 1) - 48) else b c - 48
/-- a number stands at c, at most hi -/
def nmOk (b : Nat → Nat) (t c hi : Nat) : Prop := (figs b t c = 1 ∨ figs b t c = 2) ∧ num b t c ≤ hi
def nmF (b : Nat → Nat) (t c : Nat) : Nat := if figs b t c = 1 ∨ figs b t c = 2 then 2 else 1
def sgOk (b : Nat → Nat) (t c x : Nat) : Prop := c < t ∧ b c = x
/-- the class's tape -/
def TP (σ : Mem) (t : Nat) (b : Nat → Nat) : Prop := t ≤ 130 ∧ σ 13 1 = nI t ∧ ∀ i, i < t → σ 14 i = nI (b i) ∧ b i ≤ 255
theorem at_s {σ : Mem} {t : Nat} {b : Nat → Nat} (h : TP σ t b) (c : Nat) (hc : c < 2 ^ 31) : X10_at 13 (nI c) σ = some (if c < t then nI (b c) else -1) := by
  obtain ⟨h1, h2, h3⟩ := h
  unfold X10_at X10_at_b0
  rw [if_neg (nI_nn hc), h2]
  by_cases d : c < t
  · rw [if_neg (show ¬ nI t ≤ nI c by rw [nI_le_iff (by omega) hc]; omega), gdx_n (by omega) (by omega), nc_n (by omega), show σ (13 + 1) c = _ from (h3 c d).1, if_pos d]
  · rw [if_pos (nI_le (by omega) hc), if_neg d]
theorem figs_l {σ : Mem} {t : Nat} {b : Nat → Nat} (h : TP σ t b) : ∀ (d c m acc : Nat), d = t - c → c ≤ t → acc + d ≤ 200 → d < m → X10_figuresAt_l4 m 13 (nI acc) (nI c) σ = some (nI (acc + figs b t c)) := by
  have h1 := h.1
  intro d
  induction d with
  | zero =>
    intro c m acc hc hct hacc hm
    obtain ⟨m, rfl⟩ : ∃ m', m = m' + 1 := ⟨m - 1, by omega⟩
    show X10_figuresAt_b4 _ 13 (nI acc) (nI c) σ = _
    unfold X10_figuresAt_b4
    rw [h.2.1, if_pos (nI_le (by omega) (by omega)), figs_end (by omega)]
    rfl
  | succ d ih =>
    intro c m acc hc hct hacc hm
    obtain ⟨m, rfl⟩ : ∃ m', m = m' + 1 := ⟨m - 1, by omega⟩
    have hb := (h.2.2 c (by omega)).2
    show X10_figuresAt_b4 _ 13 (nI acc) (nI c) σ = _
    unfold X10_figuresAt_b4
    rw [h.2.1, if_neg (show ¬ nI t ≤ nI c by rw [nI_le_iff (by omega) (by omega)]; omega), at_s h c (by omega), ob_some, if_pos (show c < t by omega), ob_some, nI_1, nI_1]
    by_cases e1 : b c < 48
    · rw [if_pos (show nI (b c) < 48 from nI_lt (b := 48) e1 (by omega)), figs_no (by omega)]
      rfl
    · rw [if_neg (show ¬ nI (b c) < 48 by rw [show (48 : Int32) = nI 48 from rfl, nI_lt_iff (by omega) (by omega)]; exact e1)]
      by_cases e2 : 57 < b c
      · rw [if_pos (show (57 : Int32) < nI (b c) from nI_lt (a := 57) e2 (by omega)), figs_no (by omega)]
        rfl
      · rw [if_neg (show ¬ (57 : Int32) < nI (b c) from nI_nlt (a := 57) (by omega) (by omega))]
        rw [ih (c + 1) m (acc + 1) (by omega) (by omega) (by omega) (by omega), figs_dg (c := c) (show c < t by omega) (show 48 ≤ b c ∧ b c ≤ 57 by omega)]
        congr 2
        omega
theorem rn_s {σ : Mem} {t : Nat} {b : Nat → Nat} (h : TP σ t b) (c hi : Nat) (hc : c ≤ t) (hhi : hi ≤ 60) (h1 : σ 15 1 = nI c) : (nmOk b t c hi → X7_readNumber 15 13 (nI hi) σ = some (nI (num b t c), wr σ 15 1 (nI (c + figs b t c)))) ∧ (¬ nmOk b t c hi → X7_readNumber 15 13 (nI hi) σ = some (-1000000, wr σ 15 2 (nI (nmF b t c)))) := by
  have ht := h.1
  have hf := figs_le b t (t - c) c rfl
  have e0 : X10_figuresAt 13 (nI c) σ = some (nI (figs b t c)) := by
    have e := figs_l h (t - c) c FU 0 rfl hc (by omega) (by unfold FU; omega)
    rw [Nat.zero_add] at e
    exact e
  -- what a number does, once its figures are right
  have b67 : (figs b t c = 1 ∨ figs b t c = 2) → num b t c ≤ 99 → (num b t c ≤ hi → X7_readNumber_b67 15 (nI hi) (nI (figs b t c)) (nI (num b t c)) σ = some (nI (num b t c), wr σ 15 1 (nI (c + figs b t c)))) ∧ (¬ num b t c ≤ hi → X7_readNumber_b67 15 (nI hi) (nI (figs b t c)) (nI (num b t c)) σ = some (-1000000, wr σ 15 2 (nI 2))) := by
    intro hfg h99
    unfold X7_readNumber_b67 X7_fails X7_fails_b0
    refine ⟨fun x => ?_, fun x => ?_⟩
    · rw [if_pos (nI_le x (by omega)), h1, nI_add]
    · rw [if_neg (show ¬ nI (num b t c) ≤ nI hi by rw [nI_le_iff (by omega) (by omega)]; exact x), ob2_some]
      rfl
  have unf : (figs b t c = 1 ∨ figs b t c = 2) → num b t c ≤ 99 ∧ X7_readNumber 15 13 (nI hi) σ = X7_readNumber_b67 15 (nI hi) (nI (figs b t c)) (nI (num b t c)) σ := by
    intro hfg
    obtain ⟨p1, p2, p3⟩ := figs_pos (show 1 ≤ figs b t c by omega)
    have hb := (h.2.2 c p1).2
    unfold X7_readNumber X7_readNumber_b0
    rw [h1, e0, ob_some, if_neg (show ¬ nI (figs b t c) < 1 by rw [show (1 : Int32) = nI 1 from rfl, nI_lt_iff (by omega) (by omega)]; omega), if_pos (show nI (figs b t c) ≤ 2 from nI_le (b := 2) (by omega) (by omega)), at_s h c (by omega), if_pos p1, ob_some, letv_eq, show (48 : Int32) = nI 48 from rfl, nI_sub p2]
    rcases hfg with e | e
    · have hnum : num b t c = b c - 48 := by
        unfold num
        rw [if_neg (by omega)]
      rw [hnum, e, if_neg (show ¬ nI 1 = 2 by decide)]
      exact ⟨by omega, rfl⟩
    · obtain ⟨q1, q2, q3⟩ := figs_two (show 2 ≤ figs b t c by omega)
      have hnum : num b t c = 10 * (b c - 48) + (b (c + 1) - 48) := by
        unfold num
        rw [if_pos e]
      rw [hnum, e, if_pos (show nI 2 = 2 from rfl), nI_1, at_s h (c + 1) (by omega), if_pos q1, ob_some, letv_eq, show (10 : Int32) = nI 10 from rfl, nI_mul, nI_add, nI_sub (by omega), show 10 * (b c - 48) + b (c + 1) - 48 = 10 * (b c - 48) + (b (c + 1) - 48) by omega]
      exact ⟨by omega, rfl⟩
  refine ⟨fun x => ?_, fun x => ?_⟩
  · obtain ⟨u1, u2⟩ := unf x.1
    rw [u2]
    exact (b67 x.1 u1).1 x.2
  · by_cases hfg : figs b t c = 1 ∨ figs b t c = 2
    · obtain ⟨u1, u2⟩ := unf hfg
      have hF : nmF b t c = 2 := by
        unfold nmF
        rw [if_pos hfg]
      rw [u2, hF]
      exact (b67 hfg u1).2 (fun y => x ⟨hfg, y⟩)
    · have hF : nmF b t c = 1 := by
        unfold nmF
        rw [if_neg hfg]
      rw [hF]
      unfold X7_readNumber X7_readNumber_b0 X7_readNumber_b19 X7_fails X7_fails_b0
      rw [h1, e0, ob_some]
      by_cases e1 : figs b t c < 1
      · rw [if_pos (show nI (figs b t c) < 1 from nI_lt (b := 1) e1 (by omega)), ob2_some]
        rfl
      · rw [if_neg (show ¬ nI (figs b t c) < 1 by rw [show (1 : Int32) = nI 1 from rfl, nI_lt_iff (by omega) (by omega)]; exact e1), if_neg (show ¬ nI (figs b t c) ≤ 2 by rw [show (2 : Int32) = nI 2 from rfl, nI_le_iff (by omega) (by omega)]; omega), ob2_some]
        rfl
theorem rb_s {σ : Mem} {t : Nat} {b : Nat → Nat} (h : TP σ t b) (c x : Nat) (hc : c ≤ t) (hx : x ≤ 255) (h1 : σ 15 1 = nI c) : (sgOk b t c x → X7_readsByte 15 13 (nI x) σ = some (1, wr σ 15 1 (nI (c + 1)))) ∧ (¬ sgOk b t c x → X7_readsByte 15 13 (nI x) σ = some (0, wr σ 15 2 (nI 1))) := by
  have ht := h.1
  unfold X7_readsByte X7_readsByte_b0 X7_fails X7_fails_b0
  rw [h1, at_s h c (by omega), ob_some]
  refine ⟨fun y => ?_, fun y => ?_⟩
  · rw [if_pos y.1, if_pos (show nI (b c) = nI x by rw [y.2]), nI_1]
  · have hne : ¬ (if c < t then nI (b c) else -1) = nI x := by
      by_cases d : c < t
      · have hb := (h.2.2 c d).2
        rw [if_pos d]
        exact fun q => y ⟨d, (nI_inj (by omega) (by omega)).mp q⟩
      · rw [if_neg d]
        exact fun q => nI_nm1 (show x < 2 ^ 31 by omega) q.symm
    rw [if_neg hne, ob2_some, gdb_0]
    rfl
theorem TP.fr {σ σ' : Mem} {t : Nat} {b : Nat → Nat} (h : TP σ t b) (e1 : σ' 13 = σ 13) (e2 : σ' 14 = σ 14) : TP σ' t b := ⟨h.1, by rw [e1]; exact h.2.1, fun i hi => by rw [e2]; exact h.2.2 i hi⟩
