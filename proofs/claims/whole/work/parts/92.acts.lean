/-! PURE: acts kept by both. -/
theorem wrF_wr (σ : Mem) (k j : Nat) (v : Int32) (f : Nat → Int32) : wrF (wr σ k j v) k f = wrF σ k f := by
  funext q
  by_cases h : q = k
  · subst h
    rw [wrF_same, wrF_same]
  · rw [wrF_ne _ _ h, wrF_ne _ _ h, wr_off _ _ _ h]
theorem wrF_self (σ : Mem) (k : Nat) : wrF σ k (σ k) = σ := by
  funext q
  by_cases h : q = k
  · subst h
    rw [wrF_same]
  · rw [wrF_ne _ _ h]
theorem keeps_c (a : Nat) (ha : a < 24) : ∀ (d i m : Nat) (σ : Mem), i + d = 43 → d < m → σ 251 8 = nI a → ∃ f : Nat → Int32, X12_keeps_l51 m 251 (nI i) σ = some (wr (wrF σ 258 f) 251 8 (nI (a + 1))) ∧ ∀ j, f j = if 43 * a + i ≤ j ∧ j < 43 * a + 43 then σ 255 (j - 43 * a) else σ 258 j := by
  intro d
  induction d with
  | zero =>
    intro i m σ hi hm h8
    obtain ⟨m, rfl⟩ : ∃ m', m = m' + 1 := ⟨m - 1, by omega⟩
    obtain rfl : i = 43 := by omega
    refine ⟨σ 258, ?_, fun j => ?_⟩
    · show X12_keeps_b51 _ 251 (nI 43) σ = _
      unfold X12_keeps_b51
      rw [if_pos (by decide), wrF_self]
      rw [h8, nI_1]
    · rw [if_neg (by omega)]
  | succ d ih =>
    intro i m σ hi hm h8
    obtain ⟨m, rfl⟩ : ∃ m', m = m' + 1 := ⟨m - 1, by omega⟩
    obtain ⟨f, h1, h2⟩ := ih (i + 1) m (wr σ 258 (43 * a + i) (σ 255 (i))) (by omega) (by omega) (by simp (disch := omega) only [wr_off]; exact h8)
    refine ⟨f, ?_, fun j => ?_⟩
    · show X12_keeps_b51 _ 251 (nI i) σ = _
      unfold X12_keeps_b51
      rw [if_neg (show ¬ (43 : Int32) ≤ nI i from nI_ge (b := 43) (by omega) (by omega))]
      simp (disch := omega) only [show (43 : Int32) = nI 43 from rfl, h8, nI_mul, nI_add, gdx_n, nc_n, nI_1]
      rw [h1, wrF_wr]
    · rw [h2 j]
      by_cases e : j = 43 * a + i
      · subst e
        rw [if_neg (by omega), if_pos (by omega), wr_at, show 43 * a + i - 43 * a = i by omega]
      · rw [wr_in _ _ e, wr_off _ _ _ (by omega)]
        by_cases c : 43 * a + i ≤ j ∧ j < 43 * a + 43
        · rw [if_pos c, if_pos (by omega)]
        · rw [if_neg c, if_neg (by omega)]
theorem undo_c (a : Nat) (ha : a < 24) : ∀ (d i m : Nat) (σ : Mem), i + d = 43 → d < m → σ 251 8 = nI a → ∃ f : Nat → Int32, X12_undo_l22 m 251 (nI i) σ = some (nI a, (wrF σ 255 f)) ∧ ∀ j, f j = if i ≤ j ∧ j < 43 then σ 258 (43 * a + j) else σ 255 j := by
  intro d
  induction d with
  | zero =>
    intro i m σ hi hm h8
    obtain ⟨m, rfl⟩ : ∃ m', m = m' + 1 := ⟨m - 1, by omega⟩
    obtain rfl : i = 43 := by omega
    refine ⟨σ 255, ?_, fun j => ?_⟩
    · show X12_undo_b22 _ 251 (nI 43) σ = _
      unfold X12_undo_b22
      rw [if_pos (by decide), wrF_self]
      rw [h8]
    · rw [if_neg (by omega)]
  | succ d ih =>
    intro i m σ hi hm h8
    obtain ⟨m, rfl⟩ : ∃ m', m = m' + 1 := ⟨m - 1, by omega⟩
    obtain ⟨f, h1, h2⟩ := ih (i + 1) m (wr σ 255 (i) (σ 258 (43 * a + i))) (by omega) (by omega) (by simp (disch := omega) only [wr_off]; exact h8)
    refine ⟨f, ?_, fun j => ?_⟩
    · show X12_undo_b22 _ 251 (nI i) σ = _
      unfold X12_undo_b22
      rw [if_neg (show ¬ (43 : Int32) ≤ nI i from nI_ge (b := 43) (by omega) (by omega))]
      simp (disch := omega) only [show (43 : Int32) = nI 43 from rfl, h8, nI_mul, nI_add, gdx_n, nc_n, nI_1]
      rw [h1, wrF_wr]
    · rw [h2 j]
      by_cases e : j = i
      · subst e
        rw [if_neg (by omega), if_pos (by omega), wr_at]
      · rw [wr_in _ _ e, wr_off _ _ _ (by omega)]
        by_cases c : i ≤ j ∧ j < 43
        · rw [if_pos c, if_pos (by omega)]
        · rw [if_neg c, if_neg (by omega)]
theorem image_c (a : Nat) (ha : a < 2) : ∀ (d i m : Nat) (σ : Mem), i + d = 43 → d < m → ∃ f : Nat → Int32, X12_image_l25 m 251 (nI a) (nI i) σ = some (1, wr (wrF σ 269 f) 268 a 1) ∧ ∀ j, f j = if 43 * a + i ≤ j ∧ j < 43 * a + 43 then σ 255 (j - 43 * a) else σ 269 j := by
  intro d
  induction d with
  | zero =>
    intro i m σ hi hm 
    obtain ⟨m, rfl⟩ : ∃ m', m = m' + 1 := ⟨m - 1, by omega⟩
    obtain rfl : i = 43 := by omega
    refine ⟨σ 269, ?_, fun j => ?_⟩
    · show X12_image_b25 _ 251 (nI a) (nI 43) σ = _
      unfold X12_image_b25
      rw [if_pos (by decide), wrF_self]
      rw [gdx_n (by omega) (by omega), nc_n (by omega)]
    · rw [if_neg (by omega)]
  | succ d ih =>
    intro i m σ hi hm 
    obtain ⟨m, rfl⟩ : ∃ m', m = m' + 1 := ⟨m - 1, by omega⟩
    obtain ⟨f, h1, h2⟩ := ih (i + 1) m (wr σ 269 (43 * a + i) (σ 255 (i))) (by omega) (by omega) 
    refine ⟨f, ?_, fun j => ?_⟩
    · show X12_image_b25 _ 251 (nI a) (nI i) σ = _
      unfold X12_image_b25
      rw [if_neg (show ¬ (43 : Int32) ≤ nI i from nI_ge (b := 43) (by omega) (by omega))]
      simp (disch := omega) only [show (43 : Int32) = nI 43 from rfl, nI_mul, nI_add, gdx_n, nc_n, nI_1]
      rw [h1, wrF_wr]
    · rw [h2 j]
      by_cases e : j = 43 * a + i
      · subst e
        rw [if_neg (by omega), if_pos (by omega), wr_at, show 43 * a + i - 43 * a = i by omega]
      · rw [wr_in _ _ e, wr_off _ _ _ (by omega)]
        by_cases c : 43 * a + i ≤ j ∧ j < 43 * a + 43
        · rw [if_pos c, if_pos (by omega)]
        · rw [if_neg c, if_neg (by omega)]
theorem restore_c (a : Nat) (ha : a < 2) : ∀ (d i m : Nat) (σ : Mem), i + d = 43 → d < m → ∃ f : Nat → Int32, X12_restore_l27 m 251 (nI a) (nI i) σ = some (1, wr (wrF σ 255 f) 251 8 0) ∧ ∀ j, f j = if i ≤ j ∧ j < 43 then σ 269 (43 * a + j) else σ 255 j := by
  intro d
  induction d with
  | zero =>
    intro i m σ hi hm 
    obtain ⟨m, rfl⟩ : ∃ m', m = m' + 1 := ⟨m - 1, by omega⟩
    obtain rfl : i = 43 := by omega
    refine ⟨σ 255, ?_, fun j => ?_⟩
    · show X12_restore_b27 _ 251 (nI a) (nI 43) σ = _
      unfold X12_restore_b27
      rw [if_pos (by decide), wrF_self]
      
    · rw [if_neg (by omega)]
  | succ d ih =>
    intro i m σ hi hm 
    obtain ⟨m, rfl⟩ : ∃ m', m = m' + 1 := ⟨m - 1, by omega⟩
    obtain ⟨f, h1, h2⟩ := ih (i + 1) m (wr σ 255 (i) (σ 269 (43 * a + i))) (by omega) (by omega) 
    refine ⟨f, ?_, fun j => ?_⟩
    · show X12_restore_b27 _ 251 (nI a) (nI i) σ = _
      unfold X12_restore_b27
      rw [if_neg (show ¬ (43 : Int32) ≤ nI i from nI_ge (b := 43) (by omega) (by omega))]
      simp (disch := omega) only [show (43 : Int32) = nI 43 from rfl, nI_mul, nI_add, gdx_n, nc_n, nI_1]
      rw [h1, wrF_wr]
    · rw [h2 j]
      by_cases e : j = i
      · subst e
        rw [if_neg (by omega), if_pos (by omega), wr_at]
      · rw [wr_in _ _ e, wr_off _ _ _ (by omega)]
        by_cases c : i ≤ j ∧ j < 43
        · rw [if_pos c, if_pos (by omega)]
        · rw [if_neg c, if_neg (by omega)]
theorem then_c  : ∀ (d i m : Nat) (σ : Mem), i + d = 43 → d < m → ∃ f : Nat → Int32, X12_layThen_l2 m 251 (nI i) σ = some (wrF σ 257 f) ∧ ∀ j, f j = if i ≤ j ∧ j < 43 then σ 255 (j) else σ 257 j := by
  intro d
  induction d with
  | zero =>
    intro i m σ hi hm 
    obtain ⟨m, rfl⟩ : ∃ m', m = m' + 1 := ⟨m - 1, by omega⟩
    obtain rfl : i = 43 := by omega
    refine ⟨σ 257, ?_, fun j => ?_⟩
    · show X12_layThen_b2 _ 251 (nI 43) σ = _
      unfold X12_layThen_b2
      rw [if_pos (by decide), wrF_self]
      
    · rw [if_neg (by omega)]
  | succ d ih =>
    intro i m σ hi hm 
    obtain ⟨m, rfl⟩ : ∃ m', m = m' + 1 := ⟨m - 1, by omega⟩
    obtain ⟨f, h1, h2⟩ := ih (i + 1) m (wr σ 257 (i) (σ 255 (i))) (by omega) (by omega) 
    refine ⟨f, ?_, fun j => ?_⟩
    · show X12_layThen_b2 _ 251 (nI i) σ = _
      unfold X12_layThen_b2
      rw [if_neg (show ¬ (43 : Int32) ≤ nI i from nI_ge (b := 43) (by omega) (by omega))]
      simp (disch := omega) only [show (43 : Int32) = nI 43 from rfl, nI_mul, nI_add, gdx_n, nc_n, nI_1]
      rw [h1, wrF_wr]
    · rw [h2 j]
      by_cases e : j = i
      · subst e
        rw [if_neg (by omega), if_pos (by omega), wr_at]
      · rw [wr_in _ _ e, wr_off _ _ _ (by omega)]
        by_cases c : i ≤ j ∧ j < 43
        · rw [if_pos c, if_pos (by omega)]
        · rw [if_neg c, if_neg (by omega)]
theorem shift_c : ∀ (d i m : Nat) (σ : Mem), i + d = 989 → d < m → ∃ f : Nat → Int32, X12_keeps_l11 m 251 (nI i) σ = X12_keeps_b49 251 (wr (wrF σ 258 f) 251 8 (σ 251 8 - 1)) ∧ ∀ j, f j = if i ≤ j ∧ j < 989 then σ 258 (j + 43) else σ 258 j := by
  intro d
  induction d with
  | zero =>
    intro i m σ hi hm
    obtain ⟨m, rfl⟩ : ∃ m', m = m' + 1 := ⟨m - 1, by omega⟩
    obtain rfl : i = 989 := by omega
    refine ⟨σ 258, ?_, fun j => ?_⟩
    · show X12_keeps_b11 _ 251 (nI 989) σ = _
      unfold X12_keeps_b11
      rw [if_pos (by decide), wrF_self]
    · rw [if_neg (by omega)]
  | succ d ih =>
    intro i m σ hi hm
    obtain ⟨m, rfl⟩ : ∃ m', m = m' + 1 := ⟨m - 1, by omega⟩
    obtain ⟨f, h1, h2⟩ := ih (i + 1) m (wr σ 258 i (σ 258 (i + 43))) (by omega) (by omega)
    refine ⟨f, ?_, fun j => ?_⟩
    · show X12_keeps_b11 _ 251 (nI i) σ = _
      unfold X12_keeps_b11
      rw [if_neg (show ¬ (989 : Int32) ≤ nI i from nI_ge (b := 989) (by omega) (by omega))]
      simp (disch := omega) only [show (43 : Int32) = nI 43 from rfl, nI_add, gdx_n, nc_n, nI_1]
      rw [h1, wrF_wr, wr_off _ _ _ (by omega)]
    · rw [h2 j]
      by_cases e : j = i
      · subst e
        rw [if_neg (by omega), if_pos (by omega), wr_at]
      · rw [wr_in _ _ e]
        by_cases c : i ≤ j ∧ j < 989
        · rw [if_pos c, if_pos (by omega), wr_in _ _ (by omega)]
        · rw [if_neg c, if_neg (by omega)]
theorem nI_div {a b : Nat} (ha : a < 2 ^ 31) (hb : b < 2 ^ 31) : nI a / nI b = nI (a / b) := by
  rw [← Int32.toInt_inj, Int32.toInt_div, nI_toInt ha, nI_toInt hb, nI_toInt (Nat.lt_of_le_of_lt (Nat.div_le_self a b) ha)]
  have e : ((a : Int).tdiv (b : Int)) = ((a / b : Nat) : Int) := by
    rw [Int.tdiv_eq_ediv_of_nonneg (by omega)]
    rfl
  rw [e]
  have h2 : a / b < 2 ^ 31 := Nat.lt_of_le_of_lt (Nat.div_le_self a b) ha
  generalize a / b = c at h2
  rw [Int.bmod_eq_of_le] <;> omega
theorem irm_n {a b : Nat} (ha : a < 2 ^ 31) (hb : b < 2 ^ 31) : irm (nI a) (nI b) = nI (a % b) := by
  show nI a - nI a / nI b * nI b = _
  rw [nI_div ha hb, nI_mul, nI_sub (Nat.div_mul_le_self a b)]
  congr 1
  have := Nat.div_add_mod' a b
  omega
def CA (σ : Mem) (m : Nat) (L : Nat → Nat → Nat) : Prop := ∃ o, o < 24 ∧ σ 28 1 = nI o ∧ σ 28 2 = nI m ∧ ∀ i, i < m → AtB σ (30 + 6 * ((o + i) % 24)) (L i)
def MA (σ : Mem) (m : Nat) (L : Nat → Nat → Nat) : Prop := σ 251 8 = nI m ∧ ∀ i, i < m → RwB (σ 258) (43 * i) (L i)
def kpM (m : Nat) : Nat := if m = 24 then 24 else m + 1
def kpL (m : Nat) (B : Nat → Nat) (L : Nat → Nat → Nat) : Nat → Nat → Nat := fun i => if m = 24 then (if i = 23 then B else L (i + 1)) else (if i = m then B else L i)
theorem keep_s (σ : Mem) (m : Nat) (B : Nat → Nat) (L : Nat → Nat → Nat) (hm : m ≤ 24) (hc : CA σ m L) (hb : AtB σ 22 B) (hn : B 0 ≤ 10) : ∃ σ', X0_keep 28 22 σ = some σ' ∧ CA σ' (kpM m) (kpL m B L) ∧ ∀ q, (q < 28 ∨ 174 ≤ q) → σ' q = σ q := by
  obtain ⟨o, ho, h1, h2, h3⟩ := hc
  obtain ⟨σ1, e1, e2, e3⟩ := like_s (30 + 6 * ((o + m) % 24)) 22 (by omega) σ B hb hn
  unfold X0_keep X0_keep_b0
  rw [h1, h2, nI_add, show (24 : Int32) = nI 24 from rfl, irm_n (by omega) (by omega), gdx_n (by omega) (by omega), nc_n (by omega)]
  rw [show X2_becomeLike (28 + 1 + 1 + 6 * ((o + m) % 24)) 22 σ = some σ1 from e1, ob_some]
  have g1 : σ1 28 1 = nI o := by rw [e3 28 (by omega)]; exact h1
  have g2 : σ1 28 2 = nI m := by rw [e3 28 (by omega)]; exact h2
  rw [g1, g2]
  by_cases c : m = 24
  · subst c
    rw [if_pos (by decide), nI_1, irm_n (by omega) (by omega)]
    refine ⟨_, rfl, ⟨(o + 1) % 24, by omega, wr_at _ _ _ _, by rw [wr_in _ _ (by omega)]; exact g2, fun i hi => ?_⟩, fun q hq => ?_⟩
    · have hi' : i < 24 := hi
      unfold kpL
      rw [if_pos rfl]
      by_cases c2 : i = 23
      · rw [if_pos c2, show ((o + 1) % 24 + i) % 24 = (o + 24) % 24 by omega]
        exact AtB.cg e2 (fun q _ _ => wr_off _ _ _ (by omega))
      · rw [if_neg c2, show ((o + 1) % 24 + i) % 24 = (o + (i + 1)) % 24 by omega]
        refine AtB.cg (h3 (i + 1) (by omega)) (fun q a b => ?_)
        rw [wr_off _ _ _ (by omega), e3 q (by omega)]
    · rw [wr_off _ _ _ (by omega), e3 q (by omega)]
  · rw [if_neg (nI_ge (by omega) (by omega)), nI_1]
    refine ⟨_, rfl, ⟨o, ho, by rw [wr_in _ _ (by omega)]; exact g1, ?_, fun i hi => ?_⟩, fun q hq => ?_⟩
    · unfold kpM
      rw [if_neg c]
      exact wr_at _ _ _ _
    · unfold kpM at hi
      rw [if_neg c] at hi
      unfold kpL
      rw [if_neg c]
      by_cases c2 : i = m
      · rw [if_pos c2, c2]
        exact AtB.cg e2 (fun q _ _ => wr_off _ _ _ (by omega))
      · rw [if_neg c2]
        refine AtB.cg (h3 i (by omega)) (fun q a b => ?_)
        rw [wr_off _ _ _ (by omega), e3 q (by omega)]
    · rw [wr_off _ _ _ (by omega), e3 q (by omega)]
theorem keeps_s (σ : Mem) (m : Nat) (B : Nat → Nat) (L : Nat → Nat → Nat) (hm : m ≤ 24) (hc : MA σ m L) (hb : RwB (σ 255) 0 B) (hn : B 0 ≤ 10) (hl : ∀ i, i < m → L i 0 ≤ 10) : ∃ σ', X12_keeps 251 σ = some σ' ∧ MA σ' (kpM m) (kpL m B L) ∧ (∀ q, q ≠ 251 → q ≠ 258 → σ' q = σ q) ∧ ∀ j, j ≠ 8 → σ' 251 j = σ 251 j := by
  obtain ⟨h1, h2⟩ := hc
  unfold X12_keeps X12_keeps_b0
  rw [h1]
  by_cases c : m = 24
  · subst c
    rw [if_pos (show nI 24 = 24 from rfl)]
    obtain ⟨f, e1, e2⟩ := shift_c 989 0 FU σ (by omega) (by unfold FU; omega)
    rw [show (0 : Int32) = nI 0 from rfl, e1, h1]
    unfold X12_keeps_b49
    obtain ⟨g, e3, e4⟩ := keeps_c 23 (by omega) 43 0 FU (wr (wrF σ 258 f) 251 8 (nI 24 - 1)) (by omega) (by unfold FU; omega) (by rw [wr_at]; rfl)
    rw [show (0 : Int32) = nI 0 from rfl, e3]
    refine ⟨_, rfl, ⟨wr_at _ _ _ _, fun i hi t ht => ?_⟩, fun q a b => ?_, fun j hj => ?_⟩
    · have hi' : i < 24 := hi
      unfold kpL at ht ⊢
      rw [if_pos rfl] at ht ⊢
      rw [wr_off _ _ _ (by omega), wrF_same, e4, wr_off _ _ _ (by omega), wr_off _ _ _ (by omega), wrF_same, wrF_ne _ _ (by omega), e2]
      by_cases c2 : i = 23
      · subst c2
        rw [if_pos rfl] at ht ⊢
        rw [if_pos (by omega)]
        have := hb t ht
        rw [show 43 * 23 + t - 43 * 23 = 0 + t by omega]
        exact this
      · rw [if_neg c2] at ht ⊢
        have := hl (i + 1) (by omega)
        rw [if_neg (by omega), if_pos (by omega), show 43 * i + t + 43 = 43 * (i + 1) + t by omega]
        exact h2 (i + 1) (by omega) t ht
    · rw [wr_off _ _ _ a, wrF_ne _ _ b, wr_off _ _ _ a, wrF_ne _ _ b]
    · rw [wr_in _ _ hj, wrF_ne _ _ (by omega), wr_in _ _ hj, wrF_ne _ _ (by omega)]
  · rw [if_neg (show ¬ nI m = 24 from fun q => c ((nI_inj (b := 24) (by omega) (by omega)).mp q))]
    unfold X12_keeps_b49
    obtain ⟨g, e3, e4⟩ := keeps_c m (by omega) 43 0 FU σ (by omega) (by unfold FU; omega) h1
    rw [show (0 : Int32) = nI 0 from rfl, e3]
    refine ⟨_, rfl, ⟨?_, fun i hi t ht => ?_⟩, fun q a b => ?_, fun j hj => ?_⟩
    · unfold kpM
      rw [if_neg c]
      exact wr_at _ _ _ _
    · unfold kpM at hi
      rw [if_neg c] at hi
      unfold kpL at ht ⊢
      rw [if_neg c] at ht ⊢
      rw [wr_off _ _ _ (by omega), wrF_same, e4]
      by_cases c2 : i = m
      · subst c2
        rw [if_pos rfl] at ht ⊢
        rw [if_pos (by omega)]
        have := hb t ht
        rw [show 43 * i + t - 43 * i = 0 + t by omega]
        exact this
      · rw [if_neg c2] at ht ⊢
        have := hl i (by omega)
        rw [if_neg (by omega)]
        exact h2 i (by omega) t ht
    · rw [wr_off _ _ _ a, wrF_ne _ _ b]
    · rw [wr_in _ _ hj, wrF_ne _ _ (by omega)]
theorem goBack_s (σ : Mem) (m : Nat) (L : Nat → Nat → Nat) (hm : m < 24) (hc : CA σ (m + 1) L) (hn : L m 0 ≤ 10) : ∃ σ', X0_goBack 28 22 σ = some σ' ∧ CA σ' m L ∧ AtB σ' 22 (L m) ∧ ∀ q, (q < 22 ∨ 28 < q) → σ' q = σ q := by
  obtain ⟨o, ho, h1, h2, h3⟩ := hc
  unfold X0_goBack X0_goBack_b0
  rw [h2, if_neg (show ¬ nI (m + 1) ≤ 0 from nI_ge (b := m + 1) (a := 0) (by omega) (by omega) |> fun _ => by rw [show (0 : Int32) = nI 0 from rfl, nI_le_iff (by omega) (by omega)]; omega), letv_eq, show (1 : Int32) = nI 1 from rfl, nI_sub (by omega), show m + 1 - 1 = m by omega]
  rw [wr_in _ _ (by omega), wr_at, h1, nI_add, show (24 : Int32) = nI 24 from rfl, irm_n (by omega) (by omega), gdx_n (by omega) (by omega), nc_n (by omega)]
  have hA : AtB (wr σ 28 2 (nI m)) (30 + 6 * ((o + m) % 24)) (L m) := AtB.cg (h3 m (by omega)) (fun q a b => wr_off _ _ _ (by omega))
  obtain ⟨σ1, e1, e2, e3⟩ := like_s 22 (30 + 6 * ((o + m) % 24)) (by omega) _ (L m) hA hn
  rw [show X2_becomeLike 22 (28 + 1 + 1 + 6 * ((o + m) % 24)) (wr σ 28 2 (nI m)) = some σ1 from e1, ob_some]
  refine ⟨_, rfl, ⟨o, ho, ?_, ?_, fun i hi => ?_⟩, e2, fun q hq => ?_⟩
  · rw [e3 28 (by omega), wr_in _ _ (by omega)]
    exact h1
  · rw [e3 28 (by omega), wr_at]
  · refine AtB.cg (h3 i (by omega)) (fun q a b => ?_)
    rw [e3 q (by omega), wr_off _ _ _ (by omega)]
  · rw [e3 q (by omega), wr_off _ _ _ (by omega)]
