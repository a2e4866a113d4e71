/-! PURE: pages put in and taken out. -/
def cl (k c : Nat) : Nat := if c = 0 then k + 1 else k + 2 + c
theorem cl_0 (k : Nat) : cl k 0 = k + 1 := rfl
theorem cl_s (k c : Nat) : cl k (c + 1) = k + 3 + c := by
  unfold cl
  rw [if_neg (by omega)]
  omega
theorem cl_ge (k c : Nat) : k < cl k c := by
  unfold cl
  split <;> omega
theorem cl_lt (k c : Nat) (h : c < 4) : cl k c < k + 6 := by
  unfold cl
  split <;> omega
theorem AtB_iff (σ : Mem) (k : Nat) (B : Nat → Nat) : AtB σ k B ↔ σ k 0 = nI (B 0) ∧ σ k 1 = nI (B 1) ∧ σ k 2 = nI (B 2) ∧ ∀ p, p < B 0 → ∀ c, c < 4 → σ (cl k c) p = nI (B (3 + 4 * p + c)) := by
  constructor
  · rintro ⟨h1, h2, h3, h4⟩
    refine ⟨h1, h2, h3, fun p hp c hc => ?_⟩
    cases c with
    | zero => exact (h4 p hp).1
    | succ c => rw [cl_s, (h4 p hp).2 c (by omega)]; congr 2; omega
  · rintro ⟨h1, h2, h3, h4⟩
    refine ⟨h1, h2, h3, fun p hp => ⟨h4 p hp 0 (by omega), fun w hw => ?_⟩⟩
    have := h4 p hp (w + 1) (by omega)
    rw [cl_s] at this
    rw [this]
    congr 2
    omega
theorem nI_m1 (a : Nat) : nI (a + 1) + (-1) = nI a := by
  rw [← nI_1, Int32.add_assoc]
  show nI a + 0 = _
  rw [Int32.add_zero]
theorem nI_s1 (a : Nat) : nI (a + 1) - 1 = nI a := by
  rw [show (1 : Int32) = nI 1 from rfl, nI_sub (by omega)]
  rfl
theorem c4 {c : Nat} (h : c < 4) : c = 0 ∨ c = 1 ∨ c = 2 ∨ c = 3 := by omega
theorem over_s (k a b : Nat) (ha : a < 10) (hb : b < 10) (σ : Mem) : ∃ σ', X2_overwrite k (nI a) (nI b) σ = some σ' ∧ (∀ c, c < 4 → ∀ i, σ' (cl k c) i = if i = a then σ (cl k c) b else σ (cl k c) i) ∧ ∀ q, (q ≤ k ∨ q = k + 2 ∨ k + 6 ≤ q) → σ' q = σ q := by
  unfold X2_overwrite X2_overwrite_b0
  obtain ⟨m, hm⟩ : ∃ m, FU = m + 1 + 1 + 1 + 1 := ⟨999999996, rfl⟩
  rw [gdx_n (by omega) (by omega), gdx_n (by omega) (by omega), nc_n (by omega), nc_n (by omega), hm]
  simp only [X2_overwrite_l14, X2_overwrite_b14]
  rw [show (0 : Int32) + 1 = nI 1 from rfl, show nI 1 + 1 = nI 2 from rfl, show nI 2 + 1 = nI 3 from rfl, show (0 : Int32) = nI 0 from rfl]
  rw [if_neg (show ¬ (2 : Int32) < nI 0 by decide), if_neg (show ¬ (2 : Int32) < nI 1 by decide), if_neg (show ¬ (2 : Int32) < nI 2 by decide), if_pos (show (2 : Int32) < nI 3 by decide)]
  simp (disch := omega) only [gdx_n, nc_n]
  refine ⟨_, rfl, fun c hc i => ?_, fun q hq => ?_⟩
  · by_cases e : i = a
    · rw [if_pos e, e]
      rcases c4 hc with rfl | rfl | rfl | rfl
      · rw [cl_0]
        simp (disch := omega) only [wr_off, wr_at]
      · rw [cl_s, show k + 3 + 0 = k + 2 + 1 + 0 by omega]
        simp (disch := omega) only [wr_off, wr_at]
      · rw [cl_s, show k + 3 + 1 = k + 2 + 1 + 1 by omega]
        simp (disch := omega) only [wr_off, wr_at]
      · rw [cl_s, show k + 3 + 2 = k + 2 + 1 + 2 by omega]
        simp (disch := omega) only [wr_off, wr_at]
    · rw [if_neg e]
      rcases c4 hc with rfl | rfl | rfl | rfl
      · rw [cl_0]
        simp (disch := omega) only [wr_off, wr_in]
      · rw [cl_s, show k + 3 + 0 = k + 2 + 1 + 0 by omega]
        simp (disch := omega) only [wr_off, wr_in]
      · rw [cl_s, show k + 3 + 1 = k + 2 + 1 + 1 by omega]
        simp (disch := omega) only [wr_off, wr_in]
      · rw [cl_s, show k + 3 + 2 = k + 2 + 1 + 2 by omega]
        simp (disch := omega) only [wr_off, wr_in]
  · simp (disch := omega) only [wr_off]
theorem ins_l (k p : Nat) (X : Nat → Int32) : ∀ (d m : Nat) (σ : Mem), d < m → p + d < 10 → ∃ σ', X2_insert_l28 m k (nI p) (X 0) (X 1) (X 2) (X 3) (nI (p + d)) σ = some σ' ∧ σ' k 0 = σ k 0 + 1 ∧ σ' k 1 = σ k 1 ∧ σ' k 2 = σ k 2 ∧ (∀ c, c < 4 → ∀ i, σ' (cl k c) i = if i = p then X c else if p < i ∧ i ≤ p + d then σ (cl k c) (i - 1) else σ (cl k c) i) ∧ ∀ q, (q < k ∨ q = k + 2 ∨ k + 6 ≤ q) → σ' q = σ q := by
  intro d
  induction d with
  | zero =>
    intro m σ hm hp
    obtain ⟨m, rfl⟩ : ∃ m', m = m' + 1 := ⟨m - 1, by omega⟩
    show ∃ σ', X2_insert_b28 _ k (nI p) (X 0) (X 1) (X 2) (X 3) (nI p) σ = some σ' ∧ _
    unfold X2_insert_b28
    rw [if_pos (nI_le (by omega) (by omega)), letv_eq, letv_eq, letv_eq, letv_eq, gdx_n (by omega) (by omega), gdx_n (by omega) (by omega), gdx_n (by omega) (by omega), gdx_n (by omega) (by omega), nc_n (by omega), nc_0, nc_1, nc_2]
    refine ⟨_, rfl, ?_, ?_, ?_, fun c hc i => ?_, fun q hq => ?_⟩
    · simp (disch := omega) only [wr_off, wr_at]
    · simp (disch := omega) only [wr_off, wr_in]
    · simp (disch := omega) only [wr_off, wr_in]
    · by_cases e : i = p
      · rw [if_pos e, e]
        rcases c4 hc with rfl | rfl | rfl | rfl
        · rw [cl_0]
          simp (disch := omega) only [wr_off, wr_at]
        · rw [cl_s, show k + 3 + 0 = k + 2 + 1 + 0 by omega]
          simp (disch := omega) only [wr_off, wr_at]
        · rw [cl_s, show k + 3 + 1 = k + 2 + 1 + 1 by omega]
          simp (disch := omega) only [wr_off, wr_at]
        · rw [cl_s, show k + 3 + 2 = k + 2 + 1 + 2 by omega]
          simp (disch := omega) only [wr_off, wr_at]
      · rw [if_neg e, if_neg (by omega)]
        rcases c4 hc with rfl | rfl | rfl | rfl
        · rw [cl_0]
          simp (disch := omega) only [wr_off, wr_in]
        · rw [cl_s, show k + 3 + 0 = k + 2 + 1 + 0 by omega]
          simp (disch := omega) only [wr_off, wr_in]
        · rw [cl_s, show k + 3 + 1 = k + 2 + 1 + 1 by omega]
          simp (disch := omega) only [wr_off, wr_in]
        · rw [cl_s, show k + 3 + 2 = k + 2 + 1 + 2 by omega]
          simp (disch := omega) only [wr_off, wr_in]
    · simp (disch := omega) only [wr_off]
  | succ d ih =>
    intro m σ hm hp
    obtain ⟨m, rfl⟩ : ∃ m', m = m' + 1 := ⟨m - 1, by omega⟩
    obtain ⟨σ1, a1, a2, a3⟩ := over_s k (p + (d + 1)) (p + d) (by omega) (by omega) σ
    obtain ⟨σ', h1, h2, h3, h4, h5, h6⟩ := ih m σ1 (by omega) (by omega)
    refine ⟨σ', ?_, by rw [h2, a3 k (by omega)], by rw [h3, a3 k (by omega)], by rw [h4, a3 k (by omega)], fun c hc i => ?_, fun q hq => by rw [h6 q hq, a3 q (by omega)]⟩
    · show X2_insert_b28 _ k (nI p) (X 0) (X 1) (X 2) (X 3) (nI (p + d + 1)) σ = some σ'
      unfold X2_insert_b28
      rw [if_neg (by rw [nI_le_iff (by omega) (by omega)]; omega), nI_s1, nI_m1]
      rw [show X2_overwrite k (nI (p + d + 1)) (nI (p + d)) σ = some σ1 from a1, ob_some]
      exact h1
    · rw [h5 c hc i]
      by_cases e : i = p
      · rw [if_pos e, if_pos e]
      · rw [if_neg e, if_neg e, a2 c hc, a2 c hc]
        by_cases e2 : p < i ∧ i ≤ p + d
        · rw [if_pos e2, if_pos (show p < i ∧ i ≤ p + (d + 1) by omega), if_neg (show ¬ i - 1 = p + (d + 1) by omega)]
        · rw [if_neg e2]
          by_cases e3 : i = p + (d + 1)
          · rw [if_pos e3, if_pos (show p < i ∧ i ≤ p + (d + 1) by omega), e3]
            rfl
          · rw [if_neg e3, if_neg (show ¬ (p < i ∧ i ≤ p + (d + 1)) by omega)]
theorem cut_l (k n : Nat) (hn : n ≤ 10) : ∀ (d i m : Nat) (σ : Mem), d < m → i + d + 1 = n → σ k 0 = nI n → ∃ σ', X2_cut_l2 m k (nI i) σ = some σ' ∧ σ' k 0 = nI (n - 1) ∧ σ' k 1 = σ k 1 ∧ σ' k 2 = σ k 2 ∧ (∀ c, c < 4 → ∀ j, σ' (cl k c) j = if i ≤ j ∧ j + 1 < n then σ (cl k c) (j + 1) else σ (cl k c) j) ∧ ∀ q, (q < k ∨ q = k + 2 ∨ k + 6 ≤ q) → σ' q = σ q := by
  intro d
  induction d with
  | zero =>
    intro i m σ hm hi h0
    obtain ⟨m, rfl⟩ : ∃ m', m = m' + 1 := ⟨m - 1, by omega⟩
    obtain rfl : n = i + 1 := by omega
    show ∃ σ', X2_cut_b2 _ k (nI i) σ = some σ' ∧ _
    unfold X2_cut_b2
    rw [h0, nI_s1, if_pos (nI_le (by omega) (by omega))]
    refine ⟨_, rfl, wr_at _ _ _ _, wr_in _ _ (by omega), wr_in _ _ (by omega), fun c hc j => ?_, fun q hq => wr_off _ _ _ (by omega)⟩
    have := cl_ge k c
    rw [if_neg (by omega), wr_off _ _ _ (by omega)]
  | succ d ih =>
    intro i m σ hm hi h0
    obtain ⟨m, rfl⟩ : ∃ m', m = m' + 1 := ⟨m - 1, by omega⟩
    obtain ⟨σ1, a1, a2, a3⟩ := over_s k i (i + 1) (by omega) (by omega) σ
    obtain ⟨σ', h1, h2, h3, h4, h5, h6⟩ := ih (i + 1) m σ1 (by omega) (by omega) (by rw [a3 k (by omega)]; exact h0)
    refine ⟨σ', ?_, h2, by rw [h3, a3 k (by omega)], by rw [h4, a3 k (by omega)], fun c hc j => ?_, fun q hq => by rw [h6 q hq, a3 q (by omega)]⟩
    · show X2_cut_b2 _ k (nI i) σ = some σ'
      unfold X2_cut_b2
      rw [h0, show n = n - 1 + 1 by omega, nI_s1, if_neg (by rw [nI_le_iff (by omega) (by omega)]; omega), nI_1, a1, ob_some]
      exact h1
    · rw [h5 c hc j, a2 c hc, a2 c hc]
      by_cases e : i + 1 ≤ j ∧ j + 1 < n
      · rw [if_pos e, if_pos (show i ≤ j ∧ j + 1 < n by omega), if_neg (show ¬ j + 1 = i by omega)]
      · rw [if_neg e]
        by_cases e2 : j = i
        · rw [if_pos e2, if_pos (show i ≤ j ∧ j + 1 < n by omega), e2]
        · rw [if_neg e2, if_neg (show ¬ (i ≤ j ∧ j + 1 < n) by omega)]
def insB (B : Nat → Nat) (p : Nat) (x : Nat → Nat) : Nat → Nat := fun i => if i = 0 then B 0 + 1 else if i < 3 + 4 * p then B i else if i < 7 + 4 * p then x (i - (3 + 4 * p)) else B (i - 4)
def cutB (B : Nat → Nat) (p : Nat) : Nat → Nat := fun i => if i = 0 then B 0 - 1 else if i < 3 + 4 * p then B i else B (i + 4)
theorem ins_s (k p : Nat) (x : Nat → Nat) (σ : Mem) (B : Nat → Nat) (h : AtB σ k B) (hp : p ≤ B 0) (hn : B 0 < 10) : ∃ σ', X2_insert k (nI p) (nI (x 0)) (nI (x 1)) (nI (x 2)) (nI (x 3)) σ = some σ' ∧ AtB σ' k (insB B p x) ∧ ∀ q, (q < k ∨ k + 6 ≤ q) → σ' q = σ q := by
  obtain ⟨b1, b2, b3, b4⟩ := (AtB_iff σ k B).mp h
  obtain ⟨σ', h1, h2, h3, h4, h5, h6⟩ := ins_l k p (fun c => nI (x c)) (B 0 - p) FU σ (by unfold FU; omega) (by omega)
  refine ⟨σ', ?_, (AtB_iff _ _ _).mpr ⟨?_, ?_, ?_, fun q hq c hc => ?_⟩, fun q hq => h6 q (by omega)⟩
  · unfold X2_insert X2_insert_b0
    rw [if_neg (nI_nn (by omega)), b1, if_neg (by rw [nI_lt_iff (by omega) (by omega)]; omega), if_pos (show nI (B 0) < 10 from nI_lt (b := 10) (by omega) (by omega)), letv_eq, show B 0 = p + (B 0 - p) by omega]
    exact h1
  · rw [h2, b1, nI_1]
    rfl
  · rw [h3, b2]
    unfold insB
    rw [if_neg (by omega), if_pos (by omega)]
  · rw [h4, b3]
    unfold insB
    rw [if_neg (by omega), if_pos (by omega)]
  · have hq' : q < B 0 + 1 := hq
    rw [h5 c hc q]
    unfold insB
    rw [if_neg (show ¬ 3 + 4 * q + c = 0 by omega)]
    by_cases e : q = p
    · rw [if_pos e, if_neg (show ¬ 3 + 4 * q + c < 3 + 4 * p by omega), if_pos (show 3 + 4 * q + c < 7 + 4 * p by omega), show 3 + 4 * q + c - (3 + 4 * p) = c by omega]
    · rw [if_neg e]
      by_cases e2 : q < p
      · rw [if_neg (show ¬ (p < q ∧ q ≤ p + (B 0 - p)) by omega), if_pos (show 3 + 4 * q + c < 3 + 4 * p by omega), b4 q (by omega) c hc]
      · rw [if_pos (show p < q ∧ q ≤ p + (B 0 - p) by omega), if_neg (show ¬ 3 + 4 * q + c < 3 + 4 * p by omega), if_neg (show ¬ 3 + 4 * q + c < 7 + 4 * p by omega), b4 (q - 1) (by omega) c hc]
        congr 2
        omega
theorem cut_s (k p : Nat) (σ : Mem) (B : Nat → Nat) (h : AtB σ k B) (hp : p < B 0) (hn : B 0 ≤ 10) : ∃ σ', X2_cut k (nI p) σ = some σ' ∧ AtB σ' k (cutB B p) ∧ ∀ q, (q < k ∨ k + 6 ≤ q) → σ' q = σ q := by
  obtain ⟨b1, b2, b3, b4⟩ := (AtB_iff σ k B).mp h
  obtain ⟨σ', h1, h2, h3, h4, h5, h6⟩ := cut_l k (B 0) hn (B 0 - p - 1) p FU σ (by unfold FU; omega) (by omega) b1
  refine ⟨σ', h1, (AtB_iff _ _ _).mpr ⟨?_, ?_, ?_, fun q hq c hc => ?_⟩, fun q hq => h6 q (by omega)⟩
  · rw [h2]
    rfl
  · rw [h3, b2]
    unfold cutB
    rw [if_neg (by omega), if_pos (by omega)]
  · rw [h4, b3]
    unfold cutB
    rw [if_neg (by omega), if_pos (by omega)]
  · have hq' : q < B 0 - 1 := hq
    rw [h5 c hc q]
    unfold cutB
    rw [if_neg (show ¬ 3 + 4 * q + c = 0 by omega)]
    by_cases e : p ≤ q
    · rw [if_pos (show p ≤ q ∧ q + 1 < B 0 by omega), if_neg (show ¬ 3 + 4 * q + c < 3 + 4 * p by omega), b4 (q + 1) (by omega) c hc]
      congr 2
      omega
    · rw [if_neg (show ¬ (p ≤ q ∧ q + 1 < B 0) by omega), if_pos (show 3 + 4 * q + c < 3 + 4 * p by omega), b4 q (by omega) c hc]
theorem opens_l (k p : Nat) : ∀ (d m : Nat) (σ : Mem), d < m → 6 + 4 * p + d < 43 → ∃ f : Nat → Int32, X12_opens_l10 m k (nI p) (nI (2 + 4 * p + d)) σ = some (wrF σ k f) ∧ f 0 = σ k 0 + 1 ∧ ∀ j, 0 < j → f j = if 7 + 4 * p ≤ j ∧ j < 7 + 4 * p + d then σ k (j - 4) else σ k j := by
  intro d
  induction d with
  | zero =>
    intro m σ hm hp
    obtain ⟨m, rfl⟩ : ∃ m', m = m' + 1 := ⟨m - 1, by omega⟩
    refine ⟨upd (σ k) 0 (σ k 0 + 1), ?_, upd_at _ _ _, fun j hj => ?_⟩
    · show X12_opens_b10 _ k (nI p) (nI (2 + 4 * p)) σ = _
      unfold X12_opens_b10
      rw [show (3 : Int32) = nI 3 from rfl, show (4 : Int32) = nI 4 from rfl, nI_mul, nI_add, if_pos (nI_lt (by omega) (by omega)), nc_0]
      rfl
    · rw [upd_ne _ _ (by omega), if_neg (by omega)]
  | succ d ih =>
    intro m σ hm hp
    obtain ⟨m, rfl⟩ : ∃ m', m = m' + 1 := ⟨m - 1, by omega⟩
    obtain ⟨f, h1, h2, h3⟩ := ih m (wr σ k (2 + 4 * p + d + 1 + 4) (σ k (2 + 4 * p + d + 1))) (by omega) (by omega)
    refine ⟨f, ?_, by rw [h2, wr_in _ _ (by omega)], fun j hj => ?_⟩
    · show X12_opens_b10 _ k (nI p) (nI (2 + 4 * p + d + 1)) σ = _
      unfold X12_opens_b10
      rw [show (3 : Int32) = nI 3 from rfl, show (4 : Int32) = nI 4 from rfl, nI_mul, nI_add, if_neg (by rw [nI_lt_iff (by omega) (by omega)]; omega), gdx_n (by omega) (by omega), nI_add, gdx_n (by omega) (by omega), nc_n (by omega), nc_n (by omega), nI_m1, h1, wrF_wr]
    · rw [h3 j hj]
      by_cases e : 7 + 4 * p ≤ j ∧ j < 7 + 4 * p + d
      · rw [if_pos e, if_pos (show 7 + 4 * p ≤ j ∧ j < 7 + 4 * p + (d + 1) by omega), wr_in _ _ (by omega)]
      · rw [if_neg e]
        by_cases e2 : j = 2 + 4 * p + d + 1 + 4
        · subst e2
          rw [wr_at, if_pos (by omega)]
          rfl
        · rw [wr_in _ _ e2, if_neg (show ¬ (7 + 4 * p ≤ j ∧ j < 7 + 4 * p + (d + 1)) by omega)]
theorem lays_s (k p : Nat) (hp : p < 10) (v1 v2 v3 v4 : Int32) (σ : Mem) : X12_lays k (nI p) v1 v2 v3 v4 σ = some (wr (wr (wr (wr σ k (3 + 4 * p) v1) k (3 + 4 * p + 1) v2) k (3 + 4 * p + 2) v3) k (3 + 4 * p + 3) v4) := by
  unfold X12_lays X12_lays_b0
  rw [show (3 : Int32) = nI 3 from rfl, show (4 : Int32) = nI 4 from rfl, nI_mul, nI_add, letv_eq, letv_eq, letv_eq, letv_eq, gdx_n (by omega) (by omega), nI_1, gdx_n (by omega) (by omega), show (2 : Int32) = nI 2 from rfl, nI_add, gdx_n (by omega) (by omega), nI_add, gdx_n (by omega) (by omega), nc_n (by omega), nc_n (by omega), nc_n (by omega), nc_n (by omega)]
theorem mins_s (k p : Nat) (x : Nat → Nat) (σ : Mem) (B : Nat → Nat) (h : RwB (σ k) 0 B) (hp : p ≤ B 0) (hn : B 0 < 10) : ∃ σ1 f, X12_opens k (nI p) σ = some σ1 ∧ X12_lays k (nI p) (nI (x 0)) (nI (x 1)) (nI (x 2)) (nI (x 3)) σ1 = some (wrF σ k f) ∧ RwB f 0 (insB B p x) := by
  have h0 := h 0 (by omega)
  obtain ⟨f, e1, e2, e3⟩ := opens_l k p (4 * (B 0 - p)) FU σ (by unfold FU; omega) (by omega)
  refine ⟨wrF σ k f, (wr (wr (wr (wr (wrF σ k f) k (3 + 4 * p) (nI (x 0))) k (3 + 4 * p + 1) (nI (x 1))) k (3 + 4 * p + 2) (nI (x 2))) k (3 + 4 * p + 3) (nI (x 3))) k, ?_, ?_, fun t ht => ?_⟩
  · unfold X12_opens X12_opens_b0
    rw [show nc 0 = 0 from rfl, show σ k 0 = nI (B 0) from h0, show (3 : Int32) = nI 3 from rfl, show (4 : Int32) = nI 4 from rfl, nI_mul, nI_add, letv_eq, show 3 + 4 * B 0 = 2 + 4 * p + 4 * (B 0 - p) + 1 by omega, nI_s1]
    exact e1
  · rw [lays_s k p (by omega)]
    congr 1
    funext q
    by_cases hq : q = k
    · subst hq
      rw [wrF_same]
    · rw [wrF_ne _ _ hq]
      simp only [wr_off _ _ _ hq, wrF_ne _ _ hq]
  · have ht' : t < 3 + 4 * (B 0 + 1) := ht
    rw [show 0 + t = t by omega]
    unfold insB
    by_cases c0 : t = 0
    · subst c0
      rw [if_pos rfl]
      simp (disch := omega) only [wr_in, wrF_same]
      rw [e2, show σ k 0 = nI (B 0) from h0, nI_1]
    · rw [if_neg c0]
      by_cases c1 : t < 3 + 4 * p
      · rw [if_pos c1]
        simp (disch := omega) only [wr_in, wrF_same]
        rw [e3 t (by omega), if_neg (by omega)]
        have := h t (by omega)
        rw [show 0 + t = t by omega] at this
        exact this
      · rw [if_neg c1]
        by_cases c2 : t < 7 + 4 * p
        · rw [if_pos c2]
          rcases c4 (show t - (3 + 4 * p) < 4 by omega) with c3 | c3 | c3 | c3
          · obtain rfl : t = 3 + 4 * p := by omega
            simp (disch := omega) only [wr_in, wr_at]
            rw [c3]
          · obtain rfl : t = 3 + 4 * p + 1 := by omega
            simp (disch := omega) only [wr_in, wr_at]
            rw [c3]
          · obtain rfl : t = 3 + 4 * p + 2 := by omega
            simp (disch := omega) only [wr_in, wr_at]
            rw [c3]
          · obtain rfl : t = 3 + 4 * p + 3 := by omega
            simp (disch := omega) only [wr_in, wr_at]
            rw [c3]
        · rw [if_neg c2]
          simp (disch := omega) only [wr_in, wrF_same]
          rw [e3 t (by omega), if_pos (by omega)]
          have := h (t - 4) (by omega)
          rw [show 0 + (t - 4) = t - 4 by omega] at this
          exact this
theorem closes_l (k n : Nat) (hn : n ≤ 10) : ∀ (d i m : Nat) (σ : Mem), d < m → 3 ≤ i → i + d + 1 = 4 * n → σ k 0 = nI n → ∃ f : Nat → Int32, X12_closes_l6 m k (nI i) σ = some (wrF σ k f) ∧ f 0 = nI (n - 1) ∧ ∀ j, 0 < j → f j = if i ≤ j ∧ j + 1 < 4 * n then σ k (j + 4) else σ k j := by
  intro d
  induction d with
  | zero =>
    intro i m σ hm h3 hi h0
    obtain ⟨m, rfl⟩ : ∃ m', m = m' + 1 := ⟨m - 1, by omega⟩
    refine ⟨upd (σ k) 0 (nI (n - 1)), ?_, upd_at _ _ _, fun j hj => ?_⟩
    · show X12_closes_b6 _ k (nI i) σ = _
      unfold X12_closes_b6
      rw [show nc 0 = 0 from rfl, h0, show (3 : Int32) = nI 3 from rfl, show (4 : Int32) = nI 4 from rfl, nI_mul, nI_add, nI_sub (by omega), if_pos (nI_le (by omega) (by omega)), show n = n - 1 + 1 by omega, nI_s1]
      rfl
    · rw [upd_ne _ _ (by omega), if_neg (by omega)]
  | succ d ih =>
    intro i m σ hm h3 hi h0
    obtain ⟨m, rfl⟩ : ∃ m', m = m' + 1 := ⟨m - 1, by omega⟩
    obtain ⟨f, h1, h2, h3⟩ := ih (i + 1) m (wr σ k i (σ k (i + 4))) (by omega) (by omega) (by omega) (by rw [wr_in _ _ (by omega)]; exact h0)
    refine ⟨f, ?_, h2, fun j hj => ?_⟩
    · show X12_closes_b6 _ k (nI i) σ = _
      unfold X12_closes_b6
      rw [show nc 0 = 0 from rfl, h0, show (3 : Int32) = nI 3 from rfl, show (4 : Int32) = nI 4 from rfl, nI_mul, nI_add, nI_sub (by omega), if_neg (by rw [nI_le_iff (by omega) (by omega)]; omega), nI_add, gdx_n (by omega) (by omega), gdx_n (by omega) (by omega), nc_n (by omega), nc_n (by omega), nI_1, h1, wrF_wr]
    · rw [h3 j hj]
      by_cases e : i + 1 ≤ j ∧ j + 1 < 4 * n
      · rw [if_pos e, if_pos (by omega), wr_in _ _ (by omega)]
      · rw [if_neg e]
        by_cases e2 : j = i
        · subst e2
          rw [wr_at, if_pos (by omega)]
        · rw [wr_in _ _ e2, if_neg (by omega)]
theorem closes_s (k p : Nat) (σ : Mem) (B : Nat → Nat) (h : RwB (σ k) 0 B) (hp : p < B 0) (hn : B 0 ≤ 10) : ∃ f, X12_closes k (nI p) σ = some (wrF σ k f) ∧ RwB f 0 (cutB B p) := by
  have h0 := h 0 (by omega)
  obtain ⟨f, e1, e2, e3⟩ := closes_l k (B 0) hn (4 * B 0 - 1 - (3 + 4 * p)) (3 + 4 * p) FU σ (by unfold FU; omega) (by omega) (by omega) h0
  refine ⟨f, ?_, fun t ht => ?_⟩
  · unfold X12_closes X12_closes_b0
    rw [show (3 : Int32) = nI 3 from rfl, show (4 : Int32) = nI 4 from rfl, nI_mul, nI_add, letv_eq]
    exact e1
  · have ht' : t < 3 + 4 * (B 0 - 1) := ht
    rw [show 0 + t = t by omega]
    unfold cutB
    by_cases c0 : t = 0
    · subst c0
      rw [if_pos rfl, e2]
    · rw [if_neg c0, e3 t (by omega)]
      by_cases c1 : t < 3 + 4 * p
      · rw [if_pos c1, if_neg (by omega)]
        have := h t (by omega)
        rw [show 0 + t = t by omega] at this
        exact this
      · rw [if_neg c1, if_pos (by omega)]
        have := h (t + 4) (by omega)
        rw [show 0 + (t + 4) = t + 4 by omega] at this
        exact this
