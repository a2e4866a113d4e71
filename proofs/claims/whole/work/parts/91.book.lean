/-! PURE: books. A book in words: B 0 pages, B 1 limit, B 2 change, B (3 + 4 p) kind, B (4 + 4 p + w) measure. -/
theorem nc_0 : nc 0 = 0 := by decide
theorem nc_1 : nc 1 = 1 := by decide
theorem nc_2 : nc 2 = 2 := by decide
theorem nc_10 : nc 10 = 10 := by decide
theorem gdx_0 {α : Type} {N : Nat} (h : 0 < N) (x : Option α) : gdx 0 N x = x := gdx_n (n := 0) h (by omega) x
theorem gdc_10 {α : Type} (x : Option α) : gdc 0 0 10 10 10 x = x := gdc_n (a := 0) (b := 0) (n := 10) (by omega) (by omega) (by omega) (by omega) x
def AtB (σ : Mem) (k : Nat) (B : Nat → Nat) : Prop := σ k 0 = nI (B 0) ∧ σ k 1 = nI (B 1) ∧ σ k 2 = nI (B 2) ∧ ∀ p, p < B 0 → σ (k + 1) p = nI (B (3 + 4 * p)) ∧ ∀ w, w < 3 → σ (k + 3 + w) p = nI (B (4 + 4 * p + w))
def RwB (f : Nat → Int32) (o : Nat) (B : Nat → Nat) : Prop := ∀ i, i < 3 + 4 * B 0 → f (o + i) = nI (B i)
def okB (B : Nat → Nat) : Prop := B 0 ≤ 10 ∧ B 1 ≤ 60 ∧ B 2 ≤ 20 ∧ ∀ p, p < B 0 → 1 ≤ B (3 + 4 * p) ∧ B (3 + 4 * p) ≤ 5 ∧ ∀ w, w < 3 → B (4 + 4 * p + w) ≤ 30
theorem AtB.cg {σ σ' : Mem} {k : Nat} {B : Nat → Nat} (h : AtB σ k B) (e : ∀ q, k ≤ q → q < k + 6 → σ' q = σ q) : AtB σ' k B := by
  obtain ⟨h1, h2, h3, h4⟩ := h
  refine ⟨by rw [e k (by omega) (by omega)]; exact h1, by rw [e k (by omega) (by omega)]; exact h2, by rw [e k (by omega) (by omega)]; exact h3, fun p hp => ⟨by rw [e _ (by omega) (by omega)]; exact (h4 p hp).1, fun w hw => by rw [e _ (by omega) (by omega)]; exact (h4 p hp).2 w hw⟩⟩
theorem like_l (k0 k1 : Nat) (hd : k0 + 6 ≤ k1 ∨ k1 + 6 ≤ k0) : ∀ (d w m : Nat) (σ : Mem), w + d = 3 → d < m → ∃ σ', X2_becomeLike_l41 m k0 k1 (nI w) σ = some σ' ∧ (∀ q, (q < k0 + 3 + w ∨ k0 + 6 ≤ q) → σ' q = σ q) ∧ ∀ v, w ≤ v → v < 3 → ∀ p, p < 10 → σ' (k0 + 3 + v) p = σ (k1 + 3 + v) p := by
  intro d
  induction d with
  | zero =>
    intro w m σ hw hm
    obtain ⟨m, rfl⟩ : ∃ m', m = m' + 1 := ⟨m - 1, by omega⟩
    refine ⟨σ, ?_, fun _ _ => rfl, fun v a b => by omega⟩
    show X2_becomeLike_b41 _ k0 k1 (nI w) σ = _
    unfold X2_becomeLike_b41
    rw [if_pos (show (2 : Int32) < nI w from nI_lt (a := 2) (by omega) (by omega))]
  | succ d ih =>
    intro w m σ hw hm
    obtain ⟨m, rfl⟩ : ∃ m', m = m' + 1 := ⟨m - 1, by omega⟩
    obtain ⟨σ', h1, h2, h3⟩ := ih (w + 1) m (wrF σ (k0 + 2 + 1 + w) (va_cpy (σ (k1 + 2 + 1 + w)) (σ (k0 + 2 + 1 + w)) 0 0 10)) (by omega) (by omega)
    refine ⟨σ', ?_, fun q hq => (h2 q (by omega)).trans (wrF_ne _ _ (by omega)), fun v a b p hp => ?_⟩
    · show X2_becomeLike_b41 _ k0 k1 (nI w) σ = _
      unfold X2_becomeLike_b41
      rw [if_neg (show ¬ (2 : Int32) < nI w from nI_nlt (a := 2) (by omega) (by omega)), gdx_n (by omega) (by omega), gdx_n (by omega) (by omega), gdc_10, nI_1, nc_n (by omega), nc_0, nc_10]
      exact h1
    · by_cases e : v = w
      · subst e
        rw [h2 _ (by omega), show k0 + 3 + v = k0 + 2 + 1 + v by omega, wrF_same]
        unfold va_cpy
        rw [if_pos (by omega)]
        congr 1
        omega
      · rw [h3 v (by omega) b p hp, wrF_ne _ _ (by omega)]
theorem like_s (k0 k1 : Nat) (hd : k0 + 6 ≤ k1 ∨ k1 + 6 ≤ k0) (σ : Mem) (B : Nat → Nat) (h : AtB σ k1 B) (hn : B 0 ≤ 10) : ∃ σ', X2_becomeLike k0 k1 σ = some σ' ∧ AtB σ' k0 B ∧ ∀ q, (q < k0 ∨ k0 + 6 ≤ q) → σ' q = σ q := by
  obtain ⟨b1, b2, b3, b4⟩ := h
  unfold X2_becomeLike X2_becomeLike_b0
  rw [letv_eq, letv_eq, letv_eq, gdc_10, nc_0, nc_10, show (0 : Int32) = nI 0 from rfl]
  simp (disch := omega) only [wr_off, b1, b2, b3]
  obtain ⟨σ', h1, h2, h3⟩ := like_l k0 k1 hd 3 0 FU (wrF (wr (wr (wr σ k0 0 (nI (B 0))) k0 1 (nI (B 1))) k0 2 (nI (B 2))) (k0 + 1) (va_cpy (σ (k1 + 1)) (σ (k0 + 1)) 0 0 10)) (by omega) (by unfold FU; omega)
  refine ⟨σ', h1, ⟨?_, ?_, ?_, fun p hp => ⟨?_, fun w hw => ?_⟩⟩, fun q hq => ?_⟩
  · rw [h2 _ (by omega), wrF_ne _ _ (by omega), wr_in _ _ (by omega), wr_in _ _ (by omega), wr_at]
  · rw [h2 _ (by omega), wrF_ne _ _ (by omega), wr_in _ _ (by omega), wr_at]
  · rw [h2 _ (by omega), wrF_ne _ _ (by omega), wr_at]
  · rw [h2 _ (by omega), wrF_same]
    unfold va_cpy
    rw [if_pos (by omega), show 0 + (p - 0) = p by omega]
    exact (b4 p hp).1
  · rw [h3 w (by omega) hw p (by omega), wrF_ne _ _ (by omega), wr_off _ _ _ (by omega), wr_off _ _ _ (by omega), wr_off _ _ _ (by omega)]
    exact (b4 p hp).2 w hw
  · rw [h2 _ (by omega), wrF_ne _ _ (by omega), wr_off _ _ _ (by omega), wr_off _ _ _ (by omega), wr_off _ _ _ (by omega)]
