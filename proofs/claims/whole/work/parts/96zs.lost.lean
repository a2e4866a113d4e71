/-! PURE: lost. -/
theorem good2_l {n b : Nat} (hn : n ≤ 10) (hb : b ≤ 10) (c : Nat → Nat) (hc : ∀ s, c s ≤ 1024) (σ : Mem) (h0 : σ 22 0 = nI n) (h1 : ∀ s, s < 11 → σ 236 s = nI (c s)) : ∀ (d s m : Nat), s + d = n + 1 → d < m → X3_goodCases_l97 m 211 22 (nI b) (lN (su (fun s => c s * (10 - b) ^ s * b ^ (n - s)) s)) (nI s) σ = some (lN (su (fun s => c s * (10 - b) ^ s * b ^ (n - s)) (n + 1)), σ) := by
  intro d
  induction d with
  | zero =>
    intro s m hs hm
    obtain ⟨m, rfl⟩ : ∃ m', m = m' + 1 := ⟨m - 1, by omega⟩
    obtain rfl : s = n + 1 := by omega
    show X3_goodCases_b97 _ 211 22 (nI b) _ (nI (n + 1)) σ = _
    unfold X3_goodCases_b97
    rw [h0, if_pos (nI_lt (by omega) (by omega))]
  | succ d ih =>
    intro s m hs hm
    obtain ⟨m, rfl⟩ : ∃ m', m = m' + 1 := ⟨m - 1, by omega⟩
    have hcs := hc s
    have ih' := ih (s + 1) m (by omega) (by omega)
    have e : su (fun s => c s * (10 - b) ^ s * b ^ (n - s)) (s + 1) = su (fun s => c s * (10 - b) ^ s * b ^ (n - s)) s + c s * (10 - b) ^ s * b ^ (n - s) := rfl
    rw [e] at ih'
    rw [← ih']
    show X3_goodCases_b97 _ 211 22 (nI b) _ (nI s) σ = _
    unfold X3_goodCases_b97
    rw [h0, if_neg (show ¬ nI n < nI s by rw [nI_lt_iff (by omega) (by omega)]; omega), gdx_n (by omega) (by omega), show (10 : Int32) - nI b = nI (10 - b) from nI_sub (a := 10) hb, power_s _ _ (by omega) (by omega), ob_some, nI_sub (by omega), power_s _ _ (by omega) (by omega), ob_some, nc_n (by omega), show σ (211 + 25) s = _ from h1 s (by omega), lL (c s) (by omega), lM, lM, lA, letv_eq, nI_1]
theorem good_l {M : Nat → Nat} {n k b : Nat} (hn : n ≤ 10) (hb : b ≤ 10) (hk : k ≤ 10) {T : Nat → Nat} (hT : Tb (nrT M) n T) (hM : ∀ p, p < n → M p < 2 ^ 10) (hr : ∀ p, p < n → nrT M p p) (hs : ∀ p q, p < n → q < n → nrT M p q → nrT M q p) : ∀ (d S m : Nat) (σ : Mem), S + d = 2 ^ n → d < m → σ 22 0 = nI n → (∀ p, p < n → σ 231 p = nI (M p)) → (∀ V, V < S → σ 235 V = nI (T V)) → (∀ s, s < 11 → σ 236 s = nI (cnt (fun V => decide (T V ≤ k)) S s)) → ∃ σ', X3_goodCases_l36 m 211 22 (nI k) (nI b) (nI S) σ = some (lN (su (fun s => cnt (fun V => decide (T V ≤ k)) (2 ^ n) s * (10 - b) ^ s * b ^ (n - s)) (n + 1)), σ') ∧ ∀ q, q ≠ 235 → q ≠ 236 → σ' q = σ q := by
  have h2n : 2 ^ n ≤ 2 ^ 10 := Nat.pow_le_pow_right (by omega) hn
  intro d
  induction d with
  | zero =>
    intro S m σ hS hm h0 h1 h2 h3
    obtain ⟨m, rfl⟩ : ∃ m', m = m' + 1 := ⟨m - 1, by omega⟩
    obtain rfl : S = 2 ^ n := by omega
    refine ⟨σ, ?_, fun q _ _ => rfl⟩
    show X3_goodCases_b36 _ 211 22 (nI k) (nI b) (nI (2 ^ n)) σ = _
    unfold X3_goodCases_b36
    rw [h0, shl_1 n (by omega), if_pos (nI_le (Nat.le_refl _) (by omega))]
    exact good2_l hn hb (cnt (fun V => decide (T V ≤ k)) (2 ^ n)) (fun s => Nat.le_trans (cnt_le _ _ _) h2n) σ h0 h3 (n + 1) 0 FU (by omega) (by unfold FU; omega)
  | succ d ih =>
    intro S m σ hS hm h0 h1 h2 h3
    obtain ⟨m, rfl⟩ : ∃ m', m = m' + 1 := ⟨m - 1, by omega⟩
    have hT10 := (hT S (by omega)).1
    have hpc := pc_le S 10
    have h2' : ∀ V, V < S + 1 → wr σ 235 S (nI (T S)) 235 V = nI (T V) := fun V hV => by
      by_cases c : V = S
      · subst c
        rw [wr_at]
      · rw [wr_in _ _ c]
        exact h2 V (by omega)
    have un : X3_goodCases_l36 (m + 1) 211 22 (nI k) (nI b) (nI S) σ = if k < T S then X3_goodCases_l36 m 211 22 (nI k) (nI b) (nI (S + 1)) (wr σ 235 S (nI (T S))) else X3_goodCases_l36 m 211 22 (nI k) (nI b) (nI (S + 1)) (wr (wr σ 235 S (nI (T S))) 236 (pc 10 S) (nI (cnt (fun V => decide (T V ≤ k)) S (pc 10 S) + 1))) := by
      show X3_goodCases_b36 _ 211 22 (nI k) (nI b) (nI S) σ = _
      unfold X3_goodCases_b36 X3_goodCases_b85
      rw [h0, shl_1 n (by omega), if_neg (show ¬ nI (2 ^ n) ≤ nI S by rw [nI_le_iff (by omega) (by omega)]; omega), few_s hn hT hM hr hs σ h1 (by omega) h2, ob_some, gdx_n (by omega) (by omega), nc_n (by omega), letv_eq, gdx_n (by omega) (by omega), show wr σ (211 + 24) S (nI (T S)) (211 + 24) S = _ from wr_at _ _ _ _, bitc_s S (by omega), gdx_n (by omega) (by omega), gdx_n (by omega) (by omega), nc_n (by omega), show wr σ (211 + 24) S (nI (T S)) (211 + 25) (pc 10 S) = nI (cnt (fun V => decide (T V ≤ k)) S (pc 10 S)) from by rw [wr_off _ _ _ (by omega)]; exact h3 _ (by omega), nI_1, nI_1]
      by_cases c : k < T S
      · rw [if_pos c, if_pos (nI_lt c (by omega))]
      · rw [if_neg c, if_neg (show ¬ nI k < nI (T S) by rw [nI_lt_iff (by omega) (by omega)]; exact c)]
    rw [un]
    by_cases c : k < T S
    · rw [if_pos c]
      obtain ⟨σ', q1, q2⟩ := ih (S + 1) m (wr σ 235 S (nI (T S))) (by omega) (by omega) (by rw [wr_off _ _ _ (by omega)]; exact h0) (fun p hp => by rw [wr_off _ _ _ (by omega)]; exact h1 p hp) h2' (fun s hs => by
        rw [wr_off _ _ _ (by omega), h3 s hs]
        congr 1
        show _ = cnt (fun V => decide (T V ≤ k)) S s + (if decide (T S ≤ k) = true ∧ pc 10 S = s then 1 else 0)
        rw [if_neg (fun q => by have := of_decide_eq_true q.1; omega), Nat.add_zero])
      exact ⟨σ', q1, fun q x y => by rw [q2 q x y, wr_off _ _ _ x]⟩
    · rw [if_neg c]
      obtain ⟨σ', q1, q2⟩ := ih (S + 1) m (wr (wr σ 235 S (nI (T S))) 236 (pc 10 S) (nI (cnt (fun V => decide (T V ≤ k)) S (pc 10 S) + 1))) (by omega) (by omega) (by rw [wr_off _ _ _ (by omega), wr_off _ _ _ (by omega)]; exact h0) (fun p hp => by rw [wr_off _ _ _ (by omega), wr_off _ _ _ (by omega)]; exact h1 p hp) (fun V hV => by rw [wr_off _ _ _ (by omega)]; exact h2' V hV) (fun s hs => by
        have e : cnt (fun V => decide (T V ≤ k)) (S + 1) s = cnt (fun V => decide (T V ≤ k)) S s + (if decide (T S ≤ k) = true ∧ pc 10 S = s then 1 else 0) := rfl
        rw [e]
        by_cases z : s = pc 10 S
        · subst z
          rw [wr_at, if_pos ⟨decide_eq_true (by omega), rfl⟩]
        · rw [wr_in _ _ z, wr_off _ _ _ (by omega), h3 s hs, if_neg (fun q => z q.2.symm), Nat.add_zero])
      exact ⟨σ', q1, fun q x y => by rw [q2 q x y, wr_off _ _ _ y, wr_off _ _ _ x]⟩
/-- what the model does when the odds of a set are told -/
def mEnd (K72 : Nat → Int32 → Int32 → Int32 → Int64 → Int64 → Int32 → Mem → Option (Int64 × Mem)) (v1 v2 v3 : Int32) (v4 v6 : Int64) (v8 : Int32) (v9 : Int64) (σ : Mem) : Option (Int64 × Mem) :=
  if v8 = 0 then X12_lost_b166 K72 251 v1 v2 v3 v4 (v6 + v9) v8 v9 σ
  else if v1 ≤ 0 then X12_lost_b170 K72 251 v1 v2 v3 v4 (v6 + v9) v8 v9 σ
  else if lg_cmp v9 0 ≤ 0 then X12_lost_b170 K72 251 v1 v2 v3 v4 (v6 + v9) v8 v9 σ
  else ob2 (X12_parts 251 v8 v1 0 σ) (fun r6 σ7 => if r6 = 0 then X12_lost_b170 K72 251 v1 v2 v3 v4 (v6 + v9) v8 v9 σ7 else X12_lost_b166 K72 251 v1 v2 v3 v4 (v6 + v9) v8 v9 σ7)
theorem odds_l (K72 : Nat → Int32 → Int32 → Int32 → Int64 → Int64 → Int32 → Mem → Option (Int64 × Mem)) {n b S : Nat} (hn : n ≤ 10) (hb : b ≤ 10) (hS : S < 2 ^ 10) (v1 v3 : Int32) (v4 v6 : Int64) (σ : Mem) (h0 : σ 255 0 = nI n) : ∀ (d p m : Nat), p + d = n → d < m → X12_lost_l90 K72 m 251 v1 (nI b) v3 v4 v6 (nI S) (lN (od (10 - b) b p S)) (nI p) σ = mEnd K72 v1 (nI b) v3 v4 v6 (nI S) (lN (od (10 - b) b n S)) σ := by
  intro d
  induction d with
  | zero =>
    intro p m hp hm
    obtain ⟨m, rfl⟩ : ∃ m', m = m' + 1 := ⟨m - 1, by omega⟩
    obtain rfl : p = n := by omega
    show X12_lost_b90 K72 _ 251 v1 (nI b) v3 v4 v6 (nI S) _ (nI p) σ = _
    unfold X12_lost_b90
    rw [show σ (251 + 4) (nc 0) = _ from h0, if_pos (nI_le (Nat.le_refl _) (by omega)), letv_eq]
    rfl
  | succ d ih =>
    intro p m hp hm
    obtain ⟨m, rfl⟩ : ∃ m', m = m' + 1 := ⟨m - 1, by omega⟩
    have ih' := ih (p + 1) m (by omega) (by omega)
    have e : od (10 - b) b (p + 1) S = od (10 - b) b p S * (if S.testBit p then 10 - b else b) := rfl
    rw [← ih', e]
    show X12_lost_b90 K72 _ 251 v1 (nI b) v3 v4 v6 (nI S) _ (nI p) σ = _
    unfold X12_lost_b90 X12_lost_b123
    rw [show σ (251 + 4) (nc 0) = _ from h0, if_neg (show ¬ nI n ≤ nI p by rw [nI_le_iff (by omega) (by omega)]; omega), show (10 : Int32) - nI b = nI (10 - b) from nI_sub (a := 10) hb, lL b (by omega), lL (10 - b) (by omega), lM, lM, letv_eq, letv_eq, nI_1]
    rcases c : S.testBit p with _ | _
    · rw [has_0 (by omega) (by omega) c, if_pos rfl, if_neg (by decide)]
    · rw [has_1 (by omega) (by omega) c, if_neg (by decide), if_pos rfl]
theorem lost_l {B : Nat → Nat} (ho : okB B) {k b : Nat} (hb : b ≤ 10) (hk : k ≤ 10) {T : Nat → Nat} (hT : Tb (nrT (nrM (far B) (B 0) (B 1))) (B 0) T) (v3 : Int32) : ∀ (d S m : Nat) (σ : Mem), S + d = 2 ^ B 0 → d < m → σ 255 0 = nI (B 0) → (∀ p, p < 10 → σ 261 p = nI (nrN (far B) (B 0) (B 1) p)) → ∃ σ', X12_lost_l72 m 251 (nI k) (nI b) v3 (lN (su (fun V => if decide (T V ≤ k) then od (10 - b) b (B 0) V else 0) S)) (lN (su (od (10 - b) b (B 0)) S)) (nI S) σ = X12_lost_l203 FU v3 (lN (su (fun V => if decide (T V ≤ k) then od (10 - b) b (B 0) V else 0) (2 ^ B 0))) (lN (su (od (10 - b) b (B 0)) (2 ^ B 0))) (lN (su (fun V => if decide (T V ≤ k) then od (10 - b) b (B 0) V else 0) (2 ^ B 0))) (lN (su (od (10 - b) b (B 0)) (2 ^ B 0))) σ' ∧ ∀ q, (q < 262 ∨ 266 ≤ q) → σ' q = σ q := by
  have hn := ho.1
  have h2n : 2 ^ B 0 ≤ 2 ^ 10 := Nat.pow_le_pow_right (by omega) hn
  have h2n1 : 1 ≤ 2 ^ B 0 := Nat.one_le_two_pow
  intro d
  induction d with
  | zero =>
    intro S m σ hS hm h0 h1
    obtain ⟨m, rfl⟩ : ∃ m', m = m' + 1 := ⟨m - 1, by omega⟩
    obtain rfl : S = 2 ^ B 0 := by omega
    refine ⟨σ, ?_, fun q _ => rfl⟩
    show X12_lost_b72 _ 251 (nI k) (nI b) v3 _ _ (nI (2 ^ B 0)) σ = _
    unfold X12_lost_b72
    rw [show X12_allOf (251 + 4) σ = _ from allOf_s hn h0, ob_some, if_pos (nI_lt (by omega) (by omega))]
  | succ d ih =>
    intro S m σ hS hm h0 h1
    obtain ⟨m, rfl⟩ : ∃ m', m = m' + 1 := ⟨m - 1, by omega⟩
    have ho63 : od (10 - b) b (B 0) S < 2 ^ 63 := by
      have a1 : su (od (10 - b) b (B 0)) (S + 1) ≤ su (od (10 - b) b (B 0)) (2 ^ B 0) := by
        have q := su_app (od (10 - b) b (B 0)) (S + 1) (2 ^ B 0 - (S + 1))
        rw [show S + 1 + (2 ^ B 0 - (S + 1)) = 2 ^ B 0 by omega] at q
        omega
      rw [od_sum, show 10 - b + b = 10 by omega] at a1
      have a2 : 10 ^ B 0 ≤ 10 ^ 10 := Nat.pow_le_pow_right (by omega) hn
      have a3 : su (od (10 - b) b (B 0)) (S + 1) = su (od (10 - b) b (B 0)) S + od (10 - b) b (B 0) S := rfl
      omega
    have e1 : su (od (10 - b) b (B 0)) (S + 1) = su (od (10 - b) b (B 0)) S + od (10 - b) b (B 0) S := rfl
    have e2 : su (fun V => if decide (T V ≤ k) then od (10 - b) b (B 0) V else 0) (S + 1) = su (fun V => if decide (T V ≤ k) then od (10 - b) b (B 0) V else 0) S + (if decide (T S ≤ k) then od (10 - b) b (B 0) S else 0) := rfl
    have un : ∀ v4 v6, X12_lost_l72 (m + 1) 251 (nI k) (nI b) v3 v4 v6 (nI S) σ = mEnd (X12_lost_l72 m) (nI k) (nI b) v3 v4 v6 (nI S) (lN (od (10 - b) b (B 0) S)) σ := by
      intro v4 v6
      show X12_lost_b72 _ 251 (nI k) (nI b) v3 v4 v6 (nI S) σ = _
      unfold X12_lost_b72
      rw [show X12_allOf (251 + 4) σ = _ from allOf_s hn h0, ob_some, if_neg (show ¬ nI (2 ^ B 0 - 1) < nI S by rw [nI_lt_iff (by omega) (by omega)]; omega)]
      exact odds_l (X12_lost_l72 m) hn hb (by omega) (nI k) v3 v4 v6 σ h0 (B 0) 0 FU (by omega) (by unfold FU; omega)
    -- it counts, or it does not
    have yes : ∀ σ7 : Mem, (∀ q, (q < 262 ∨ 266 ≤ q) → σ7 q = σ q) → (T S ≤ k ∨ od (10 - b) b (B 0) S = 0) → ∃ σ', X12_lost_b166 (X12_lost_l72 m) 251 (nI k) (nI b) v3 (lN (su (fun V => if decide (T V ≤ k) then od (10 - b) b (B 0) V else 0) S)) (lN (su (od (10 - b) b (B 0)) S) + lN (od (10 - b) b (B 0) S)) (nI S) (lN (od (10 - b) b (B 0) S)) σ7 = X12_lost_l203 FU v3 (lN (su (fun V => if decide (T V ≤ k) then od (10 - b) b (B 0) V else 0) (2 ^ B 0))) (lN (su (od (10 - b) b (B 0)) (2 ^ B 0))) (lN (su (fun V => if decide (T V ≤ k) then od (10 - b) b (B 0) V else 0) (2 ^ B 0))) (lN (su (od (10 - b) b (B 0)) (2 ^ B 0))) σ' ∧ ∀ q, (q < 262 ∨ 266 ≤ q) → σ' q = σ q := by
      intro σ7 fr c
      obtain ⟨σ', q1, q2⟩ := ih (S + 1) m σ7 (by omega) (by omega) (by rw [fr 255 (by omega)]; exact h0) (fun p hp => by rw [fr 261 (by omega)]; exact h1 p hp)
      refine ⟨σ', ?_, fun q hq => by rw [q2 q hq, fr q hq]⟩
      unfold X12_lost_b166 X12_lost_b171 X12_lost_b186
      rw [if_neg (by decide), lA, lA, letv_eq, nI_1, ← q1, e1, e2]
      by_cases c' : T S ≤ k
      · rw [if_pos (decide_eq_true c')]
      · rcases c with c | c
        · exact absurd c c'
        · rw [if_neg (by rw [decide_eq_false c']; decide), c]
    have no : ∀ σ7 : Mem, (∀ q, (q < 262 ∨ 266 ≤ q) → σ7 q = σ q) → (¬ T S ≤ k ∨ od (10 - b) b (B 0) S = 0) → ∃ σ', X12_lost_b170 (X12_lost_l72 m) 251 (nI k) (nI b) v3 (lN (su (fun V => if decide (T V ≤ k) then od (10 - b) b (B 0) V else 0) S)) (lN (su (od (10 - b) b (B 0)) S) + lN (od (10 - b) b (B 0) S)) (nI S) (lN (od (10 - b) b (B 0) S)) σ7 = X12_lost_l203 FU v3 (lN (su (fun V => if decide (T V ≤ k) then od (10 - b) b (B 0) V else 0) (2 ^ B 0))) (lN (su (od (10 - b) b (B 0)) (2 ^ B 0))) (lN (su (fun V => if decide (T V ≤ k) then od (10 - b) b (B 0) V else 0) (2 ^ B 0))) (lN (su (od (10 - b) b (B 0)) (2 ^ B 0))) σ' ∧ ∀ q, (q < 262 ∨ 266 ≤ q) → σ' q = σ q := by
      intro σ7 fr c
      obtain ⟨σ', q1, q2⟩ := ih (S + 1) m σ7 (by omega) (by omega) (by rw [fr 255 (by omega)]; exact h0) (fun p hp => by rw [fr 261 (by omega)]; exact h1 p hp)
      refine ⟨σ', ?_, fun q hq => by rw [q2 q hq, fr q hq]⟩
      unfold X12_lost_b170 X12_lost_b171 X12_lost_b186
      rw [if_pos rfl, show (0 : Int64) = lN 0 from rfl, lA, lA, letv_eq, nI_1, ← q1, e1, e2]
      by_cases c' : T S ≤ k
      · rcases c with c | c
        · exact absurd c' c
        · rw [if_pos (decide_eq_true c'), c]
      · rw [if_neg (by rw [decide_eq_false c']; decide)]
    rw [un]
    unfold mEnd
    by_cases z : S = 0
    · rw [if_pos (show nI S = 0 by rw [z]; rfl)]
      exact yes σ (fun q _ => rfl) (Or.inl (by rw [z, Tb_0 hT]; omega))
    rw [if_neg (nI_ne0 (by omega) (by omega))]
    by_cases zk : k = 0
    · rw [if_pos (show nI k ≤ 0 by rw [zk]; decide)]
      refine no σ (fun q _ => rfl) (Or.inl (fun q => ?_))
      rw [zk] at q
      exact Fea_n0 z (((hT S (by omega)).2 0).mpr q)
    rw [if_neg (show ¬ nI k ≤ 0 by rw [show (0 : Int32) = nI 0 from rfl, nI_le_iff (by omega) (by omega)]; omega)]
    by_cases zo : od (10 - b) b (B 0) S = 0
    · rw [if_pos (show lg_cmp (lN (od (10 - b) b (B 0) S)) 0 ≤ 0 from (lgc (b := 0) ho63 (by omega)).2.1.mpr (by omega))]
      exact no σ (fun q _ => rfl) (Or.inr zo)
    rw [if_neg (show ¬ lg_cmp (lN (od (10 - b) b (B 0) S)) 0 ≤ 0 from fun q => by have := (lgc (b := 0) ho63 (by omega)).2.1.mp q; omega)]
    obtain ⟨r, σ7, p1, p2, _, p4⟩ := parts_s (k := k) (a := 0) hk (by omega) (Or.inl rfl) (fun p hp => nrN_lt (far B) (L := B 1) hn hp) (show S < 2 ^ 10 by omega) z σ h1
    rw [p1, ob2_some]
    have hSn : S < 2 ^ B 0 := by omega
    have hfe : (∃ h, Cp (nrT (nrN (far B) (B 0) (B 1))) k (fun _ => 0) 0 S h) ↔ T S ≤ k := by
      rw [← Fea_Cp (by omega), ← (hT S hSn).2 k]
      exact Fea_nr (fun p q hp hq => (nrNM (far B) (B 0) (B 1) p q (bit10 hSn hp) (bit10 hSn hq)).symm)
    rcases p4 rfl with ⟨r0, x⟩ | ⟨r1, x⟩
    · rw [if_pos r0]
      exact no σ7 p2 (Or.inl (fun q => by
        obtain ⟨h, hh⟩ := hfe.mpr q
        exact x h hh))
    · rw [if_neg (by rw [r1]; decide)]
      exact yes σ7 p2 (Or.inl (hfe.mp x))
theorem op_lost (σ : Mem) (h : InvF FOK σ) (v1 v2 v3 : Int32) : ∃ (r : Int64) (σ1 σ2 : Mem), X11_lost 0 v1 v2 v3 σ = some (r, σ1) ∧ X12_lost 251 v1 v2 v3 σ1 = some (r, σ2) ∧ InvF FOK σ2 := by
  have hI := h
  obtain ⟨B, m, L, I, h⟩ := h
  obtain ⟨r6, r7, r8⟩ := ref_rb h
  have n1 : σ 22 0 = nI (B 0) := r7.1
  have n2 : σ 255 0 = nI (B 0) := r8 0 (by omega)
  have hn := r6.1
  have hl := r6.2.1
  unfold X11_lost X11_lost_b0 X12_lost X12_lost_b0
  rcases there (B 0) hn with ⟨c0, t1, t2⟩ | ⟨c0, t1, t2⟩
  · exact ⟨-1000002, σ, σ, by rw [t1 σ n1]; rfl, by rw [t2 σ n2]; rfl, hI⟩
  rw [t1 σ n1, if_pos rfl]
  rcases in_r v1 0 10 (by omega) (by omega) with ⟨k, a1, a2, rfl, a3⟩ | ⟨a3, a4⟩
  rotate_left
  · have a3' : X12_in v1.toInt64 0 10 = 0 := a3
    refine ⟨-1000001, σ, σ, ?_, by rw [t2 σ n2, ob_some, if_neg (by decide), a3', if_pos rfl], hI⟩
    rcases a4 with a4 | a4
    · rw [if_pos (show v1 < 0 from a4)]
    · rw [if_pos (show (10 : Int32) < v1 from a4)]
      split <;> rfl
  have a3' : X12_in (nI k).toInt64 0 10 = 1 := a3
  rw [if_neg (nI_nn (by omega)), if_neg (show ¬ (10 : Int32) < nI k from nI_nlt (a := 10) (by omega) (by omega))]
  rcases in_r v2 0 10 (by omega) (by omega) with ⟨b, b1, b2, rfl, b3⟩ | ⟨b3, b4⟩
  rotate_left
  · have b3' : X12_in v2.toInt64 0 10 = 0 := b3
    refine ⟨-1000001, σ, σ, ?_, by rw [t2 σ n2, ob_some, if_neg (by decide), a3', if_neg (by decide), b3', if_pos rfl], hI⟩
    rcases b4 with b4 | b4
    · rw [if_pos (show v2 < 0 from b4)]
    · rw [if_pos (show (10 : Int32) < v2 from b4)]
      split <;> rfl
  have b3' : X12_in (nI b).toInt64 0 10 = 1 := b3
  rw [if_neg (nI_nn (by omega)), if_neg (show ¬ (10 : Int32) < nI b from nI_nlt (a := 10) (by omega) (by omega))]
  rcases in_r v3 0 1 (by omega) (by omega) with ⟨w, d1, d2, rfl, d3⟩ | ⟨d3, d4⟩
  rotate_left
  · have d3' : X12_in v3.toInt64 0 1 = 0 := d3
    refine ⟨-1000001, σ, σ, ?_, by rw [t2 σ n2, ob_some, if_neg (by decide), a3', if_neg (by decide), b3', if_neg (by decide), d3', if_pos rfl], hI⟩
    rcases d4 with d4 | d4
    · rw [if_pos (show v3 < 0 from d4)]
    · rw [if_neg (show ¬ v3 ≤ 1 from fun q => Int32.not_lt.mpr q d4)]
      split <;> rfl
  have d3' : X12_in (nI w).toInt64 0 1 = 1 := d3
  rw [if_neg (nI_nn (by omega)), if_pos (show nI w ≤ 1 from nI_le (b := 1) (by omega) (by omega))]
  have hrf := nrM_rf (n := B 0) (L := B 1) (far_self B)
  have hsy := nrM_sym (n := B 0) (L := B 1) (far_comm B)
  obtain ⟨T, hT⟩ := Tb_ex (nr := nrT (nrM (far B) (B 0) (B 1))) hn hrf
  -- the component
  obtain ⟨σa, e1, e2, e3, e4⟩ := survey_s 219 22 (by omega) B r6 σ r7
  obtain ⟨σb, f1, f2, f3⟩ := mark_s (k := 219) hn (far20 r6) (B 1) (by omega) σa e2
  obtain ⟨σc, g1, g2, g3⟩ := fill_l 11 236 0 (by omega) 11 0 FU σb (by omega) (by unfold FU; omega)
  have hfr : ∀ q, (q < 211 ∨ 237 ≤ q) → σc q = σ q := fun q hq => by rw [g2 q (by omega), f3 q (by omega), e3 q (by omega)]
  obtain ⟨σd, k1, k2⟩ := good_l (k := k) (b := b) hn b2 a2 hT (fun p _ => nrM_lt (far B) hn) hrf hsy (2 ^ B 0) 0 FU σc (by omega) (by
    have : 2 ^ B 0 ≤ 2 ^ 10 := Nat.pow_le_pow_right (by omega) hn
    unfold FU
    omega) (by rw [hfr 22 (by omega)]; exact n1) (fun p hp => by rw [g2 231 (by omega)]; exact f2 p hp) (fun V hV => absurd hV (Nat.not_lt_zero V)) (fun s hs => by
      rw [g3 s, if_pos ⟨by omega, hs⟩]
      rfl)
  have fr : ∀ q, (q < 211 ∨ 237 ≤ q) → σd q = σ q := fun q hq => by rw [k2 q (by omega) (by omega), hfr q hq]
  have h2n : 2 ^ B 0 ≤ 2 ^ 10 := Nat.pow_le_pow_right (by omega) hn
  -- both sums are one
  have hpc : ∀ V, V < 2 ^ B 0 → pc 10 V = pc (B 0) V := fun V hV => by
    have := pc_exb hV (10 - B 0)
    rw [show B 0 + (10 - B 0) = 10 by omega] at this
    exact this
  have hsum : su (fun s => cnt (fun V => decide (T V ≤ k)) (2 ^ B 0) s * (10 - b) ^ s * b ^ (B 0 - s)) (B 0 + 1) = su (fun V => if decide (T V ≤ k) then od (10 - b) b (B 0) V else 0) (2 ^ B 0) := by
    rw [cnt_sum _ _ _ _ _ (fun V hV => by rw [hpc V hV]; exact pc_le V (B 0))]
    apply su_cg
    intro V hV
    show (if decide (T V ≤ k) = true then _ else 0) = if decide (T V ≤ k) = true then _ else 0
    rw [hpc V hV, od_pc]
  rw [hsum] at k1
  have htot : su (od (10 - b) b (B 0)) (2 ^ B 0) = 10 ^ B 0 := by rw [od_sum, show 10 - b + b = 10 by omega]
  have hgt : su (fun V => if decide (T V ≤ k) then od (10 - b) b (B 0) V else 0) (2 ^ B 0) ≤ 10 ^ B 0 := by
    rw [← htot]
    apply su_le
    intro V _
    show (if decide (T V ≤ k) = true then od (10 - b) b (B 0) V else 0) ≤ _
    split
    · exact Nat.le_refl _
    · exact Nat.zero_le _
  generalize hG : su (fun V => if decide (T V ≤ k) then od (10 - b) b (B 0) V else 0) (2 ^ B 0) = G at k1 hgt
  have hten : 10 ^ B 0 ≤ 10 ^ 10 := Nat.pow_le_pow_right (by omega) hn
  have hten0 : 1 ≤ 10 ^ B 0 := Nat.one_le_pow _ _ (by omega)
  have hg0 : 0 < Nat.gcd G (10 ^ B 0) := Nat.gcd_pos_of_pos_right _ (by omega)
  have hgle : Nat.gcd G (10 ^ B 0) ≤ 10 ^ B 0 := Nat.gcd_le_right _ (by omega)
  have hdiv : X11_sharedDivisor (lN G) (lN (10 ^ B 0)) = some (lN (Nat.gcd G (10 ^ B 0))) := by
    rw [Nat.gcd_comm]
    exact gcc 34 (10 ^ B 0) G 0 FU (by omega) (by omega) (by omega) (by unfold FU; omega) (by omega)
  have hcomp : X3_goodCases (0 + 211) (0 + 22) (nI k) (nI b) σ = some (lN G, σd) := by
    unfold X3_goodCases X3_goodCases_b0
    rw [show X5_survey (0 + 211 + 7 + 1) (0 + 22) σ = some σa from e1, ob_some, show σa (0 + 22) 1 = nI (B 1) from by rw [e3 22 (by omega)]; exact r7.2.1, show X5_markNear (0 + 211 + 7 + 1) (nI (B 1)) σa = some σb from f1, ob_some, show J7_fill_53178 11 (0 + 211 + 25) 0 σb = some σc from g1, ob_some]
    exact k1
  -- the model
  have hR : RwB (σd 255) 0 B := by rw [fr 255 (by omega)]; exact r8
  have n3 : σd 255 0 = nI (B 0) := hR 0 (by omega)
  obtain ⟨τ, l1, l2, l3⟩ := layNear_s (k1 := 255) (by omega) r6 (B 1) (by omega) σd hR
  obtain ⟨τ', m1, m2⟩ := lost_l r6 b2 a2 hT (nI w) (2 ^ B 0) 0 FU τ (by omega) (by unfold FU; omega) (by rw [l3 255 (by omega)]; exact n3) l2
  rw [hG, htot] at m1
  have hmod : X12_lost_b0 251 (nI k) (nI b) (nI w) σd = if nI w = 0 then some (lN G / lN (Nat.gcd G (10 ^ B 0)), τ') else some (lN (10 ^ B 0) / lN (Nat.gcd G (10 ^ B 0)), τ') := by
    unfold X12_lost_b0
    rw [t2 _ n3, ob_some, if_neg (by decide), a3', if_neg (by decide), b3', if_neg (by decide), d3', if_neg (by decide), show σd (251 + 4) (nc 1) = nI (B 1) from by have := hR 1 (by omega); rw [Nat.zero_add] at this; exact this, show X12_layNear 251 (251 + 4) (nI (B 1)) σd = some τ from l1, ob_some]
    exact Eq.trans m1 (gcm (nI w) (lN G) (lN (10 ^ B 0)) τ' 34 G (10 ^ B 0) FU (by omega) (by omega) (by omega) hg0 (by unfold FU; omega))
  unfold X12_lost_b0 at hmod
  have hI2 : InvF FOK τ' := ⟨B, m, L, I, Ref.fore h (fun q hq => by rw [m2 q (by omega), l3 q (by omega), fr q (by omega)])⟩
  rw [hcomp, ob2_some, show σd (0 + 22) 0 = nI (B 0) from by rw [fr (0 + 22) (by omega)]; exact n1, show X11_power 10 (nI (B 0)) = some (lN (10 ^ B 0)) from power_s 10 (B 0) (by omega) (by omega), ob_some, hdiv, ob_some, if_pos (show 0 ≤ lg_cmp (lN (Nat.gcd G (10 ^ B 0))) 1 from (lgc (b := 1) (by omega) (by omega)).2.2.mpr hg0), gdl_n hg0 (by omega), gdl_n hg0 (by omega)]
  by_cases c : nI w = 0
  · exact ⟨lN G / lN (Nat.gcd G (10 ^ B 0)), σd, τ', by rw [if_pos c], by rw [hmod, if_pos c], hI2⟩
  · exact ⟨lN (10 ^ B 0) / lN (Nat.gcd G (10 ^ B 0)), σd, τ', by rw [if_neg c], by rw [hmod, if_neg c], hI2⟩
