/-! PURE: the furthest, the widest, who lies near. -/
def mxo (f : Nat → Nat) (P : Nat → Bool) : Nat → Nat
  | 0 => 0
  | b + 1 => max (mxo f P b) (if P b then f b else 0)
theorem mxo_le {f : Nat → Nat} {P : Nat → Bool} {M : Nat} : ∀ b, (∀ i, i < b → f i ≤ M) → mxo f P b ≤ M := by
  intro b
  induction b with
  | zero => intro _; exact Nat.zero_le M
  | succ b ih =>
    intro h
    show max (mxo f P b) (if P b then f b else 0) ≤ M
    have h1 := ih (fun i hi => h i (by omega))
    have h2 := h b (by omega)
    split <;> omega
theorem mxo_ge {f : Nat → Nat} {P : Nat → Bool} : ∀ b i, i < b → P i = true → f i ≤ mxo f P b := by
  intro b
  induction b with
  | zero => intro i hi; omega
  | succ b ih =>
    intro i hi hP
    show f i ≤ max (mxo f P b) (if P b then f b else 0)
    by_cases e : i = b
    · rw [← e, hP, if_pos rfl]
      exact Nat.le_max_right _ _
    · exact Nat.le_trans (ih i (by omega) hP) (Nat.le_max_left _ _)
theorem mxo_at {f : Nat → Nat} {P : Nat → Bool} : ∀ b, mxo f P b = 0 ∨ ∃ i, i < b ∧ P i = true ∧ f i = mxo f P b := by
  intro b
  induction b with
  | zero => exact Or.inl rfl
  | succ b ih =>
    show max (mxo f P b) (if P b then f b else 0) = 0 ∨ ∃ i, i < b + 1 ∧ P i = true ∧ f i = max (mxo f P b) (if P b then f b else 0)
    by_cases e : (if P b then f b else 0) ≤ mxo f P b
    · rw [Nat.max_eq_left e]
      rcases ih with ih | ⟨i, h1, h2, h3⟩
      · exact Or.inl ih
      · exact Or.inr ⟨i, by omega, h2, h3⟩
    · rw [Nat.max_eq_right (by omega)]
      cases c : P b with
      | false =>
        rw [c] at e
        exact absurd (Nat.zero_le _) e
      | true => exact Or.inr ⟨b, by omega, c, by rw [if_pos rfl]⟩
def wid (g : Nat → Nat → Nat) (n S : Nat) : Nat := mxo (fun p => mxo (g p) (fun q => S.testBit q) n) (fun q => S.testBit q) n
def IsW (g : Nat → Nat → Nat) (n S w : Nat) : Prop := (∀ p q, p < n → q < n → S.testBit p = true → S.testBit q = true → g p q ≤ w) ∧ (w = 0 ∨ ∃ p q, p < n ∧ q < n ∧ S.testBit p = true ∧ S.testBit q = true ∧ g p q = w)
theorem IsW_uniq {g : Nat → Nat → Nat} {n S w w' : Nat} (a : IsW g n S w) (b : IsW g n S w') : w = w' := by
  have h1 : w ≤ w' := by
    rcases a.2 with e | ⟨p, q, e1, e2, e3, e4, e5⟩
    · omega
    · have := b.1 p q e1 e2 e3 e4
      omega
  have h2 : w' ≤ w := by
    rcases b.2 with e | ⟨p, q, e1, e2, e3, e4, e5⟩
    · omega
    · have := a.1 p q e1 e2 e3 e4
      omega
  omega
theorem wid_is (g : Nat → Nat → Nat) (n S : Nat) : IsW g n S (wid g n S) := by
  refine ⟨fun p q hp hq h1 h2 => ?_, ?_⟩
  · exact Nat.le_trans (mxo_ge (f := g p) (P := fun q => S.testBit q) n q hq h2) (mxo_ge (f := fun p => mxo (g p) (fun q => S.testBit q) n) (P := fun q => S.testBit q) n p hp h1)
  · rcases mxo_at (f := fun p => mxo (g p) (fun q => S.testBit q) n) (P := fun q => S.testBit q) n with e | ⟨p, e1, e2, e3⟩
    · exact Or.inl e
    · have e3' : mxo (g p) (fun q => S.testBit q) n = wid g n S := e3
      rcases mxo_at (f := g p) (P := fun q => S.testBit q) n with d | ⟨q, d1, d2, d3⟩
      · exact Or.inl (by rw [← e3', d])
      · exact Or.inr ⟨p, q, e1, d1, e2, d2, by rw [d3, e3']⟩
theorem furthest_l {σ : Mem} {k n : Nat} {g : Nat → Nat → Nat} (h : Gp σ k n g) (hn : n ≤ 10) (hg : ∀ x y, x < n → y < n → g x y < 2 ^ 20) (p S : Nat) (hp : p < n) (hS : S < 2 ^ 31) : ∀ (d b m : Nat), b + d = n → d < m → X5_furthest_l5 m k (nI p) (nI S) (nI (mxo (g p) (fun q => S.testBit q) b)) (nI b) σ = some (nI (mxo (g p) (fun q => S.testBit q) n)) := by
  intro d
  induction d with
  | zero =>
    intro b m hb hm
    obtain ⟨m, rfl⟩ : ∃ m', m = m' + 1 := ⟨m - 1, by omega⟩
    obtain rfl : b = n := by omega
    show X5_furthest_b5 _ k (nI p) (nI S) _ (nI b) σ = _
    unfold X5_furthest_b5
    rw [h.1, if_pos (nI_le (by omega) (by omega))]
  | succ d ih =>
    intro b m hb hm
    obtain ⟨m, rfl⟩ : ∃ m', m = m' + 1 := ⟨m - 1, by omega⟩
    have hm1 := mxo_le (f := g p) (P := fun q => S.testBit q) (M := 2 ^ 20) b (fun i hi => Nat.le_of_lt (hg p i hp (by omega)))
    have hgb := hg p b hp (by omega)
    have e := ih (b + 1) m (by omega) (by omega)
    rw [← e]
    show X5_furthest_b5 _ k (nI p) (nI S) _ (nI b) σ = X5_furthest_l5 m k (nI p) (nI S) (nI (max (mxo (g p) (fun q => S.testBit q) b) (if S.testBit b then g p b else 0))) (nI (b + 1)) σ
    unfold X5_furthest_b5 X5_furthest_b47
    rw [h.1, if_neg (show ¬ nI n ≤ nI b by rw [nI_le_iff (by omega) (by omega)]; omega)]
    simp (disch := omega) only [gdx_n, nc_n, letv_eq, nI_1]
    rw [show σ (k + 1 + 1 + p) b = nI (g p b) from h.2 p b hp (by omega)]
    cases c : S.testBit b with
    | true =>
      rw [if_pos ((has_bit hS (by omega)).mpr c), if_pos rfl]
      by_cases c2 : g p b ≤ mxo (g p) (fun q => S.testBit q) b
      · rw [if_pos (nI_le c2 (by omega)), Nat.max_eq_left c2]
      · rw [if_neg (fun q => c2 ((nI_le_iff (by omega) (by omega)).mp q)), Nat.max_eq_right (by omega)]
    | false =>
      rw [if_neg (fun q => by rw [(has_bit hS (by omega)).mp q] at c; exact absurd c (by decide)), if_neg (by decide), Nat.max_eq_left (Nat.zero_le _)]
theorem furthest_s {σ : Mem} {k n : Nat} {g : Nat → Nat → Nat} (h : Gp σ k n g) (hn : n ≤ 10) (hg : ∀ x y, x < n → y < n → g x y < 2 ^ 20) (p S : Nat) (hp : p < n) (hS : S < 2 ^ 31) : X5_furthest k (nI p) (nI S) σ = some (nI (mxo (g p) (fun q => S.testBit q) n)) := furthest_l h hn hg p S hp hS n 0 FU (by omega) (by unfold FU; omega)
theorem widest_l {σ : Mem} {k n : Nat} {g : Nat → Nat → Nat} (h : Gp σ k n g) (hn : n ≤ 10) (hg : ∀ x y, x < n → y < n → g x y < 2 ^ 20) (S : Nat) (hS : S < 2 ^ 31) : ∀ (d b m : Nat), b + d = n → d < m → X5_widest_l4 m k (nI S) (nI (mxo (fun p => mxo (g p) (fun q => S.testBit q) n) (fun q => S.testBit q) b)) (nI b) σ = some (nI (wid g n S)) := by
  have hb1 : ∀ i, i < n → mxo (g i) (fun q => S.testBit q) n ≤ 2 ^ 20 := fun i hi => mxo_le n (fun j hj => Nat.le_of_lt (hg i j hi hj))
  intro d
  induction d with
  | zero =>
    intro b m hb hm
    obtain ⟨m, rfl⟩ : ∃ m', m = m' + 1 := ⟨m - 1, by omega⟩
    obtain rfl : b = n := by omega
    show X5_widest_b4 _ k (nI S) _ (nI b) σ = _
    unfold X5_widest_b4
    rw [h.1, if_pos (nI_le (by omega) (by omega))]
    rfl
  | succ d ih =>
    intro b m hb hm
    obtain ⟨m, rfl⟩ : ∃ m', m = m' + 1 := ⟨m - 1, by omega⟩
    have hm1 := mxo_le (f := fun p => mxo (g p) (fun q => S.testBit q) n) (P := fun q => S.testBit q) (M := 2 ^ 20) b (fun i hi => hb1 i (by omega))
    have hgb := hb1 b (by omega)
    have e := ih (b + 1) m (by omega) (by omega)
    rw [← e]
    show X5_widest_b4 _ k (nI S) _ (nI b) σ = X5_widest_l4 m k (nI S) (nI (max (mxo (fun p => mxo (g p) (fun q => S.testBit q) n) (fun q => S.testBit q) b) (if S.testBit b then mxo (g b) (fun q => S.testBit q) n else 0))) (nI (b + 1)) σ
    unfold X5_widest_b4 X5_widest_b32
    rw [h.1, if_neg (show ¬ nI n ≤ nI b by rw [nI_le_iff (by omega) (by omega)]; omega), nI_1]
    cases c : S.testBit b with
    | true =>
      rw [if_pos ((has_bit hS (by omega)).mpr c), if_pos rfl, furthest_s h hn hg b S (by omega) hS, ob_some, letv_eq, mx_n (by omega) (by omega)]
    | false =>
      rw [if_neg (fun q => by rw [(has_bit hS (by omega)).mp q] at c; exact absurd c (by decide)), if_neg (by decide), Nat.max_eq_left (Nat.zero_le _)]
theorem widest_s {σ : Mem} {k n : Nat} {g : Nat → Nat → Nat} (h : Gp σ k n g) (hn : n ≤ 10) (hg : ∀ x y, x < n → y < n → g x y < 2 ^ 20) (S : Nat) (hS : S < 2 ^ 31) : X5_widest k (nI S) σ = some (nI (wid g n S)) := widest_l h hn hg S hS n 0 FU (by omega) (by unfold FU; omega)
/-- the model's spread: one page against the later ones -/
theorem spIn {σ : Mem} {k : Nat} {B : Nat → Nat} (h : RwB (σ k) 0 B) (ho : okB B) (S : Nat) (hS : S < 2 ^ 31) (K4 : Nat → Int32 → Int32 → Int32 → Mem → Option Int32) (a : Nat) (ha : a < B 0) : ∀ (d b m acc : Nat), b + d = B 0 → a < b → d < m → acc ≤ 90 → ∃ acc', X12_spreadOf_l16 K4 m k (nI S) (nI acc) (nI a) (nI b) σ = K4 k (nI S) (nI acc') (nI (a + 1)) σ ∧ acc ≤ acc' ∧ acc' ≤ 90 ∧ (∀ y, b ≤ y → y < B 0 → S.testBit a = true → S.testBit y = true → far B a y ≤ acc') ∧ (acc' = acc ∨ ∃ y, y < B 0 ∧ S.testBit a = true ∧ S.testBit y = true ∧ far B a y = acc') := by
  have hn := ho.1
  have h0 : σ k (nc 0) = nI (B 0) := h 0 (by omega)
  intro d
  induction d with
  | zero =>
    intro b m acc hb hab hm hacc
    obtain ⟨m, rfl⟩ : ∃ m', m = m' + 1 := ⟨m - 1, by omega⟩
    refine ⟨acc, ?_, Nat.le_refl _, hacc, fun y h1 h2 => by omega, Or.inl rfl⟩
    show X12_spreadOf_b16 K4 _ k (nI S) (nI acc) (nI a) (nI b) σ = _
    unfold X12_spreadOf_b16 X12_spreadOf_b73
    rw [h0, if_pos (nI_le (by omega) (by omega)), nI_1]
  | succ d ih =>
    intro b m acc hb hab hm hacc
    obtain ⟨m, rfl⟩ : ∃ m', m = m' + 1 := ⟨m - 1, by omega⟩
    show ∃ acc', X12_spreadOf_b16 K4 _ k (nI S) (nI acc) (nI a) (nI b) σ = _ ∧ _
    unfold X12_spreadOf_b16 X12_spreadOf_b73
    rw [h0, if_neg (show ¬ nI (B 0) ≤ nI b by rw [nI_le_iff (by omega) (by omega)]; omega), nI_1]
    cases c : S.testBit a with
    | false =>
      rw [has_0 hS (by omega) c, if_pos rfl]
      exact ⟨acc, rfl, Nat.le_refl _, hacc, fun y h1 h2 h3 => absurd h3 (by decide), Or.inl rfl⟩
    | true =>
      rw [has_1 hS (by omega) c, if_neg (show ¬ (1 : Int32) = 0 by decide)]
      rw [c] at ih
      cases c2 : S.testBit b with
      | false =>
        obtain ⟨acc', q1, q2, q3, q4, q5⟩ := ih (b + 1) m acc (by omega) (by omega) (by omega) hacc
        refine ⟨acc', ?_, q2, q3, fun y h1 h2 h3 h4 => ?_, q5⟩
        · rw [has_0 hS (by omega) c2, if_pos rfl]
          unfold X12_spreadOf_b52 X12_spreadOf_b66
          rw [if_pos (nI_ge0 (by omega)), nI_1]
          exact q1
        · by_cases e : y = b
          · rw [e, c2] at h4
            exact absurd h4 (by decide)
          · exact q4 y (by omega) h2 h3 h4
      | true =>
        have hfl := far_le ho ha (show b < B 0 by omega)
        obtain ⟨acc', q1, q2, q3, q4, q5⟩ := ih (b + 1) m (max acc (far B a b)) (by omega) (by omega) (by omega) (by omega)
        refine ⟨acc', ?_, by omega, q3, fun y h1 h2 h3 h4 => ?_, ?_⟩
        · rw [has_1 hS (by omega) c2, if_neg (show ¬ (1 : Int32) = 0 by decide), farOf_s h ho ha (by omega) (by omega), ob_some]
          unfold X12_spreadOf_b52 X12_spreadOf_b66
          rw [nI_1]
          by_cases c3 : far B a b ≤ acc
          · rw [if_pos (nI_le c3 (by omega))]
            rw [Nat.max_eq_left c3] at q1
            exact q1
          · rw [if_neg (fun q => c3 ((nI_le_iff (by omega) (by omega)).mp q))]
            rw [Nat.max_eq_right (by omega)] at q1
            exact q1
        · by_cases e : y = b
          · rw [e]
            omega
          · exact q4 y (by omega) h2 h3 h4
        · rcases q5 with q5 | q5
          · by_cases c3 : far B a b ≤ acc
            · rw [Nat.max_eq_left c3] at q5
              exact Or.inl q5
            · rw [Nat.max_eq_right (by omega)] at q5
              exact Or.inr ⟨b, by omega, rfl, c2, q5.symm⟩
          · exact Or.inr q5
theorem spOut {σ : Mem} {k : Nat} {B : Nat → Nat} (h : RwB (σ k) 0 B) (ho : okB B) (S : Nat) (hS : S < 2 ^ 31) : ∀ (d a m acc : Nat), a + d = B 0 → d < m → acc ≤ 90 → ∃ acc', X12_spreadOf_l4 m k (nI S) (nI acc) (nI a) σ = some (nI acc') ∧ acc ≤ acc' ∧ (∀ x y, a ≤ x → x < y → y < B 0 → S.testBit x = true → S.testBit y = true → far B x y ≤ acc') ∧ (acc' = acc ∨ ∃ x y, x < B 0 ∧ y < B 0 ∧ S.testBit x = true ∧ S.testBit y = true ∧ far B x y = acc') := by
  have hn := ho.1
  have h0 : σ k (nc 0) = nI (B 0) := h 0 (by omega)
  intro d
  induction d with
  | zero =>
    intro a m acc hb hm hacc
    obtain ⟨m, rfl⟩ : ∃ m', m = m' + 1 := ⟨m - 1, by omega⟩
    refine ⟨acc, ?_, Nat.le_refl _, fun x y h1 h2 h3 => by omega, Or.inl rfl⟩
    show X12_spreadOf_b4 _ k (nI S) (nI acc) (nI a) σ = _
    unfold X12_spreadOf_b4
    rw [h0, if_pos (nI_le (by omega) (by omega))]
  | succ d ih =>
    intro a m acc hb hm hacc
    obtain ⟨m, rfl⟩ : ∃ m', m = m' + 1 := ⟨m - 1, by omega⟩
    obtain ⟨acc1, q1, q2, q3, q4, q5⟩ := spIn h ho S hS (X12_spreadOf_l4 m) a (by omega) d (a + 1) FU acc (by omega) (by omega) (by unfold FU; omega) hacc
    obtain ⟨acc', w1, w2, w3, w4⟩ := ih (a + 1) m acc1 (by omega) (by omega) q3
    refine ⟨acc', ?_, by omega, fun x y h1 h2 h3 h4 h5 => ?_, ?_⟩
    · show X12_spreadOf_b4 _ k (nI S) (nI acc) (nI a) σ = _
      unfold X12_spreadOf_b4
      rw [h0, if_neg (show ¬ nI (B 0) ≤ nI a by rw [nI_le_iff (by omega) (by omega)]; omega), letv_eq, nI_1, q1, w1]
    · by_cases e : x = a
      · subst e
        have := q4 y (by omega) h3 h4 h5
        omega
      · exact w3 x y (by omega) h2 h3 h4 h5
    · rcases w4 with w4 | w4
      · rcases q5 with q5 | ⟨y, e1, e2, e3, e4⟩
        · exact Or.inl (by omega)
        · exact Or.inr ⟨a, y, by omega, e1, e2, e3, by omega⟩
      · exact Or.inr w4
theorem spread_s {σ : Mem} {k : Nat} {B : Nat → Nat} (h : RwB (σ k) 0 B) (ho : okB B) (S : Nat) (hS : S < 2 ^ 31) : X12_spreadOf k (nI S) σ = some (nI (wid (far B) (B 0) S)) := by
  have hn := ho.1
  obtain ⟨acc, q1, q2, q3, q4⟩ := spOut h ho S hS (B 0) 0 FU 0 (by omega) (by unfold FU; omega) (by omega)
  have : IsW (far B) (B 0) S acc := by
    refine ⟨fun p q hp hq h1 h2 => ?_, ?_⟩
    · rcases Nat.lt_trichotomy p q with e | e | e
      · exact q3 p q (by omega) e hq h1 h2
      · rw [e, far_self]
        exact Nat.zero_le _
      · rw [far_comm]
        exact q3 q p (by omega) e hp h2 h1
    · rcases q4 with e | ⟨x, y, e⟩
      · exact Or.inl e
      · exact Or.inr ⟨x, y, e⟩
  rw [← IsW_uniq this (wid_is (far B) (B 0) S)]
  exact q1
/-- who lies near whom, as sets -/
def nrM (g : Nat → Nat → Nat) (n L p : Nat) : Nat := msk (fun q => decide (g p q ≤ L)) n
theorem nrM_bit (g : Nat → Nat → Nat) (n L p q : Nat) : (nrM g n L p).testBit q = true ↔ q < n ∧ g p q ≤ L := by
  unfold nrM
  rw [msk_bit]
  simp
theorem nrM_lt (g : Nat → Nat → Nat) {n L p : Nat} (hn : n ≤ 10) : nrM g n L p < 2 ^ 10 := Nat.lt_of_lt_of_le (msk_lt _ n) (Nat.pow_le_pow_right (by omega) hn)
theorem markIn {k n : Nat} {g : Nat → Nat → Nat} (hn : n ≤ 10) (hg : ∀ x y, x < n → y < n → g x y < 2 ^ 20) (L : Nat) (hL : L < 2 ^ 20) (K2 : Nat → Int32 → Int32 → Mem → Option Mem) (a : Nat) (ha : a < n) : ∀ (d b m : Nat) (σ : Mem), b + d = n → d < m → Gp σ k n g → σ (k + 12) a = nI (msk (fun q => decide (g a q ≤ L)) b) → X5_markNear_l19 K2 m k (nI L) (nI a) (nI b) σ = K2 k (nI L) (nI (a + 1)) (wr σ (k + 12) a (nI (nrM g n L a))) := by
  intro d
  induction d with
  | zero =>
    intro b m σ hb hm h h1
    obtain ⟨m, rfl⟩ : ∃ m', m = m' + 1 := ⟨m - 1, by omega⟩
    obtain rfl : b = n := by omega
    have hw : wr σ (k + 12) a (nI (nrM g b L a)) = σ := by
      funext q i
      by_cases hq : q = k + 12
      · subst hq
        by_cases hi : i = a
        · subst hi
          rw [wr_at, h1]
          rfl
        · rw [wr_in _ _ hi]
      · rw [wr_off _ _ _ hq]
    rw [hw]
    show X5_markNear_b19 K2 _ k (nI L) (nI a) (nI b) σ = _
    unfold X5_markNear_b19
    rw [h.1, if_pos (nI_le (by omega) (by omega)), nI_1]
  | succ d ih =>
    intro b m σ hb hm h h1
    obtain ⟨m, rfl⟩ : ∃ m', m = m' + 1 := ⟨m - 1, by omega⟩
    have hgb := hg a b ha (by omega)
    have hG : ∀ x, Gp (wr σ (k + 12) a x) k n g := fun x => ⟨by rw [wr_off _ _ _ (by omega)]; exact h.1, fun u v hu hv => by rw [wr_off _ _ _ (by omega)]; exact h.2 u v hu hv⟩
    show X5_markNear_b19 K2 _ k (nI L) (nI a) (nI b) σ = _
    unfold X5_markNear_b19 X5_markNear_b51
    rw [h.1, if_neg (show ¬ nI n ≤ nI b by rw [nI_le_iff (by omega) (by omega)]; omega)]
    simp (disch := omega) only [gdx_n, nc_n, nI_1]
    rw [show σ (k + 1 + 1 + a) b = nI (g a b) from h.2 a b ha (by omega), h1, shl_1 b (by omega), nI_or]
    by_cases c : g a b ≤ L
    · rw [if_neg (show ¬ nI L < nI (g a b) by rw [nI_lt_iff (by omega) (by omega)]; omega)]
      have e := ih (b + 1) m (wr σ (k + 12) a (nI (msk (fun q => decide (g a q ≤ L)) b ||| 2 ^ b))) (by omega) (by omega) (hG _) (by
        rw [wr_at]
        show nI (msk (fun q => decide (g a q ≤ L)) b ||| 2 ^ b) = nI (msk (fun q => decide (g a q ≤ L)) b ||| (if decide (g a b ≤ L) then 2 ^ b else 0))
        rw [show decide (g a b ≤ L) = true from decide_eq_true c]
        rfl)
      rw [e, wr_wr]
    · rw [if_pos (show nI L < nI (g a b) from nI_lt (by omega) (by omega))]
      exact ih (b + 1) m σ (by omega) (by omega) h (by
        rw [h1]
        show _ = nI (msk (fun q => decide (g a q ≤ L)) b ||| (if decide (g a b ≤ L) then 2 ^ b else 0))
        rw [show decide (g a b ≤ L) = false from decide_eq_false c]
        show _ = nI (msk (fun q => decide (g a q ≤ L)) b ||| 0)
        rw [Nat.or_zero])
theorem mark_l {k n : Nat} {g : Nat → Nat → Nat} (hn : n ≤ 10) (hg : ∀ x y, x < n → y < n → g x y < 2 ^ 20) (L : Nat) (hL : L < 2 ^ 20) : ∀ (d a m : Nat) (σ : Mem), a + d = n → d < m → Gp σ k n g → ∃ σ', X5_markNear_l2 m k (nI L) (nI a) σ = some σ' ∧ (∀ p, a ≤ p → p < n → σ' (k + 12) p = nI (nrM g n L p)) ∧ (∀ p, p < a → σ' (k + 12) p = σ (k + 12) p) ∧ ∀ q, q ≠ k + 12 → σ' q = σ q := by
  intro d
  induction d with
  | zero =>
    intro a m σ hb hm h
    obtain ⟨m, rfl⟩ : ∃ m', m = m' + 1 := ⟨m - 1, by omega⟩
    refine ⟨σ, ?_, fun p h1 h2 => by omega, fun p h1 => rfl, fun q hq => rfl⟩
    show X5_markNear_b2 _ k (nI L) (nI a) σ = _
    unfold X5_markNear_b2
    rw [h.1, if_pos (nI_le (by omega) (by omega))]
  | succ d ih =>
    intro a m σ hb hm h
    obtain ⟨m, rfl⟩ : ∃ m', m = m' + 1 := ⟨m - 1, by omega⟩
    have hG : ∀ x, Gp (wr σ (k + 12) a x) k n g := fun x => ⟨by rw [wr_off _ _ _ (by omega)]; exact h.1, fun u v hu hv => by rw [wr_off _ _ _ (by omega)]; exact h.2 u v hu hv⟩
    have e := markIn hn hg L hL (X5_markNear_l2 m) a (by omega) n 0 FU (wr σ (k + 12) a 0) (by omega) (by unfold FU; omega) (hG _) (wr_at _ _ _ _)
    rw [wr_wr] at e
    obtain ⟨σ', f1, f2, f3, f4⟩ := ih (a + 1) m (wr σ (k + 12) a (nI (nrM g n L a))) (by omega) (by omega) (hG _)
    refine ⟨σ', ?_, fun p h1 h2 => ?_, fun p h1 => ?_, fun q hq => by rw [f4 q hq, wr_off _ _ _ hq]⟩
    · show X5_markNear_b2 _ k (nI L) (nI a) σ = _
      unfold X5_markNear_b2
      rw [h.1, if_neg (show ¬ nI n ≤ nI a by rw [nI_le_iff (by omega) (by omega)]; omega), gdx_n (by omega) (by omega), nc_n (by omega)]
      rw [show X5_markNear_l19 (X5_markNear_l2 m) FU k (nI L) (nI a) 0 (wr σ (k + 12) a 0) = _ from e]
      exact f1
    · by_cases c : p = a
      · subst c
        rw [f3 p (by omega), wr_at]
      · exact f2 p (by omega) h2
    · rw [f3 p (by omega), wr_in _ _ (by omega)]
theorem mark_s {k n : Nat} {g : Nat → Nat → Nat} (hn : n ≤ 10) (hg : ∀ x y, x < n → y < n → g x y < 2 ^ 20) (L : Nat) (hL : L < 2 ^ 20) (σ : Mem) (h : Gp σ k n g) : ∃ σ', X5_markNear k (nI L) σ = some σ' ∧ (∀ p, p < n → σ' (k + 12) p = nI (nrM g n L p)) ∧ ∀ q, q ≠ k + 12 → σ' q = σ q := by
  obtain ⟨σ', f1, f2, f3, f4⟩ := mark_l hn hg L hL n 0 FU σ (by omega) (by unfold FU; omega) h
  exact ⟨σ', f1, fun p hp => f2 p (by omega) hp, f4⟩
