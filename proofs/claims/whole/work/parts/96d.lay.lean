/-! PURE: the model's small walks over sets. -/
theorem first_l (S f : Nat) (hS : S < 2 ^ 10) (hf : isLow S f) : ∀ (e i m : Nat), i + e = f → e < m → X12_firstOf_l2 m (nI S) (nI i) = some (nI f) := by
  have hf10 : f < 10 := by
    rcases Nat.lt_or_ge f 10 with c | c
    · exact c
    · have := lt_bits.mp hS f c
      rw [hf.1] at this
      exact absurd this (by decide)
  intro e
  induction e with
  | zero =>
    intro i m hi hm
    obtain ⟨m, rfl⟩ : ∃ m', m = m' + 1 := ⟨m - 1, by omega⟩
    obtain rfl : i = f := by omega
    show X12_firstOf_b2 _ (nI S) (nI i) = _
    unfold X12_firstOf_b2
    rw [if_neg (show ¬ (10 : Int32) ≤ nI i from nI_ge (b := 10) (by omega) (by omega)), has_1 (by omega) (by omega) hf.1, if_neg (by decide)]
  | succ e ih =>
    intro i m hi hm
    obtain ⟨m, rfl⟩ : ∃ m', m = m' + 1 := ⟨m - 1, by omega⟩
    show X12_firstOf_b2 _ (nI S) (nI i) = _
    unfold X12_firstOf_b2
    rw [if_neg (show ¬ (10 : Int32) ≤ nI i from nI_ge (b := 10) (by omega) (by omega)), has_0 (by omega) (by omega) (hf.2 i (by omega)), if_pos rfl, nI_1]
    exact ih (i + 1) m (by omega) (by omega)
theorem low_lt {S f n : Nat} (hS : S < 2 ^ n) (hf : isLow S f) : f < n := by
  rcases Nat.lt_or_ge f n with c | c
  · exact c
  · have := lt_bits.mp hS f c
    rw [hf.1] at this
    exact absurd this (by decide)
theorem first_s {S f : Nat} (hS : S < 2 ^ 10) (hf : isLow S f) : X12_firstOf (nI S) = some (nI f) := first_l S f hS hf f 0 FU (by omega) (by have := low_lt hS hf; unfold FU; omega)
theorem one_s {σ : Mem} {d S f : Nat} (hd : d < 11) (h : σ 262 d = nI S) (hS : S < 2 ^ 10) (hf : isLow S f) : X12_oneOf 251 (nI d) σ = some (nI (2 ^ f)) := by
  have := low_lt hS hf
  unfold X12_oneOf X12_oneOf_b0
  rw [gdx_n (by omega) (by omega), nc_n (by omega), show σ (251 + 11) d = nI S from h, first_s hS hf, ob_some, shl_1 f (by omega)]
theorem oth_lt {S f : Nat} (hS : S < 2 ^ 10) : oth S f < 2 ^ 10 := andn_lt hS
theorem opens_set {σ : Mem} {d S f : Nat} (hd : d < 11) (hS : S < 2 ^ 10) (hf : isLow S f) : X12_opensSet 251 (nI d) (nI S) σ = some (wr (wr σ 262 d (nI S)) 263 d (nI (oth S f))) := by
  unfold X12_opensSet X12_opensSet_b0
  rw [gdx_n (by omega) (by omega), nc_n (by omega), one_s hd (show wr σ (251 + 11) d (nI S) 262 d = nI S from wr_at _ _ _ _) hS hf, ob_some, letv_eq, gdx_n (by omega) (by omega), nI_andn]
  rfl
theorem turns_s {σ : Mem} {d S f W k : Nat} (hd : d < 11) (hk : k ≤ 10) (hk0 : d < k) (hS : S < 2 ^ 10) (hf : isLow S f) (hW : W < 2 ^ 10) (h1 : σ 262 d = nI S) (h2 : σ 263 d = nI W) : X12_turns 251 (nI d) (nI k) σ = some (wr σ 263 d (if d + 1 = k ∨ W = 0 then -1 else nI ((W - 1) &&& oth S f))) := by
  unfold X12_turns X12_turns_b0 X12_turns_b36
  rw [gdx_n (by omega) (by omega), nc_n (by omega), one_s hd h1 hS hf, ob_some, letv_eq, nI_p1 (by omega), gdx_n (by omega) (by omega), show σ (251 + 12) d = nI W from h2, gdx_n (by omega) (by omega), gdx_n (by omega) (by omega), gdx_n (by omega) (by omega), show σ (251 + 11) d = nI S from h1, nI_andn]
  by_cases c : d + 1 = k
  · rw [if_pos (by rw [nI_inj (by omega) (by omega)]; omega), if_pos (Or.inl c)]
  · rw [if_neg (by rw [nI_inj (by omega) (by omega)]; omega)]
    by_cases c2 : W = 0
    · rw [if_pos (Or.inr c2), c2]
      rfl
    · rw [if_neg (nI_ne0 (by omega) (by omega)), if_neg (show ¬ (d + 1 = k ∨ W = 0) by omega), nI_p1 (by omega), nI_and]
      rfl
def nrT (N : Nat → Nat) (p q : Nat) : Prop := (N p).testBit q = true
theorem andn_0 {a b : Nat} : andn a b = 0 ↔ ∀ q, a.testBit q = true → b.testBit q = true := by
  constructor
  · intro h q hq
    have : (andn a b).testBit q = false := by rw [h]; exact Nat.zero_testBit q
    rw [andn_bit, hq, Bool.true_and] at this
    simpa using this
  · intro h
    apply Nat.eq_of_testBit_eq
    intro i
    rw [andn_bit, Nat.zero_testBit]
    cases e : a.testBit i with
    | false => rfl
    | true => rw [h i e]; rfl
theorem near_0 (T : Nat) (σ : Mem) : ∀ (e i m : Nat), i + e = 10 → e < m → X12_isNear_l4 m 251 (nI T) 0 (nI i) σ = some 0 := by
  intro e
  induction e with
  | zero =>
    intro i m hi hm
    obtain ⟨m, rfl⟩ : ∃ m', m = m' + 1 := ⟨m - 1, by omega⟩
    obtain rfl : i = 10 := by omega
    show X12_isNear_b4 _ 251 (nI T) 0 (nI 10) σ = _
    unfold X12_isNear_b4
    rw [if_pos (by decide), gdb_0]
  | succ e ih =>
    intro i m hi hm
    obtain ⟨m, rfl⟩ : ∃ m', m = m' + 1 := ⟨m - 1, by omega⟩
    show X12_isNear_b4 _ 251 (nI T) 0 (nI i) σ = _
    unfold X12_isNear_b4
    rw [if_neg (show ¬ (10 : Int32) ≤ nI i from nI_ge (b := 10) (by omega) (by omega)), if_pos rfl]
    unfold X12_isNear_b39 X12_isNear_b40
    rw [nI_1]
    exact ih (i + 1) m (by omega) (by omega)
theorem near_l (N : Nat → Nat) (hN : ∀ p, p < 10 → N p < 2 ^ 10) (T : Nat) (hT : T < 2 ^ 10) (σ : Mem) (hσ : ∀ p, p < 10 → σ 261 p = nI (N p)) : ∀ (e i m : Nat), i + e = 10 → e < m → ∃ r, X12_isNear_l4 m 251 (nI T) 1 (nI i) σ = some r ∧ ((r = 1 ∧ ∀ p, i ≤ p → p < 10 → T.testBit p = true → ∀ q, T.testBit q = true → nrT N p q) ∨ (r = 0 ∧ ∃ p q, T.testBit p = true ∧ T.testBit q = true ∧ ¬ nrT N p q)) := by
  intro e
  induction e with
  | zero =>
    intro i m hi hm
    obtain ⟨m, rfl⟩ : ∃ m', m = m' + 1 := ⟨m - 1, by omega⟩
    obtain rfl : i = 10 := by omega
    refine ⟨1, ?_, Or.inl ⟨rfl, fun p a b => by omega⟩⟩
    show X12_isNear_b4 _ 251 (nI T) 1 (nI 10) σ = _
    unfold X12_isNear_b4
    rw [if_pos (by decide), gdb_1]
  | succ e ih =>
    intro i m hi hm
    obtain ⟨m, rfl⟩ : ∃ m', m = m' + 1 := ⟨m - 1, by omega⟩
    have hNi := hN i (by omega)
    show ∃ r, X12_isNear_b4 _ 251 (nI T) 1 (nI i) σ = some r ∧ _
    unfold X12_isNear_b4
    rw [if_neg (show ¬ (10 : Int32) ≤ nI i from nI_ge (b := 10) (by omega) (by omega)), if_neg (by decide), gdx_n (by omega) (by omega), nc_n (by omega), show σ (251 + 10) i = nI (N i) from hσ i (by omega), nI_andn]
    obtain ⟨r, h1, h2⟩ := ih (i + 1) m (by omega) (by omega)
    have hlt := andn_lt (b := N i) hT
    cases c : T.testBit i with
    | false =>
      rw [has_0 (by omega) (by omega) c, if_pos rfl]
      unfold X12_isNear_b35 X12_isNear_b40
      rw [nI_1]
      refine ⟨r, h1, ?_⟩
      rcases h2 with ⟨h2, h3⟩ | h2
      · refine Or.inl ⟨h2, fun p a b hp => ?_⟩
        by_cases e2 : p = i
        · rw [e2, c] at hp
          exact absurd hp (by decide)
        · exact h3 p (by omega) b hp
      · exact Or.inr h2
    | true =>
      rw [has_1 (by omega) (by omega) c, if_neg (by decide)]
      by_cases c2 : andn T (N i) = 0
      · rw [if_pos (show nI (andn T (N i)) = 0 by rw [c2]; rfl)]
        unfold X12_isNear_b35 X12_isNear_b40
        rw [nI_1]
        refine ⟨r, h1, ?_⟩
        rcases h2 with ⟨h2, h3⟩ | h2
        · refine Or.inl ⟨h2, fun p a b hp => ?_⟩
          by_cases e2 : p = i
          · rw [e2]
            exact fun q hq => andn_0.mp c2 q hq
          · exact h3 p (by omega) b hp
        · exact Or.inr h2
      · rw [if_neg (nI_ne0 (by omega) (by omega))]
        unfold X12_isNear_b39 X12_isNear_b40
        rw [nI_1]
        refine ⟨0, near_0 T σ e (i + 1) m (by omega) (by omega), Or.inr ⟨rfl, i, ?_⟩⟩
        obtain ⟨q, hq⟩ := Nat.exists_testBit_of_ne_zero c2
        rw [andn_bit] at hq
        simp only [Bool.and_eq_true, Bool.not_eq_true'] at hq
        refine ⟨q, c, hq.1, fun x => ?_⟩
        unfold nrT at x
        rw [hq.2] at x
        exact absurd x (by decide)
theorem near_s (N : Nat → Nat) (hN : ∀ p, p < 10 → N p < 2 ^ 10) (T : Nat) (hT : T < 2 ^ 10) (σ : Mem) (hσ : ∀ p, p < 10 → σ 261 p = nI (N p)) : ∃ r, X12_isNear 251 (nI T) σ = some r ∧ ((r = 1 ∧ ∀ p q, T.testBit p = true → T.testBit q = true → nrT N p q) ∨ (r = 0 ∧ ∃ p q, T.testBit p = true ∧ T.testBit q = true ∧ ¬ nrT N p q)) := by
  obtain ⟨r, h1, h2⟩ := near_l N hN T hT σ hσ 10 0 FU (by omega) (by unfold FU; omega)
  refine ⟨r, h1, ?_⟩
  rcases h2 with ⟨h2, h3⟩ | h2
  · refine Or.inl ⟨h2, fun p q hp hq => h3 p (by omega) ?_ hp q hq⟩
    rcases Nat.lt_or_ge p 10 with c | c
    · exact c
    · have := lt_bits.mp hT p c
      rw [hp] at this
      exact absurd this (by decide)
  · exact Or.inr h2
def scan (bl : Nat → Nat) : Nat → Nat → Nat
  | 0, _ => 0
  | j + 1, p => if (bl j).testBit p then j else scan bl j p
theorem scan_lt (bl : Nat → Nat) (p : Nat) : ∀ j, scan bl j p ≤ j := by
  intro j
  induction j with
  | zero => exact Nat.le_refl 0
  | succ j ih =>
    show (if (bl j).testBit p then j else scan bl j p) ≤ j + 1
    split <;> omega
theorem scan_cg {bl bl' : Nat → Nat} (p : Nat) : ∀ j, (∀ i, i < j → bl i = bl' i) → scan bl j p = scan bl' j p := by
  intro j
  induction j with
  | zero => intro _; rfl
  | succ j ih =>
    intro h
    show (if (bl j).testBit p then j else scan bl j p) = if (bl' j).testBit p then j else scan bl' j p
    rw [ih (fun i hi => h i (by omega)), h j (by omega)]
/-- the sets under way, up to depth d -/
def Stk (σ : Mem) (d : Nat) (bl : Nat → Nat) : Prop := ∀ j, j < d → ∃ S f W, S < 2 ^ 10 ∧ isLow S f ∧ W < 2 ^ 10 ∧ σ 262 j = nI S ∧ σ 263 j = nI W ∧ bl j = 2 ^ f ||| W
theorem tellsIn (d p : Nat) (hd : d < 10) (hp : p < 10) (bl : Nat → Nat) (v2 v3 : Int32) (K5 : Nat → Int32 → Int32 → Int32 → Int32 → Mem → Option Mem) : ∀ (e j m : Nat) (σ : Mem), j + e = d + 1 → e < m → Stk σ (d + 1) bl → σ 265 p = nI (scan bl j p) → X12_tells_l23 K5 m 251 (nI d) v2 v3 (nI p) (nI j) σ = K5 251 (nI d) v2 (if v3 = 0 ∧ v2 = 0 then nI (scan bl (d + 1) p) - σ 264 p else v3) (nI (p + 1)) (wr σ 265 p (nI (scan bl (d + 1) p))) := by
  intro e
  induction e with
  | zero =>
    intro j m σ hj hm hs h0
    obtain ⟨m, rfl⟩ : ∃ m', m = m' + 1 := ⟨m - 1, by omega⟩
    obtain rfl : j = d + 1 := by omega
    have hw : wr σ 265 p (nI (scan bl (d + 1) p)) = σ := by
      funext q i
      by_cases hq : q = 265
      · subst hq
        by_cases hi : i = p
        · subst hi
          rw [wr_at, h0]
        · rw [wr_in _ _ hi]
      · rw [wr_off _ _ _ hq]
    rw [hw]
    show X12_tells_b23 _ _ 251 (nI d) v2 v3 (nI p) (nI (d + 1)) σ = _
    unfold X12_tells_b23 X12_tells_b102 X12_tells_b103
    rw [if_pos (nI_lt (by omega) (by omega)), gdx_n (by omega) (by omega), gdx_n (by omega) (by omega), nc_n (by omega), nI_1, show σ (251 + 14) p = _ from h0]
    by_cases c : v3 = 0
    · by_cases c2 : v2 = 0
      · rw [if_pos c, if_pos c2, if_pos ⟨c, c2⟩]
      · rw [if_pos c, if_neg c2, if_neg (fun x => c2 x.2)]
    · rw [if_neg c, if_neg (fun x => c x.1)]
  | succ e ih =>
    intro j m σ hj hm hs h0
    obtain ⟨m, rfl⟩ : ∃ m', m = m' + 1 := ⟨m - 1, by omega⟩
    obtain ⟨S, f, W, s1, s2, s3, s4, s5, s6⟩ := hs j (by omega)
    have hf := low_lt s1 s2
    have hor : 2 ^ f ||| W < 2 ^ 10 := or_lt (pow_lt hf) s3
    have h2 := ih (j + 1) m (wr σ 265 p (nI (scan bl (j + 1) p))) (by omega) (by omega) (fun i hi => by
      obtain ⟨S, f, W, s1, s2, s3, s4, s5, s6⟩ := hs i hi
      exact ⟨S, f, W, s1, s2, s3, by rw [wr_off _ _ _ (by omega)]; exact s4, by rw [wr_off _ _ _ (by omega)]; exact s5, s6⟩) (wr_at _ _ _ _)
    rw [wr_wr, wr_off _ _ _ (show 264 ≠ 265 by omega)] at h2
    rw [← h2]
    show X12_tells_b23 _ _ 251 (nI d) v2 v3 (nI p) (nI j) σ = _
    unfold X12_tells_b23 X12_tells_b69
    rw [if_neg (by rw [nI_lt_iff (by omega) (by omega)]; omega), one_s (by omega) s4 s1 s2, ob_some, gdx_n (by omega) (by omega), nc_n (by omega), show σ (251 + 12) j = nI W from s5, nI_or, ← s6, gdx_n (by omega) (by omega), gdx_n (by omega) (by omega), nc_n (by omega), nI_1, show σ (251 + 14) p = _ from h0]
    show _ = X12_tells_l23 K5 m 251 (nI d) v2 v3 (nI p) (nI (j + 1)) (wr σ 265 p (nI (if (bl j).testBit p then j else scan bl j p)))
    cases c : (bl j).testBit p with
    | true => rw [has_1 (by rw [s6]; omega) (by omega) c, if_neg (by decide), if_pos rfl, gdx_n (by omega) (by omega)]
    | false => rw [has_0 (by rw [s6]; omega) (by omega) c, if_pos rfl, if_neg (by decide)]
theorem sb_lt {a b : Nat} (ha : a < 2 ^ 30) (hb : b < 2 ^ 30) : nI a - nI b < 0 ↔ a < b := by
  rw [Int32.lt_iff_toInt_lt, Int32.toInt_sub, nI_toInt (by omega), nI_toInt (by omega)]
  have : (0 : Int32).toInt = 0 := by decide
  rw [this, Int.bmod_eq_of_le (by omega) (by omega)]
  omega
theorem sb_le {a b : Nat} (ha : a < 2 ^ 30) (hb : b < 2 ^ 30) : 0 ≤ nI a - nI b ↔ b ≤ a := by
  rw [Int32.le_iff_toInt_le, Int32.toInt_sub, nI_toInt (by omega), nI_toInt (by omega)]
  have : (0 : Int32).toInt = 0 := by decide
  rw [this, Int.bmod_eq_of_le (by omega) (by omega)]
  omega
theorem sb_eq {a b : Nat} (ha : a < 2 ^ 30) (hb : b < 2 ^ 30) : nI a - nI b = 0 ↔ a = b := by
  rw [← Int32.toInt_inj, Int32.toInt_sub, nI_toInt (by omega), nI_toInt (by omega)]
  have : (0 : Int32).toInt = 0 := by decide
  rw [this, Int.bmod_eq_of_le (by omega) (by omega)]
  omega
theorem tellsCp (v2 v3 : Int32) (hv : ¬ (v2 = 0 ∧ 0 ≤ v3)) : ∀ (e p m : Nat) (σ : Mem), p + e = 10 → e < m → ∃ f : Nat → Int32, X12_tells_l113 m 251 v2 v3 (nI p) σ = some (wrF σ 264 f) ∧ ∀ j, f j = if p ≤ j ∧ j < 10 then σ 265 j else σ 264 j := by
  intro e
  induction e with
  | zero =>
    intro p m σ hp hm
    obtain ⟨m, rfl⟩ : ∃ m', m = m' + 1 := ⟨m - 1, by omega⟩
    obtain rfl : p = 10 := by omega
    refine ⟨σ 264, ?_, fun j => ?_⟩
    · show X12_tells_b113 _ 251 v2 v3 (nI 10) σ = _
      unfold X12_tells_b113
      rw [if_pos (by decide), wrF_self]
    · rw [if_neg (by omega)]
  | succ e ih =>
    intro p m σ hp hm
    obtain ⟨m, rfl⟩ : ∃ m', m = m' + 1 := ⟨m - 1, by omega⟩
    obtain ⟨f, h1, h2⟩ := ih (p + 1) m (wr σ 264 p (σ 265 p)) (by omega) (by omega)
    refine ⟨f, ?_, fun j => ?_⟩
    · show X12_tells_b113 _ 251 v2 v3 (nI p) σ = _
      unfold X12_tells_b113 X12_tells_b128
      rw [if_neg (show ¬ (10 : Int32) ≤ nI p from nI_ge (b := 10) (by omega) (by omega)), gdx_n (by omega) (by omega), gdx_n (by omega) (by omega), nc_n (by omega), nI_1]
      rw [show X12_tells_l113 m 251 v2 v3 (nI (p + 1)) (wr σ (251 + 13) p (σ (251 + 14) p)) = _ from h1, wrF_wr]
      by_cases c : v2 = 0
      · by_cases c2 : 0 ≤ v3
        · exact absurd ⟨c, c2⟩ hv
        · rw [if_pos c, if_neg c2]
      · rw [if_neg c]
    · rw [h2 j]
      by_cases e : j = p
      · subst e
        rw [if_neg (by omega), if_pos (by omega), wr_at]
      · rw [wr_in _ _ e, wr_off _ _ _ (by omega)]
        by_cases c : p ≤ j ∧ j < 10
        · rw [if_pos c, if_pos (by omega)]
        · rw [if_neg c, if_neg (by omega)]
