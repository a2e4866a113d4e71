/-! PURE: sets of pages in their order; what completes a part. -/
/-- the lowest one -/
def isLow (m f : Nat) : Prop := m.testBit f = true ∧ ∀ i, i < f → m.testBit i = false
theorem low_ex {m : Nat} (h : m ≠ 0) : ∃ f, isLow m f := by
  obtain ⟨f, hf⟩ := Nat.exists_testBit_of_ne_zero h
  induction f using Nat.strongRecOn with
  | ind f ih =>
    by_cases c : ∃ i, i < f ∧ m.testBit i = true
    · obtain ⟨i, h1, h2⟩ := c
      exact ih i h1 h2
    · refine ⟨f, hf, fun i hi => ?_⟩
      cases e : m.testBit i with
      | false => rfl
      | true => exact absurd ⟨i, hi, e⟩ c
theorem pred_bit : ∀ (f m : Nat), isLow m f → ∀ i, (m - 1).testBit i = if i < f then true else if i = f then false else m.testBit i := by
  intro f
  induction f with
  | zero =>
    intro m h i
    have h0 := h.1
    rw [Nat.testBit_zero] at h0
    have h0' : m % 2 = 1 := by simpa using h0
    rw [if_neg (by omega)]
    cases i with
    | zero =>
      rw [if_pos rfl, Nat.testBit_zero]
      have : (m - 1) % 2 = 0 := by omega
      simp [this]
    | succ i =>
      rw [if_neg (by omega), Nat.testBit_succ, Nat.testBit_succ]
      congr 1
      omega
  | succ f ih =>
    intro m h i
    have h0 := h.2 0 (by omega)
    rw [Nat.testBit_zero] at h0
    have h0' : m % 2 = 0 := by
      have : ¬ m % 2 = 1 := by simpa using h0
      omega
    have hl : isLow (m / 2) f := ⟨by rw [← Nat.testBit_succ]; exact h.1, fun j hj => by rw [← Nat.testBit_succ]; exact h.2 (j + 1) (by omega)⟩
    have hm : m ≠ 0 := by
      intro e
      rw [e] at h
      simp [isLow] at h
    cases i with
    | zero =>
      rw [if_pos (by omega), Nat.testBit_zero]
      have : (m - 1) % 2 = 1 := by omega
      simp [this]
    | succ i =>
      rw [Nat.testBit_succ, show (m - 1) / 2 = m / 2 - 1 by omega, ih (m / 2) hl i, Nat.testBit_succ]
      by_cases c : i < f
      · rw [if_pos c, if_pos (show i + 1 < f + 1 by omega)]
      · rw [if_neg c, if_neg (show ¬ i + 1 < f + 1 by omega)]
        by_cases c2 : i = f
        · rw [if_pos c2, if_pos (show i + 1 = f + 1 by omega)]
        · rw [if_neg c2, if_neg (show ¬ i + 1 = f + 1 by omega)]
/-- the next set below W within O -/
theorem next_bit {O W f : Nat} (h : isLow W f) (hs : ∀ i, W.testBit i = true → O.testBit i = true) (i : Nat) : ((W - 1) &&& O).testBit i = if i < f then O.testBit i else if i = f then false else W.testBit i := by
  rw [Nat.testBit_and, pred_bit f W h i]
  by_cases c : i < f
  · rw [if_pos c, if_pos c, Bool.true_and]
  · rw [if_neg c, if_neg c]
    by_cases c2 : i = f
    · rw [if_pos c2, Bool.false_and]
    · rw [if_neg c2]
      cases e : W.testBit i with
      | false => rfl
      | true => rw [hs i e]; rfl
def G : Nat → Nat → Nat → Nat
  | 0, _, _ => 1
  | b + 1, O, W => if O.testBit b then (if W.testBit b then 6 * 7 ^ pc b O + G b O W else 6 * G b O W) else G b O W
theorem G_pos (O W : Nat) : ∀ b, 1 ≤ G b O W := by
  intro b
  induction b with
  | zero => exact Nat.le_refl 1
  | succ b ih =>
    show 1 ≤ if O.testBit b then (if W.testBit b then 6 * 7 ^ pc b O + G b O W else 6 * G b O W) else G b O W
    split
    · split <;> omega
    · exact ih
theorem G_cg {O W W' : Nat} : ∀ b, (∀ i, i < b → W.testBit i = W'.testBit i) → G b O W = G b O W' := by
  intro b
  induction b with
  | zero => intro _; rfl
  | succ b ih =>
    intro h
    show (if O.testBit b then (if W.testBit b then 6 * 7 ^ pc b O + G b O W else 6 * G b O W) else G b O W) = if O.testBit b then (if W'.testBit b then 6 * 7 ^ pc b O + G b O W' else 6 * G b O W') else G b O W'
    rw [ih (fun i hi => h i (by omega)), h b (by omega)]
theorem G_all (O : Nat) : ∀ b, G b O O = 7 ^ pc b O := by
  intro b
  induction b with
  | zero => rfl
  | succ b ih =>
    show (if O.testBit b then (if O.testBit b then 6 * 7 ^ pc b O + G b O O else 6 * G b O O) else G b O O) = 7 ^ (pc b O + if O.testBit b then 1 else 0)
    cases e : O.testBit b with
    | false => simpa using ih
    | true =>
      simp only [if_true]
      rw [ih, Nat.pow_succ]
      omega
theorem G_none {O W : Nat} : ∀ b, (∀ i, i < b → W.testBit i = false) → G b O W = 6 ^ pc b O := by
  intro b
  induction b with
  | zero => intro _; rfl
  | succ b ih =>
    intro h
    show (if O.testBit b then (if W.testBit b then 6 * 7 ^ pc b O + G b O W else 6 * G b O W) else G b O W) = 6 ^ (pc b O + if O.testBit b then 1 else 0)
    rw [h b (by omega), ih (fun i hi => h i (by omega))]
    cases e : O.testBit b with
    | false => simp
    | true =>
      simp only [if_true]
      rw [Nat.pow_succ]
      simp
      omega
theorem G_next {O W f : Nat} (h : isLow W f) (hs : ∀ i, W.testBit i = true → O.testBit i = true) : ∀ b, f < b → G b O W = 6 ^ pc b (andn O W) + G b O ((W - 1) &&& O) := by
  intro b
  induction b with
  | zero => intro hf; omega
  | succ b ih =>
    intro hf
    show (if O.testBit b then (if W.testBit b then 6 * 7 ^ pc b O + G b O W else 6 * G b O W) else G b O W) = 6 ^ (pc b (andn O W) + if (andn O W).testBit b then 1 else 0) + (if O.testBit b then (if ((W - 1) &&& O).testBit b then 6 * 7 ^ pc b O + G b O ((W - 1) &&& O) else 6 * G b O ((W - 1) &&& O)) else G b O ((W - 1) &&& O))
    rw [next_bit h hs b, andn_bit]
    by_cases e : f = b
    · subst e
      rw [if_neg (Nat.lt_irrefl f), if_pos rfl, hs f h.1, h.1, G_none f h.2, G_cg f (fun i hi => by rw [next_bit h hs i, if_pos hi] : ∀ i, i < f → ((W - 1) &&& O).testBit i = O.testBit i), G_all, pc_cg f (fun i hi => by rw [andn_bit, h.2 i hi]; simp : ∀ i, i < f → (andn O W).testBit i = O.testBit i)]
      simp
      omega
    · rw [if_neg (show ¬ b < f by omega), if_neg (show ¬ b = f by omega), ih (by omega)]
      cases eo : O.testBit b with
      | false =>
        have ew : W.testBit b = false := by
          cases e2 : W.testBit b with
          | false => rfl
          | true =>
            have := hs b e2
            rw [eo] at this
            exact absurd this (by decide)
        simp
      | true =>
        cases ew : W.testBit b with
        | false =>
          simp
          rw [Nat.pow_succ]
          omega
        | true =>
          simp
          omega
theorem cost_step : ∀ j, j < 10 → 1 ≤ j → 2 + 7 ^ (j - 1) ≤ 6 ^ j := by decide
theorem sub_le {V O : Nat} (h : ∀ i, V.testBit i = true → O.testBit i = true) : V ≤ O := by
  have e : V = V &&& O := by
    apply Nat.eq_of_testBit_eq
    intro i
    rw [Nat.testBit_and]
    cases c : V.testBit i with
    | false => rfl
    | true => rw [h i c]; rfl
  rw [e]
  exact Nat.and_le_right
theorem sub_le_next {O V W f : Nat} (h : isLow W f) (hs : ∀ i, W.testBit i = true → O.testBit i = true) (hv : ∀ i, V.testBit i = true → O.testBit i = true) (hlt : V < W) : V ≤ (W - 1) &&& O := by
  have hl : isLow (W / 2 ^ f) 0 := ⟨by rw [Nat.testBit_div_two_pow]; simpa using h.1, fun i hi => by omega⟩
  have e1 : ((W - 1) &&& O) / 2 ^ f = W / 2 ^ f - 1 := by
    apply Nat.eq_of_testBit_eq
    intro i
    rw [Nat.testBit_div_two_pow, next_bit h hs, pred_bit 0 _ hl, Nat.testBit_div_two_pow]
    by_cases c : i = 0
    · rw [if_neg (show ¬ i + f < f by omega), if_pos (show i + f = f by omega), if_neg (show ¬ i < 0 by omega), if_pos c]
    · rw [if_neg (show ¬ i + f < f by omega), if_neg (show ¬ i + f = f by omega), if_neg (show ¬ i < 0 by omega), if_neg c]
  have e2 : ((W - 1) &&& O) % 2 ^ f = O % 2 ^ f := by
    apply Nat.eq_of_testBit_eq
    intro i
    rw [Nat.testBit_mod_two_pow, Nat.testBit_mod_two_pow, next_bit h hs]
    by_cases c : i < f
    · rw [if_pos c]
    · simp [c]
  have e3 : V % 2 ^ f ≤ O % 2 ^ f := sub_le (fun i hi => by
    rw [Nat.testBit_mod_two_pow] at hi ⊢
    simp at hi ⊢
    exact ⟨hi.1, hv i hi.2⟩)
  have e4 : V / 2 ^ f ≤ W / 2 ^ f := Nat.div_le_div_right (by omega)
  have p : 0 < 2 ^ f := Nat.two_pow_pos f
  have e5 : W % 2 ^ f = 0 := by
    apply Nat.eq_of_testBit_eq
    intro i
    rw [Nat.testBit_mod_two_pow, Nat.zero_testBit]
    by_cases c : i < f
    · simp [c, h.2 i c]
    · simp [c]
  have m1 := Nat.div_add_mod V (2 ^ f)
  have m2 := Nat.div_add_mod W (2 ^ f)
  have m3 := Nat.div_add_mod ((W - 1) &&& O) (2 ^ f)
  have e6 : V / 2 ^ f < W / 2 ^ f := by
    apply Nat.lt_of_le_of_ne e4
    intro e
    rw [e] at m1
    omega
  have e7 : V / 2 ^ f ≤ W / 2 ^ f - 1 := by omega
  have e8 : 2 ^ f * (V / 2 ^ f) ≤ 2 ^ f * (W / 2 ^ f - 1) := Nat.mul_le_mul_left _ e7
  rw [e1, e2] at m3
  omega
theorem next_lt {O W f : Nat} (h : isLow W f) : (W - 1) &&& O < W := by
  have : (W - 1) &&& O ≤ W - 1 := Nat.and_le_left
  have : W ≠ 0 := by
    intro e
    rw [e] at h
    have := h.1
    rw [Nat.zero_testBit] at this
    exact absurd this (by decide)
  omega
def msk (P : Nat → Bool) : Nat → Nat
  | 0 => 0
  | b + 1 => msk P b ||| (if P b then 2 ^ b else 0)
theorem msk_bit (P : Nat → Bool) : ∀ b i, (msk P b).testBit i = (decide (i < b) && P i) := by
  intro b
  induction b with
  | zero =>
    intro i
    show Nat.testBit 0 i = _
    simp
  | succ b ih =>
    intro i
    show (msk P b ||| (if P b then 2 ^ b else 0)).testBit i = _
    rw [Nat.testBit_or, ih]
    by_cases c : i = b
    · subst c
      cases e : P i with
      | false => simp
      | true => simp
    · have e1 : (if P b then 2 ^ b else 0).testBit i = false := by
        cases e : P b with
        | false => simp
        | true =>
          simp only [if_true, Nat.testBit_two_pow]
          exact decide_eq_false (by omega)
      rw [e1, Bool.or_false]
      congr 1
      exact decide_eq_decide.mpr (by omega)
theorem msk_lt (P : Nat → Bool) (b : Nat) : msk P b < 2 ^ b := by
  apply Nat.lt_pow_two_of_testBit
  intro i hi
  rw [msk_bit, show decide (i < b) = false from decide_eq_false (by omega)]
  rfl
def sub (V O : Nat) : Prop := ∀ i, V.testBit i = true → O.testBit i = true
def Cp (nr : Nat → Nat → Prop) (k : Nat) (pre : Nat → Nat) (d S : Nat) (h : Nat → Nat) : Prop := (∀ p, S.testBit p = false → h p = pre p) ∧ (∀ p, S.testBit p = true → d ≤ h p ∧ h p < k) ∧ (∀ p q, S.testBit p = true → S.testBit q = true → h p = h q → nr p q) ∧ ∀ p, S.testBit p = true → ∀ j, d ≤ j → j < h p → ∃ q, q < p ∧ S.testBit q = true ∧ h q = j
def Bk (O V d : Nat) (h : Nat → Nat) : Prop := ∀ p, O.testBit p = true → (V.testBit p = true ↔ h p = d)
def oth (S f : Nat) : Nat := andn S (2 ^ f)
theorem oth_bit (S f i : Nat) : (oth S f).testBit i = (S.testBit i && !decide (f = i)) := by
  unfold oth
  rw [andn_bit, Nat.testBit_two_pow]
theorem low_d {nr : Nat → Nat → Prop} {k d S f : Nat} {pre h : Nat → Nat} (c : Cp nr k pre d S h) (hf : isLow S f) : h f = d := by
  have h1 := (c.2.1 f hf.1).1
  rcases Nat.lt_or_ge d (h f) with e | e
  · obtain ⟨q, q1, q2, q3⟩ := c.2.2.2 f hf.1 d (Nat.le_refl d) e
    rw [hf.2 q q1] at q2
    exact absurd q2 (by decide)
  · omega
/-- the set of the hand d -/
theorem Cp_blk {nr : Nat → Nat → Prop} {k d S f V : Nat} {pre h : Nat → Nat} (c : Cp nr k pre d S h) (hf : isLow S f) (hv : sub V (oth S f)) (b : Bk (oth S f) V d h) (p : Nat) : (2 ^ f ||| V).testBit p = true ↔ S.testBit p = true ∧ h p = d := by
  rw [Nat.testBit_or, Nat.testBit_two_pow]
  by_cases e : f = p
  · subst e
    simp [hf.1, low_d c hf]
  · rw [show decide (f = p) = false from decide_eq_false e, Bool.false_or]
    constructor
    · intro hp
      have h1 := hv p hp
      refine ⟨?_, (b p h1).mp hp⟩
      rw [oth_bit] at h1
      simp at h1
      exact h1.1
    · intro ⟨h1, h2⟩
      exact (b p (by rw [oth_bit, h1, show decide (f = p) = false from decide_eq_false e]; rfl)).mpr h2
theorem Cp_near {nr : Nat → Nat → Prop} {k d S f V : Nat} {pre h : Nat → Nat} (c : Cp nr k pre d S h) (hf : isLow S f) (hv : sub V (oth S f)) (b : Bk (oth S f) V d h) (p q : Nat) (hp : (2 ^ f ||| V).testBit p = true) (hq : (2 ^ f ||| V).testBit q = true) : nr p q := by
  have h1 := (Cp_blk c hf hv b p).mp hp
  have h2 := (Cp_blk c hf hv b q).mp hq
  exact c.2.2.1 p q h1.1 h2.1 (h1.2.trans h2.2.symm)
def upp (pre : Nat → Nat) (T d : Nat) : Nat → Nat := fun p => if T.testBit p then d else pre p
theorem Cp_last {nr : Nat → Nat → Prop} {k d S f V : Nat} {pre h : Nat → Nat} (c : Cp nr k pre d S h) (hf : isLow S f) (hv : sub V (oth S f)) (b : Bk (oth S f) V d h) (hr : andn S (2 ^ f ||| V) = 0) : h = upp pre (2 ^ f ||| V) d := by
  funext p
  unfold upp
  cases e : (2 ^ f ||| V).testBit p with
  | true => exact ((Cp_blk c hf hv b p).mp e).2
  | false =>
    have : S.testBit p = false := by
      have h1 : (andn S (2 ^ f ||| V)).testBit p = false := by rw [hr]; exact Nat.zero_testBit p
      rw [andn_bit, e] at h1
      simpa using h1
    exact c.1 p this
theorem Cp_more {nr : Nat → Nat → Prop} {k d S f V : Nat} {pre h : Nat → Nat} (c : Cp nr k pre d S h) (hf : isLow S f) (hv : sub V (oth S f)) (b : Bk (oth S f) V d h) : Cp nr k (upp pre (2 ^ f ||| V) d) (d + 1) (andn S (2 ^ f ||| V)) h := by
  have bl := Cp_blk c hf hv b
  have inr : ∀ p, (andn S (2 ^ f ||| V)).testBit p = true → S.testBit p = true ∧ ¬ h p = d := by
    intro p hp
    rw [andn_bit] at hp
    simp only [Bool.and_eq_true, Bool.not_eq_true'] at hp
    refine ⟨hp.1, fun e => ?_⟩
    have := (bl p).mpr ⟨hp.1, e⟩
    rw [hp.2] at this
    exact absurd this (by decide)
  refine ⟨fun p hp => ?_, fun p hp => ?_, fun p q hp hq e => c.2.2.1 p q (inr p hp).1 (inr q hq).1 e, fun p hp j h1 h2 => ?_⟩
  · unfold upp
    cases e : (2 ^ f ||| V).testBit p with
    | true => exact ((bl p).mp e).2
    | false =>
      rw [andn_bit, e] at hp
      exact c.1 p (by simpa using hp)
  · have h1 := inr p hp
    have h2 := c.2.1 p h1.1
    omega
  · obtain ⟨q, q1, q2, q3⟩ := c.2.2.2 p (inr p hp).1 j (by omega) h2
    refine ⟨q, q1, ?_, q3⟩
    rw [andn_bit, q2, Bool.true_and]
    cases e : (2 ^ f ||| V).testBit q with
    | false => rfl
    | true =>
      have := ((bl q).mp e).2
      omega
theorem blk_sub {S f V : Nat} (hf : isLow S f) (hv : sub V (oth S f)) : sub (2 ^ f ||| V) S := by
  intro p hp
  rw [Nat.testBit_or, Nat.testBit_two_pow] at hp
  by_cases e : f = p
  · subst e
    exact hf.1
  · rw [show decide (f = p) = false from decide_eq_false e, Bool.false_or] at hp
    have := hv p hp
    rw [oth_bit] at this
    simp at this
    exact this.1
theorem low_le {S f p : Nat} (hf : isLow S f) (hp : S.testBit p = true) : f ≤ p := by
  rcases Nat.lt_or_ge p f with e | e
  · rw [hf.2 p e] at hp
    exact absurd hp (by decide)
  · exact e
theorem Cp_put {nr : Nat → Nat → Prop} {k d S f V : Nat} {pre h : Nat → Nat} (hd : d < k) (hf : isLow S f) (hv : sub V (oth S f)) (hn : ∀ p q, (2 ^ f ||| V).testBit p = true → (2 ^ f ||| V).testBit q = true → nr p q) (c : Cp nr k (upp pre (2 ^ f ||| V) d) (d + 1) (andn S (2 ^ f ||| V)) h) : Cp nr k pre d S h ∧ Bk (oth S f) V d h := by
  have inT : ∀ p, (2 ^ f ||| V).testBit p = true → h p = d := by
    intro p hp
    have := c.1 p (by rw [andn_bit, hp]; simp)
    rw [this]
    unfold upp
    rw [if_pos hp]
  have inR : ∀ p, S.testBit p = true → (2 ^ f ||| V).testBit p = false → (andn S (2 ^ f ||| V)).testBit p = true := by
    intro p h1 h2
    rw [andn_bit, h1, h2]
    rfl
  refine ⟨⟨fun p hp => ?_, fun p hp => ?_, fun p q hp hq e => ?_, fun p hp j h1 h2 => ?_⟩, fun p hp => ⟨fun h1 => inT p (by rw [Nat.testBit_or, h1, Bool.or_true]), fun h1 => ?_⟩⟩
  · have h1 : (2 ^ f ||| V).testBit p = false := by
      cases e : (2 ^ f ||| V).testBit p with
      | false => rfl
      | true =>
        have := blk_sub hf hv p e
        rw [hp] at this
        exact absurd this (by decide)
    rw [c.1 p (by rw [andn_bit, hp]; rfl)]
    unfold upp
    rw [h1]
    rfl
  · cases e : (2 ^ f ||| V).testBit p with
    | true => rw [inT p e]; exact ⟨Nat.le_refl d, hd⟩
    | false =>
      have := c.2.1 p (inR p hp e)
      omega
  · cases e1 : (2 ^ f ||| V).testBit p with
    | true =>
      cases e2 : (2 ^ f ||| V).testBit q with
      | true => exact hn p q e1 e2
      | false =>
        have := c.2.1 q (inR q hq e2)
        have := inT p e1
        omega
    | false =>
      cases e2 : (2 ^ f ||| V).testBit q with
      | true =>
        have := c.2.1 p (inR p hp e1)
        have := inT q e2
        omega
      | false => exact c.2.2.1 p q (inR p hp e1) (inR q hq e2) e
  · cases e1 : (2 ^ f ||| V).testBit p with
    | true =>
      have := inT p e1
      omega
    | false =>
      have fb : (2 ^ f ||| V).testBit f = true := by rw [Nat.testBit_or, Nat.testBit_two_pow]; simp
      by_cases e : j = d
      · refine ⟨f, ?_, hf.1, by rw [inT f fb, e]⟩
        have := low_le hf hp
        rcases Nat.lt_or_ge f p with e2 | e2
        · exact e2
        · have : p = f := by omega
          rw [this, fb] at e1
          exact absurd e1 (by decide)
      · obtain ⟨q, q1, q2, q3⟩ := c.2.2.2 p (inR p hp e1) j (by omega) h2
        refine ⟨q, q1, ?_, q3⟩
        rw [andn_bit] at q2
        simp only [Bool.and_eq_true] at q2
        exact q2.1
  · cases e1 : V.testBit p with
    | true => rfl
    | false =>
      rw [oth_bit] at hp
      simp only [Bool.and_eq_true, Bool.not_eq_true', decide_eq_false_iff_not] at hp
      have e2 : (2 ^ f ||| V).testBit p = false := by
        rw [Nat.testBit_or, e1, Nat.testBit_two_pow, show decide (f = p) = false from decide_eq_false hp.2]
        rfl
      have := c.2.1 p (inR p hp.1 e2)
      omega
theorem Cp_nil {nr : Nat → Nat → Prop} {k d : Nat} {pre : Nat → Nat} : Cp nr k pre d 0 pre := by
  refine ⟨fun p _ => rfl, fun p hp => ?_, fun p q hp => ?_, fun p hp => ?_⟩ <;> (rw [Nat.zero_testBit] at hp; exact absurd hp (by decide))
/-- what is still to come from W on -/
def Yt (nr : Nat → Nat → Prop) (k : Nat) (pre : Nat → Nat) (d S f W : Nat) (h : Nat → Nat) : Prop := Cp nr k pre d S h ∧ ∃ V, sub V (oth S f) ∧ V ≤ W ∧ Bk (oth S f) V d h
theorem Yt_step {nr : Nat → Nat → Prop} {k d S f W : Nat} {pre h : Nat → Nat} (hw : sub W (oth S f)) : Yt nr k pre d S f W h ↔ (Cp nr k pre d S h ∧ Bk (oth S f) W d h) ∨ (W ≠ 0 ∧ Yt nr k pre d S f ((W - 1) &&& oth S f) h) := by
  constructor
  · rintro ⟨c, V, h1, h2, h3⟩
    by_cases e : V = W
    · subst e
      exact Or.inl ⟨c, h3⟩
    · right
      have hw0 : W ≠ 0 := by omega
      obtain ⟨g, hg⟩ := low_ex hw0
      exact ⟨hw0, c, V, h1, sub_le_next hg hw h1 (by omega), h3⟩
  · rintro (⟨c, b⟩ | ⟨h0, c, V, h1, h2, h3⟩)
    · exact ⟨c, W, hw, Nat.le_refl W, b⟩
    · have : (W - 1) &&& oth S f ≤ W - 1 := Nat.and_le_left
      exact ⟨c, V, h1, by omega, h3⟩
theorem Yt_all {nr : Nat → Nat → Prop} {k d S f : Nat} {pre h : Nat → Nat} (hs : S < 2 ^ 10) : Yt nr k pre d S f (oth S f) h ↔ Cp nr k pre d S h := by
  constructor
  · exact fun x => x.1
  · intro c
    refine ⟨c, msk (fun p => (oth S f).testBit p && decide (h p = d)) 10, fun i hi => ?_, sub_le (fun i hi => ?_), fun p hp => ?_⟩
    · rw [msk_bit] at hi
      simp only [Bool.and_eq_true] at hi
      exact hi.2.1
    · rw [msk_bit] at hi
      simp only [Bool.and_eq_true] at hi
      exact hi.2.1
    · have hp10 : p < 10 := by
        rcases Nat.lt_or_ge p 10 with e | e
        · exact e
        · rw [oth_bit] at hp
          have : S.testBit p = false := Nat.testBit_lt_two_pow (Nat.lt_of_lt_of_le hs (Nat.pow_le_pow_right (by omega) e))
          rw [this, Bool.false_and] at hp
          exact absurd hp (by decide)
      rw [msk_bit]
      have : decide (p < 10) = true := decide_eq_true hp10
      rw [this]
      show (true && ((oth S f).testBit p && decide (h p = d))) = true ↔ h p = d
      rw [hp]
      simp
