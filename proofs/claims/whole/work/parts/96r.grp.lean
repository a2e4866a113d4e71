/-! PURE: groups joined one by one. -/
section
variable {g : Nat → Nat → Nat} {n L : Nat}
def gm (n : Nat) (r : Nat → Nat) (p : Nat) : Nat := msk (fun q => decide (r q = p)) n
theorem gm_bit (n : Nat) (r : Nat → Nat) (p q : Nat) : (gm n r p).testBit q = true ↔ q < n ∧ r q = p := by
  unfold gm
  rw [msk_bit]
  simp
theorem gm_lt (r : Nat → Nat) (p : Nat) (hn : n ≤ 10) : gm n r p < 2 ^ 10 := Nat.lt_of_lt_of_le (msk_lt _ n) (Nat.pow_le_pow_right (by omega) hn)
def RP (n : Nat) (r : Nat → Nat) : Prop := ∀ p, p < n → r p < n ∧ r (r p) = r p
def wj (g : Nat → Nat → Nat) (n : Nat) (r : Nat → Nat) (a b : Nat) : Nat := wid g n (gm n r a ||| gm n r b)
def vp (n : Nat) (r : Nat → Nat) (x y : Nat) : Prop := x < y ∧ y < n ∧ r x = x ∧ r y = y
def bef (x y a b : Nat) : Prop := x < a ∨ (x = a ∧ y < b)
def ScN (g : Nat → Nat → Nat) (n L : Nat) (r : Nat → Nat) (a b : Nat) : Prop := ∀ x y, bef x y a b → vp n r x y → L < wj g n r x y
def ScJ (g : Nat → Nat → Nat) (n L : Nat) (r : Nat → Nat) (a b x y : Nat) : Prop := vp n r x y ∧ bef x y a b ∧ wj g n r x y ≤ L ∧ ∀ x' y', bef x' y' a b → vp n r x' y' → wj g n r x y < wj g n r x' y' ∨ (wj g n r x y = wj g n r x' y' ∧ (x < x' ∨ (x = x' ∧ y ≤ y')))
theorem ScN_skip {r : Nat → Nat} {a b : Nat} (h : ScN g n L r a b) (hv : ¬ vp n r a b) : ScN g n L r a (b + 1) := by
  intro x y hb hxy
  by_cases c : x = a ∧ y = b
  · rw [c.1, c.2] at hxy
    exact absurd hxy hv
  · exact h x y (by unfold bef at *; omega) hxy
theorem ScN_far {r : Nat → Nat} {a b : Nat} (h : ScN g n L r a b) (hw : L < wj g n r a b) : ScN g n L r a (b + 1) := by
  intro x y hb hxy
  by_cases c : x = a ∧ y = b
  · rw [c.1, c.2]
    exact hw
  · exact h x y (by unfold bef at *; omega) hxy
theorem ScN_new {r : Nat → Nat} {a b : Nat} (h : ScN g n L r a b) (hv : vp n r a b) (hw : wj g n r a b ≤ L) : ScJ g n L r a (b + 1) a b := by
  refine ⟨hv, Or.inr ⟨rfl, by omega⟩, hw, fun x y hb hxy => ?_⟩
  by_cases c : x = a ∧ y = b
  · rw [c.1, c.2]
    exact Or.inr ⟨rfl, Or.inr ⟨rfl, Nat.le_refl b⟩⟩
  · have := h x y (by unfold bef at *; omega) hxy
    omega
theorem ScJ_skip {r : Nat → Nat} {a b x y : Nat} (h : ScJ g n L r a b x y) (hv : ¬ vp n r a b) : ScJ g n L r a (b + 1) x y := by
  obtain ⟨h1, h2, h3, h4⟩ := h
  refine ⟨h1, by unfold bef at *; omega, h3, fun x' y' hb hxy => ?_⟩
  by_cases c : x' = a ∧ y' = b
  · rw [c.1, c.2] at hxy
    exact absurd hxy hv
  · exact h4 x' y' (by unfold bef at *; omega) hxy
theorem ScJ_stay {r : Nat → Nat} {a b x y : Nat} (h : ScJ g n L r a b x y) (hw : wj g n r x y ≤ wj g n r a b) : ScJ g n L r a (b + 1) x y := by
  obtain ⟨h1, h2, h3, h4⟩ := h
  refine ⟨h1, by unfold bef at *; omega, h3, fun x' y' hb hxy => ?_⟩
  by_cases c : x' = a ∧ y' = b
  · rw [c.1, c.2]
    unfold bef at h2
    omega
  · exact h4 x' y' (by unfold bef at *; omega) hxy
theorem ScJ_new {r : Nat → Nat} {a b x y : Nat} (h : ScJ g n L r a b x y) (hv : vp n r a b) (hw : wj g n r a b < wj g n r x y) : ScJ g n L r a (b + 1) a b := by
  obtain ⟨h1, h2, h3, h4⟩ := h
  refine ⟨hv, Or.inr ⟨rfl, by omega⟩, by omega, fun x' y' hb hxy => ?_⟩
  by_cases c : x' = a ∧ y' = b
  · rw [c.1, c.2]
    exact Or.inr ⟨rfl, Or.inr ⟨rfl, Nat.le_refl b⟩⟩
  · have := h4 x' y' (by unfold bef at *; omega) hxy
    omega
theorem ScN_row {r : Nat → Nat} {a : Nat} (h : ScN g n L r a n) : ScN g n L r (a + 1) (a + 1 + 1) := by
  intro x y hb hxy
  obtain ⟨v1, v2, _⟩ := id hxy
  exact h x y (by unfold bef at *; omega) hxy
theorem ScJ_row {r : Nat → Nat} {a x y : Nat} (h : ScJ g n L r a n x y) : ScJ g n L r (a + 1) (a + 1 + 1) x y := by
  obtain ⟨h1, h2, h3, h4⟩ := h
  refine ⟨h1, by unfold bef at *; omega, h3, fun x' y' hb hxy => ?_⟩
  obtain ⟨v1, v2, _⟩ := id hxy
  exact h4 x' y' (by unfold bef at *; omega) hxy
theorem ScJ_uniq {r : Nat → Nat} {a b x y x' y' : Nat} (h : ScJ g n L r a b x y) (h' : ScJ g n L r a b x' y') : x = x' ∧ y = y' := by
  obtain ⟨h1, h2, h3, h4⟩ := h
  obtain ⟨k1, k2, k3, k4⟩ := h'
  have e1 := h4 x' y' k2 k1
  have e2 := k4 x y h2 h1
  omega
def jn (r : Nat → Nat) (a b : Nat) : Nat → Nat := fun p => if r p = b then a else r p
theorem RP_jn {r : Nat → Nat} {a b : Nat} (h : RP n r) (hv : vp n r a b) : RP n (jn r a b) := by
  obtain ⟨v1, v2, v3, v4⟩ := hv
  intro p hp
  obtain ⟨h1, h2⟩ := h p hp
  unfold jn
  by_cases c : r p = b
  · rw [if_pos c]
    exact ⟨by omega, by rw [if_neg (by omega)]; exact v3⟩
  · rw [if_neg c, h2, if_neg c]
    exact ⟨h1, rfl⟩
theorem gm_jn_a {r : Nat → Nat} {a b : Nat} (hab : a ≠ b) : gm n (jn r a b) a = gm n r a ||| gm n r b := by
  apply Nat.eq_of_testBit_eq
  intro i
  rw [Bool.eq_iff_iff, gm_bit, Nat.testBit_or, Bool.or_eq_true, gm_bit, gm_bit]
  unfold jn
  by_cases c : r i = b
  · rw [if_pos c]
    omega
  · rw [if_neg c]
    omega
theorem gm_jn_b {r : Nat → Nat} {a b : Nat} (hab : a ≠ b) : gm n (jn r a b) b = 0 := by
  apply Nat.eq_of_testBit_eq
  intro i
  rw [Nat.zero_testBit, Bool.eq_false_iff, Ne, gm_bit]
  unfold jn
  by_cases c : r i = b
  · rw [if_pos c]
    omega
  · rw [if_neg c]
    omega
theorem gm_jn_o {r : Nat → Nat} {a b p : Nat} (h1 : p ≠ a) (h2 : p ≠ b) : gm n (jn r a b) p = gm n r p := by
  apply Nat.eq_of_testBit_eq
  intro i
  rw [Bool.eq_iff_iff, gm_bit, gm_bit]
  unfold jn
  by_cases c : r i = b
  · rw [if_pos c]
    omega
  · rw [if_neg c]
/-- how many stand for a group -/
def reps (n : Nat) (r : Nat → Nat) : Nat := pc 10 (msk (fun p => decide (r p = p)) n)
theorem reps_jn {r : Nat → Nat} {a b : Nat} (hn : n ≤ 10) (h : RP n r) (hv : vp n r a b) : reps n (jn r a b) + 1 = reps n r := by
  obtain ⟨v1, v2, v3, v4⟩ := hv
  have e : msk (fun p => decide (r p = p)) n = msk (fun p => decide (jn r a b p = p)) n ||| 2 ^ b := by
    apply Nat.eq_of_testBit_eq
    intro i
    rw [or_bit, Bool.eq_iff_iff, Bool.or_eq_true, msk_bit, msk_bit]
    simp only [Bool.and_eq_true, decide_eq_true_eq]
    unfold jn
    by_cases ci : i < n
    · have hri := h i ci
      by_cases c : r i = b
      · rw [if_pos c]
        constructor
        · intro q
          right
          omega
        · rintro (q | q)
          · have : r a = b := by rw [← q.2] at c; exact c
            omega
          · rw [← q]
            exact ⟨v2, v4⟩
      · rw [if_neg c]
        constructor
        · intro q
          exact Or.inl q
        · rintro (q | q)
          · exact q
          · rw [← q] at c
            exact absurd v4 c
    · constructor
      · intro q
        omega
      · rintro (q | q) <;> omega
  have hb : (msk (fun p => decide (jn r a b p = p)) n).testBit b = false := by
    rw [msk_bit]
    unfold jn
    rw [if_pos v4, show decide (a = b) = false from decide_eq_false (by omega), Bool.and_false]
  unfold reps
  rw [e, pc_or hb, if_pos (by omega)]
theorem reps_two {r : Nat → Nat} {a b : Nat} (hn : n ≤ 10) (h : RP n r) (hv : vp n r a b) : 2 ≤ reps n r := by
  have h1 := reps_jn hn h hv
  have h2 : 1 ≤ reps n (jn r a b) := by
    unfold reps
    obtain ⟨v1, v2, v3, v4⟩ := hv
    refine pc_pos (fun q => ?_) (Nat.lt_of_lt_of_le (msk_lt _ n) (Nat.pow_le_pow_right (by omega) hn))
    have : (msk (fun p => decide (jn r a b p = p)) n).testBit a = true := by
      rw [msk_bit]
      unfold jn
      rw [if_neg (by omega), v3]
      simp
      omega
    rw [q, Nat.zero_testBit] at this
    exact absurd this (by decide)
  omega
theorem reps_id (n : Nat) (hn : n ≤ 10) : reps n (fun p => p) = n := by
  unfold reps
  have : ∀ m, m ≤ 10 → pc 10 (msk (fun p => decide (p = p)) m) = m := by
    intro m
    induction m with
    | zero => intro _; rfl
    | succ m ih =>
      intro hm
      have hb : (msk (fun p => decide (p = p)) m).testBit m = false := Nat.testBit_lt_two_pow (msk_lt _ m)
      have e : msk (fun p => decide (p = p)) (m + 1) = msk (fun p => decide (p = p)) m ||| 2 ^ m := by
        show msk (fun p => decide (p = p)) m ||| (if decide (m = m) then 2 ^ m else 0) = _
        rw [show decide (m = m) = true from decide_eq_true rfl]
        rfl
      rw [e, pc_or hb, if_pos (by omega), ih (by omega)]
  exact this n hn
/-- the joins, one after another, to the end -/
def Chn (g : Nat → Nat → Nat) (n L : Nat) (f : Nat → Nat → Nat) (m : Nat) : Prop := (∀ p, f 0 p = p) ∧ (∀ i, i < m → ∃ a b, ScJ g n L (f i) n n a b ∧ ∀ p, f (i + 1) p = jn (f i) a b p)
def ChE (g : Nat → Nat → Nat) (n L : Nat) (f : Nat → Nat → Nat) (m : Nat) : Prop := Chn g n L f m ∧ ScN g n L (f m) n n
theorem Chn_eq {f f' : Nat → Nat → Nat} {m m' : Nat} (h : Chn g n L f m) (h' : Chn g n L f' m') : ∀ i, i ≤ m → i ≤ m' → f i = f' i := by
  intro i
  induction i with
  | zero =>
    intro _ _
    funext p
    rw [h.1, h'.1]
  | succ i ih =>
    intro h1 h2
    have e := ih (by omega) (by omega)
    obtain ⟨a, b, a1, a2⟩ := h.2 i (by omega)
    obtain ⟨a', b', b1, b2⟩ := h'.2 i (by omega)
    rw [← e] at b1 b2
    obtain ⟨u1, u2⟩ := ScJ_uniq a1 b1
    funext p
    rw [a2, b2, u1, u2]
theorem ScJN {r : Nat → Nat} {a b x y : Nat} (h : ScJ g n L r a b x y) (h' : ScN g n L r a b) : False := by
  have := h' x y h.2.1 h.1
  have := h.2.2.1
  omega
theorem ChE_uniq {f f' : Nat → Nat → Nat} {m m' : Nat} (h : ChE g n L f m) (h' : ChE g n L f' m') : m = m' ∧ f m = f' m' := by
  have e : m = m' := by
    rcases Nat.lt_trichotomy m m' with c | c | c
    · obtain ⟨a, b, a1, _⟩ := h'.1.2 m c
      rw [← Chn_eq h.1 h'.1 m (Nat.le_refl m) (by omega)] at a1
      exact absurd h.2 (fun q => ScJN a1 q)
    · exact c
    · obtain ⟨a, b, a1, _⟩ := h.1.2 m' c
      rw [Chn_eq h.1 h'.1 m' (by omega) (Nat.le_refl m')] at a1
      exact absurd h'.2 (fun q => ScJN a1 q)
  subst e
  exact ⟨rfl, Chn_eq h.1 h'.1 m (Nat.le_refl m) (Nat.le_refl m)⟩
theorem Chn_ok {f : Nat → Nat → Nat} {m : Nat} (hn : n ≤ 10) (h : Chn g n L f m) : ∀ i, i ≤ m → RP n (f i) ∧ reps n (f i) + i = n := by
  intro i
  induction i with
  | zero =>
    intro _
    have e : f 0 = fun p => p := by
      funext p
      exact h.1 p
    rw [e]
    exact ⟨fun p hp => ⟨hp, rfl⟩, by rw [reps_id n hn]; rfl⟩
  | succ i ih =>
    intro hi
    obtain ⟨h1, h2⟩ := ih (by omega)
    obtain ⟨a, b, a1, a2⟩ := h.2 i (by omega)
    have e : f (i + 1) = jn (f i) a b := by
      funext p
      exact a2 p
    have := reps_jn hn h1 a1.1
    rw [e]
    exact ⟨RP_jn h1 a1.1, by omega⟩
theorem Chn_ext {f : Nat → Nat → Nat} {m a b : Nat} (h : Chn g n L f m) (hj : ScJ g n L (f m) n n a b) : Chn g n L (fun i => if i = m + 1 then jn (f m) a b else f i) (m + 1) ∧ (fun i => if i = m + 1 then jn (f m) a b else f i) (m + 1) = jn (f m) a b := by
  refine ⟨⟨fun p => ?_, fun i hi => ?_⟩, if_pos rfl⟩
  · show (if 0 = m + 1 then jn (f m) a b else f 0) p = p
    rw [if_neg (by omega)]
    exact h.1 p
  · show ∃ a' b', ScJ g n L (if i = m + 1 then jn (f m) a b else f i) n n a' b' ∧ ∀ p, (if i + 1 = m + 1 then jn (f m) a b else f (i + 1)) p = jn (if i = m + 1 then jn (f m) a b else f i) a' b' p
    rw [if_neg (show ¬ i = m + 1 by omega)]
    by_cases c : i = m
    · subst c
      exact ⟨a, b, hj, fun p => by rw [if_pos rfl]⟩
    · obtain ⟨a', b', a1, a2⟩ := h.2 i (by omega)
      exact ⟨a', b', a1, fun p => by rw [if_neg (by omega)]; exact a2 p⟩
theorem ScN_few {r : Nat → Nat} {a b : Nat} (hn : n ≤ 10) (h : RP n r) (h1 : reps n r ≤ 1) : ScN g n L r a b := by
  intro x y _ hxy
  have := reps_two hn h hxy
  omega
end
