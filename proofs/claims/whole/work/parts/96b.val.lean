/-! PURE: pages to hands. -/
def Val (nr : Nat → Nat → Prop) (n k : Nat) (h : Nat → Nat) : Prop := (∀ p, p < n → h p < k) ∧ (∀ p q, p < n → q < n → h p = h q → nr p q) ∧ ∀ p, p < n → ∀ j, j < h p → ∃ q, q < p ∧ h q = j
def lexlt (n : Nat) (h h' : Nat → Nat) : Prop := ∃ p, p < n ∧ h p < h' p ∧ ∀ q, q < p → h q = h' q
theorem lex_tri (h h' : Nat → Nat) : ∀ n, (∀ p, p < n → h p = h' p) ∨ lexlt n h h' ∨ lexlt n h' h := by
  intro n
  induction n with
  | zero => exact Or.inl (fun p hp => by omega)
  | succ n ih =>
    rcases ih with ih | ⟨p, a, b⟩ | ⟨p, a, b⟩
    · rcases Nat.lt_trichotomy (h n) (h' n) with c | c | c
      · exact Or.inr (Or.inl ⟨n, by omega, c, ih⟩)
      · left
        intro p hp
        by_cases e : p = n
        · rw [e]; exact c
        · exact ih p (by omega)
      · exact Or.inr (Or.inr ⟨n, by omega, c, fun q hq => (ih q hq).symm⟩)
    · exact Or.inr (Or.inl ⟨p, by omega, b⟩)
    · exact Or.inr (Or.inr ⟨p, by omega, b⟩)
theorem lex_trans {n : Nat} {a b c : Nat → Nat} (h1 : lexlt n a b) (h2 : lexlt n b c) : lexlt n a c := by
  obtain ⟨p, p1, p2, p3⟩ := h1
  obtain ⟨q, q1, q2, q3⟩ := h2
  rcases Nat.lt_trichotomy p q with e | e | e
  · exact ⟨p, p1, by rw [← q3 p e]; exact p2, fun r hr => (p3 r hr).trans (q3 r (by omega))⟩
  · subst e
    exact ⟨p, p1, by omega, fun r hr => (p3 r hr).trans (q3 r hr)⟩
  · exact ⟨q, q1, by rw [p3 q e]; exact q2, fun r hr => (p3 r (by omega)).trans (q3 r hr)⟩
theorem lex_irr {n : Nat} {a : Nat → Nat} (h : lexlt n a a) : False := by
  obtain ⟨p, _, h2, _⟩ := h
  omega
def Frst (nr : Nat → Nat → Prop) (n k : Nat) (h : Nat → Nat) : Prop := Val nr n k h ∧ ∀ h', Val nr n k h' → ¬ lexlt n h' h
def HOK (nr : Nat → Nat → Prop) (n k : Nat) (h : Nat → Nat) : Prop := Frst nr n k h ∧ ∀ k', k' < k → ∀ h', ¬ Val nr n k' h'
theorem HOK_uniq {nr : Nat → Nat → Prop} {n k k' : Nat} {h h' : Nat → Nat} (a : HOK nr n k h) (b : HOK nr n k' h') : k = k' ∧ ∀ p, p < n → h p = h' p := by
  obtain ⟨⟨a1, a2⟩, a3⟩ := a
  obtain ⟨⟨b1, b2⟩, b3⟩ := b
  have e : k = k' := by
    rcases Nat.lt_trichotomy k k' with c | c | c
    · exact absurd a1 (b3 k c h)
    · exact c
    · exact absurd b1 (a3 k' c h')
  subst e
  refine ⟨rfl, ?_⟩
  rcases lex_tri h h' n with c | c | c
  · exact c
  · exact absurd c (b2 h a1)
  · exact absurd c (a2 h' b1)
theorem Val_id {nr : Nat → Nat → Prop} (n : Nat) (hr : ∀ p, p < n → nr p p) : Val nr n n (fun p => p) := by
  refine ⟨fun p hp => hp, fun p q hp hq e => ?_, fun p hp j hj => ⟨j, hj, rfl⟩⟩
  have e' : p = q := e
  rw [← e']
  exact hr p hp
theorem Val_mono {nr nr' : Nat → Nat → Prop} {n k k' : Nat} {h : Nat → Nat} (v : Val nr n k h) (hk : k ≤ k') (hr : ∀ p q, p < n → q < n → nr p q → nr' p q) : Val nr' n k' h := ⟨fun p hp => Nat.lt_of_lt_of_le (v.1 p hp) hk, fun p q hp hq e => hr p q hp hq (v.2.1 p q hp hq e), v.2.2⟩
theorem Val_cg {nr : Nat → Nat → Prop} {n k : Nat} {h h' : Nat → Nat} (v : Val nr n k h) (e : ∀ p, p < n → h' p = h p) : Val nr n k h' := by
  refine ⟨fun p hp => by rw [e p hp]; exact v.1 p hp, fun p q hp hq x => v.2.1 p q hp hq (by rw [← e p hp, ← e q hq]; exact x), fun p hp j hj => ?_⟩
  rw [e p hp] at hj
  obtain ⟨q, q1, q2⟩ := v.2.2 p hp j hj
  exact ⟨q, q1, by rw [e q (by omega)]; exact q2⟩
/-- ones in the first b places -/
def pc : Nat → Nat → Nat
  | 0, _ => 0
  | b + 1, m => pc b m + (if m.testBit b then 1 else 0)
theorem pc_le (m : Nat) : ∀ b, pc b m ≤ b := by
  intro b
  induction b with
  | zero => exact Nat.le_refl 0
  | succ b ih =>
    show pc b m + (if m.testBit b then 1 else 0) ≤ b + 1
    split <;> omega
theorem pc_cg {m m' : Nat} : ∀ b, (∀ i, i < b → m.testBit i = m'.testBit i) → pc b m = pc b m' := by
  intro b
  induction b with
  | zero => intro _; rfl
  | succ b ih =>
    intro h
    show pc b m + _ = pc b m' + _
    rw [ih (fun i hi => h i (by omega)), h b (by omega)]
theorem or_bit (m i j : Nat) : (m ||| 2 ^ i).testBit j = (m.testBit j || decide (i = j)) := by
  rw [Nat.testBit_or, Nat.testBit_two_pow]
theorem pc_or {m i : Nat} (h : m.testBit i = false) : ∀ b, pc b (m ||| 2 ^ i) = pc b m + (if i < b then 1 else 0) := by
  intro b
  induction b with
  | zero => rfl
  | succ b ih =>
    show pc b (m ||| 2 ^ i) + (if (m ||| 2 ^ i).testBit b then 1 else 0) = pc b m + (if m.testBit b then 1 else 0) + _
    rw [ih, or_bit]
    by_cases e : i = b
    · subst e
      rw [h]
      simp
    · rw [show decide (i = b) = false from decide_eq_false e, Bool.or_false]
      by_cases e2 : i < b
      · rw [if_pos e2, if_pos (show i < b + 1 by omega)]
        omega
      · rw [if_neg e2, if_neg (show ¬ i < b + 1 by omega)]
        omega
theorem pc_top {m k : Nat} (h : ∀ i, k ≤ i → m.testBit i = false) : ∀ b, pc b m ≤ k := by
  intro b
  induction b with
  | zero => exact Nat.zero_le k
  | succ b ih =>
    show pc b m + (if m.testBit b then 1 else 0) ≤ k
    by_cases e : k ≤ b
    · rw [h b e]
      exact ih
    · have := pc_le m b
      split <;> omega
