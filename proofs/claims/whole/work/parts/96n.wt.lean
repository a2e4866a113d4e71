/-! PURE: runs by weight. -/
def rm (a v : Nat) : Nat := msk (fun i => decide (a ≤ i)) v
theorem rm_bit (a v i : Nat) : (rm a v).testBit i = (decide (i < v) && decide (a ≤ i)) := msk_bit _ v i
theorem rm_lt (a v : Nat) : rm a v < 2 ^ v := msk_lt _ v
theorem rm_self (a : Nat) : rm a a = 0 := by
  apply Nat.eq_of_testBit_eq
  intro i
  rw [rm_bit, Nat.zero_testBit]
  by_cases c : i < a
  · rw [show decide (a ≤ i) = false from decide_eq_false (by omega), Bool.and_false]
  · rw [show decide (i < a) = false from decide_eq_false c]
    rfl
theorem rm_succ {a v : Nat} (h : a ≤ v) : rm a (v + 1) = rm a v ||| 2 ^ v := by
  show msk (fun i => decide (a ≤ i)) v ||| (if decide (a ≤ v) then 2 ^ v else 0) = _
  rw [show decide (a ≤ v) = true from decide_eq_true h]
  rfl
theorem or_add {m v : Nat} (h : m < 2 ^ v) : m ||| 2 ^ v = m + 2 ^ v := by
  have := Nat.two_pow_add_eq_or_of_lt h 1
  rw [Nat.mul_one] at this
  rw [Nat.or_comm, ← this, Nat.add_comm]
theorem rm_sub (a : Nat) : ∀ v, a ≤ v → 2 ^ v - 2 ^ a = rm a v := by
  intro v
  induction v with
  | zero =>
    intro h
    obtain rfl : a = 0 := by omega
    rfl
  | succ v ih =>
    intro h
    by_cases c : a = v + 1
    · subst c
      rw [rm_self, Nat.sub_self]
    · have e := ih (by omega)
      have e2 : 2 ^ a ≤ 2 ^ v := Nat.pow_le_pow_right (by omega) (by omega)
      rw [rm_succ (by omega), or_add (rm_lt a v), ← e, Nat.pow_succ]
      omega
/-- the weight of the runs from a on; the last d bits of M tell the cuts -/
def ws (wd : Nat → Nat → Nat) (c n M : Nat) : Nat → Nat → Nat
  | 0, a => wd a n
  | d + 1, a => if M.testBit d then wd a (n - 1 - d) + c + ws wd c n M d (n - 1 - d) else ws wd c n M d a
section
variable {wd : Nat → Nat → Nat} {c n : Nat}
theorem ws_cg {M M' : Nat} : ∀ d a, (∀ i, i < d → M.testBit i = M'.testBit i) → ws wd c n M d a = ws wd c n M' d a := by
  intro d
  induction d with
  | zero => intro a _; rfl
  | succ d ih =>
    intro a h
    show (if M.testBit d then wd a (n - 1 - d) + c + ws wd c n M d (n - 1 - d) else ws wd c n M d a) = if M'.testBit d then wd a (n - 1 - d) + c + ws wd c n M' d (n - 1 - d) else ws wd c n M' d a
    rw [h d (by omega), ih _ (fun i hi => h i (by omega)), ih _ (fun i hi => h i (by omega))]
theorem ws_none {M : Nat} : ∀ d a, (∀ i, i < d → M.testBit i = false) → ws wd c n M d a = wd a n := by
  intro d
  induction d with
  | zero => intro a _; rfl
  | succ d ih =>
    intro a h
    show (if M.testBit d then wd a (n - 1 - d) + c + ws wd c n M d (n - 1 - d) else ws wd c n M d a) = _
    rw [h d (by omega)]
    exact ih a (fun i hi => h i (by omega))
theorem ws_top {M h : Nat} (hb : M.testBit h = true) : ∀ d a, h < d → (∀ i, h < i → i < d → M.testBit i = false) → ws wd c n M d a = wd a (n - 1 - h) + c + ws wd c n M h (n - 1 - h) := by
  intro d
  induction d with
  | zero => intro a hd; omega
  | succ d ih =>
    intro a hd hz
    show (if M.testBit d then wd a (n - 1 - d) + c + ws wd c n M d (n - 1 - d) else ws wd c n M d a) = _
    by_cases e : h = d
    · subst e
      rw [hb]
      rfl
    · rw [hz d (by omega) (by omega)]
      exact ih a (by omega) (fun i h1 h2 => hz i h1 (by omega))
theorem ws_le {K : Nat} (hw : ∀ a b, wd a b ≤ K) {M : Nat} : ∀ d a, ws wd c n M d a ≤ K + d * (K + c) := by
  intro d
  induction d with
  | zero => intro a; show wd a n ≤ _; have := hw a n; omega
  | succ d ih =>
    intro a
    show (if M.testBit d then wd a (n - 1 - d) + c + ws wd c n M d (n - 1 - d) else ws wd c n M d a) ≤ _
    have h1 := ih (n - 1 - d)
    have h2 := ih a
    have h3 := hw a (n - 1 - d)
    have e : (d + 1) * (K + c) = d * (K + c) + (K + c) := Nat.succ_mul d (K + c)
    split <;> omega
def wt (wd : Nat → Nat → Nat) (c n D M : Nat) : Nat := ws wd c n M D (n - 1 - D)
/-- M weighs least; of those, has the fewest cuts; of those, the earliest -/
def OptM (wd : Nat → Nat → Nat) (c n D M : Nat) : Prop := M < 2 ^ D ∧ ∀ m, m < 2 ^ D → wt wd c n D M < wt wd c n D m ∨ (wt wd c n D M = wt wd c n D m ∧ (pc 10 M < pc 10 m ∨ (pc 10 M = pc 10 m ∧ m ≤ M)))
theorem OptM_uniq {D M M' : Nat} (a : OptM wd c n D M) (b : OptM wd c n D M') : M = M' := by
  have h1 := a.2 M' b.1
  have h2 := b.2 M a.1
  omega
/-- the cuts from D on, if the first is at h and then as X says -/
def cmk (X : Nat → Nat) : Nat → Nat
  | 0 => 0
  | h + 1 => 2 ^ h + X h
theorem pow_split {m D : Nat} (h0 : m ≠ 0) (hm : m < 2 ^ D) : ∃ h m', h < D ∧ m' < 2 ^ h ∧ m = 2 ^ h + m' := by
  refine ⟨Nat.log2 m, m - 2 ^ Nat.log2 m, ?_, ?_, ?_⟩
  · exact (Nat.log2_lt h0).mpr hm
  · have := (Nat.log2_lt (k := Nat.log2 m + 1) h0).mp (by omega)
    rw [Nat.pow_succ] at this
    omega
  · have := Nat.log2_self_le h0
    omega
theorem pc_add {h m' : Nat} (hm : m' < 2 ^ h) (hh : h < 10) : pc 10 (2 ^ h + m') = pc 10 m' + 1 := by
  have e : 2 ^ h + m' = m' ||| 2 ^ h := by rw [or_add hm, Nat.add_comm]
  rw [e, pc_or (Nat.testBit_lt_two_pow hm), if_pos hh]
theorem wt_add {D h m' : Nat} (hD : h < D) (hm : m' < 2 ^ h) : wt wd c n D (2 ^ h + m') = wd (n - 1 - D) (n - 1 - h) + c + wt wd c n h m' := by
  have e : 2 ^ h + m' = m' ||| 2 ^ h := by rw [or_add hm, Nat.add_comm]
  unfold wt
  rw [e]
  have hb : (m' ||| 2 ^ h).testBit h = true := by
    rw [or_bit]
    simp
  rw [ws_top hb D (n - 1 - D) hD (fun i h1 h2 => by
    rw [or_bit, show decide (h = i) = false from decide_eq_false (by omega), Bool.or_false]
    exact Nat.testBit_lt_two_pow (Nat.lt_of_lt_of_le hm (Nat.pow_le_pow_right (by omega) (by omega))))]
  congr 1
  exact ws_cg h _ (fun i hi => by
    rw [or_bit, show decide (h = i) = false from decide_eq_false (by omega), Bool.or_false])
theorem wt_zero {D : Nat} : wt wd c n D 0 = wd (n - 1 - D) n := ws_none D _ (fun i _ => Nat.zero_testBit i)
theorem cmk_lt {X : Nat → Nat} {D : Nat} (hX : ∀ h, h < D → X h < 2 ^ h) : ∀ t, t ≤ D → cmk X t < 2 ^ D := by
  intro t ht
  cases t with
  | zero => exact Nat.two_pow_pos D
  | succ h =>
    show 2 ^ h + X h < 2 ^ D
    have h1 := hX h (by omega)
    have h2 : 2 ^ (h + 1) ≤ 2 ^ D := Nat.pow_le_pow_right (by omega) ht
    rw [Nat.pow_succ] at h2
    omega
theorem cmk_mono {X : Nat → Nat} {s t D : Nat} (hX : ∀ h, h < D → X h < 2 ^ h) (hs : s < t) (ht : t ≤ D) : cmk X s < cmk X t := by
  have h1 : cmk X s < 2 ^ (t - 1) := by
    rcases Nat.eq_or_lt_of_le (show s ≤ t - 1 by omega) with e | e
    · rw [← e]
      exact cmk_lt (fun h hh => hX h (by omega)) s (Nat.le_refl s)
    · exact cmk_lt (fun h hh => hX h (by omega)) s (by omega)
  cases t with
  | zero => omega
  | succ h =>
    rw [Nat.add_sub_cancel] at h1
    show _ < 2 ^ h + X h
    omega
/-- the best first cut, and the best from there on -/
theorem Opt_step {D t : Nat} {X : Nat → Nat} (hD : D < 10) (hX : ∀ h, h < D → OptM wd c n h (X h)) (ht : t ≤ D) (hb : ∀ s, s ≤ D → wt wd c n D (cmk X t) < wt wd c n D (cmk X s) ∨ (wt wd c n D (cmk X t) = wt wd c n D (cmk X s) ∧ (pc 10 (cmk X t) < pc 10 (cmk X s) ∨ (pc 10 (cmk X t) = pc 10 (cmk X s) ∧ s ≤ t)))) : OptM wd c n D (cmk X t) := by
  have hXl : ∀ h, h < D → X h < 2 ^ h := fun h hh => (hX h hh).1
  refine ⟨cmk_lt hXl t ht, fun m hm => ?_⟩
  have key : ∀ s, s ≤ D → wt wd c n D (cmk X t) < wt wd c n D (cmk X s) ∨ (wt wd c n D (cmk X t) = wt wd c n D (cmk X s) ∧ (pc 10 (cmk X t) < pc 10 (cmk X s) ∨ (pc 10 (cmk X t) = pc 10 (cmk X s) ∧ cmk X s ≤ cmk X t))) := by
    intro s hs
    rcases hb s hs with h | ⟨h1, h2 | ⟨h2, h3⟩⟩
    · exact Or.inl h
    · exact Or.inr ⟨h1, Or.inl h2⟩
    · refine Or.inr ⟨h1, Or.inr ⟨h2, ?_⟩⟩
      rcases Nat.eq_or_lt_of_le h3 with e | e
      · rw [e]
        exact Nat.le_refl _
      · exact Nat.le_of_lt (cmk_mono hXl e ht)
  by_cases h0 : m = 0
  · have := key 0 (Nat.zero_le D)
    rw [h0]
    exact this
  · obtain ⟨h, m', h1, h2, h3⟩ := pow_split h0 hm
    have k1 := key (h + 1) (by omega)
    have k2 := (hX h h1).2 m' h2
    have e1 : wt wd c n D m = wd (n - 1 - D) (n - 1 - h) + c + wt wd c n h m' := by rw [h3]; exact wt_add h1 h2
    have e2 : wt wd c n D (cmk X (h + 1)) = wd (n - 1 - D) (n - 1 - h) + c + wt wd c n h (X h) := wt_add h1 (hXl h h1)
    have e3 : pc 10 m = pc 10 m' + 1 := by rw [h3]; exact pc_add h2 (by omega)
    have e4 : pc 10 (cmk X (h + 1)) = pc 10 (X h) + 1 := pc_add (hXl h h1) (by omega)
    have e5 : cmk X (h + 1) = 2 ^ h + X h := rfl
    omega
end
