/-! PURE: doubts, and what is written, as lists. -/
def dbt (nr : Nat → Nat → Prop) (n kk : Nat) (h : Nat → Nat) (p j : Nat) : Prop := j ≠ h p ∧ ∀ q, q < n → h q = j → nr p q
/-- the set of pages in doubt -/
def Dbt (nr : Nat → Nat → Prop) (n kk : Nat) (h : Nat → Nat) (D : Nat) : Prop := D < 2 ^ 10 ∧ ∀ p, D.testBit p = true ↔ p < n ∧ ∃ j, j < kk ∧ dbt nr n kk h p j
theorem Dbt_uniq {nr : Nat → Nat → Prop} {n kk : Nat} {h : Nat → Nat} {D D' : Nat} (a : Dbt nr n kk h D) (b : Dbt nr n kk h D') : D = D' := by
  apply Nat.eq_of_testBit_eq
  intro i
  rw [Bool.eq_iff_iff, a.2, b.2]
def wpg (S D : Nat) : Nat → Nat → Bool → List Nat
  | 0, _, _ => []
  | d + 1, p, fst => if S.testBit p then (if fst then [] else [44]) ++ [48 + p] ++ (if D.testBit p then [63] else []) ++ wpg S D d (p + 1) false else wpg S D d (p + 1) fst
def whd (n D : Nat) (S : Nat → Nat) : Nat → Nat → List Nat
  | 0, _ => []
  | d + 1, j => (if j = 0 then [] else [59]) ++ [65 + j] ++ wpg (S j) D n 0 true ++ whd n D S d (j + 1)
def wrn (F : Nat → Nat) : Nat → Nat → List Nat
  | 0, _ => []
  | d + 1, i => (if i ≤ 1 then [] else [44]) ++ [48 + F i] ++ wrn F d (i + 1)
def wall (n kk D : Nat) (S : Nat → Nat) (many : Nat) (F : Nat → Nat) : List Nat := whd n D S kk 0 ++ [47] ++ wrn F (many - 1) 1
/-- pages of S from p on, d of them looked at -/
def cS (S : Nat) : Nat → Nat → Nat
  | 0, _ => 0
  | d + 1, p => (if S.testBit p then 1 else 0) + cS S d (p + 1)
theorem wpg_len (S D : Nat) : ∀ d p fst, (wpg S D d p fst).length ≤ 3 * cS S d p ∧ (fst = true → 0 < cS S d p → (wpg S D d p fst).length + 1 ≤ 3 * cS S d p) := by
  intro d
  induction d with
  | zero =>
    intro p fst
    exact ⟨Nat.zero_le _, fun _ h => absurd h (by show ¬ 0 < 0; omega)⟩
  | succ d ih =>
    intro p fst
    show (if S.testBit p then (if fst then [] else [44]) ++ [48 + p] ++ (if D.testBit p then [63] else []) ++ wpg S D d (p + 1) false else wpg S D d (p + 1) fst).length ≤ 3 * ((if S.testBit p then 1 else 0) + cS S d (p + 1)) ∧ (fst = true → 0 < (if S.testBit p then 1 else 0) + cS S d (p + 1) → (if S.testBit p then (if fst then [] else [44]) ++ [48 + p] ++ (if D.testBit p then [63] else []) ++ wpg S D d (p + 1) false else wpg S D d (p + 1) fst).length + 1 ≤ 3 * ((if S.testBit p then 1 else 0) + cS S d (p + 1)))
    cases c : S.testBit p with
    | true =>
      have h1 := (ih (p + 1) false).1
      rw [if_pos rfl, if_pos rfl]
      simp only [List.length_append, List.length_cons, List.length_nil]
      have h2 : (if D.testBit p then [63] else ([] : List Nat)).length ≤ 1 := by
        split
        · exact Nat.le_refl 1
        · exact Nat.zero_le 1
      have h3 : (if fst then ([] : List Nat) else [44]).length ≤ 1 := by
        split
        · exact Nat.zero_le 1
        · exact Nat.le_refl 1
      refine ⟨by omega, fun hf _ => ?_⟩
      rw [hf]
      show ([] : List Nat).length + _ + _ + _ + 1 ≤ _
      simp only [List.length_nil]
      omega
    | false =>
      rw [if_neg (by decide), if_neg (by decide), Nat.zero_add]
      exact ih (p + 1) fst
/-- how many pages are of hands below j -/
def cl2 (h : Nat → Nat) (j : Nat) : Nat → Nat
  | 0 => 0
  | n + 1 => cl2 h j n + (if h n < j then 1 else 0)
def ce2 (h : Nat → Nat) (j : Nat) : Nat → Nat
  | 0 => 0
  | n + 1 => ce2 h j n + (if h n = j then 1 else 0)
theorem cl_ce (h : Nat → Nat) (j : Nat) : ∀ n, cl2 h (j + 1) n = cl2 h j n + ce2 h j n := by
  intro n
  induction n with
  | zero => rfl
  | succ n ih =>
    show cl2 h (j + 1) n + (if h n < j + 1 then 1 else 0) = cl2 h j n + (if h n < j then 1 else 0) + (ce2 h j n + (if h n = j then 1 else 0))
    rw [ih]
    by_cases c1 : h n < j
    · rw [if_pos c1, if_pos (by omega), if_neg (by omega)]
      omega
    · rw [if_neg c1]
      by_cases c2 : h n = j
      · rw [if_pos c2, if_pos (by omega)]
        omega
      · rw [if_neg c2, if_neg (by omega)]
        omega
theorem cl2_le (h : Nat → Nat) (j : Nat) : ∀ n, cl2 h j n ≤ n := by
  intro n
  induction n with
  | zero => exact Nat.le_refl 0
  | succ n ih =>
    show cl2 h j n + (if h n < j then 1 else 0) ≤ n + 1
    split <;> omega
theorem cS_snoc (S : Nat) : ∀ d p, cS S (d + 1) p = cS S d p + (if S.testBit (p + d) then 1 else 0) := by
  intro d
  induction d with
  | zero =>
    intro p
    show (if S.testBit p then 1 else 0) + 0 = 0 + (if S.testBit (p + 0) then 1 else 0)
    rw [Nat.add_zero, Nat.zero_add]
    rfl
  | succ d ih =>
    intro p
    show (if S.testBit p then 1 else 0) + cS S (d + 1) (p + 1) = (if S.testBit p then 1 else 0) + cS S d (p + 1) + (if S.testBit (p + (d + 1)) then 1 else 0)
    rw [ih (p + 1), show p + 1 + d = p + (d + 1) by omega]
    omega
theorem cS_ce (h : Nat → Nat) (j N : Nat) : ∀ n, n ≤ N → cS (msk (fun q => decide (h q = j)) N) n 0 = ce2 h j n := by
  intro n
  induction n with
  | zero => intro _; rfl
  | succ n ih =>
    intro hn
    rw [cS_snoc, ih (by omega), Nat.zero_add, msk_bit, show decide (n < N) = true from decide_eq_true (by omega), Bool.true_and]
    show _ = ce2 h j n + (if h n = j then 1 else 0)
    by_cases c : h n = j
    · rw [show decide (h n = j) = true from decide_eq_true c, if_pos rfl, if_pos c]
    · rw [show decide (h n = j) = false from decide_eq_false c, if_neg (by decide), if_neg c]
theorem ce2_pos {h : Nat → Nat} {j p : Nat} : ∀ n, p < n → h p = j → 0 < ce2 h j n := by
  intro n
  induction n with
  | zero => intro hp; omega
  | succ n ih =>
    intro hp hj
    show 0 < ce2 h j n + (if h n = j then 1 else 0)
    by_cases c : p = n
    · rw [← c, if_pos hj]
      omega
    · have := ih (by omega) hj
      omega
theorem whd_len (n D kk : Nat) (h : Nat → Nat) (hex : ∀ j, j < kk → ∃ p, p < n ∧ h p = j) : ∀ d j, j + d = kk → (whd n D (fun j => msk (fun q => decide (h q = j)) n) d j).length + 3 * cl2 h j n ≤ 3 * cl2 h kk n + d := by
  intro d
  induction d with
  | zero =>
    intro j hj
    rw [show j = kk by omega]
    show 0 + _ ≤ _
    omega
  | succ d ih =>
    intro j hj
    have h1 := ih (j + 1) (by omega)
    obtain ⟨p, p1, p2⟩ := hex j (by omega)
    have h2 := (wpg_len (msk (fun q => decide (h q = j)) n) D n 0 true).2 rfl (by rw [cS_ce h j n n (Nat.le_refl n)]; exact ce2_pos n p1 p2)
    rw [cS_ce h j n n (Nat.le_refl n)] at h2
    have h3 := cl_ce h j n
    show ((if j = 0 then [] else [59]) ++ [65 + j] ++ wpg (msk (fun q => decide (h q = j)) n) D n 0 true ++ whd n D (fun j => msk (fun q => decide (h q = j)) n) d (j + 1)).length + _ ≤ _
    simp only [List.length_append, List.length_cons, List.length_nil]
    have h4 : (if j = 0 then ([] : List Nat) else [59]).length ≤ 1 := by
      split
      · exact Nat.zero_le 1
      · exact Nat.le_refl 1
    omega
theorem wrn_len (F : Nat → Nat) : ∀ d i, (wrn F d i).length ≤ 2 * d := by
  intro d
  induction d with
  | zero => intro i; exact Nat.zero_le _
  | succ d ih =>
    intro i
    have h1 := ih (i + 1)
    show ((if i ≤ 1 then [] else [44]) ++ [48 + F i] ++ wrn F d (i + 1)).length ≤ _
    simp only [List.length_append, List.length_cons, List.length_nil]
    have h4 : (if i ≤ 1 then ([] : List Nat) else [44]).length ≤ 1 := by
      split
      · exact Nat.zero_le 1
      · exact Nat.le_refl 1
    omega
theorem hands_used {nr : Nat → Nat → Prop} {n kk : Nat} {h : Nat → Nat} (H : HOK nr n kk h) (j : Nat) (hj : j < kk) : ∃ p, p < n ∧ h p = j := by
  refine Classical.byContradiction (fun hno => ?_)
  have hlow : ∀ p, p < n → h p < j := by
    intro p hp
    rcases Nat.lt_trichotomy (h p) j with c | c | c
    · exact c
    · exact absurd ⟨p, hp, c⟩ hno
    · obtain ⟨q, q1, q2⟩ := H.1.1.2.2 p hp j c
      exact absurd ⟨q, by omega, q2⟩ hno
  exact H.2 j hj h ⟨hlow, H.1.1.2.1, H.1.1.2.2⟩
theorem hands_le {nr : Nat → Nat → Prop} {n kk : Nat} {h : Nat → Nat} (hrf : ∀ p, p < n → nr p p) (H : HOK nr n kk h) : kk ≤ n := by
  rcases Nat.lt_or_ge n kk with c | c
  · exact absurd (Val_id n hrf) (H.2 n c _)
  · exact c
theorem wall_len {nr : Nat → Nat → Prop} {n kk : Nat} {h : Nat → Nat} (hn : n ≤ 10) (hrf : ∀ p, p < n → nr p p) (H : HOK nr n kk h) (D many : Nat) (F : Nat → Nat) (hm : many ≤ 10) : (wall n kk D (fun j => msk (fun q => decide (h q = j)) n) many F).length ≤ 60 := by
  have h1 := whd_len n D kk h (hands_used H) kk 0 (by omega)
  have h2 := wrn_len F (many - 1) 1
  have h3 := cl2_le h kk n
  have h4 := hands_le hrf H
  unfold wall
  simp only [List.length_append, List.length_cons, List.length_nil]
  omega
/-- letters at cell k, their number at slot s of cell b -/
def WrA (σ : Mem) (k b s : Nat) (l : List Nat) : Prop := σ b s = nI l.length ∧ ∀ i, i < l.length → σ k i = nI (l.getD i 0)
theorem WrA_add {σ : Mem} {k b s : Nat} {l : List Nat} (h : WrA σ k b s l) (hk : k ≠ b) (x : Nat) : WrA (wr (wr σ k l.length (nI x)) b s (nI (l.length + 1))) k b s (l ++ [x]) := by
  refine ⟨by rw [wr_at, List.length_append]; rfl, fun i hi => ?_⟩
  rw [List.length_append] at hi
  have hi' : i < l.length + 1 := hi
  rw [wr_off _ _ _ hk]
  by_cases c : i = l.length
  · subst c
    rw [wr_at, List.getD_eq_getElem?_getD, List.getElem?_append_right (Nat.le_refl _), Nat.sub_self]
    rfl
  · rw [wr_in _ _ c, List.getD_eq_getElem?_getD, List.getElem?_append_left (by omega), ← List.getD_eq_getElem?_getD]
    exact h.2 i (by omega)
