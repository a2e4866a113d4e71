/-! PURE: the model's walk over all parts. -/
def St3 (T c : Nat → Nat) (v3 : Int32) (p : Nat) : Prop := (v3 = 0 ∧ ∀ q, q < p → T q = c q) ∨ (v3 < 0 ∧ lexlt p T c) ∨ (0 < v3 ∧ lexlt p c T)
theorem lex_up {n m : Nat} {a b : Nat → Nat} (h : lexlt n a b) (hm : n ≤ m) : lexlt m a b := by
  obtain ⟨p, h1, h2⟩ := h
  exact ⟨p, by omega, h2⟩
theorem St3_step {T c : Nat → Nat} {v3 : Int32} {p : Nat} (h : St3 T c v3 p) (hT : T p < 2 ^ 30) (hc : c p < 2 ^ 30) : St3 T c (if v3 = 0 ∧ (0 : Int32) = 0 then nI (T p) - nI (c p) else v3) (p + 1) := by
  rcases h with ⟨h1, h2⟩ | ⟨h1, h2⟩ | ⟨h1, h2⟩
  · rw [if_pos ⟨h1, rfl⟩]
    rcases Nat.lt_trichotomy (T p) (c p) with e | e | e
    · exact Or.inr (Or.inl ⟨(sb_lt hT hc).mpr e, p, by omega, e, h2⟩)
    · refine Or.inl ⟨(sb_eq hT hc).mpr e, fun q hq => ?_⟩
      by_cases e2 : q = p
      · rw [e2]
        exact e
      · exact h2 q (by omega)
    · refine Or.inr (Or.inr ⟨?_, p, by omega, e, fun q hq => (h2 q hq).symm⟩)
      have a1 := (sb_le hT hc).mpr (by omega)
      have a2 : ¬ nI (T p) - nI (c p) = 0 := fun q => by rw [sb_eq hT hc] at q; omega
      rw [Int32.lt_iff_toInt_lt]
      rw [Int32.le_iff_toInt_le] at a1
      rw [← Int32.toInt_inj] at a2
      omega
  · rw [if_neg (fun q => by rw [q.1] at h1; exact absurd h1 (by decide))]
    exact Or.inr (Or.inl ⟨h1, lex_up h2 (by omega)⟩)
  · rw [if_neg (fun q => by rw [q.1] at h1; exact absurd h1 (by decide))]
    exact Or.inr (Or.inr ⟨h1, lex_up h2 (by omega)⟩)
theorem tellsOut (d : Nat) (hd : d < 10) (bl c : Nat → Nat) (v2 : Int32) (hc : ∀ q, q < 10 → c q < 2 ^ 30) : ∀ (e p m : Nat) (σ : Mem) (v3 : Int32), p + e = 10 → e < m → Stk σ (d + 1) bl → (∀ q, q < p → σ 265 q = nI (scan bl (d + 1) q)) → (v2 = 0 → (∀ q, q < 10 → σ 264 q = nI (c q)) ∧ St3 (scan bl (d + 1)) c v3 p) → ∃ v3' f, X12_tells_l5 m 251 (nI d) v2 v3 (nI p) σ = X12_tells_l113 FU 251 v2 v3' (nI 0) (wrF σ 265 f) ∧ (∀ q, q < 10 → f q = nI (scan bl (d + 1) q)) ∧ (v2 = 0 → St3 (scan bl (d + 1)) c v3' 10) := by
  intro e
  induction e with
  | zero =>
    intro p m σ v3 hp hm hs h1 h2
    obtain ⟨m, rfl⟩ : ∃ m', m = m' + 1 := ⟨m - 1, by omega⟩
    obtain rfl : p = 10 := by omega
    refine ⟨v3, σ 265, ?_, h1, fun q => (h2 q).2⟩
    show X12_tells_b5 _ 251 (nI d) v2 v3 (nI 10) σ = _
    unfold X12_tells_b5
    rw [if_pos (by decide), wrF_self]
    rfl
  | succ e ih =>
    intro p m σ v3 hp hm hs h1 h2
    obtain ⟨m, rfl⟩ : ∃ m', m = m' + 1 := ⟨m - 1, by omega⟩
    have hs2 : ∀ x, Stk (wr σ 265 p x) (d + 1) bl := fun x i hi => by
      obtain ⟨S, f, W, s1, s2, s3, s4, s5, s6⟩ := hs i hi
      exact ⟨S, f, W, s1, s2, s3, by rw [wr_off _ _ _ (by omega)]; exact s4, by rw [wr_off _ _ _ (by omega)]; exact s5, s6⟩
    have hin := tellsIn d p hd (by omega) bl v2 v3 (X12_tells_l5 m) (d + 1) 0 FU (wr σ 265 p 0) (by omega) (by unfold FU; omega) (hs2 0) (wr_at _ _ _ _)
    rw [wr_wr, wr_off _ _ _ (show 264 ≠ 265 by omega)] at hin
    have hsc := scan_lt bl p (d + 1)
    obtain ⟨v3', f, g1, g2, g3⟩ := ih (p + 1) m (wr σ 265 p (nI (scan bl (d + 1) p))) (if v3 = 0 ∧ v2 = 0 then nI (scan bl (d + 1) p) - σ 264 p else v3) (by omega) (by omega) (hs2 _) (fun q hq => by
      by_cases e : q = p
      · subst e
        exact wr_at _ _ _ _
      · rw [wr_in _ _ e]
        exact h1 q (by omega)) (fun q0 => by
      obtain ⟨a1, a2⟩ := h2 q0
      refine ⟨fun q hq => by rw [wr_off _ _ _ (by omega)]; exact a1 q hq, ?_⟩
      rw [a1 p (by omega), q0]
      exact St3_step a2 (by omega) (hc p (by omega)))
    refine ⟨v3', f, ?_, g2, g3⟩
    show X12_tells_b5 _ 251 (nI d) v2 v3 (nI p) σ = _
    unfold X12_tells_b5
    rw [if_neg (show ¬ (10 : Int32) ≤ nI p from nI_ge (b := 10) (by omega) (by omega)), gdx_n (by omega) (by omega), nc_n (by omega)]
    rw [show X12_tells_l23 (X12_tells_l5 m) FU 251 (nI d) v2 v3 (nI p) 0 (wr σ (251 + 14) p 0) = _ from hin, g1, wrF_wr]
/-- what has been told: nothing, or the first in order -/
def Told (σ : Mem) (v4 : Int32) (X : (Nat → Nat) → Prop) : Prop := (v4 = 0 ∧ ∀ h, ¬ X h) ∨ (v4 = 1 ∧ ∃ t, X t ∧ (∀ p, p < 10 → σ 264 p = nI (t p) ∧ t p < 2 ^ 30) ∧ ∀ h, X h → ¬ lexlt 10 h t)
theorem Told.cg {σ σ' : Mem} {v4 : Int32} {X X' : (Nat → Nat) → Prop} (h : Told σ v4 X) (e : ∀ p, p < 10 → σ' 264 p = σ 264 p) (hx : ∀ h, X' h ↔ X h) : Told σ' v4 X' := by
  rcases h with ⟨h1, h2⟩ | ⟨h1, t, h2, h3, h4⟩
  · exact Or.inl ⟨h1, fun h => by rw [hx]; exact h2 h⟩
  · exact Or.inr ⟨h1, t, (hx t).mpr h2, fun p hp => by rw [e p hp]; exact h3 p hp, fun h q => h4 h ((hx h).mp q)⟩
theorem tells_s (d : Nat) (hd : d < 10) (bl : Nat → Nat) (σ : Mem) (v4 : Int32) (X : (Nat → Nat) → Prop) (hs : Stk σ (d + 1) bl) (ht : Told σ v4 X) : ∃ σ', X12_tells 251 (nI d) (if v4 = 0 then 1 else 0) σ = some σ' ∧ (∀ q, q ≠ 264 → q ≠ 265 → σ' q = σ q) ∧ Told σ' 1 (fun h => X h ∨ h = scan bl (d + 1)) := by
  have hT : ∀ q, scan bl (d + 1) q < 2 ^ 30 := fun q => by have := scan_lt bl q (d + 1); omega
  unfold X12_tells X12_tells_b0
  rcases ht with ⟨h1, h2⟩ | ⟨h1, t, h2, h3, h4⟩
  · rw [if_pos h1]
    obtain ⟨v3', f, g1, g2, _⟩ := tellsOut d hd bl (fun _ => 0) 1 (fun q _ => by omega) 10 0 FU σ 0 (by omega) (by unfold FU; omega) hs (fun q hq => by omega) (fun q => absurd q (by decide))
    obtain ⟨g, k1, k2⟩ := tellsCp 1 v3' (fun q => absurd q.1 (by decide)) 10 0 FU (wrF σ 265 f) (by omega) (by unfold FU; omega)
    refine ⟨_, g1.trans k1, fun q a b => by rw [wrF_ne _ _ a, wrF_ne _ _ b], Or.inr ⟨rfl, scan bl (d + 1), Or.inr rfl, fun p hp => ⟨?_, hT p⟩, fun h hx => ?_⟩⟩
    · rw [wrF_same, k2, if_pos (by omega), wrF_same]
      exact g2 p hp
    · rcases hx with hx | hx
      · exact absurd hx (h2 h)
      · rw [hx]
        exact lex_irr
  · rw [if_neg (by rw [h1]; decide)]
    obtain ⟨v3', f, g1, g2, g3⟩ := tellsOut d hd bl t 0 (fun q hq => (h3 q hq).2) 10 0 FU σ 0 (by omega) (by unfold FU; omega) hs (fun q hq => by omega) (fun _ => ⟨fun q hq => (h3 q hq).1, Or.inl ⟨rfl, fun q hq => by omega⟩⟩)
    have ge0 : ∀ {x : Int32}, 0 ≤ x → X12_tells_l113 FU 251 0 x (nI 0) (wrF σ 265 f) = some (wrF σ 265 f) := by
      intro x hx
      obtain ⟨m, hm⟩ : ∃ m, FU = m + 1 := ⟨999999999, rfl⟩
      rw [hm]
      show X12_tells_b113 _ 251 0 x (nI 0) _ = _
      unfold X12_tells_b113
      rw [if_neg (by decide), if_pos rfl, if_pos hx]
    have keep : 0 ≤ v3' → ¬ lexlt 10 (scan bl (d + 1)) t → ∃ σ', X12_tells_l5 FU 251 (nI d) 0 0 (nI 0) σ = some σ' ∧ (∀ q, q ≠ 264 → q ≠ 265 → σ' q = σ q) ∧ Told σ' 1 (fun h => X h ∨ h = scan bl (d + 1)) := by
      intro hx hn
      refine ⟨_, g1.trans (ge0 hx), fun q a b => wrF_ne _ _ b, Or.inr ⟨rfl, t, Or.inl h2, fun p hp => by rw [wrF_ne _ _ (by omega)]; exact h3 p hp, fun h hx => ?_⟩⟩
      rcases hx with hx | hx
      · exact h4 h hx
      · rw [hx]
        exact hn
    rcases g3 rfl with ⟨e1, e2⟩ | ⟨e1, e2⟩ | ⟨e1, e2⟩
    · exact keep (by rw [e1]; decide) (fun q => by
        obtain ⟨p, p1, p2, _⟩ := q
        have := e2 p p1
        omega)
    · obtain ⟨g, k1, k2⟩ := tellsCp 0 v3' (fun q => Int32.not_lt.mpr q.2 e1) 10 0 FU (wrF σ 265 f) (by omega) (by unfold FU; omega)
      refine ⟨_, g1.trans k1, fun q a b => by rw [wrF_ne _ _ a, wrF_ne _ _ b], Or.inr ⟨rfl, scan bl (d + 1), Or.inr rfl, fun p hp => ⟨?_, hT p⟩, fun h hx => ?_⟩⟩
      · rw [wrF_same, k2, if_pos (by omega), wrF_same]
        exact g2 p hp
      · rcases hx with hx | hx
        · exact fun q => h4 h hx (lex_trans q e2)
        · rw [hx]
          exact lex_irr
    · exact keep (Int32.le_of_lt e1) (fun q => lex_irr (lex_trans q e2))
theorem pc_mono {R S : Nat} (hs : sub R S) : ∀ b, pc b R ≤ pc b S := by
  intro b
  induction b with
  | zero => exact Nat.le_refl 0
  | succ b ih =>
    show pc b R + (if R.testBit b then 1 else 0) ≤ pc b S + (if S.testBit b then 1 else 0)
    have : (if R.testBit b then 1 else 0) ≤ (if S.testBit b then 1 else 0) := by
      cases e1 : R.testBit b with
      | false => simp
      | true => rw [hs b e1]; exact Nat.le_refl _
    omega
theorem rest_eq (S f W : Nat) : andn S (2 ^ f ||| W) = andn (oth S f) W := by
  apply Nat.eq_of_testBit_eq
  intro i
  rw [andn_bit, andn_bit, oth_bit, Nat.testBit_or, Nat.testBit_two_pow]
  cases S.testBit i <;> cases decide (f = i) <;> cases W.testBit i <;> rfl
theorem pc_oth {S f : Nat} (hf : isLow S f) (h10 : f < 10) : pc 10 S = pc 10 (oth S f) + 1 := by
  have e : S = oth S f ||| 2 ^ f := by
    apply Nat.eq_of_testBit_eq
    intro i
    rw [or_bit, oth_bit]
    by_cases c : f = i
    · subst c
      rw [hf.1]
      simp
    · rw [show decide (f = i) = false from decide_eq_false c]
      simp
  have h0 : (oth S f).testBit f = false := by
    rw [oth_bit]
    simp
  have := pc_or h0 10
  rw [← e, if_pos h10] at this
  exact this
theorem pc_pos {R : Nat} (h : R ≠ 0) (hR : R < 2 ^ 10) : 1 ≤ pc 10 R := by
  obtain ⟨f, hf⟩ := low_ex h
  have := pc_oth hf (low_lt hR hf)
  omega
