/-! PURE: what the model finds of hands: sets, doubts, the page that stands for a set. -/
theorem pagesOf_l {σ : Mem} {n : Nat} {h : Nat → Nat} (hn : n ≤ 10) (h0 : σ 255 0 = nI n) (hh : ∀ p, p < n → σ 264 p = nI (h p) ∧ h p < 2 ^ 31) (j : Nat) (hj : j < 2 ^ 31) : ∀ (d b m : Nat), b + d = n → d < m → X12_pagesOf_l4 m 251 (nI j) (nI (msk (fun q => decide (h q = j)) b)) (nI b) σ = some (nI (msk (fun q => decide (h q = j)) n)) := by
  intro d
  induction d with
  | zero =>
    intro b m hb hm
    obtain ⟨m, rfl⟩ : ∃ m', m = m' + 1 := ⟨m - 1, by omega⟩
    obtain rfl : b = n := by omega
    show X12_pagesOf_b4 _ 251 (nI j) _ (nI b) σ = _
    unfold X12_pagesOf_b4
    rw [show σ (251 + 4) (nc 0) = nI b from h0, if_pos (nI_le (by omega) (by omega))]
  | succ d ih =>
    intro b m hb hm
    obtain ⟨m, rfl⟩ : ∃ m', m = m' + 1 := ⟨m - 1, by omega⟩
    have e := ih (b + 1) m (by omega) (by omega)
    rw [← e]
    obtain ⟨e1, e2⟩ := hh b (by omega)
    show X12_pagesOf_b4 _ 251 (nI j) _ (nI b) σ = X12_pagesOf_l4 m 251 (nI j) (nI (msk (fun q => decide (h q = j)) b ||| (if decide (h b = j) then 2 ^ b else 0))) (nI (b + 1)) σ
    unfold X12_pagesOf_b4 X12_pagesOf_b32
    rw [show σ (251 + 4) (nc 0) = nI n from h0, if_neg (show ¬ nI n ≤ nI b by rw [nI_le_iff (by omega) (by omega)]; omega), gdx_n (by omega) (by omega), nc_n (by omega), show σ (251 + 13) b = _ from e1, letv_eq, letv_eq, shl_1 b (by omega), nI_or, nI_1]
    by_cases c : h b = j
    · rw [if_pos (show nI (h b) = nI j by rw [c]), show decide (h b = j) = true from decide_eq_true c, if_pos rfl]
    · rw [if_neg (show ¬ nI (h b) = nI j from fun q => c ((nI_inj e2 hj).mp q)), show decide (h b = j) = false from decide_eq_false c, if_neg (by decide), show (0 : Int32) = nI 0 from rfl, nI_or]
theorem pagesOf_s {σ : Mem} {n : Nat} {h : Nat → Nat} (hn : n ≤ 10) (h0 : σ 255 0 = nI n) (hh : ∀ p, p < n → σ 264 p = nI (h p) ∧ h p < 2 ^ 31) (j : Nat) (hj : j < 2 ^ 31) : X12_pagesOf 251 (nI j) σ = some (nI (msk (fun q => decide (h q = j)) n)) := pagesOf_l hn h0 hh j hj n 0 FU (by omega) (by unfold FU; omega)
section
variable {n kk : Nat} {h N : Nat → Nat} {σ : Mem}
theorem idb_1 (p : Nat) : ∀ (d j m : Nat), j + d = kk → kk ≤ 10 → d < m → X12_isInDoubt_l5 m 251 (nI p) (nI kk) 1 (nI j) σ = some 1 := by
  intro d
  induction d with
  | zero =>
    intro j m hj hk hm
    obtain ⟨m, rfl⟩ : ∃ m', m = m' + 1 := ⟨m - 1, by omega⟩
    show X12_isInDoubt_b5 _ 251 (nI p) (nI kk) 1 (nI j) σ = _
    unfold X12_isInDoubt_b5
    rw [if_pos (nI_le (by omega) (by omega)), gdb_1]
  | succ d ih =>
    intro j m hj hk hm
    obtain ⟨m, rfl⟩ : ∃ m', m = m' + 1 := ⟨m - 1, by omega⟩
    show X12_isInDoubt_b5 _ 251 (nI p) (nI kk) 1 (nI j) σ = _
    unfold X12_isInDoubt_b5
    rw [if_neg (show ¬ nI kk ≤ nI j by rw [nI_le_iff (by omega) (by omega)]; omega), if_neg (by decide)]
    unfold X12_isInDoubt_b44 X12_isInDoubt_b49
    rw [nI_1]
    exact ih (j + 1) m (by omega) hk (by omega)
theorem idb_l (hn : n ≤ 10) (hk : kk ≤ 10) (h0 : σ 255 0 = nI n) (hh : ∀ p, p < n → σ 264 p = nI (h p) ∧ h p < 2 ^ 31) (hN : ∀ p, p < 10 → N p < 2 ^ 10) (hσ : ∀ p, p < 10 → σ 261 p = nI (N p)) (p : Nat) (hp : p < n) : ∀ (d j m : Nat), j + d = kk → d < m → (∀ j', j' < j → ¬ dbt (nrT N) n kk h p j') → ∃ r, X12_isInDoubt_l5 m 251 (nI p) (nI kk) 0 (nI j) σ = some r ∧ ((r = 1 ∧ ∃ j', j' < kk ∧ dbt (nrT N) n kk h p j') ∨ (r = 0 ∧ ∀ j', j' < kk → ¬ dbt (nrT N) n kk h p j')) := by
  intro d
  induction d with
  | zero =>
    intro j m hj hm hno
    obtain ⟨m, rfl⟩ : ∃ m', m = m' + 1 := ⟨m - 1, by omega⟩
    obtain rfl : j = kk := by omega
    refine ⟨0, ?_, Or.inr ⟨rfl, hno⟩⟩
    show X12_isInDoubt_b5 _ 251 (nI p) (nI j) 0 (nI j) σ = _
    unfold X12_isInDoubt_b5
    rw [if_pos (nI_le (by omega) (by omega)), gdb_0]
  | succ d ih =>
    intro j m hj hm hno
    obtain ⟨m, rfl⟩ : ∃ m', m = m' + 1 := ⟨m - 1, by omega⟩
    have hlt : msk (fun q => decide (h q = j)) n < 2 ^ 10 := Nat.lt_of_lt_of_le (msk_lt _ n) (Nat.pow_le_pow_right (by omega) hn)
    have hlt2 := andn_lt (b := N p) hlt
    have next : ¬ dbt (nrT N) n kk h p j → ∃ r, X12_isInDoubt_l5 m 251 (nI p) (nI kk) 0 (nI (j + 1)) σ = some r ∧ ((r = 1 ∧ ∃ j', j' < kk ∧ dbt (nrT N) n kk h p j') ∨ (r = 0 ∧ ∀ j', j' < kk → ¬ dbt (nrT N) n kk h p j')) := fun hx => ih (j + 1) m (by omega) (by omega) (fun j' hj' => by
      by_cases c : j' = j
      · rw [c]
        exact hx
      · exact hno j' (by omega))
    show ∃ r, X12_isInDoubt_b5 _ 251 (nI p) (nI kk) 0 (nI j) σ = some r ∧ _
    unfold X12_isInDoubt_b5
    rw [if_neg (show ¬ nI kk ≤ nI j by rw [nI_le_iff (by omega) (by omega)]; omega), if_pos rfl, gdx_n (by omega) (by omega), nc_n (by omega), show σ (251 + 13) p = _ from (hh p hp).1, pagesOf_s hn h0 hh j (by omega), ob_some, gdx_n (by omega) (by omega), show σ (251 + 10) p = _ from hσ p (by omega), nI_andn]
    unfold X12_isInDoubt_b44 X12_isInDoubt_b48 X12_isInDoubt_b49
    rw [nI_1]
    by_cases c : j = h p
    · rw [if_pos (show nI j = nI (h p) by rw [← c])]
      exact next (fun x => x.1 c)
    · rw [if_neg (show ¬ nI j = nI (h p) from fun q => c ((nI_inj (by omega) (hh p hp).2).mp q))]
      by_cases c2 : andn (msk (fun q => decide (h q = j)) n) (N p) = 0
      · rw [if_pos (show nI (andn (msk (fun q => decide (h q = j)) n) (N p)) = 0 by rw [c2]; rfl)]
        refine ⟨1, idb_1 p d (j + 1) m (by omega) hk (by omega), Or.inl ⟨rfl, j, by omega, c, fun q hq e => andn_0.mp c2 q ?_⟩⟩
        rw [msk_bit]
        simp [hq, e]
      · rw [if_neg (nI_ne0 (by omega) (by omega))]
        refine next (fun x => c2 (andn_0.mpr (fun q hq => ?_)))
        rw [msk_bit] at hq
        simp only [Bool.and_eq_true, decide_eq_true_eq] at hq
        exact x.2 q hq.1 hq.2
theorem idb_s (hn : n ≤ 10) (hk : kk ≤ 10) (h0 : σ 255 0 = nI n) (hh : ∀ p, p < n → σ 264 p = nI (h p) ∧ h p < 2 ^ 31) (hN : ∀ p, p < 10 → N p < 2 ^ 10) (hσ : ∀ p, p < 10 → σ 261 p = nI (N p)) {D : Nat} (hD : Dbt (nrT N) n kk h D) (p : Nat) (hp : p < n) : X12_isInDoubt 251 (nI p) (nI kk) σ = some (if D.testBit p then 1 else 0) := by
  obtain ⟨r, e1, e2⟩ := idb_l hn hk h0 hh hN hσ p hp kk 0 FU (by omega) (by unfold FU; omega) (fun j' hj' => by omega)
  have e1' : X12_isInDoubt 251 (nI p) (nI kk) σ = some r := e1
  rw [e1']
  rcases e2 with ⟨e2, e3⟩ | ⟨e2, e3⟩
  · rw [e2, (hD.2 p).mpr ⟨hp, e3⟩]
    rfl
  · have : D.testBit p = false := by
      cases c : D.testBit p with
      | false => rfl
      | true =>
        obtain ⟨_, j, j1, j2⟩ := (hD.2 p).mp c
        exact absurd j2 (e3 j j1)
    rw [e2, this]
    rfl
theorem pc_ext {m : Nat} {a : Nat} (hz : ∀ i, a ≤ i → m.testBit i = false) : ∀ b, a ≤ b → pc b m = pc a m := by
  intro b
  induction b with
  | zero =>
    intro h
    rw [show a = 0 by omega]
  | succ b ih =>
    intro h
    by_cases c : a = b + 1
    · rw [c]
    · show pc b m + (if m.testBit b then 1 else 0) = _
      rw [hz b (by omega), ih (by omega)]
      rfl
theorem doubts_l (hn : n ≤ 10) (hk : kk ≤ 10) (h0 : σ 255 0 = nI n) (hh : ∀ p, p < n → σ 264 p = nI (h p) ∧ h p < 2 ^ 31) (hN : ∀ p, p < 10 → N p < 2 ^ 10) (hσ : ∀ p, p < 10 → σ 261 p = nI (N p)) {D : Nat} (hD : Dbt (nrT N) n kk h D) : ∀ (d p m : Nat), p + d = n → d < m → X12_doubts_l4 m 251 (nI kk) (nI (pc p D)) (nI p) σ = some (nI (pc n D)) := by
  intro d
  induction d with
  | zero =>
    intro p m hp hm
    obtain ⟨m, rfl⟩ : ∃ m', m = m' + 1 := ⟨m - 1, by omega⟩
    obtain rfl : p = n := by omega
    show X12_doubts_b4 _ 251 (nI kk) _ (nI p) σ = _
    unfold X12_doubts_b4
    rw [show σ (251 + 4) (nc 0) = nI p from h0, if_pos (nI_le (by omega) (by omega))]
  | succ d ih =>
    intro p m hp hm
    obtain ⟨m, rfl⟩ : ∃ m', m = m' + 1 := ⟨m - 1, by omega⟩
    have e := ih (p + 1) m (by omega) (by omega)
    rw [← e]
    show X12_doubts_b4 _ 251 (nI kk) _ (nI p) σ = X12_doubts_l4 m 251 (nI kk) (nI (pc p D + (if D.testBit p then 1 else 0))) (nI (p + 1)) σ
    unfold X12_doubts_b4 X12_doubts_b29
    rw [show σ (251 + 4) (nc 0) = nI n from h0, if_neg (show ¬ nI n ≤ nI p by rw [nI_le_iff (by omega) (by omega)]; omega), idb_s hn hk h0 hh hN hσ hD p (by omega), ob_some, letv_eq, letv_eq, nI_1, nI_1, Int32.add_zero]
    cases c : D.testBit p with
    | true => rw [if_pos rfl, if_neg (show ¬ (1 : Int32) = 0 by decide), if_pos rfl]
    | false =>
      rw [if_neg (show ¬ false = true by decide), if_pos rfl, if_neg (show ¬ false = true by decide)]
      rfl
theorem doubts_s (hn : n ≤ 10) (hk : kk ≤ 10) (h0 : σ 255 0 = nI n) (hh : ∀ p, p < n → σ 264 p = nI (h p) ∧ h p < 2 ^ 31) (hN : ∀ p, p < 10 → N p < 2 ^ 10) (hσ : ∀ p, p < 10 → σ 261 p = nI (N p)) {D : Nat} (hD : Dbt (nrT N) n kk h D) : X12_doubts 251 (nI kk) σ = some (nI (pc 10 D)) := by
  have e : pc 10 D = pc n D := pc_ext (fun i hi => by
    cases c : D.testBit i with
    | false => rfl
    | true =>
      have := ((hD.2 i).mp c).1
      omega) 10 hn
  rw [e]
  exact doubts_l hn hk h0 hh hN hσ hD n 0 FU (by omega) (by unfold FU; omega)
end
/-- the model's furthest of one page, within middleOf -/
theorem midIn {B : Nat → Nat} (ho : okB B) {σ : Mem} (h : RwB (σ 255) 0 B) (S : Nat) (hS : S < 2 ^ 31) (K8 : Nat → Int32 → Int32 → Int32 → Int32 → Mem → Option Int32) (v2 v3 : Int32) (p : Nat) (hp : p < B 0) (hSp : S.testBit p = true) : ∀ (d b m : Nat), b + d = B 0 → d < m → X12_middleOf_l25 K8 m 251 (nI S) v2 v3 (nI p) (nI (mxo (far B p) (fun q => S.testBit q) b)) (nI b) σ = (if v3 = -1000000 then K8 251 (nI S) (nI p) (nI (mxo (far B p) (fun q => S.testBit q) (B 0))) (nI (p + 1)) σ else if v3 ≤ nI (mxo (far B p) (fun q => S.testBit q) (B 0)) then K8 251 (nI S) v2 v3 (nI (p + 1)) σ else K8 251 (nI S) (nI p) (nI (mxo (far B p) (fun q => S.testBit q) (B 0))) (nI (p + 1)) σ) := by
  have hn := ho.1
  have hfl : ∀ b, b < B 0 → far B p b ≤ 90 := fun b hb => far_le ho hp hb
  intro d
  induction d with
  | zero =>
    intro b m hb hm
    obtain ⟨m, rfl⟩ : ∃ m', m = m' + 1 := ⟨m - 1, by omega⟩
    obtain rfl : b = B 0 := by omega
    show X12_middleOf_b25 K8 _ 251 (nI S) v2 v3 (nI p) _ (nI (B 0)) σ = _
    unfold X12_middleOf_b25 X12_middleOf_b127 X12_middleOf_b121
    rw [show σ (251 + 4) (nc 0) = nI (B 0) from h 0 (by omega), if_pos (nI_le (by omega) (by omega)), has_1 hS (by omega) hSp, if_neg (show ¬ (1 : Int32) = 0 by decide)]
    unfold X12_middleOf_b127
    rw [nI_1]
  | succ d ih =>
    intro b m hb hm
    obtain ⟨m, rfl⟩ : ∃ m', m = m' + 1 := ⟨m - 1, by omega⟩
    have e := ih (b + 1) m (by omega) (by omega)
    have hmb := mxo_le (f := far B p) (P := fun q => S.testBit q) (M := 90) b (fun i hi => hfl i (by omega))
    have hb90 := hfl b (by omega)
    rw [← e]
    show X12_middleOf_b25 K8 _ 251 (nI S) v2 v3 (nI p) _ (nI b) σ = X12_middleOf_l25 K8 m 251 (nI S) v2 v3 (nI p) (nI (max (mxo (far B p) (fun q => S.testBit q) b) (if S.testBit b then far B p b else 0))) (nI (b + 1)) σ
    unfold X12_middleOf_b25 X12_middleOf_b75 X12_middleOf_b76 X12_middleOf_b92
    rw [show σ (251 + 4) (nc 0) = nI (B 0) from h 0 (by omega), if_neg (show ¬ nI (B 0) ≤ nI b by rw [nI_le_iff (by omega) (by omega)]; omega), nI_1, if_pos (show (0 : Int32) ≤ nI (mxo (far B p) (fun q => S.testBit q) b) from nI_ge0 (by omega)), has_1 hS (by omega) hSp, if_neg (show ¬ (1 : Int32) = 0 by decide)]
    by_cases c : p = b
    · rw [if_pos (show nI p = nI b by rw [c]), ← c, far_self]
      rw [show max (mxo (far B p) (fun q => S.testBit q) p) (if S.testBit p then 0 else 0) = mxo (far B p) (fun q => S.testBit q) p by split <;> omega]
    · rw [if_neg (show ¬ nI p = nI b from fun q => c ((nI_inj (by omega) (by omega)).mp q))]
      cases c2 : S.testBit b with
      | false =>
        rw [has_0 hS (by omega) c2, if_pos rfl, if_neg (show ¬ false = true by decide), Nat.max_eq_left (Nat.zero_le _)]
      | true =>
        rw [has_1 hS (by omega) c2, if_neg (show ¬ (1 : Int32) = 0 by decide), if_pos rfl, show X12_farOf (251 + 4) (nI p) (nI b) σ = _ from farOf_s h ho hp (by omega) c, ob_some]
        by_cases c3 : far B p b ≤ mxo (far B p) (fun q => S.testBit q) b
        · rw [if_pos (nI_le c3 (by omega)), Nat.max_eq_left c3]
        · rw [if_neg (show ¬ nI (far B p b) ≤ nI (mxo (far B p) (fun q => S.testBit q) b) from fun q => c3 ((nI_le_iff (by omega) (by omega)).mp q)), Nat.max_eq_right (by omega)]
theorem midOut {B : Nat → Nat} {σ : Mem} (h : RwB (σ 255) 0 B) (hn : B 0 ≤ 10) (S : Nat) (hS : S < 2 ^ 31) (K8 : Nat → Int32 → Int32 → Int32 → Int32 → Mem → Option Int32) (v2 v3 : Int32) (p : Nat) (hp : p < B 0) (hSp : S.testBit p = false) : ∀ (d b m x : Nat), b + d = B 0 → d < m → x < 2 ^ 31 → X12_middleOf_l25 K8 m 251 (nI S) v2 v3 (nI p) (nI x) (nI b) σ = K8 251 (nI S) v2 v3 (nI (p + 1)) σ := by
  intro d
  induction d with
  | zero =>
    intro b m x hb hm hx
    obtain ⟨m, rfl⟩ : ∃ m', m = m' + 1 := ⟨m - 1, by omega⟩
    show X12_middleOf_b25 K8 _ 251 (nI S) v2 v3 (nI p) _ (nI b) σ = _
    unfold X12_middleOf_b25 X12_middleOf_b127
    rw [show σ (251 + 4) (nc 0) = nI (B 0) from h 0 (by omega), if_pos (nI_le (by omega) (by omega)), has_0 hS (by omega) hSp, if_pos rfl, nI_1]
  | succ d ih =>
    intro b m x hb hm hx
    obtain ⟨m, rfl⟩ : ∃ m', m = m' + 1 := ⟨m - 1, by omega⟩
    show X12_middleOf_b25 K8 _ 251 (nI S) v2 v3 (nI p) _ (nI b) σ = _
    unfold X12_middleOf_b25 X12_middleOf_b75 X12_middleOf_b76 X12_middleOf_b92
    rw [show σ (251 + 4) (nc 0) = nI (B 0) from h 0 (by omega), if_neg (show ¬ nI (B 0) ≤ nI b by rw [nI_le_iff (by omega) (by omega)]; omega), nI_1, if_pos (show (0 : Int32) ≤ nI x from nI_ge0 hx), has_0 hS (by omega) hSp, if_pos (show (0 : Int32) = 0 from rfl)]
    rw [ih (b + 1) m x (by omega) (by omega) hx]
    split <;> rfl
/-- the page that stands for a set: the same on both sides -/
theorem mid_s {B : Nat → Nat} (ho : okB B) {σ ρ : Mem} (h : RwB (σ 255) 0 B) (hG : Gp ρ 177 (B 0) (far B)) (S : Nat) (hS : S < 2 ^ 31) : ∀ (d p m1 m2 : Nat) (a2 a3 b2 b3 : Int32), p + d = B 0 → d < m1 → d < m2 → ((a2 = -1000000 ∧ b3 = -1000000 ∧ ∃ q, p ≤ q ∧ q < B 0 ∧ S.testBit q = true) ∨ ∃ x y : Nat, x < 2 ^ 31 ∧ y < 2 ^ 31 ∧ a2 = nI x ∧ a3 = nI y ∧ b2 = nI x ∧ b3 = nI y) → ∃ r, X5_middle_l8 m1 177 (nI S) a2 a3 (nI p) ρ = some r ∧ X12_middleOf_l8 m2 251 (nI S) b2 b3 (nI p) σ = some r := by
  have hn := ho.1
  have hg20 : ∀ x y, x < B 0 → y < B 0 → far B x y < 2 ^ 20 := fun x y hx hy => by have := far_le ho hx hy; omega
  intro d
  induction d with
  | zero =>
    intro p m1 m2 a2 a3 b2 b3 hp h1 h2 hs
    obtain ⟨m1, rfl⟩ : ∃ m', m1 = m' + 1 := ⟨m1 - 1, by omega⟩
    obtain ⟨m2, rfl⟩ : ∃ m', m2 = m' + 1 := ⟨m2 - 1, by omega⟩
    rcases hs with ⟨_, _, q, q1, q2, _⟩ | ⟨x, y, _, _, s1, s2, s3, s4⟩
    · omega
    · refine ⟨nI x, ?_, ?_⟩
      · show X5_middle_b8 _ 177 (nI S) a2 a3 (nI p) ρ = _
        unfold X5_middle_b8
        rw [hG.1, if_pos (nI_le (by omega) (by omega)), s1]
      · show X12_middleOf_b8 _ 251 (nI S) b2 b3 (nI p) σ = _
        unfold X12_middleOf_b8
        rw [show σ (251 + 4) (nc 0) = nI (B 0) from h 0 (by omega), if_pos (nI_le (by omega) (by omega)), s3]
  | succ d ih =>
    intro p m1 m2 a2 a3 b2 b3 hp h1 h2 hs
    obtain ⟨m1, rfl⟩ : ∃ m', m1 = m' + 1 := ⟨m1 - 1, by omega⟩
    obtain ⟨m2, rfl⟩ : ∃ m', m2 = m' + 1 := ⟨m2 - 1, by omega⟩
    have u2 : X12_middleOf_l8 (m2 + 1) 251 (nI S) b2 b3 (nI p) σ = X12_middleOf_l25 (X12_middleOf_l8 m2) FU 251 (nI S) b2 b3 (nI p) (nI 0) (nI 0) σ := by
      show X12_middleOf_b8 _ 251 (nI S) b2 b3 (nI p) σ = _
      unfold X12_middleOf_b8
      rw [show σ (251 + 4) (nc 0) = nI (B 0) from h 0 (by omega), if_neg (show ¬ nI (B 0) ≤ nI p by rw [nI_le_iff (by omega) (by omega)]; omega)]
      rfl
    have hF := mxo_le (f := far B p) (P := fun q => S.testBit q) (M := 90) (B 0) (fun i hi => far_le ho (by omega) hi)
    cases c : S.testBit p with
    | false =>
      have u1 : X5_middle_l8 (m1 + 1) 177 (nI S) a2 a3 (nI p) ρ = X5_middle_l8 m1 177 (nI S) a2 a3 (nI (p + 1)) ρ := by
        show X5_middle_b8 _ 177 (nI S) a2 a3 (nI p) ρ = _
        unfold X5_middle_b8 X5_middle_b54
        rw [hG.1, if_neg (show ¬ nI (B 0) ≤ nI p by rw [nI_le_iff (by omega) (by omega)]; omega), if_neg (show ¬ (shr (nI S) (nI p) &&& 1) = 1 from fun q => by rw [(has_bit hS (by omega)).mp q] at c; exact absurd c (by decide)), nI_1]
      rw [u1, u2, midOut h hn S hS (X12_middleOf_l8 m2) b2 b3 p (by omega) c (B 0) 0 FU 0 (by omega) (by unfold FU; omega) (by omega)]
      refine ih (p + 1) m1 m2 a2 a3 b2 b3 (by omega) (by omega) (by omega) ?_
      rcases hs with ⟨s1, s2, q, q1, q2, q3⟩ | hs
      · refine Or.inl ⟨s1, s2, q, ?_, q2, q3⟩
        rcases Nat.eq_or_lt_of_le q1 with e | e
        · rw [← e, c] at q3
          exact absurd q3 (by decide)
        · exact e
      · exact Or.inr hs
    | true =>
      have u1 : X5_middle_l8 (m1 + 1) 177 (nI S) a2 a3 (nI p) ρ = if a2 = -1000000 then X5_middle_l8 m1 177 (nI S) (nI p) (nI (mxo (far B p) (fun q => S.testBit q) (B 0))) (nI (p + 1)) ρ else if a3 ≤ nI (mxo (far B p) (fun q => S.testBit q) (B 0)) then X5_middle_l8 m1 177 (nI S) a2 a3 (nI (p + 1)) ρ else X5_middle_l8 m1 177 (nI S) (nI p) (nI (mxo (far B p) (fun q => S.testBit q) (B 0))) (nI (p + 1)) ρ := by
        show X5_middle_b8 _ 177 (nI S) a2 a3 (nI p) ρ = _
        unfold X5_middle_b8 X5_middle_b48 X5_middle_b54
        rw [hG.1, if_neg (show ¬ nI (B 0) ≤ nI p by rw [nI_le_iff (by omega) (by omega)]; omega), if_pos (show (shr (nI S) (nI p) &&& 1) = 1 from (has_bit hS (by omega)).mpr c), furthest_s hG hn hg20 p S (by omega) hS, ob_some, nI_1]
      have e2 := midIn ho h S hS (X12_middleOf_l8 m2) b2 b3 p (by omega) c (B 0) 0 FU (by omega) (by unfold FU; omega)
      rw [u1, u2, show X12_middleOf_l25 (X12_middleOf_l8 m2) FU 251 (nI S) b2 b3 (nI p) (nI 0) (nI 0) σ = _ from e2]
      rcases hs with ⟨s1, s2, _⟩ | ⟨x, y, x31, y31, s1, s2, s3, s4⟩
      · rw [if_pos s1, if_pos s2]
        exact ih (p + 1) m1 m2 _ _ _ _ (by omega) (by omega) (by omega) (Or.inr ⟨p, _, by omega, by omega, rfl, rfl, rfl, rfl⟩)
      · rw [if_neg (show ¬ a2 = -1000000 from fun q => nI_nn x31 (by rw [← s1, q]; decide)), if_neg (show ¬ b3 = -1000000 from fun q => nI_nn y31 (by rw [← s4, q]; decide)), s2, s4]
        by_cases c3 : nI y ≤ nI (mxo (far B p) (fun q => S.testBit q) (B 0))
        · rw [if_pos c3, if_pos c3]
          exact ih (p + 1) m1 m2 _ _ _ _ (by omega) (by omega) (by omega) (Or.inr ⟨x, y, x31, y31, s1, rfl, s3, rfl⟩)
        · rw [if_neg c3, if_neg c3]
          exact ih (p + 1) m1 m2 _ _ _ _ (by omega) (by omega) (by omega) (Or.inr ⟨p, _, by omega, by omega, rfl, rfl, rfl, rfl⟩)
