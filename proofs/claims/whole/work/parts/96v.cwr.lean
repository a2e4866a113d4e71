/-! PURE: doubts and signs, as the class finds them. -/
section
variable {n : Nat} {M : Nat → Nat}
theorem fits2 {k : Nat} {σ : Mem} {p v N : Nat} {h : Nat → Nat} (hN : N ≤ 10) (hp : p < 10) (hv : v < 10) (hM : M p < 2 ^ 10) (h1 : σ (k + 13) p = nI (M p)) (h2 : HSt σ k N h) : ∃ r, X6_fits k (nI p) (nI v) σ = some r ∧ ((r = 1 ∧ ∀ q, q < N → h q = v → nrT M p q) ∨ (r = 0 ∧ ∃ q, q < N ∧ h q = v ∧ ¬ nrT M p q)) := by
  unfold X6_fits X6_fits_b0
  rw [gdx_n (by omega) (by omega), gdx_n (by omega) (by omega), nc_n (by omega), nc_n (by omega), h2.2 v hv, show σ (k + 1 + 12) p = _ from h1, nI_andn]
  have hlt : msk (fun q => decide (h q = v)) N < 2 ^ 10 := Nat.lt_of_lt_of_le (msk_lt _ N) (Nat.pow_le_pow_right (by omega) (by omega))
  have hlt2 := andn_lt (b := M p) hlt
  by_cases c : andn (msk (fun q => decide (h q = v)) N) (M p) = 0
  · refine ⟨1, by rw [c, if_pos (show nI 0 = 0 from rfl)], Or.inl ⟨rfl, fun q hq e => andn_0.mp c q ?_⟩⟩
    rw [msk_bit]
    simp [hq, e]
  · refine ⟨0, by rw [if_neg (nI_ne0 (by omega) (by omega))], Or.inr ⟨rfl, ?_⟩⟩
    obtain ⟨q, hq⟩ := Nat.exists_testBit_of_ne_zero c
    rw [andn_bit, msk_bit] at hq
    simp only [Bool.and_eq_true, decide_eq_true_eq, Bool.not_eq_true'] at hq
    refine ⟨q, hq.1.1, hq.1.2, fun x => ?_⟩
    unfold nrT at x
    rw [hq.2] at x
    exact absurd x (by decide)
/-- what doubt needs -/
def DP (M : Nat → Nat) (n kk : Nat) (h : Nat → Nat) (σ : Mem) : Prop := σ 176 3 = nI kk ∧ HSt σ 176 n h ∧ ∀ p, p < n → σ 189 p = nI (M p)
theorem dbIn (hn : n ≤ 10) {kk : Nat} (hk : kk ≤ 10) {h : Nat → Nat} (hh : ∀ p, p < n → h p < 10) (hM : ∀ p, p < n → M p < 2 ^ 10) (K7 : Nat → Int32 → Int32 → Mem → Option Mem) (p : Nat) (hp : p < n) : ∀ (d j m D : Nat) (σ : Mem), j + d = kk → d < m → DP M n kk h σ → D < 2 ^ 10 → σ 175 5 = nI D → (D.testBit p = true ↔ ∃ j', j' < j ∧ dbt (nrT M) n kk h p j') → ∃ D', X4_doubt_l14 K7 m 175 (nI n) (nI p) (nI j) σ = K7 175 (nI n) (nI (p + 1)) (wr σ 175 5 (nI D')) ∧ D' < 2 ^ 10 ∧ (∀ q, q ≠ p → D'.testBit q = D.testBit q) ∧ (D'.testBit p = true ↔ ∃ j', j' < kk ∧ dbt (nrT M) n kk h p j') := by
  intro d
  induction d with
  | zero =>
    intro j m D σ hj hm hD hD10 h5 hb
    obtain ⟨m, rfl⟩ : ∃ m', m = m' + 1 := ⟨m - 1, by omega⟩
    obtain rfl : j = kk := by omega
    refine ⟨D, ?_, hD10, fun q _ => rfl, hb⟩
    have hw : wr σ 175 5 (nI D) = σ := by
      funext q i
      by_cases hq : q = 175
      · subst hq
        by_cases hi : i = 5
        · subst hi
          rw [wr_at, h5]
        · rw [wr_in _ _ hi]
      · rw [wr_off _ _ _ hq]
    rw [hw]
    show X4_doubt_b14 K7 _ 175 (nI n) (nI p) (nI j) σ = _
    unfold X4_doubt_b14
    rw [show σ (175 + 1) 3 = nI j from hD.1, if_pos (nI_le (by omega) (by omega)), nI_1]
  | succ d ih =>
    intro j m D σ hj hm hD hD10 h5 hb
    obtain ⟨m, rfl⟩ : ∃ m', m = m' + 1 := ⟨m - 1, by omega⟩
    have hhp := hh p hp
    obtain ⟨r, f1, f2⟩ := fits2 (M := M) (k := 176) (v := j) hn (show p < 10 by omega) (by omega) (hM p hp) (hD.2.2 p hp) hD.2.1
    have unf : X4_doubt_l14 K7 (m + 1) 175 (nI n) (nI p) (nI j) σ = if j = h p then X4_doubt_l14 K7 m 175 (nI n) (nI p) (nI (j + 1)) σ else if r = 0 then X4_doubt_l14 K7 m 175 (nI n) (nI p) (nI (j + 1)) σ else X4_doubt_l14 K7 m 175 (nI n) (nI p) (nI (j + 1)) (wr σ 175 5 (nI (D ||| 2 ^ p))) := by
      show X4_doubt_b14 K7 _ 175 (nI n) (nI p) (nI j) σ = _
      unfold X4_doubt_b14 X4_doubt_b62
      rw [show σ (175 + 1) 3 = nI kk from hD.1, if_neg (show ¬ nI kk ≤ nI j by rw [nI_le_iff (by omega) (by omega)]; omega), gdx_n (by omega) (by omega), nc_n (by omega), show σ (175 + 1 + 14) p = _ from hD.2.1.1 p hp, show X6_fits (175 + 1) (nI p) (nI j) σ = some r from f1, ob_some, h5, shl_1 p (by omega), nI_or, nI_1]
      by_cases c : j = h p
      · rw [if_pos (show nI j = nI (h p) by rw [← c]), if_pos c]
      · rw [if_neg (show ¬ nI j = nI (h p) from fun q => c ((nI_inj (by omega) (by omega)).mp q)), if_neg c]
    have no : ¬ dbt (nrT M) n kk h p j → (D.testBit p = true ↔ ∃ j', j' < j + 1 ∧ dbt (nrT M) n kk h p j') := by
      intro hno
      rw [hb]
      constructor
      · rintro ⟨j', q1, q2⟩
        exact ⟨j', by omega, q2⟩
      · rintro ⟨j', q1, q2⟩
        refine ⟨j', ?_, q2⟩
        rcases Nat.eq_or_lt_of_le (show j' ≤ j by omega) with e | e
        · rw [e] at q2
          exact absurd q2 hno
        · exact e
    rw [unf]
    by_cases c : j = h p
    · rw [if_pos c]
      exact ih (j + 1) m D σ (by omega) (by omega) hD hD10 h5 (no (fun q => q.1 c))
    · rw [if_neg c]
      rcases f2 with ⟨f2, f3⟩ | ⟨f2, q, f3, f4, f5⟩
      · rw [if_neg (by rw [f2]; decide)]
        have hD' : DP M n kk h (wr σ 175 5 (nI (D ||| 2 ^ p))) := ⟨by rw [wr_off _ _ _ (by omega)]; exact hD.1, ⟨fun q hq => by rw [wr_off _ _ _ (by omega)]; exact hD.2.1.1 q hq, fun i hi => by rw [wr_off _ _ _ (by omega)]; exact hD.2.1.2 i hi⟩, fun q hq => by rw [wr_off _ _ _ (by omega)]; exact hD.2.2 q hq⟩
        obtain ⟨D', q1, q2, q3, q4⟩ := ih (j + 1) m (D ||| 2 ^ p) (wr σ 175 5 (nI (D ||| 2 ^ p))) (by omega) (by omega) hD' (or_lt hD10 (pow_lt (by omega))) (wr_at _ _ _ _) (by
          rw [or_bit]
          simp only [decide_true, Bool.or_true, true_iff]
          exact ⟨j, by omega, c, f3⟩)
        refine ⟨D', by rw [q1, wr_wr], q2, fun q hq => ?_, q4⟩
        rw [q3 q hq, or_bit, show decide (p = q) = false from decide_eq_false (fun e => hq e.symm), Bool.or_false]
      · rw [if_pos f2]
        exact ih (j + 1) m D σ (by omega) (by omega) hD hD10 h5 (no (fun x => f5 (x.2 q f3 f4)))
theorem dbOut (hn : n ≤ 10) {kk : Nat} (hk : kk ≤ 10) {h : Nat → Nat} (hh : ∀ p, p < n → h p < 10) (hM : ∀ p, p < n → M p < 2 ^ 10) : ∀ (d p m D : Nat) (σ : Mem), p + d = n → d < m → DP M n kk h σ → D < 2 ^ 10 → σ 175 5 = nI D → (∀ q, D.testBit q = true ↔ q < p ∧ ∃ j', j' < kk ∧ dbt (nrT M) n kk h q j') → ∃ D', X4_doubt_l7 m 175 (nI n) (nI p) σ = some (wr σ 175 5 (nI D')) ∧ Dbt (nrT M) n kk h D' := by
  intro d
  induction d with
  | zero =>
    intro p m D σ hp hm hD hD10 h5 hb
    obtain ⟨m, rfl⟩ : ∃ m', m = m' + 1 := ⟨m - 1, by omega⟩
    obtain rfl : p = n := by omega
    refine ⟨D, ?_, hD10, hb⟩
    have hw : wr σ 175 5 (nI D) = σ := by
      funext q i
      by_cases hq : q = 175
      · subst hq
        by_cases hi : i = 5
        · subst hi
          rw [wr_at, h5]
        · rw [wr_in _ _ hi]
      · rw [wr_off _ _ _ hq]
    rw [hw]
    show X4_doubt_b7 _ 175 (nI p) (nI p) σ = _
    unfold X4_doubt_b7
    rw [if_pos (nI_le (by omega) (by omega))]
  | succ d ih =>
    intro p m D σ hp hm hD hD10 h5 hb
    obtain ⟨m, rfl⟩ : ∃ m', m = m' + 1 := ⟨m - 1, by omega⟩
    obtain ⟨D1, e1, e2, e3, e4⟩ := dbIn hn hk hh hM (X4_doubt_l7 m) p (by omega) kk 0 FU D σ (by omega) (by unfold FU; omega) hD hD10 h5 (by
      rw [hb]
      constructor
      · rintro ⟨q, _⟩
        omega
      · rintro ⟨j', q, _⟩
        omega)
    have hD' : DP M n kk h (wr σ 175 5 (nI D1)) := ⟨by rw [wr_off _ _ _ (by omega)]; exact hD.1, ⟨fun q hq => by rw [wr_off _ _ _ (by omega)]; exact hD.2.1.1 q hq, fun i hi => by rw [wr_off _ _ _ (by omega)]; exact hD.2.1.2 i hi⟩, fun q hq => by rw [wr_off _ _ _ (by omega)]; exact hD.2.2 q hq⟩
    obtain ⟨D', q1, q2⟩ := ih (p + 1) m D1 (wr σ 175 5 (nI D1)) (by omega) (by omega) hD' e2 (wr_at _ _ _ _) (fun q => by
      by_cases c : q = p
      · rw [c, e4]
        exact ⟨fun x => ⟨by omega, x⟩, fun x => x.2⟩
      · rw [e3 q c, hb]
        constructor
        · rintro ⟨x1, x2⟩
          exact ⟨by omega, x2⟩
        · rintro ⟨x1, x2⟩
          exact ⟨by omega, x2⟩)
    refine ⟨D', ?_, q2⟩
    rw [wr_wr] at q1
    rw [← q1]
    show X4_doubt_b7 _ 175 (nI n) (nI p) σ = _
    unfold X4_doubt_b7
    rw [if_neg (show ¬ nI n ≤ nI p by rw [nI_le_iff (by omega) (by omega)]; omega)]
    exact e1
theorem doubt_s (hn : n ≤ 10) {kk : Nat} (hk : kk ≤ 10) {h : Nat → Nat} (hh : ∀ p, p < n → h p < 10) (hM : ∀ p, p < n → M p < 2 ^ 10) (σ : Mem) (hD : DP M n kk h σ) : ∃ D, X4_doubt 175 (nI n) σ = some (wr σ 175 5 (nI D)) ∧ Dbt (nrT M) n kk h D := by
  have hD' : DP M n kk h (wr σ 175 5 0) := ⟨by rw [wr_off _ _ _ (by omega)]; exact hD.1, ⟨fun q hq => by rw [wr_off _ _ _ (by omega)]; exact hD.2.1.1 q hq, fun i hi => by rw [wr_off _ _ _ (by omega)]; exact hD.2.1.2 i hi⟩, fun q hq => by rw [wr_off _ _ _ (by omega)]; exact hD.2.2 q hq⟩
  obtain ⟨D, q1, q2⟩ := dbOut hn hk hh hM n 0 FU 0 (wr σ 175 5 0) (by omega) (by unfold FU; omega) hD' (by omega) (wr_at _ _ _ _) (fun q => by
    rw [Nat.zero_testBit]
    constructor
    · intro x
      exact absurd x (by decide)
    · rintro ⟨x, _⟩
      omega)
  rw [wr_wr] at q1
  exact ⟨D, q1, q2⟩
end
def Fr4 (σ σ' : Mem) : Prop := (∀ q, q ≠ 210 → q ≠ 175 → σ' q = σ q) ∧ ∀ j, j ≠ 7 → σ' 175 j = σ 175 j
theorem Fr4.rf (σ : Mem) : Fr4 σ σ := ⟨fun _ _ _ => rfl, fun _ _ => rfl⟩
theorem Fr4.tr {a b c : Mem} (h : Fr4 a b) (h' : Fr4 b c) : Fr4 a c := ⟨fun q x y => by rw [h'.1 q x y, h.1 q x y], fun j hj => by rw [h'.2 j hj, h.2 j hj]⟩
theorem add4_s {σ : Mem} {l : List Nat} (h : WrA σ 210 175 7 l) (hl : l.length < 64) (x : Nat) : ∃ σ', X4_add 175 (nI x) σ = some σ' ∧ WrA σ' 210 175 7 (l ++ [x]) ∧ Fr4 σ σ' := by
  refine ⟨wr (wr σ 210 l.length (nI x)) 175 7 (nI (l.length + 1)), ?_, WrA_add h (by omega) x, fun q a b => by rw [wr_off _ _ _ b, wr_off _ _ _ a], fun j hj => by rw [wr_in _ _ hj, wr_off _ _ _ (by omega)]⟩
  unfold X4_add X4_add_b0
  rw [h.1, if_neg (show ¬ (64 : Int32) ≤ nI l.length from nI_ge (b := 64) (by omega) (by omega)), gdx_n (by omega) (by omega), letv_eq, nc_n (by omega), wr_off _ _ _ (by omega), h.1, nI_1]
theorem wpg_l {n S D : Nat} (hn : n ≤ 10) (hS : S < 2 ^ 31) (hD : D < 2 ^ 31) : ∀ (d p m : Nat) (fst : Bool) (l : List Nat) (σ : Mem), p + d = n → d < m → WrA σ 210 175 7 l → l.length + (wpg S D d p fst).length ≤ 63 → σ 175 5 = nI D → ∃ σ', X4_writePages_l5 m 175 (nI n) (nI S) (if fst then 1 else 0) (nI p) σ = some σ' ∧ WrA σ' 210 175 7 (l ++ wpg S D d p fst) ∧ Fr4 σ σ' := by
  intro d
  induction d with
  | zero =>
    intro p m fst l σ hp hm hl hlen h5
    obtain ⟨m, rfl⟩ : ∃ m', m = m' + 1 := ⟨m - 1, by omega⟩
    refine ⟨σ, ?_, by show WrA σ 210 175 7 (l ++ []); rw [List.append_nil]; exact hl, Fr4.rf σ⟩
    show X4_writePages_b5 _ 175 (nI n) (nI S) _ (nI p) σ = _
    unfold X4_writePages_b5
    rw [if_pos (nI_le (by omega) (by omega))]
  | succ d ih =>
    intro p m fst l σ hp hm hl hlen h5
    obtain ⟨m, rfl⟩ : ∃ m', m = m' + 1 := ⟨m - 1, by omega⟩
    have hw : wpg S D (d + 1) p fst = if S.testBit p then (if fst then [] else [44]) ++ [48 + p] ++ (if D.testBit p then [63] else []) ++ wpg S D d (p + 1) false else wpg S D d (p + 1) fst := rfl
    rw [hw] at hlen ⊢
    show ∃ σ', X4_writePages_b5 _ 175 (nI n) (nI S) _ (nI p) σ = _ ∧ _
    unfold X4_writePages_b5
    rw [if_neg (show ¬ nI n ≤ nI p by rw [nI_le_iff (by omega) (by omega)]; omega)]
    cases c : S.testBit p with
    | false =>
      rw [if_neg (show ¬ (shr (nI S) (nI p) &&& 1) = 1 from fun q => by rw [(has_bit hS (by omega)).mp q] at c; exact absurd c (by decide)), if_neg (show ¬ false = true by decide)]
      rw [c, if_neg (show ¬ false = true by decide)] at hlen
      unfold X4_writePages_b58
      rw [nI_1]
      exact ih (p + 1) m fst l σ (by omega) (by omega) hl hlen h5
    | true =>
      rw [c, if_pos rfl] at hlen
      rw [if_pos (show (shr (nI S) (nI p) &&& 1) = 1 from (has_bit hS (by omega)).mpr c), if_pos rfl]
      simp only [List.length_append, List.length_cons, List.length_nil] at hlen
      -- from the figure on
      have fig : ∀ (l1 : List Nat) (σ1 : Mem), l1.length + (1 + (if D.testBit p then [63] else ([] : List Nat)).length + (wpg S D d (p + 1) false).length) ≤ 63 → WrA σ1 210 175 7 l1 → σ1 175 5 = nI D → ∃ σ', X4_writePages_b31 (X4_writePages_l5 m) 175 (nI n) (nI S) (nI p) σ1 = some σ' ∧ WrA σ' 210 175 7 (l1 ++ ([48 + p] ++ (if D.testBit p then [63] else []) ++ wpg S D d (p + 1) false)) ∧ Fr4 σ1 σ' := by
        intro l1 σ1 hlen1 hl1 h51
        obtain ⟨σ2, a1, a2, a3⟩ := add4_s hl1 (by omega) (48 + p)
        have h52 : σ2 175 5 = nI D := by rw [a3.2 5 (by omega)]; exact h51
        unfold X4_writePages_b31 X4_addNumber X4_addNumber_b0
        rw [show (48 : Int32) = nI 48 from rfl, nI_add, a1, ob_some, ob_some, h52]
        cases cd : D.testBit p with
        | true =>
          rw [cd] at hlen1
          rw [if_pos (show (shr (nI D) (nI p) &&& 1) = 1 from (has_bit hD (by omega)).mpr cd), if_pos rfl]
          have hlen2 : l1.length + (1 + 1 + (wpg S D d (p + 1) false).length) ≤ 63 := hlen1
          obtain ⟨σ3, b1, b2, b3⟩ := add4_s a2 (by rw [List.length_append]; show l1.length + 1 < 64; omega) 63
          obtain ⟨σ', q1, q2, q3⟩ := ih (p + 1) m false (l1 ++ [48 + p] ++ [63]) σ3 (by omega) (by omega) b2 (by rw [List.length_append, List.length_append]; show l1.length + 1 + 1 + _ ≤ 63; omega) (by rw [b3.2 5 (by omega)]; exact h52)
          refine ⟨σ', ?_, ?_, (a3.tr b3).tr q3⟩
          · rw [show X4_add 175 63 σ2 = some σ3 from b1, ob_some]
            unfold X4_writePages_b58
            rw [nI_1]
            exact q1
          · simpa [List.append_assoc] using q2
        | false =>
          rw [cd] at hlen1
          rw [if_neg (show ¬ (shr (nI D) (nI p) &&& 1) = 1 from fun q => by rw [(has_bit hD (by omega)).mp q] at cd; exact absurd cd (by decide)), if_neg (by decide)]
          have hlen2 : l1.length + (1 + 0 + (wpg S D d (p + 1) false).length) ≤ 63 := hlen1
          obtain ⟨σ', q1, q2, q3⟩ := ih (p + 1) m false (l1 ++ [48 + p]) σ2 (by omega) (by omega) a2 (by rw [List.length_append]; show l1.length + 1 + _ ≤ 63; omega) h52
          refine ⟨σ', ?_, ?_, a3.tr q3⟩
          · unfold X4_writePages_b58
            rw [nI_1]
            exact q1
          · simpa [List.append_assoc] using q2
      cases cf : fst with
      | true =>
        rw [cf] at hlen
        have hlen2 : l.length + (0 + 1 + (if D.testBit p then [63] else ([] : List Nat)).length + (wpg S D d (p + 1) false).length) ≤ 63 := hlen
        obtain ⟨σ', q1, q2, q3⟩ := fig l σ (by omega) hl h5
        refine ⟨σ', ?_, ?_, q3⟩
        · rw [if_neg (show ¬ (if true = true then (1 : Int32) else 0) = 0 by decide)]
          exact q1
        · simpa [List.append_assoc] using q2
      | false =>
        rw [cf] at hlen
        have hlen2 : l.length + (1 + 1 + (if D.testBit p then [63] else ([] : List Nat)).length + (wpg S D d (p + 1) false).length) ≤ 63 := hlen
        obtain ⟨σ1, a1, a2, a3⟩ := add4_s hl (by omega) 44
        obtain ⟨σ', q1, q2, q3⟩ := fig (l ++ [44]) σ1 (by rw [List.length_append]; show l.length + 1 + _ ≤ 63; omega) a2 (by rw [a3.2 5 (by omega)]; exact h5)
        refine ⟨σ', ?_, ?_, a3.tr q3⟩
        · rw [if_pos (show (if false = true then (1 : Int32) else 0) = 0 by decide), show X4_add 175 44 σ = some σ1 from a1, ob_some]
          exact q1
        · simpa [List.append_assoc] using q2
