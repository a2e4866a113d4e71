/-! PURE: signs, as the model writes them. -/
def Fr12 (σ σ' : Mem) : Prop := (∀ q, q ≠ 267 → q ≠ 251 → σ' q = σ q) ∧ ∀ j, j ≠ 27 → σ' 251 j = σ 251 j
theorem Fr12.rf (σ : Mem) : Fr12 σ σ := ⟨fun _ _ _ => rfl, fun _ _ => rfl⟩
theorem Fr12.tr {a b c : Mem} (h : Fr12 a b) (h' : Fr12 b c) : Fr12 a c := ⟨fun q x y => by rw [h'.1 q x y, h.1 q x y], fun j hj => by rw [h'.2 j hj, h.2 j hj]⟩
theorem wri_s {σ : Mem} {l : List Nat} (h : WrA σ 267 251 27 l) (hl : l.length < 64) (x : Nat) : ∃ σ', X12_writes 251 (nI x) σ = some σ' ∧ WrA σ' 267 251 27 (l ++ [x]) ∧ Fr12 σ σ' := by
  refine ⟨wr (wr σ 267 l.length (nI x)) 251 27 (nI (l.length + 1)), ?_, WrA_add h (by omega) x, fun q a b => by rw [wr_off _ _ _ b, wr_off _ _ _ a], fun j hj => by rw [wr_in _ _ hj, wr_off _ _ _ (by omega)]⟩
  unfold X12_writes X12_writes_b0
  rw [h.1, gdx_n (by omega) (by omega), letv_eq, nc_n (by omega), wr_off _ _ _ (by omega), h.1, nI_1]
/-- what the model's hands lie in -/
def MH (σ : Mem) (n kk : Nat) (h N : Nat → Nat) : Prop := σ 255 0 = nI n ∧ (∀ p, p < n → σ 264 p = nI (h p) ∧ h p < 2 ^ 31) ∧ ∀ p, p < 10 → σ 261 p = nI (N p)
theorem MH.fr {σ σ' : Mem} {n kk : Nat} {h N : Nat → Nat} (a : MH σ n kk h N) (f : Fr12 σ σ') : MH σ' n kk h N := ⟨by rw [f.1 255 (by omega) (by omega)]; exact a.1, fun p hp => by rw [f.1 264 (by omega) (by omega)]; exact a.2.1 p hp, fun p hp => by rw [f.1 261 (by omega) (by omega)]; exact a.2.2 p hp⟩
section
variable {n kk D : Nat} {h N : Nat → Nat}
theorem mwpg_l (hn : n ≤ 10) (hk : kk ≤ 10) (hN : ∀ p, p < 10 → N p < 2 ^ 10) (hD : Dbt (nrT N) n kk h D) {S : Nat} (hS : S < 2 ^ 10) (K16 : Nat → Int32 → Int32 → Mem → Option Mem) (j : Nat) (hj : j < 10) : ∀ (d p m : Nat) (fst : Bool) (l : List Nat) (σ : Mem), p + d = n → d < m → WrA σ 267 251 27 l → l.length + (wpg S D d p fst).length ≤ 63 → MH σ n kk h N → (fst = true ↔ ∀ q, q < p → S.testBit q = false) → ∃ σ', X12_layWritten_l48 K16 m 251 (nI kk) (nI j) (nI S) (nI p) σ = K16 251 (nI kk) (nI (j + 1)) σ' ∧ WrA σ' 267 251 27 (l ++ wpg S D d p fst) ∧ Fr12 σ σ' := by
  intro d
  induction d with
  | zero =>
    intro p m fst l σ hp hm hl hlen hH hf
    obtain ⟨m, rfl⟩ : ∃ m', m = m' + 1 := ⟨m - 1, by omega⟩
    refine ⟨σ, ?_, by show WrA σ 267 251 27 (l ++ []); rw [List.append_nil]; exact hl, Fr12.rf σ⟩
    show X12_layWritten_b48 K16 _ 251 (nI kk) (nI j) (nI S) (nI p) σ = _
    unfold X12_layWritten_b48
    rw [show σ (251 + 4) (nc 0) = nI n from hH.1, if_pos (nI_le (by omega) (by omega)), nI_1]
  | succ d ih =>
    intro p m fst l σ hp hm hl hlen hH hf
    obtain ⟨m, rfl⟩ : ∃ m', m = m' + 1 := ⟨m - 1, by omega⟩
    have hw : wpg S D (d + 1) p fst = if S.testBit p then (if fst then [] else [44]) ++ [48 + p] ++ (if D.testBit p then [63] else []) ++ wpg S D d (p + 1) false else wpg S D d (p + 1) fst := rfl
    rw [hw] at hlen ⊢
    show ∃ σ', X12_layWritten_b48 K16 _ 251 (nI kk) (nI j) (nI S) (nI p) σ = _ ∧ _
    unfold X12_layWritten_b48
    rw [show σ (251 + 4) (nc 0) = nI n from hH.1, if_neg (show ¬ nI n ≤ nI p by rw [nI_le_iff (by omega) (by omega)]; omega)]
    cases c : S.testBit p with
    | false =>
      rw [c, if_neg (show ¬ false = true by decide)] at hlen
      rw [has_0 (by omega) (by omega) c, if_pos (show (0 : Int32) = 0 from rfl), if_neg (show ¬ false = true by decide)]
      unfold X12_layWritten_b108
      rw [nI_1]
      refine ih (p + 1) m fst l σ (by omega) (by omega) hl hlen hH ?_
      rw [hf]
      constructor
      · intro x q hq
        by_cases e : q = p
        · rw [e]
          exact c
        · exact x q (by omega)
      · intro x q hq
        exact x q (by omega)
    | true =>
      rw [c, if_pos rfl] at hlen
      rw [has_1 (by omega) (by omega) c, if_neg (show ¬ (1 : Int32) = 0 by decide), if_pos rfl]
      simp only [List.length_append, List.length_cons, List.length_nil] at hlen
      have hfalse : (false = true) ↔ ∀ q, q < p + 1 → S.testBit q = false := by
        constructor
        · intro x
          exact absurd x (by decide)
        · intro x
          have := x p (by omega)
          rw [c] at this
          exact absurd this (by decide)
      -- from the figure on
      have fig : ∀ (l1 : List Nat) (σ1 : Mem), l1.length + (1 + (if D.testBit p then [63] else ([] : List Nat)).length + (wpg S D d (p + 1) false).length) ≤ 63 → WrA σ1 267 251 27 l1 → MH σ1 n kk h N → ∃ σ', X12_layWritten_b83 K16 (X12_layWritten_l48 K16 m) 251 (nI kk) (nI j) (nI S) (nI p) σ1 = K16 251 (nI kk) (nI (j + 1)) σ' ∧ WrA σ' 267 251 27 (l1 ++ ([48 + p] ++ (if D.testBit p then [63] else []) ++ wpg S D d (p + 1) false)) ∧ Fr12 σ1 σ' := by
        intro l1 σ1 hlen1 hl1 hH1
        obtain ⟨σ2, a1, a2, a3⟩ := wri_s hl1 (by omega) (48 + p)
        have hH2 := hH1.fr a3
        unfold X12_layWritten_b83
        rw [show (48 : Int32) = nI 48 from rfl, nI_add, a1, ob_some, idb_s hn hk hH2.1 hH2.2.1 hN hH2.2.2 hD p (by omega), ob_some]
        cases cd : D.testBit p with
        | true =>
          rw [cd] at hlen1
          rw [if_pos rfl, if_neg (show ¬ (1 : Int32) = 0 by decide), if_pos rfl]
          have hlen2 : l1.length + (1 + 1 + (wpg S D d (p + 1) false).length) ≤ 63 := hlen1
          obtain ⟨σ3, b1, b2, b3⟩ := wri_s a2 (by rw [List.length_append]; show l1.length + 1 < 64; omega) 63
          obtain ⟨σ', q1, q2, q3⟩ := ih (p + 1) m false (l1 ++ [48 + p] ++ [63]) σ3 (by omega) (by omega) b2 (by rw [List.length_append, List.length_append]; show l1.length + 1 + 1 + _ ≤ 63; omega) (hH2.fr b3) hfalse
          refine ⟨σ', ?_, by simpa [List.append_assoc] using q2, (a3.tr b3).tr q3⟩
          rw [show X12_writes 251 63 σ2 = some σ3 from b1, ob_some]
          unfold X12_layWritten_b108
          rw [nI_1]
          exact q1
        | false =>
          rw [cd] at hlen1
          rw [if_neg (show ¬ false = true by decide), if_pos (show (0 : Int32) = 0 from rfl), if_neg (show ¬ false = true by decide)]
          have hlen2 : l1.length + (1 + 0 + (wpg S D d (p + 1) false).length) ≤ 63 := hlen1
          obtain ⟨σ', q1, q2, q3⟩ := ih (p + 1) m false (l1 ++ [48 + p]) σ2 (by omega) (by omega) a2 (by rw [List.length_append]; show l1.length + 1 + _ ≤ 63; omega) hH2 hfalse
          refine ⟨σ', ?_, by simpa [List.append_assoc] using q2, a3.tr q3⟩
          unfold X12_layWritten_b108
          rw [nI_1]
          exact q1
      have hS0 : S ≠ 0 := fun q => by
        rw [q, Nat.zero_testBit] at c
        exact absurd c (by decide)
      obtain ⟨f, hlow⟩ := low_ex hS0
      have hf10 := low_lt hS hlow
      have hfp := low_le hlow c
      rw [first_s hS hlow, ob_some]
      cases cf : fst with
      | true =>
        rw [cf] at hlen
        have hpf : p ≤ f := by
          rcases Nat.lt_or_ge f p with e | e
          · have := (hf.mp cf) f e
            rw [hlow.1] at this
            exact absurd this (by decide)
          · exact e
        have hlen2 : l.length + (0 + 1 + (if D.testBit p then [63] else ([] : List Nat)).length + (wpg S D d (p + 1) false).length) ≤ 63 := hlen
        obtain ⟨σ', q1, q2, q3⟩ := fig l σ (by omega) hl hH
        refine ⟨σ', ?_, by simpa [List.append_assoc] using q2, q3⟩
        rw [if_pos (nI_le hpf (by omega))]
        exact q1
      | false =>
        rw [cf] at hlen
        have hpf : f < p := by
          rcases Nat.lt_or_ge f p with e | e
          · exact e
          · have : fst = true := hf.mpr (fun q hq => hlow.2 q (by omega))
            rw [cf] at this
            exact absurd this (by decide)
        have hlen2 : l.length + (1 + 1 + (if D.testBit p then [63] else ([] : List Nat)).length + (wpg S D d (p + 1) false).length) ≤ 63 := hlen
        obtain ⟨σ1, a1, a2, a3⟩ := wri_s hl (by omega) 44
        obtain ⟨σ', q1, q2, q3⟩ := fig (l ++ [44]) σ1 (by rw [List.length_append]; show l.length + 1 + _ ≤ 63; omega) a2 (hH.fr a3)
        refine ⟨σ', ?_, by simpa [List.append_assoc] using q2, a3.tr q3⟩
        rw [if_neg (show ¬ nI p ≤ nI f by rw [nI_le_iff (by omega) (by omega)]; omega), show X12_writes 251 44 σ = some σ1 from a1, ob_some]
        exact q1
theorem mwhd_l (hn : n ≤ 10) (hk : kk ≤ 10) (hN : ∀ p, p < 10 → N p < 2 ^ 10) (hD : Dbt (nrT N) n kk h D) : ∀ (d j m : Nat) (l : List Nat) (σ : Mem), j + d = kk → d < m → WrA σ 267 251 27 l → l.length + (whd n D (fun j => msk (fun q => decide (h q = j)) n) d j).length ≤ 63 → MH σ n kk h N → ∃ σ', X12_layWritten_l16 m 251 (nI kk) (nI j) σ = ob (X12_writes 251 47 σ') (fun σ2 => ob2 (X12_layRuns 251 σ2) (fun r3 σ4 => X12_layWritten_l133 FU 251 r3 1 σ4)) ∧ WrA σ' 267 251 27 (l ++ whd n D (fun j => msk (fun q => decide (h q = j)) n) d j) ∧ Fr12 σ σ' := by
  intro d
  induction d with
  | zero =>
    intro j m l σ hj hm hl hlen hH
    obtain ⟨m, rfl⟩ : ∃ m', m = m' + 1 := ⟨m - 1, by omega⟩
    obtain rfl : j = kk := by omega
    refine ⟨σ, ?_, by show WrA σ 267 251 27 (l ++ []); rw [List.append_nil]; exact hl, Fr12.rf σ⟩
    show X12_layWritten_b16 _ 251 (nI j) (nI j) σ = _
    unfold X12_layWritten_b16
    rw [if_pos (nI_le (by omega) (by omega))]
  | succ d ih =>
    intro j m l σ hj hm hl hlen hH
    obtain ⟨m, rfl⟩ : ∃ m', m = m' + 1 := ⟨m - 1, by omega⟩
    have hw : whd n D (fun j => msk (fun q => decide (h q = j)) n) (d + 1) j = (if j = 0 then [] else [59]) ++ [65 + j] ++ wpg (msk (fun q => decide (h q = j)) n) D n 0 true ++ whd n D (fun j => msk (fun q => decide (h q = j)) n) d (j + 1) := rfl
    rw [hw] at hlen ⊢
    simp only [List.length_append, List.length_cons, List.length_nil] at hlen
    have hlt : msk (fun q => decide (h q = j)) n < 2 ^ 10 := Nat.lt_of_lt_of_le (msk_lt _ n) (Nat.pow_le_pow_right (by omega) hn)
    have fig : ∀ (l1 : List Nat) (σ1 : Mem), l1.length + (1 + (wpg (msk (fun q => decide (h q = j)) n) D n 0 true).length + (whd n D (fun j => msk (fun q => decide (h q = j)) n) d (j + 1)).length) ≤ 63 → WrA σ1 267 251 27 l1 → MH σ1 n kk h N → ∃ σ', X12_layWritten_b31 (X12_layWritten_l16 m) 251 (nI kk) (nI j) σ1 = ob (X12_writes 251 47 σ') (fun σ2 => ob2 (X12_layRuns 251 σ2) (fun r3 σ4 => X12_layWritten_l133 FU 251 r3 1 σ4)) ∧ WrA σ' 267 251 27 (l1 ++ ([65 + j] ++ wpg (msk (fun q => decide (h q = j)) n) D n 0 true ++ whd n D (fun j => msk (fun q => decide (h q = j)) n) d (j + 1))) ∧ Fr12 σ1 σ' := by
      intro l1 σ1 hlen1 hl1 hH1
      obtain ⟨σ2, a1, a2, a3⟩ := wri_s hl1 (by omega) (65 + j)
      have hH2 := hH1.fr a3
      obtain ⟨σ3, b1, b2, b3⟩ := mwpg_l hn hk hN hD hlt (X12_layWritten_l16 m) j (by omega) n 0 FU true (l1 ++ [65 + j]) σ2 (by omega) (by unfold FU; omega) a2 (by rw [List.length_append]; show l1.length + 1 + _ ≤ 63; omega) hH2 ⟨fun _ q hq => by omega, fun _ => rfl⟩
      obtain ⟨σ', q1, q2, q3⟩ := ih (j + 1) m (l1 ++ [65 + j] ++ wpg (msk (fun q => decide (h q = j)) n) D n 0 true) σ3 (by omega) (by omega) b2 (by rw [List.length_append, List.length_append]; show l1.length + 1 + _ + _ ≤ 63; omega) (hH2.fr b3)
      refine ⟨σ', ?_, by simpa [List.append_assoc] using q2, (a3.tr b3).tr q3⟩
      unfold X12_layWritten_b31
      rw [show (65 : Int32) = nI 65 from rfl, nI_add, a1, ob_some, pagesOf_s hn hH2.1 hH2.2.1 j (by omega), ob_some]
      rw [show X12_layWritten_l48 (X12_layWritten_l16 m) FU 251 (nI kk) (nI j) (nI (msk (fun q => decide (h q = j)) n)) 0 σ2 = _ from b1]
      exact q1
    show ∃ σ', X12_layWritten_b16 _ 251 (nI kk) (nI j) σ = _ ∧ _
    unfold X12_layWritten_b16
    rw [if_neg (show ¬ nI kk ≤ nI j by rw [nI_le_iff (by omega) (by omega)]; omega)]
    by_cases c : j = 0
    · rw [if_pos c] at hlen ⊢
      rw [if_pos (show nI j ≤ 0 by rw [c]; decide)]
      have hlen2 : l.length + (0 + 1 + (wpg (msk (fun q => decide (h q = j)) n) D n 0 true).length + (whd n D (fun j => msk (fun q => decide (h q = j)) n) d (j + 1)).length) ≤ 63 := hlen
      obtain ⟨σ', q1, q2, q3⟩ := fig l σ (by omega) hl hH
      exact ⟨σ', q1, by simpa [List.append_assoc] using q2, q3⟩
    · rw [if_neg c] at hlen ⊢
      rw [if_neg (show ¬ nI j ≤ 0 by rw [show (0 : Int32) = nI 0 from rfl, nI_le_iff (by omega) (by omega)]; omega)]
      have hlen2 : l.length + (1 + 1 + (wpg (msk (fun q => decide (h q = j)) n) D n 0 true).length + (whd n D (fun j => msk (fun q => decide (h q = j)) n) d (j + 1)).length) ≤ 63 := hlen
      obtain ⟨σ1, a1, a2, a3⟩ := wri_s hl (by omega) 59
      obtain ⟨σ', q1, q2, q3⟩ := fig (l ++ [59]) σ1 (by rw [List.length_append]; show l.length + 1 + _ ≤ 63; omega) a2 (hH.fr a3)
      refine ⟨σ', ?_, by simpa [List.append_assoc] using q2, a3.tr q3⟩
      rw [show X12_writes 251 59 σ = some σ1 from a1, ob_some]
      exact q1
theorem mwrn_l {many : Nat} (hm10 : many ≤ 10) {F : Nat → Nat} : ∀ (d i m : Nat) (l : List Nat) (σ : Mem), (i + d = many ∨ (d = 0 ∧ many ≤ i)) → i ≤ 10 → 1 ≤ i → d < m → WrA σ 267 251 27 l → l.length + (wrn F d i).length ≤ 63 → (∀ t, 1 ≤ t → t < many → σ 266 t = nI (F t)) → ∃ σ', X12_layWritten_l133 m 251 (nI many) (nI i) σ = some σ' ∧ WrA σ' 267 251 27 (l ++ wrn F d i) ∧ Fr12 σ σ' := by
  intro d
  induction d with
  | zero =>
    intro i m l σ hi hi10 hi1 hm hl hlen hF
    obtain ⟨m, rfl⟩ : ∃ m', m = m' + 1 := ⟨m - 1, by omega⟩
    refine ⟨σ, ?_, by show WrA σ 267 251 27 (l ++ []); rw [List.append_nil]; exact hl, Fr12.rf σ⟩
    show X12_layWritten_b133 _ 251 (nI many) (nI i) σ = _
    unfold X12_layWritten_b133
    rw [if_pos (nI_le (by omega) (by omega))]
  | succ d ih =>
    intro i m l σ hi hi10 hi1 hm hl hlen hF
    obtain ⟨m, rfl⟩ : ∃ m', m = m' + 1 := ⟨m - 1, by omega⟩
    have hw : wrn F (d + 1) i = (if i ≤ 1 then [] else [44]) ++ [48 + F i] ++ wrn F d (i + 1) := rfl
    rw [hw] at hlen ⊢
    simp only [List.length_append, List.length_cons, List.length_nil] at hlen
    have fig : ∀ (l1 : List Nat) (σ1 : Mem), l1.length + (1 + (wrn F d (i + 1)).length) ≤ 63 → WrA σ1 267 251 27 l1 → Fr12 σ σ1 → ∃ σ', X12_layWritten_b149 (X12_layWritten_l133 m) 251 (nI many) (nI i) σ1 = some σ' ∧ WrA σ' 267 251 27 (l1 ++ ([48 + F i] ++ wrn F d (i + 1))) ∧ Fr12 σ1 σ' := by
      intro l1 σ1 hlen1 hl1 hfr
      obtain ⟨σ2, a1, a2, a3⟩ := wri_s hl1 (by omega) (48 + F i)
      have f2 := hfr.tr a3
      obtain ⟨σ', q1, q2, q3⟩ := ih (i + 1) m (l1 ++ [48 + F i]) σ2 (by omega) (by omega) (by omega) (by omega) a2 (by rw [List.length_append]; show l1.length + 1 + _ ≤ 63; omega) (fun t h1 h2 => by rw [f2.1 266 (by omega) (by omega)]; exact hF t h1 h2)
      refine ⟨σ', ?_, by simpa [List.append_assoc] using q2, a3.tr q3⟩
      unfold X12_layWritten_b149
      rw [gdx_n (by omega) (by omega), nc_n (by omega), show σ1 (251 + 15) i = nI (F i) from (congrFun (hfr.1 266 (by omega) (by omega)) i).trans (hF i hi1 (by omega)), show (48 : Int32) = nI 48 from rfl, nI_add, a1, ob_some, nI_1]
      exact q1
    show ∃ σ', X12_layWritten_b133 _ 251 (nI many) (nI i) σ = _ ∧ _
    unfold X12_layWritten_b133
    rw [if_neg (show ¬ nI many ≤ nI i by rw [nI_le_iff (by omega) (by omega)]; omega)]
    by_cases c : i ≤ 1
    · rw [if_pos c] at hlen ⊢
      rw [if_pos (show nI i ≤ 1 from nI_le (b := 1) c (by omega))]
      have hlen2 : l.length + (0 + 1 + (wrn F d (i + 1)).length) ≤ 63 := hlen
      obtain ⟨σ', q1, q2, q3⟩ := fig l σ (by omega) hl (Fr12.rf σ)
      exact ⟨σ', q1, by simpa [List.append_assoc] using q2, q3⟩
    · rw [if_neg c] at hlen ⊢
      rw [if_neg (show ¬ nI i ≤ 1 by rw [show (1 : Int32) = nI 1 from rfl, nI_le_iff (by omega) (by omega)]; omega)]
      have hlen2 : l.length + (1 + 1 + (wrn F d (i + 1)).length) ≤ 63 := hlen
      obtain ⟨σ1, a1, a2, a3⟩ := wri_s hl (by omega) 44
      obtain ⟨σ', q1, q2, q3⟩ := fig (l ++ [44]) σ1 (by rw [List.length_append]; show l.length + 1 + _ ≤ 63; omega) a2 a3
      refine ⟨σ', ?_, by simpa [List.append_assoc] using q2, a3.tr q3⟩
      rw [show X12_writes 251 44 σ = some σ1 from a1, ob_some]
      exact q1
end
theorem Dbt_nr {nr nr' : Nat → Nat → Prop} {n kk : Nat} {h : Nat → Nat} {D : Nat} (e : ∀ p q, p < n → q < n → (nr p q ↔ nr' p q)) (a : Dbt nr n kk h D) : Dbt nr' n kk h D := by
  refine ⟨a.1, fun p => ?_⟩
  rw [a.2]
  constructor
  · rintro ⟨h1, j, h2, h3, h4⟩
    exact ⟨h1, j, h2, h3, fun q hq hj => (e p q h1 hq).mp (h4 q hq hj)⟩
  · rintro ⟨h1, j, h2, h3, h4⟩
    exact ⟨h1, j, h2, h3, fun q hq hj => (e p q h1 hq).mpr (h4 q hq hj)⟩
theorem nrNM (g : Nat → Nat → Nat) (n L : Nat) (p q : Nat) (hp : p < n) (hq : q < n) : nrT (nrM g n L) p q ↔ nrT (nrN g n L) p q := by
  unfold nrT nrN
  rw [if_pos hp]
theorem cn_ten {n M : Nat} (hn : n ≤ 10) (hn0 : 0 < n) : cn n M n + 1 ≤ n := by
  have h7 : cn n M n = cn n M (n - 1) := by
    have h8 : cn n M (n - 1 + 1) = cn n M (n - 1) + (if cutb n M (n - 1 + 1) then 1 else 0) := rfl
    have h9 : cutb n M n = false := by
      unfold cutb
      rw [show decide (n < n) = false from decide_eq_false (Nat.lt_irrefl _)]
      simp
    rw [show n - 1 + 1 = n by omega, h9] at h8
    simpa using h8
  have := cn_le n M (n - 1)
  omega
/-- the model's signs of a book that has pages -/
theorem mwr_s {B : Nat → Nat} (ho : okB B) (hn0 : 0 < B 0) {σ : Mem} (hR : RwB (σ 255) 0 B) {kk : Nat} {h : Nat → Nat} {D M : Nat} (H : HOK (nrT (nrM (far B) (B 0) (B 1))) (B 0) kk h) (hD : Dbt (nrT (nrM (far B) (B 0) (B 1))) (B 0) kk h D) (hM : OptM (wdf (far B) (B 0)) (B 2) (B 0) (B 0 - 1) M) : ∃ σ', X12_layWritten 251 σ = some σ' ∧ WrA σ' 267 251 27 (wall (B 0) kk D (fun j => msk (fun q => decide (h q = j)) (B 0)) (cn (B 0) M (B 0) + 1) (fps (B 0) M (B 0))) ∧ (∀ q, q ≠ 251 → (q < 261 ∨ 268 ≤ q) → σ' q = σ q) ∧ ∀ j, j ≠ 25 → j ≠ 27 → σ' 251 j = σ 251 j := by
  have hn := ho.1
  have hl := ho.2.1
  have hrf : ∀ p, p < B 0 → nrT (nrM (far B) (B 0) (B 1)) p p := nrM_rf (far_self B)
  have hkk := hands_le hrf H
  obtain ⟨σ1, kk', h', a1, a2, a3, a4, a5⟩ := hands_s (k1 := 255) (by omega) ho hn0 (B 1) (by omega) σ hR (hR 1 (by omega))
  obtain ⟨u1, u2⟩ := HOK_uniq a2 H
  subst u1
  have hhp : ∀ p, p < B 0 → h p < 2 ^ 31 := fun p hp => by have := H.1.1.1 p hp; omega
  have hMH : MH (wr σ1 251 27 0) (B 0) kk' h (nrN (far B) (B 0) (B 1)) := ⟨by rw [wr_off _ _ _ (by omega), a5 255 (by omega)]; exact hR 0 (by omega), fun p hp => ⟨by rw [wr_off _ _ _ (by omega), a3 p hp, u2 p hp], hhp p hp⟩, fun p hp => by rw [wr_off _ _ _ (by omega)]; exact a4 p hp⟩
  have hDN := Dbt_nr (nrNM (far B) (B 0) (B 1)) hD
  have hcn2 : cn (B 0) M (B 0) + 1 ≤ 10 := by have := cn_ten (M := M) hn hn0; omega
  have hlen := wall_len hn hrf H D (cn (B 0) M (B 0) + 1) (fps (B 0) M (B 0)) hcn2
  unfold wall at hlen ⊢
  simp only [List.length_append, List.length_cons, List.length_nil] at hlen
  have w0 : WrA (wr σ1 251 27 0) 267 251 27 [] := ⟨wr_at _ _ _ _, fun i hi => absurd hi (Nat.not_lt_zero i)⟩
  obtain ⟨σ2, b1, b2, b3⟩ := mwhd_l (n := B 0) (kk := kk') (D := D) hn (by omega) (fun p hp => nrN_lt (far B) hn hp) hDN kk' 0 FU [] (wr σ1 251 27 0) (by omega) (by unfold FU; omega) w0 (by show 0 + _ ≤ 63; omega) hMH
  rw [List.nil_append] at b2
  obtain ⟨σ3, c1, c2, c3⟩ := wri_s b2 (by omega) 47
  have f3 := b3.tr c3
  have hR3 : RwB (σ3 255) 0 B := by
    rw [f3.1 255 (by omega) (by omega), wr_off _ _ _ (by omega), a5 255 (by omega)]
    exact hR
  obtain ⟨σ4, M', d1, d2, d3, d4, d5, d6, d7⟩ := mruns_s hR3 ho hn0
  have eM := OptM_uniq d2 hM
  subst eM
  have w4 : WrA σ4 267 251 27 (whd (B 0) D (fun j => msk (fun q => decide (h q = j)) (B 0)) kk' 0 ++ [47]) := ⟨by rw [d7 27 (by omega)]; exact c2.1, fun i hi => by rw [d6 267 (by omega) (by omega)]; exact c2.2 i hi⟩
  obtain ⟨σ5, e1, e2, e3⟩ := mwrn_l (many := cn (B 0) M' (B 0) + 1) hcn2 (F := fps (B 0) M' (B 0)) (cn (B 0) M' (B 0) + 1 - 1) 1 FU _ σ4 (by omega) (by omega) (by omega) (by unfold FU; omega) w4 (by rw [List.length_append]; show (whd (B 0) D (fun j => msk (fun q => decide (h q = j)) (B 0)) kk' 0).length + 1 + _ ≤ 63; omega) (fun t h1 h2 => Beg_F d4 t h1 (by omega))
  refine ⟨σ5, ?_, e2, fun q x1 x2 => by rw [e3.1 q (by omega) x1, d6 q x1 (by omega), f3.1 q (by omega) x1, wr_off _ _ _ x1, a5 q (by omega)], fun j x1 x2 => by rw [e3.2 j x2, d7 j x1, f3.2 j x2, wr_in _ _ x2, a5 251 (by omega)]⟩
  unfold X12_layWritten X12_layWritten_b0
  rw [show X12_layHands 251 (251 + 4) σ = _ from a1, ob2_some, show X12_layWritten_l16 FU 251 (nI kk') 0 (wr σ1 251 27 0) = _ from b1, show X12_writes 251 47 σ2 = some σ3 from c1, ob_some, d1, ob2_some]
  exact e1
