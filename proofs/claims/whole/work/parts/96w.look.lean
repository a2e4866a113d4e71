/-! PURE: what the class finds when it looks. -/
theorem whd_l {n D kk : Nat} (hn : n ≤ 10) (hk : kk ≤ 10) (hD : D < 2 ^ 31) {S : Nat → Nat} (hS : ∀ j, j < kk → S j < 2 ^ 31) : ∀ (d j m : Nat) (l : List Nat) (σ : Mem), j + d = kk → d < m → WrA σ 210 175 7 l → l.length + (whd n D S d j).length ≤ 63 → σ 175 5 = nI D → σ 176 3 = nI kk → (∀ i, i < kk → σ 191 i = nI (S i)) → ∃ σ', X4_write_l7 m 175 (nI n) (nI j) σ = ob (X4_add 175 47 σ') (fun σ2 => X4_write_l64 FU 175 1 σ2) ∧ WrA σ' 210 175 7 (l ++ whd n D S d j) ∧ Fr4 σ σ' := by
  intro d
  induction d with
  | zero =>
    intro j m l σ hj hm hl hlen h5 h3 hp
    obtain ⟨m, rfl⟩ : ∃ m', m = m' + 1 := ⟨m - 1, by omega⟩
    obtain rfl : j = kk := by omega
    refine ⟨σ, ?_, by show WrA σ 210 175 7 (l ++ []); rw [List.append_nil]; exact hl, Fr4.rf σ⟩
    show X4_write_b7 _ 175 (nI n) (nI j) σ = _
    unfold X4_write_b7
    rw [show σ (175 + 1) 3 = nI j from h3, if_pos (nI_le (by omega) (by omega))]
  | succ d ih =>
    intro j m l σ hj hm hl hlen h5 h3 hp
    obtain ⟨m, rfl⟩ : ∃ m', m = m' + 1 := ⟨m - 1, by omega⟩
    have hw : whd n D S (d + 1) j = (if j = 0 then [] else [59]) ++ [65 + j] ++ wpg (S j) D n 0 true ++ whd n D S d (j + 1) := rfl
    rw [hw] at hlen ⊢
    simp only [List.length_append, List.length_cons, List.length_nil] at hlen
    have fig : ∀ (l1 : List Nat) (σ1 : Mem), l1.length + (1 + (wpg (S j) D n 0 true).length + (whd n D S d (j + 1)).length) ≤ 63 → WrA σ1 210 175 7 l1 → Fr4 σ σ1 → ∃ σ', X4_write_b28 (X4_write_l7 m) 175 (nI n) (nI j) σ1 = ob (X4_add 175 47 σ') (fun σ2 => X4_write_l64 FU 175 1 σ2) ∧ WrA σ' 210 175 7 (l1 ++ ([65 + j] ++ wpg (S j) D n 0 true ++ whd n D S d (j + 1))) ∧ Fr4 σ1 σ' := by
      intro l1 σ1 hlen1 hl1 hfr
      obtain ⟨σ2, a1, a2, a3⟩ := add4_s hl1 (by omega) (65 + j)
      have f2 := hfr.tr a3
      obtain ⟨σ3, b1, b2, b3⟩ := wpg_l (n := n) (S := S j) (D := D) hn (hS j (by omega)) hD n 0 FU true (l1 ++ [65 + j]) σ2 (by omega) (by unfold FU; omega) a2 (by rw [List.length_append]; show l1.length + 1 + _ ≤ 63; omega) (by rw [f2.2 5 (by omega)]; exact h5)
      have f3 := f2.tr b3
      obtain ⟨σ', q1, q2, q3⟩ := ih (j + 1) m (l1 ++ [65 + j] ++ wpg (S j) D n 0 true) σ3 (by omega) (by omega) b2 (by rw [List.length_append, List.length_append]; show l1.length + 1 + _ + _ ≤ 63; omega) (by rw [f3.2 5 (by omega)]; exact h5) (by rw [f3.1 176 (by omega) (by omega)]; exact h3) (fun i hi => by rw [f3.1 191 (by omega) (by omega)]; exact hp i hi)
      refine ⟨σ', ?_, by simpa [List.append_assoc] using q2, (a3.tr b3).tr q3⟩
      unfold X4_write_b28 X4_writePages X4_writePages_b0
      rw [show (65 : Int32) = nI 65 from rfl, nI_add, a1, ob_some, gdx_n (by omega) (by omega), nc_n (by omega), show σ2 (175 + 1 + 15) j = nI (S j) from (congrFun (f2.1 191 (by omega) (by omega)) j).trans (hp j (by omega))]
      rw [show X4_writePages_l5 FU 175 (nI n) (nI (S j)) 1 0 σ2 = some σ3 from b1, ob_some, nI_1]
      exact q1
    show ∃ σ', X4_write_b7 _ 175 (nI n) (nI j) σ = _ ∧ _
    unfold X4_write_b7
    rw [show σ (175 + 1) 3 = nI kk from h3, if_neg (show ¬ nI kk ≤ nI j by rw [nI_le_iff (by omega) (by omega)]; omega)]
    by_cases c : j = 0
    · rw [if_pos c] at hlen ⊢
      rw [if_pos (show nI j ≤ 0 by rw [c]; decide)]
      have hlen2 : l.length + (0 + 1 + (wpg (S j) D n 0 true).length + (whd n D S d (j + 1)).length) ≤ 63 := hlen
      obtain ⟨σ', q1, q2, q3⟩ := fig l σ (by omega) hl (Fr4.rf σ)
      exact ⟨σ', q1, by simpa [List.append_assoc] using q2, q3⟩
    · rw [if_neg c] at hlen ⊢
      rw [if_neg (show ¬ nI j ≤ 0 by rw [show (0 : Int32) = nI 0 from rfl, nI_le_iff (by omega) (by omega)]; omega)]
      have hlen2 : l.length + (1 + 1 + (wpg (S j) D n 0 true).length + (whd n D S d (j + 1)).length) ≤ 63 := hlen
      obtain ⟨σ1, a1, a2, a3⟩ := add4_s hl (by omega) 59
      obtain ⟨σ', q1, q2, q3⟩ := fig (l ++ [59]) σ1 (by rw [List.length_append]; show l.length + 1 + _ ≤ 63; omega) a2 a3
      refine ⟨σ', ?_, by simpa [List.append_assoc] using q2, a3.tr q3⟩
      rw [show X4_add 175 59 σ = some σ1 from a1, ob_some]
      exact q1
theorem wrn_l {many : Nat} (hm10 : many ≤ 10) {F : Nat → Nat} : ∀ (d i m : Nat) (l : List Nat) (σ : Mem), (i + d = many ∨ (d = 0 ∧ many ≤ i)) → i ≤ 10 → 1 ≤ i → d < m → WrA σ 210 175 7 l → l.length + (wrn F d i).length ≤ 63 → σ 192 5 = nI many → (∀ t, 1 ≤ t → t < many → σ 196 t = nI (F t)) → ∃ σ', X4_write_l64 m 175 (nI i) σ = some σ' ∧ WrA σ' 210 175 7 (l ++ wrn F d i) ∧ Fr4 σ σ' := by
  intro d
  induction d with
  | zero =>
    intro i m l σ hi hi10 hi1 hm hl hlen h5 hF
    obtain ⟨m, rfl⟩ : ∃ m', m = m' + 1 := ⟨m - 1, by omega⟩
    refine ⟨σ, ?_, by show WrA σ 210 175 7 (l ++ []); rw [List.append_nil]; exact hl, Fr4.rf σ⟩
    show X4_write_b64 _ 175 (nI i) σ = _
    unfold X4_write_b64
    rw [show σ (175 + 17) 5 = nI many from h5, if_pos (nI_le (by omega) (by omega))]
  | succ d ih =>
    intro i m l σ hi hi10 hi1 hm hl hlen h5 hF
    obtain ⟨m, rfl⟩ : ∃ m', m = m' + 1 := ⟨m - 1, by omega⟩
    have hw : wrn F (d + 1) i = (if i ≤ 1 then [] else [44]) ++ [48 + F i] ++ wrn F d (i + 1) := rfl
    rw [hw] at hlen ⊢
    simp only [List.length_append, List.length_cons, List.length_nil] at hlen
    have fig : ∀ (l1 : List Nat) (σ1 : Mem), l1.length + (1 + (wrn F d (i + 1)).length) ≤ 63 → WrA σ1 210 175 7 l1 → Fr4 σ σ1 → ∃ σ', X4_write_b86 (X4_write_l64 m) 175 (nI i) σ1 = some σ' ∧ WrA σ' 210 175 7 (l1 ++ ([48 + F i] ++ wrn F d (i + 1))) ∧ Fr4 σ1 σ' := by
      intro l1 σ1 hlen1 hl1 hfr
      obtain ⟨σ2, a1, a2, a3⟩ := add4_s hl1 (by omega) (48 + F i)
      have f2 := hfr.tr a3
      obtain ⟨σ', q1, q2, q3⟩ := ih (i + 1) m (l1 ++ [48 + F i]) σ2 (by omega) (by omega) (by omega) (by omega) a2 (by rw [List.length_append]; show l1.length + 1 + _ ≤ 63; omega) (by rw [f2.1 192 (by omega) (by omega)]; exact h5) (fun t h1 h2 => by rw [f2.1 196 (by omega) (by omega)]; exact hF t h1 h2)
      refine ⟨σ', ?_, by simpa [List.append_assoc] using q2, a3.tr q3⟩
      unfold X4_write_b86 X4_addNumber X4_addNumber_b0
      rw [gdx_n (by omega) (by omega), nc_n (by omega), show σ1 (175 + 17 + 4) i = nI (F i) from (congrFun (hfr.1 196 (by omega) (by omega)) i).trans (hF i hi1 (by omega)), show (48 : Int32) = nI 48 from rfl, nI_add, a1, ob_some, ob_some, nI_1]
      exact q1
    show ∃ σ', X4_write_b64 _ 175 (nI i) σ = _ ∧ _
    unfold X4_write_b64
    rw [show σ (175 + 17) 5 = nI many from h5, if_neg (show ¬ nI many ≤ nI i by rw [nI_le_iff (by omega) (by omega)]; omega)]
    by_cases c : i ≤ 1
    · rw [if_pos c] at hlen ⊢
      rw [if_pos (show nI i ≤ 1 from nI_le (b := 1) c (by omega))]
      have hlen2 : l.length + (0 + 1 + (wrn F d (i + 1)).length) ≤ 63 := hlen
      obtain ⟨σ', q1, q2, q3⟩ := fig l σ (by omega) hl (Fr4.rf σ)
      exact ⟨σ', q1, by simpa [List.append_assoc] using q2, q3⟩
    · rw [if_neg c] at hlen ⊢
      rw [if_neg (show ¬ nI i ≤ 1 by rw [show (1 : Int32) = nI 1 from rfl, nI_le_iff (by omega) (by omega)]; omega)]
      have hlen2 : l.length + (1 + 1 + (wrn F d (i + 1)).length) ≤ 63 := hlen
      obtain ⟨σ1, a1, a2, a3⟩ := add4_s hl (by omega) 44
      obtain ⟨σ', q1, q2, q3⟩ := fig (l ++ [44]) σ1 (by rw [List.length_append]; show l.length + 1 + _ ≤ 63; omega) a2 a3
      refine ⟨σ', ?_, by simpa [List.append_assoc] using q2, a3.tr q3⟩
      rw [show X4_add 175 44 σ = some σ1 from a1, ob_some]
      exact q1
theorem write4_s {n kk D many : Nat} (hn : n ≤ 10) (hk : kk ≤ 10) (hD : D < 2 ^ 31) (hm : many ≤ 10) {S F : Nat → Nat} (hS : ∀ j, j < kk → S j < 2 ^ 31) (hlen : (wall n kk D S many F).length ≤ 63) (σ : Mem) (h5 : σ 175 5 = nI D) (h3 : σ 176 3 = nI kk) (hp : ∀ i, i < kk → σ 191 i = nI (S i)) (hr : σ 192 5 = nI many) (hF : ∀ t, 1 ≤ t → t < many → σ 196 t = nI (F t)) : ∃ σ', X4_write 175 (nI n) σ = some σ' ∧ WrA σ' 210 175 7 (wall n kk D S many F) ∧ Fr4 σ σ' := by
  have f0 : Fr4 σ (wr σ 175 7 0) := ⟨fun q a b => wr_off _ _ _ b, fun j hj => wr_in _ _ hj⟩
  have w0 : WrA (wr σ 175 7 0) 210 175 7 [] := ⟨wr_at _ _ _ _, fun i hi => absurd hi (Nat.not_lt_zero i)⟩
  unfold wall at hlen ⊢
  simp only [List.length_append, List.length_cons, List.length_nil] at hlen
  obtain ⟨σ1, a1, a2, a3⟩ := whd_l (n := n) (D := D) hn hk hD hS kk 0 FU [] (wr σ 175 7 0) (by omega) (by unfold FU; omega) w0 (by show 0 + _ ≤ 63; omega) (by rw [f0.2 5 (by omega)]; exact h5) (by rw [f0.1 176 (by omega) (by omega)]; exact h3) (fun i hi => by rw [f0.1 191 (by omega) (by omega)]; exact hp i hi)
  rw [List.nil_append] at a2
  obtain ⟨σ2, b1, b2, b3⟩ := add4_s a2 (by omega) 47
  have f2 := (f0.tr a3).tr b3
  obtain ⟨σ', q1, q2, q3⟩ := wrn_l (many := many) hm (F := F) (many - 1) 1 FU (whd n D S kk 0 ++ [47]) σ2 (by omega) (by omega) (by omega) (by unfold FU; omega) b2 (by rw [List.length_append]; show (whd n D S kk 0).length + 1 + _ ≤ 63; omega) (by rw [f2.1 192 (by omega) (by omega)]; exact hr) (fun t h1 h2 => by rw [f2.1 196 (by omega) (by omega)]; exact hF t h1 h2)
  refine ⟨σ', ?_, q2, f2.tr q3⟩
  unfold X4_write X4_write_b0
  rw [show X4_write_l7 FU 175 (nI n) 0 (wr σ 175 7 0) = _ from a1, show X4_add 175 47 σ1 = some σ2 from b1, ob_some]
  exact q1
/-- the place of run i -/
def fps (n M : Nat) : Nat → Nat → Nat
  | 0, _ => 0
  | v + 1, i => if cutb n M (v + 1) && decide (cn n M (v + 1) = i) then v + 1 else fps n M v i
theorem fps_s {n M u : Nat} (h0 : 0 < u) (h : cutb n M u = true) : ∀ v, u ≤ v → fps n M v (cn n M u) = u := by
  intro v
  induction v with
  | zero => intro hu; omega
  | succ v ih =>
    intro hu
    show (if cutb n M (v + 1) && decide (cn n M (v + 1) = cn n M u) then v + 1 else fps n M v (cn n M u)) = u
    by_cases c : u = v + 1
    · rw [← c, h, show decide (cn n M u = cn n M u) = true from decide_eq_true rfl]
      rfl
    · cases e : cutb n M (v + 1) with
      | false => exact ih (by omega)
      | true =>
        have := (cn_cut (p := u) (show 0 < v + 1 by omega) e).mp (by omega)
        rw [show decide (cn n M (v + 1) = cn n M u) = false from decide_eq_false (by omega)]
        exact ih (by omega)
theorem Beg_F {σ : Mem} {k n M : Nat} (h : Beg σ k n M n) (t : Nat) (h1 : 1 ≤ t) (h2 : t ≤ cn n M n) : σ k t = nI (fps n M n t) := by
  obtain ⟨u, u1, u2, u3, u4⟩ := cn_ex n M n t h1 h2
  have e := h u u2 (Or.inr u3)
  rw [u4] at e
  have e2 := fps_s u1 u3 n u2
  rw [u4] at e2
  rw [e2]
  exact e
/-- all that is found of a book -/
def FOK (σ : Mem) (B : Nat → Nat) : Prop := B 0 ≤ 10 ∧ Gp σ 177 (B 0) (far B) ∧ (∀ p, p < B 0 → σ 189 p = nI (nrM (far B) (B 0) (B 1) p)) ∧ ((B 0 = 0 ∧ σ 176 3 = 0 ∧ σ 192 5 = 0) ∨ (0 < B 0 ∧ ∃ kk h M f m D, HOK (nrT (nrM (far B) (B 0) (B 1))) (B 0) kk h ∧ HSt σ 176 (B 0) h ∧ σ 176 3 = nI kk ∧ OptM (wdf (far B) (B 0)) (B 2) (B 0) (B 0 - 1) M ∧ Rns σ 192 (B 0) M ∧ σ 193 0 = nI (wt (wdf (far B) (B 0)) (B 2) (B 0) (B 0 - 1) M) ∧ ChE (far B) (B 0) (B 1) f m ∧ m ≤ B 0 ∧ (∀ p, p < B 0 → σ 198 p = nI (f m p)) ∧ σ 175 4 = nI (B 0 - m) ∧ Dbt (nrT (nrM (far B) (B 0) (B 1))) (B 0) kk h D ∧ σ 175 5 = nI D ∧ WrA σ 210 175 7 (wall (B 0) kk D (fun j => msk (fun q => decide (h q = j)) (B 0)) (cn (B 0) M (B 0) + 1) (fps (B 0) M (B 0)))))
theorem FOK_loc : Loc FOK := by
  intro σ σ' B e h
  obtain ⟨h0, h1, h2, h3⟩ := h
  refine ⟨h0, ⟨by rw [e 177 (by omega) (by omega)]; exact h1.1, fun x y hx hy => by rw [e (177 + 2 + x) (by omega) (by omega)]; exact h1.2 x y hx hy⟩, by rw [e 189 (by omega) (by omega)]; exact h2, ?_⟩
  · rw [e 176 (by omega) (by omega), e 192 (by omega) (by omega), e 193 (by omega) (by omega), e 198 (by omega) (by omega), e 175 (by omega) (by omega)]
    rcases h3 with h3 | ⟨h3, kk, h, M, f, m, D, a1, a2, a3, a4, a5, a6, a7, a8, a9, a10, a11, a12, a13⟩
    · exact Or.inl h3
    · refine Or.inr ⟨h3, kk, h, M, f, m, D, a1, ⟨by rw [e 190 (by omega) (by omega)]; exact a2.1, by rw [e 191 (by omega) (by omega)]; exact a2.2⟩, a3, a4, ?_, a6, a7, a8, a9, a10, a11, a12, ?_⟩
      · obtain ⟨b1, b2, b3, b4⟩ := a5
        exact ⟨by rw [e 192 (by omega) (by omega)]; exact b1, by rw [e 196 (by omega) (by omega)]; exact b2, by unfold Beg; rw [e 196 (by omega) (by omega)]; exact b3, by rw [e 197 (by omega) (by omega)]; exact b4⟩
      · exact ⟨by rw [e 175 (by omega) (by omega)]; exact a13.1, by rw [e 210 (by omega) (by omega)]; exact a13.2⟩
