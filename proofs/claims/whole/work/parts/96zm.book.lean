/-! PURE: book, whole. -/
section
variable {t : Nat} {b : Nat → Nat}
theorem MT.wF {τ : Mem} {c : Nat} (h : MT b t τ c) (f : Nat → Int32) : MT b t (wrF τ 256 f) c := by
  obtain ⟨h1, h2, h3⟩ := h
  refine ⟨⟨h1.1, by rw [wrF_ne _ _ (by omega)]; exact h1.2.1, fun i hi => by rw [wrF_ne _ _ (by omega)]; exact h1.2.2 i hi⟩, ?_, by rw [wrF_ne _ _ (by omega)]; exact h3⟩
  unfold TK
  rw [wrF_ne _ _ (by omega)]
  exact h2
theorem FrB.wF (τ : Mem) (f : Nat → Int32) : FrB τ (wrF τ 256 f) := ⟨fun q _ y => wrF_ne _ _ y, fun i _ => by rw [wrF_ne _ _ (by omega)]⟩
theorem FrB.rf (τ : Mem) : FrB τ τ := ⟨fun _ _ _ => rfl, fun _ _ => rfl⟩
theorem tk_end {τ : Mem} {c : Nat} (h : TK b t τ c) : τ 251 13 = 1 ↔ c = t := by
  rcases h.2 with ⟨e, _, e1⟩ | ⟨e0, _, _, _, e, _⟩ | ⟨e0, _, _, e⟩ | ⟨e0, _, _, e, _⟩ | ⟨e0, _, _, _, _, _, e⟩
  · exact ⟨fun _ => e, fun _ => e1⟩
  · rw [e]
    exact ⟨fun q => absurd q (by decide), fun q => by omega⟩
  · rcases e with ⟨_, e, _⟩ | ⟨_, e⟩
    · rw [e]
      exact ⟨fun q => absurd q (by decide), fun q => by omega⟩
    · rw [e]
      exact ⟨fun q => absurd q (by decide), fun q => by omega⟩
  · rw [e]
    exact ⟨fun q => absurd q (by decide), fun q => by omega⟩
  · rw [e]
    exact ⟨fun q => absurd q (by decide), fun q => by omega⟩
theorem reads_j : ∀ (d k m m2 : Nat) (σ : Mem) (c : Nat) (Bd : Nat → Nat), k + d = 11 → d < m → d + 1 < m2 → CS t b σ c Bd → Bd 0 = k → okB Bd → c ≤ t → ∃ r σ', X7_reads_l25 m 15 13 (nI k) σ = some (r, σ') ∧ FrR7 σ σ' ∧ ((r = 1 ∧ ∃ B', okB B' ∧ AtB σ' 16 B' ∧ ∀ τ, MT b t τ c → RwB (τ 256) 0 Bd → ∃ τ', X12_book_l101 m2 251 (nI k) τ = X12_book_b136 251 τ' ∧ τ' 251 15 = 0 ∧ RwB (τ' 256) 0 B' ∧ FrB τ τ') ∨ (r = 0 ∧ ∃ n pos, σ' 15 1 = nI pos ∧ σ' 15 2 = nI n ∧ ∀ τ, MT b t τ c → RwB (τ 256) 0 Bd → ∃ τ', X12_book_l101 m2 251 (nI k) τ = X12_book_b136 251 τ' ∧ MF τ' n pos ∧ FrB τ τ')) := by
  intro d
  induction d with
  | zero =>
    intro k m m2 σ c Bd hk hm hm2 h hB ho hc
    have := ho.1
    omega
  | succ d ih =>
    intro k m m2 σ c Bd hk hm hm2 h hB ho hc
    obtain ⟨m, rfl⟩ : ∃ m', m = m' + 1 := ⟨m - 1, by omega⟩
    obtain ⟨m2, rfl⟩ : ∃ m', m2 = m' + 1 + 1 := ⟨m2 - 2, by omega⟩
    obtain ⟨hT, h1, hA⟩ := id h
    have ht := hT.1
    show ∃ r σ', X7_reads_b25 _ 15 13 (nI k) σ = some (r, σ') ∧ _
    unfold X7_reads_b25
    have g10 : ¬ (10 : Int32) < nI k := nI_nlt (a := 10) (b := k) (by omega) (by omega)
    rw [if_neg g10]
    by_cases e : 0 < k ∧ c = t
    · obtain ⟨e1, e2⟩ := e
      rw [if_neg (show ¬ nI k ≤ 0 by rw [show (0 : Int32) = nI 0 from rfl, nI_le_iff (by omega) (by omega)]; omega), h1, hT.2.1, e2, if_pos rfl]
      refine ⟨1, σ, rfl, fun q _ => rfl, Or.inl ⟨rfl, Bd, ho, hA, fun τ hM hR => ⟨τ, ?_, hM.2.2, hR, FrB.rf τ⟩⟩⟩
      show X12_book_b101 _ 251 (nI k) τ = _
      unfold X12_book_b101
      rw [if_neg g10, if_pos hM.2.2, if_neg (nI_ne0 e1 (by omega)), if_pos ((tk_end hM.2.1).mpr rfl)]
    · have hcl : (if nI k ≤ 0 then X7_reads_b48 (X7_reads_l25 m) 15 13 (nI k) σ else if σ 15 1 = σ 13 1 then some (1, σ) else X7_reads_b48 (X7_reads_l25 m) 15 13 (nI k) σ) = X7_reads_b48 (X7_reads_l25 m) 15 13 (nI k) σ := by
        by_cases e1 : 0 < k
        · rw [if_neg (show ¬ nI k ≤ 0 by rw [show (0 : Int32) = nI 0 from rfl, nI_le_iff (by omega) (by omega)]; omega), h1, hT.2.1, if_neg (show ¬ nI c = nI t by rw [nI_inj (by omega) (by omega)]; omega)]
        · rw [if_pos (show nI k ≤ 0 by rw [show (0 : Int32) = nI 0 from rfl, nI_le_iff (by omega) (by omega)]; omega)]
      rw [hcl]
      have hml : ∀ τ, MT b t τ c → X12_book_l101 (m2 + 1 + 1) 251 (nI k) τ = ob (X12_readPage 251 τ) (fun σ1 => X12_book_l101 (m2 + 1) 251 (nI (k + 1)) σ1) := by
        intro τ hM
        show X12_book_b101 _ 251 (nI k) τ = _
        unfold X12_book_b101 X12_book_b126
        rw [if_neg g10, if_pos hM.2.2, nI_1]
        by_cases e1 : 0 < k
        · rw [if_neg (nI_ne0 e1 (by omega)), if_neg (show ¬ τ 251 13 = 1 by rw [tk_end hM.2.1]; omega)]
        · rw [if_pos (show nI k = 0 by rw [show k = 0 by omega]; rfl)]
      unfold X7_reads_b48
      obtain ⟨r, σ1, q1, q2, q3⟩ := page_j hc h ho
      rw [q1, ob2_some]
      rcases q3 with ⟨rfl, c', B', c1, c2, c3, ⟨c4, _, _⟩, c5⟩ | ⟨rfl, n, pos, c1, c2, c3, c4⟩
      · rw [if_neg (by decide), nI_1]
        obtain ⟨r, σ2, w1, w2, w3⟩ := ih (k + 1) m (m2 + 1) σ1 c' B' (by omega) (by omega) (by omega) c2 (by omega) c3 c1
        refine ⟨r, σ2, w1, fun q hq => by rw [w2 q hq, q2 q hq], ?_⟩
        rcases w3 with ⟨w3, B2, w4, w5, w6⟩ | ⟨w3, n, pos, w4, w5, w6⟩
        · refine Or.inl ⟨w3, B2, w4, w5, fun τ hM hR => ?_⟩
          obtain ⟨τ1, v1, v2, v3, v4⟩ := c5 τ hM hR
          obtain ⟨τ2, u1, u2, u3, u4⟩ := w6 τ1 v2 v3
          exact ⟨τ2, by rw [hml τ hM, v1, ob_some, u1], u2, u3, v4.tr u4⟩
        · refine Or.inr ⟨w3, n, pos, w4, w5, fun τ hM hR => ?_⟩
          obtain ⟨τ1, v1, v2, v3, v4⟩ := c5 τ hM hR
          obtain ⟨τ2, u1, u2, u3⟩ := w6 τ1 v2 v3
          exact ⟨τ2, by rw [hml τ hM, v1, ob_some, u1], u2, v4.tr u3⟩
      · rw [if_pos rfl]
        refine ⟨0, σ1, rfl, q2, Or.inr ⟨rfl, n, pos, c1, c2, fun τ hM hR => ?_⟩⟩
        obtain ⟨τ1, v1, v2, v3⟩ := c4 τ hM hR
        refine ⟨τ1, ?_, v2, v3⟩
        rw [hml τ hM, v1, ob_some]
        show X12_book_b101 _ 251 (nI (k + 1)) τ1 = _
        unfold X12_book_b101
        rw [if_neg (mf_ne v2)]
        split <;> rfl
theorem begin_f {σ : Mem} (k : Nat) (hk : k + 6 ≤ 22) (B' : Nat → Nat) (hb : AtB σ k B') (ho : okB B') : ∃ σ1, X11_begin 0 k σ = some σ1 ∧ AtB σ1 22 B' ∧ (∀ q, q ≠ 0 → q ≠ 28 → (q < 22 ∨ 28 ≤ q) → σ1 q = σ q) ∧ (∀ j, j ≠ 9 → σ1 0 j = σ 0 j) ∧ σ1 0 9 = 0 ∧ σ1 28 2 = 0 ∧ ∀ j, j ≠ 2 → σ1 28 j = σ 28 j := by
  obtain ⟨σ1, e1, e2, e3⟩ := like_s 22 k (by omega) σ B' hb ho.1
  refine ⟨wr (wr σ1 28 2 0) 0 9 0, ?_, AtB.cg e2 (fun q a b => by rw [wr_off _ _ _ (by omega), wr_off _ _ _ (by omega)]), fun q a b c => by rw [wr_off _ _ _ a, wr_off _ _ _ b, e3 q (by omega)], fun j hj => by rw [wr_in _ _ hj, wr_off _ _ _ (by omega), e3 0 (by omega)], wr_at _ _ _ _, by rw [wr_off _ _ _ (by omega), wr_at], fun j hj => by rw [wr_off _ _ _ (by omega), wr_in _ _ hj, e3 28 (by omega)]⟩
  unfold X11_begin X11_begin_b0 X0_forgetAll X0_forgetAll_b0
  rw [show X2_becomeLike (0 + 22) k σ = some σ1 from e1, ob_some, ob_some]
theorem Ref.bk {σ σ' : Mem} {B : Nat → Nat} {m : Nat} {L I : Nat → Nat → Nat} (h : Ref FOK σ B m L I) (fr : ∀ q, q ≠ 0 → q ≠ 251 → ¬ Scr q → σ' q = σ q) (f0 : ∀ j, j ≠ 10 → σ' 0 j = σ 0 j) (fj : ∀ j, j = 0 ∨ j = 8 ∨ j = 10 ∨ j = 31 → σ' 251 j = σ 251 j) (h1 : σ' 0 10 = σ' 251 17) : Ref FOK σ' B m L I := by
  obtain ⟨r1, r2, r3, r4, r5, r6, r7, r8, r9, r10, r11, r12, r13⟩ := h
  have g : ∀ q, q ≠ 0 → q ≠ 251 → ((q < 15 ∨ 22 ≤ q) ∧ (q < 211 ∨ 237 ≤ q) ∧ q ≠ 256 ∧ q ≠ 257 ∧ (q < 260 ∨ 268 ≤ q)) → σ' q = σ q := fun q a b c => fr q a b (by unfold Scr; omega)
  exact ⟨IRow.cg r1 (fun q hq => g q (by omega) (by omega) (by omega)), ITape.cg r2 (g 13 (by omega) (by omega) (by omega)) (g 14 (by omega) (by omega) (by omega)) (g 259 (by omega) (by omega) (by omega)) (fj 10 (by omega)), h1, by rw [f0 11 (by omega), fj 0 (by omega)]; exact r4, Trc.cg r5 (by rw [g 237 (by omega) (by omega) (by omega)]) (g 238 (by omega) (by omega) (by omega)) (g 270 (by omega) (by omega) (by omega)) (fj 31 (by omega)), r6, AtB.cg r7 (fun q a b => g q (by omega) (by omega) (by omega)), by rw [g 255 (by omega) (by omega) (by omega)]; exact r8, r9, CA.cg r10 (fun q a b => g q (by omega) (by omega) (by omega)), MA.cg r11 (fj 8 (by omega)) (g 258 (by omega) (by omega) (by omega)), Img.cg r12 (fun q hq => g q (by omega) (by omega) (by omega)), Fsh.cg FOK_loc r13 (f0 9 (by omega)) (fun q a b => g q (by omega) (by omega) (by omega))⟩
end
theorem wr_cg {σ σ' : Mem} {k : Nat} (h : σ k = σ' k) (j : Nat) (v : Int32) : wr σ k j v k = wr σ' k j v k := by
  unfold wr
  rw [wrF_same, wrF_same, h]
/-- the model's book from the tape on -/
theorem mbook {t : Nat} {b : Nat → Nat} {σ : Mem} (hT : TPm σ t b) : ∃ τ, X12_book 251 σ = mlaw τ ∧ MT b t τ 0 ∧ τ 256 0 = 0 ∧ FrB σ τ := by
  have f1 : FrN σ (wr (wr σ 251 11 0) 251 15 0) := ⟨fun q hq => by rw [wr_off _ _ _ hq, wr_off _ _ _ hq], fun j hj => by rw [wr_in _ _ (by omega), wr_in _ _ (by omega)]⟩
  obtain ⟨τ, q1, q2, q3, q4⟩ := tok_s (hT.fr f1) 0 (by omega) (by rw [wr_in _ _ (by omega), wr_at]; rfl)
  obtain ⟨f, u1, u2⟩ := clr_l 43 0 FU τ (by omega) (by unfold FU; omega)
  refine ⟨wrF τ 256 f, ?_, MT.wF ⟨(hT.fr f1).fr q4, q2, by rw [q3, wr_at]⟩ f, by rw [wrF_same, u2, if_pos (by omega)], (f1.b.tr q4.b).tr (FrB.wF _ _)⟩
  unfold X12_book X12_book_b0
  rw [letv_eq, q1, ob_some]
  exact u1
theorem op_book (σ : Mem) (h : InvF FOK σ) : ∃ (r : Int32) (σ1 σ2 : Mem), X11_book 0 σ = some (r, σ1) ∧ X12_book 251 σ1 = some (r, σ2) ∧ InvF FOK σ2 := by
  obtain ⟨B, m, L, I, h⟩ := h
  obtain ⟨t, t1, t2, t3, t4⟩ := h.2.1
  have hz : Ref FOK (wr (wr σ 13 1 0) 251 10 0) B m L I := Ref.tp h (fun q a b => by rw [wr_off _ _ _ b, wr_off _ _ _ a]) (fun j hj => by rw [wr_in _ _ hj, wr_off _ _ _ (by omega)]) (by rw [wr_off _ _ _ (by omega), wr_at]) (wr_at _ _ _ _)
  obtain ⟨b, hb⟩ : ∃ b : Nat → Nat, ∀ i, i < t → σ 14 i = nI (b i) ∧ σ 259 i = nI (b i) ∧ b i ≤ 255 := by
    refine ⟨fun i => (σ 14 i).toInt.toNat, fun i hi => ?_⟩
    show σ 14 i = nI (σ 14 i).toInt.toNat ∧ σ 259 i = nI (σ 14 i).toInt.toNat ∧ (σ 14 i).toInt.toNat ≤ 255
    obtain ⟨a1, x, a2, a3⟩ := t4 i hi
    have e : (σ 14 i).toInt.toNat = x := by
      rw [a3, nI_toInt (by omega)]
      rfl
    exact ⟨by rw [e]; exact a3, by rw [← a1, e]; exact a3, by omega⟩
  -- what is alike
  have hT0 : TP (wr (wr σ 15 1 0) 16 0 0) t b := ⟨t1, by rw [wr_off _ _ _ (by omega), wr_off _ _ _ (by omega)]; exact t2, fun i hi => ⟨by rw [wr_off _ _ _ (by omega), wr_off _ _ _ (by omega)]; exact (hb i hi).1, (hb i hi).2.2⟩⟩
  obtain ⟨r, σ1, l1, l2, l3⟩ := law_j hT0 (by rw [wr_off _ _ _ (by omega), wr_at]; rfl) (wr_at _ _ _ _)
  -- both: reads answers r, the model comes to b136
  have key : ∃ r σr, X7_reads 15 13 σ = some (r, σr) ∧ FrR7 σ σr ∧ ((r = 1 ∧ ∃ B', okB B' ∧ AtB σr 16 B' ∧ ∀ τ, MT b t τ 0 → τ 256 0 = 0 → ∃ τ', mlaw τ = X12_book_b136 251 τ' ∧ τ' 251 15 = 0 ∧ RwB (τ' 256) 0 B' ∧ FrB τ τ') ∨ (r = 0 ∧ ∃ n pos, σr 15 1 = nI pos ∧ σr 15 2 = nI n ∧ ∀ τ, MT b t τ 0 → τ 256 0 = 0 → ∃ τ', mlaw τ = X12_book_b136 251 τ' ∧ MF τ' n pos ∧ FrB τ τ')) := by
    have l2' : FrR7 σ σ1 := fun q hq => by rw [l2 q hq, wr_off _ _ _ (by omega), wr_off _ _ _ (by omega)]
    have hgo : X7_reads 15 13 σ = ob2 (some (r, σ1)) (fun r2 σ3 => if r2 = 0 then some (0, σ3) else X7_reads_l25 FU 15 13 0 σ3) := by
      unfold X7_reads X7_reads_b0
      rw [letv_eq, show X7_readsLaw 15 13 (wr (wr σ 15 1 0) (15 + 1) 0 0) = _ from l1]
    rw [hgo, ob2_some]
    rcases l3 with ⟨rfl, c', l, c, k1, k2, k3, k4, k5⟩ | ⟨rfl, n, pos, k1, k2, k3⟩
    · rw [if_neg (by decide)]
      have ok : okB (lawB l c) := ⟨by show 0 ≤ 10; omega, k2, k3, fun p hp => absurd hp (Nat.not_lt_zero p)⟩
      obtain ⟨r, σr, w1, w2, w3⟩ := reads_j 11 0 FU FU σ1 c' (lawB l c) (by omega) (by unfold FU; omega) (by unfold FU; omega) k4 rfl ok k1
      refine ⟨r, σr, w1, fun q hq => by rw [w2 q hq, l2' q hq], ?_⟩
      rcases w3 with ⟨w3, B', w4, w5, w6⟩ | ⟨w3, n, pos, w4, w5, w6⟩
      · refine Or.inl ⟨w3, B', w4, w5, fun τ hM hR => ?_⟩
        obtain ⟨τ1, v1, v2, v3, v4⟩ := k5 τ hM hR
        obtain ⟨τ2, u1, u2, u3, u4⟩ := w6 τ1 v2 v3
        exact ⟨τ2, by rw [v1]; exact u1, u2, u3, v4.tr u4⟩
      · refine Or.inr ⟨w3, n, pos, w4, w5, fun τ hM hR => ?_⟩
        obtain ⟨τ1, v1, v2, v3, v4⟩ := k5 τ hM hR
        obtain ⟨τ2, u1, u2, u3⟩ := w6 τ1 v2 v3
        exact ⟨τ2, by rw [v1]; exact u1, u2, v4.tr u3⟩
    · rw [if_pos rfl]
      refine ⟨0, σ1, rfl, l2', Or.inr ⟨rfl, n, pos, k1, k2, fun τ hM hR => ?_⟩⟩
      obtain ⟨τ1, v1, v2, v3⟩ := k3 τ hM hR
      refine ⟨τ1, ?_, v2, v3⟩
      rw [v1]
      obtain ⟨m, hm⟩ : ∃ m, FU = m + 1 := ⟨999999999, rfl⟩
      rw [hm]
      show X12_book_b101 _ 251 (nI 0) τ1 = _
      unfold X12_book_b101
      rw [if_neg (mf_ne v2)]
      split <;> rfl
  obtain ⟨r, σr, e1, e2, e3⟩ := key
  unfold X11_book X11_book_b0
  rw [show X7_reads (0 + 15) (0 + 13) σ = _ from e1, ob2_some]
  rcases e3 with ⟨rfl, B', e4, e5, e6⟩ | ⟨rfl, n, pos, e4, e5, e6⟩
  · rw [if_neg (by decide)]
    obtain ⟨σb, b1, b2, b3, b4, b5, b6, b7⟩ := begin_f (σ := wr σr 13 1 0) 16 (by omega) B' (AtB.cg e5 (fun q x y => wr_off _ _ _ (by omega))) e4
    rw [show X11_begin 0 (0 + 15 + 1) (wr σr (0 + 13) 1 0) = _ from b1, ob_some]
    have k : ∀ q, q ≠ 0 → q ≠ 28 → q ≠ 13 → (q < 15 ∨ 28 ≤ q) → σb q = σ q := fun q x y z w => by rw [b3 q x y (by omega), wr_off _ _ _ z, e2 q (by omega)]
    obtain ⟨τ, m1, m2, m3, m4⟩ := mbook (σ := σb) (t := t) (b := b) ⟨t1, by rw [k 251 (by omega) (by omega) (by omega) (by omega)]; exact t3, fun i hi => ⟨by rw [k 259 (by omega) (by omega) (by omega) (by omega)]; exact (hb i hi).2.1, (hb i hi).2.2⟩⟩
    obtain ⟨τ', v1, v2, v3, v4⟩ := e6 τ m2 m3
    obtain ⟨f, u1, u2⟩ := book_c 43 0 FU (wr (wr τ' 251 10 0) 251 8 0) (by omega) (by unfold FU; omega)
    have fr : FrB σb τ' := m4.tr v4
    have hb3 := B'
    have hR : ∀ i, i < 3 + 4 * B' 0 → f (0 + i) = nI (B' i) := fun i hi => by
      have := e4.1
      rw [Nat.zero_add, u2, if_pos (by omega), wr_off _ _ _ (by omega), wr_off _ _ _ (by omega)]
      have q := v3 i hi
      rw [Nat.zero_add] at q
      exact q
    refine ⟨nI (B' 0), σb, wrF (wr (wr τ' 251 10 0) 251 8 0) 255 f, by rw [show σb (0 + 22) 0 = _ from b2.1], ?_, ⟨B', 0, L, I, ?_⟩⟩
    · rw [m1, v1]
      unfold X12_book_b136
      rw [letv_eq, wr_in _ _ (by omega), v2, if_pos (by decide), show X12_book_l171 FU 251 0 (wr (wr τ' 251 10 0) 251 8 0) = _ from u1, wrF_same, show f 0 = nI (B' 0) from hR 0 (by omega)]
    · have g : ∀ q, q ≠ 0 → q ≠ 251 → q ≠ 255 → q ≠ 256 → q ≠ 28 → (q < 15 ∨ 28 ≤ q) → wrF (wr (wr τ' 251 10 0) 251 8 0) 255 f q = wr (wr σ 13 1 0) 251 10 0 q := by
        intro q x1 x2 x3 x4 x5 x6
        rw [wrF_ne _ _ x3, wr_off _ _ _ x2, wr_off _ _ _ x2, fr.1 q x2 x4, b3 q x1 x5 (by omega), wr_off _ _ _ x2]
        by_cases y : q = 13
        · subst y
          exact wr_cg (e2 13 (by omega)) 1 0
        · rw [wr_off _ _ _ y, wr_off _ _ _ y, e2 q (by omega)]
      have gb : ∀ q, q ≠ 251 → q ≠ 255 → q ≠ 256 → wrF (wr (wr τ' 251 10 0) 251 8 0) 255 f q = σb q := fun q x2 x3 x4 => by rw [wrF_ne _ _ x3, wr_off _ _ _ x2, wr_off _ _ _ x2, fr.1 q x2 x4]
      have g0 : ∀ j, j ≠ 9 → wrF (wr (wr τ' 251 10 0) 251 8 0) 255 f 0 j = wr (wr σ 13 1 0) 251 10 0 0 j := fun j hj => by rw [gb 0 (by omega) (by omega) (by omega), b4 j hj, wr_off _ _ _ (by omega), e2 0 (by omega), wr_off _ _ _ (by omega), wr_off _ _ _ (by omega)]
      have g1 : ∀ j, j = 0 ∨ j = 17 ∨ j = 31 ∨ j = 10 → wrF (wr (wr τ' 251 10 0) 251 8 0) 255 f 251 j = wr (wr σ 13 1 0) 251 10 0 251 j := fun j hj => by
        rw [wrF_ne _ _ (by omega), wr_in _ _ (by omega)]
        by_cases y : j = 10
        · subst y
          rw [wr_at, wr_at]
        · rw [wr_in _ _ y, wr_in _ _ y, fr.2 j (by omega), k 251 (by omega) (by omega) (by omega) (by omega), wr_off _ _ _ (by omega)]
      obtain ⟨r1, r2, r3, r4, r5, r6, r7, r8, r9, r10, r11, r12, r13⟩ := id hz
      obtain ⟨o, o1, o2, o3, o4⟩ := r10
      refine Ref.re hz (fun q c1 c2 c3 c4 c5 c6 c7 c8 c9 c10 => g q c1 c2 c8 (by unfold Scr at c10; omega) (by omega) (by unfold Scr at c10; omega)) (g0 10 (by omega)) (g0 11 (by omega)) (g1 0 (by omega)) (g1 10 (by omega)) (g1 17 (by omega)) (Trc.cg r5 (by rw [g 237 (by omega) (by omega) (by omega) (by omega) (by omega) (by omega)]) (g 238 (by omega) (by omega) (by omega) (by omega) (by omega) (by omega)) (g 270 (by omega) (by omega) (by omega) (by omega) (by omega) (by omega)) (g1 31 (by omega))) e4 (AtB.cg b2 (fun q x y => gb q (by omega) (by omega) (by omega))) (by rw [wrF_same]; exact hR) ⟨by omega, fun i hi => by omega⟩ ⟨o, o1, ?_, ?_, fun i hi => by omega⟩ ⟨?_, fun i hi => by omega⟩ (Or.inl ?_)
      · rw [gb 28 (by omega) (by omega) (by omega), b7 1 (by omega), wr_off _ _ _ (by omega), e2 28 (by omega)]
        rw [wr_off _ _ _ (by omega), wr_off _ _ _ (by omega)] at o2
        exact o2
      · rw [gb 28 (by omega) (by omega) (by omega), b6]
        rfl
      · rw [wrF_ne _ _ (by omega), wr_at]
        rfl
      · rw [gb 0 (by omega) (by omega) (by omega), b5]
  · rw [if_pos rfl, letv_eq, letv_eq]
    have q1 : wr σr (0 + 13) 1 0 (0 + 15) 2 = nI n := by rw [wr_off _ _ _ (by omega)]; exact e5
    rw [q1]
    have q2 : wr (wr σr (0 + 13) 1 0) 0 10 (nI n) (0 + 15) 1 = nI pos := by rw [wr_off _ _ _ (by omega), wr_off _ _ _ (by omega)]; exact e4
    rw [q2]
    have k : ∀ q, q ≠ 0 → q ≠ 13 → (q < 15 ∨ 22 ≤ q) → wr (wr σr (0 + 13) 1 0) 0 10 (nI n) q = σ q := fun q x z w => by rw [wr_off _ _ _ x, wr_off _ _ _ (by omega), e2 q w]
    obtain ⟨τ, m1, m2, m3, m4⟩ := mbook (σ := wr (wr σr (0 + 13) 1 0) 0 10 (nI n)) (t := t) (b := b) ⟨t1, by rw [k 251 (by omega) (by omega) (by omega)]; exact t3, fun i hi => ⟨by rw [k 259 (by omega) (by omega) (by omega)]; exact (hb i hi).2.1, (hb i hi).2.2⟩⟩
    obtain ⟨τ', v1, v2, v3⟩ := e6 τ m2 m3
    have fr : FrB (wr (wr σr (0 + 13) 1 0) 0 10 (nI n)) τ' := m4.tr v3
    refine ⟨-1000100 - nI pos, wr (wr σr (0 + 13) 1 0) 0 10 (nI n), wr (wr τ' 251 10 0) 251 17 (nI n), rfl, ?_, ⟨B, m, L, I, Ref.bk hz (fun q x y z => ?_) (fun j hj => ?_) (fun j hj => ?_) ?_⟩⟩
    · rw [m1, v1]
      unfold X12_book_b136
      rw [letv_eq, wr_in _ _ (by omega), v2.1, if_neg (show ¬ nI n ≤ 0 by rw [show (0 : Int32) = nI 0 from rfl, nI_le_iff (by have := v2.2.2.2; omega) (by omega)]; have := v2.2.2.1; omega), letv_eq, wr_in _ _ (by omega), wr_in _ _ (by omega), v2.2.1]
    · unfold Scr at z
      rw [wr_off _ _ _ y, wr_off _ _ _ y, fr.1 q y (by omega), wr_off _ _ _ x, wr_off _ _ _ y]
      by_cases w : q = 13
      · subst w
        exact wr_cg (e2 13 (by omega)) 1 0
      · rw [wr_off _ _ _ (by omega), wr_off _ _ _ w, e2 q (by omega)]
    · rw [wr_off _ _ _ (by omega), wr_off _ _ _ (by omega), fr.1 0 (by omega) (by omega), wr_in _ _ hj, wr_off _ _ _ (by omega), e2 0 (by omega), wr_off _ _ _ (by omega), wr_off _ _ _ (by omega)]
    · rw [wr_in _ _ (by omega)]
      by_cases y : j = 10
      · subst y
        rw [wr_at, wr_at]
      · rw [wr_in _ _ y, wr_in _ _ y, fr.2 j (by omega), k 251 (by omega) (by omega) (by omega), wr_off _ _ _ (by omega)]
    · rw [wr_at, wr_off _ _ _ (by omega), wr_off _ _ _ (by omega), fr.1 0 (by omega) (by omega), wr_at]
