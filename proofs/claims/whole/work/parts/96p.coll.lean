/-! PURE: the table of runs, and the runs collected. -/
theorem cmk_cg {X X' : Nat → Nat} {t : Nat} (h : ∀ i, i < t → X i = X' i) : cmk X t = cmk X' t := by
  cases t with
  | zero => rfl
  | succ s =>
    show 2 ^ s + X s = 2 ^ s + X' s
    rw [h s (by omega)]
def cutb (n M v : Nat) : Bool := decide (0 < v) && decide (v < n) && M.testBit (n - 1 - v)
def cn (n M : Nat) : Nat → Nat
  | 0 => 0
  | v + 1 => cn n M v + (if cutb n M (v + 1) then 1 else 0)
theorem cn_le (n M : Nat) : ∀ v, cn n M v ≤ v := by
  intro v
  induction v with
  | zero => exact Nat.le_refl 0
  | succ v ih =>
    show cn n M v + (if cutb n M (v + 1) then 1 else 0) ≤ v + 1
    split <;> omega
theorem cn_mono (n M : Nat) {u v : Nat} (h : u ≤ v) : cn n M u ≤ cn n M v := by
  induction v with
  | zero =>
    obtain rfl : u = 0 := by omega
    exact Nat.le_refl _
  | succ v ih =>
    rcases Nat.eq_or_lt_of_le h with e | e
    · rw [e]
      exact Nat.le_refl _
    · have := ih (by omega)
      show cn n M u ≤ cn n M v + (if cutb n M (v + 1) then 1 else 0)
      omega
section
variable {g : Nat → Nat → Nat} {n c k k1 : Nat}
def Opts (g : Nat → Nat → Nat) (n c D : Nat) (X tt : Nat → Nat) : Prop := ∀ h, h < D → OptM (wdf g n) c n h (X h) ∧ tt h ≤ h ∧ X h = cmk X (tt h)
theorem find9_l (hn : n ≤ 10) (hg : ∀ x y, x < n → y < n → g x y ≤ 90) (hc : ∀ x y, g x y = g y x) (hc20 : c ≤ 20) (hk : k1 + 12 ≤ k ∨ k + 6 ≤ k1) : ∀ (e D m : Nat) (X tt : Nat → Nat) (σ : Mem), D + e = n → e < m → Gp σ k1 n g → Tab g n c σ k D X tt → Opts g n c D X tt → ∃ σ2 X' tt', X9_find_l27 m k k1 (nI c) (nI e - 1) σ = ob (X9_collect k (nI n) σ2) (fun σ => some σ) ∧ Tab g n c σ2 k n X' tt' ∧ Opts g n c n X' tt' ∧ ∀ q, (q < k + 1 ∨ k + 4 ≤ q) → σ2 q = σ q := by
  intro e
  induction e with
  | zero =>
    intro D m X tt σ hD hm hG hT hO
    obtain ⟨m, rfl⟩ : ∃ m', m = m' + 1 := ⟨m - 1, by omega⟩
    obtain rfl : D = n := by omega
    refine ⟨σ, X, tt, ?_, hT, hO, fun q _ => rfl⟩
    show X9_find_b27 _ k k1 (nI c) (nI 0 - 1) σ = _
    unfold X9_find_b27
    rw [if_pos (by decide), hG.1]
  | succ e ih =>
    intro D m X tt σ hD hm hG hT hO
    obtain ⟨m, rfl⟩ : ∃ m', m = m' + 1 := ⟨m - 1, by omega⟩
    have he : n - 1 - D = e := by omega
    obtain ⟨σ1, t, w1, w2, w3, w4, w5, w6⟩ := weigh_l hn hg hc hc20 hk D (by omega) X tt (fun h hh => (hO h hh).1.1) (D + 1) FU σ (Nat.le_refl _) (by unfold FU; omega) hG hT (Or.inl rfl)
    rw [show n - (D + 1) = n - 1 - D by omega, wdf_self, he] at w1
    have hopt := Opt_step (c := c) (n := n) (wd := wdf g n) (by omega) (fun h hh => (hO h hh).1) w2 w4
    have hcm : ∀ s, s ≤ D → cmk (ext X D (cmk X t)) s = cmk X s := fun s hs => cmk_cg (fun i hi => ext_ne _ _ (by omega))
    have hT' : Tab g n c σ1 k (D + 1) (ext X D (cmk X t)) (ext tt D t) := by
      refine ⟨by rw [w6 _ _ (by omega)]; exact hT.1, by rw [w6 _ _ (by omega)]; exact hT.2.1, fun h hh => ?_⟩
      by_cases c1 : h = D
      · subst c1
        rw [ext_at, ext_at]
        exact w3
      · rw [ext_ne _ _ c1, ext_ne _ _ c1]
        obtain ⟨a1, a2, a3⟩ := hT.2.2 h (by omega)
        exact ⟨by rw [w6 _ _ (by omega)]; exact a1, by rw [w6 _ _ (by omega)]; exact a2, by rw [w6 _ _ (by omega)]; exact a3⟩
    have hO' : Opts g n c (D + 1) (ext X D (cmk X t)) (ext tt D t) := by
      intro h hh
      by_cases c1 : h = D
      · subst c1
        rw [ext_at, ext_at, hcm t w2]
        exact ⟨hopt, w2, rfl⟩
      · rw [ext_ne _ _ c1, ext_ne _ _ c1]
        obtain ⟨a1, a2, a3⟩ := hO h (by omega)
        exact ⟨a1, a2, by rw [hcm _ (by omega)]; exact a3⟩
    obtain ⟨σ2, X', tt', q1, q2, q3, q4⟩ := ih (D + 1) m (ext X D (cmk X t)) (ext tt D t) σ1 (by omega) (by omega) ⟨by rw [w5 k1 (by omega)]; exact hG.1, fun x y hx hy => by rw [w5 (k1 + 2 + x) (by omega)]; exact hG.2 x y hx hy⟩ hT' hO'
    refine ⟨σ2, X', tt', ?_, q2, q3, fun q hq => by rw [q4 q hq, w5 q hq]⟩
    show X9_find_b27 _ k k1 (nI c) (nI (e + 1) - 1) σ = _
    unfold X9_find_b27
    rw [nI_s1, if_neg (nI_nn (by omega))]
    unfold X9_weigh X9_weigh_b0
    rw [show X9_weigh_l6 FU k k1 (nI c) (nI e) 0 (nI e) σ = some σ1 from w1, ob_some]
    rw [← Int32.sub_eq_add_neg]
    exact q1
/-- where runs begin, and which run each page is of -/
def Beg (σ : Mem) (kf n M p : Nat) : Prop := ∀ u, u ≤ p → (u = 0 ∨ cutb n M u = true) → σ kf (cn n M u) = nI u
theorem coll_l (hn : n ≤ 10) {M : Nat} {X tt : Nat → Nat} (hO : Opts g n c n X tt) : ∀ (e p m h : Nat) (σ : Mem), p + e = n → e < m → (∀ v, v < n → σ (k + 3) v = nI (n - tt (n - 1 - v))) → (p < n → h < n ∧ n - 1 - h ≤ p ∧ p < n - tt h ∧ (∀ i, i < h → M.testBit i = (X h).testBit i) ∧ σ k 5 = nI (cn n M p) ∧ σ (k + 4) (cn n M p) = nI (n - 1 - h) ∧ Beg σ (k + 4) n M p) → (p = n → σ k 5 = nI (cn n M n + 1) ∧ σ (k + 4) (cn n M n + 1) = nI n ∧ Beg σ (k + 4) n M n) → (∀ q, q < p → σ (k + 5) q = nI (cn n M q)) → ∃ σ', X9_collect_l14 m k (nI n) (nI p) σ = some σ' ∧ σ' k 5 = nI (cn n M n + 1) ∧ σ' (k + 4) (cn n M n + 1) = nI n ∧ Beg σ' (k + 4) n M n ∧ (∀ q, q < n → σ' (k + 5) q = nI (cn n M q)) ∧ (∀ q, q ≠ k → q ≠ k + 4 → q ≠ k + 5 → σ' q = σ q) ∧ ∀ j, j ≠ 5 → σ' k j = σ k j := by
  intro e
  induction e with
  | zero =>
    intro p m h σ hp hm h3 h4 h5 h6
    obtain ⟨m, rfl⟩ : ∃ m', m = m' + 1 := ⟨m - 1, by omega⟩
    obtain rfl : p = n := by omega
    obtain ⟨a1, a2, a3⟩ := h5 rfl
    refine ⟨σ, ?_, a1, a2, a3, h6, fun _ _ _ _ => rfl, fun _ _ => rfl⟩
    show X9_collect_b14 _ k (nI p) (nI p) σ = _
    unfold X9_collect_b14
    rw [if_pos (nI_le (by omega) (by omega))]
  | succ e ih =>
    intro p m h σ hp hm h3 h4 h5 h6
    obtain ⟨m, rfl⟩ : ∃ m', m = m' + 1 := ⟨m - 1, by omega⟩
    obtain ⟨b1, b2, b3, b4, b5, b6, b7⟩ := h4 (by omega)
    have hcn := cn_le n M p
    have htt := (hO h b1).2.1
    have hXc := (hO h b1).2.2
    -- whether the next page begins a run
    have hbit : p + 1 < n → (cutb n M (p + 1) = true ↔ n - tt h = p + 1) := by
      intro hlt
      unfold cutb
      rw [show decide (0 < p + 1) = true from decide_eq_true (by omega), show decide (p + 1 < n) = true from decide_eq_true hlt, Bool.true_and, Bool.true_and, b4 (n - 1 - (p + 1)) (by omega), hXc]
      cases ht : tt h with
      | zero =>
        show Nat.testBit 0 _ = true ↔ _
        rw [Nat.zero_testBit]
        constructor
        · intro q
          exact absurd q (by decide)
        · intro q
          omega
      | succ s =>
        rw [ht] at htt b3
        have hXs := (hO s (by omega)).1.1
        show (2 ^ s + X s).testBit (n - 1 - (p + 1)) = true ↔ _
        rw [show 2 ^ s + X s = X s ||| 2 ^ s by rw [or_add hXs, Nat.add_comm], or_bit]
        by_cases d : s = n - 1 - (p + 1)
        · rw [show decide (s = n - 1 - (p + 1)) = true from decide_eq_true d, Bool.or_true]
          exact ⟨fun _ => by omega, fun _ => rfl⟩
        · rw [show decide (s = n - 1 - (p + 1)) = false from decide_eq_false d, Bool.or_false, Nat.testBit_lt_two_pow (Nat.lt_of_lt_of_le hXs (Nat.pow_le_pow_right (by omega) (by omega)))]
          constructor
          · intro q
            exact absurd q (by decide)
          · intro q
            omega
    have hcnS : cn n M (p + 1) = cn n M p + (if cutb n M (p + 1) then 1 else 0) := rfl
    have r6 : ∀ q, q < p + 1 → wr σ (k + 5) p (nI (cn n M p)) (k + 5) q = nI (cn n M q) := fun q hq => by
      by_cases d : q = p
      · subst d
        exact wr_at _ _ _ _
      · rw [wr_in _ _ d]
        exact h6 q (by omega)
    -- the walk of one step
    have unf : X9_collect_l14 (m + 1) k (nI n) (nI p) σ = if n - tt h = p + 1 then X9_collect_l14 m k (nI n) (nI (p + 1)) (wr (wr (wr σ (k + 5) p (nI (cn n M p))) k 5 (nI (cn n M p + 1))) (k + 4) (cn n M p + 1) (nI (p + 1))) else X9_collect_l14 m k (nI n) (nI (p + 1)) (wr σ (k + 5) p (nI (cn n M p))) := by
      show X9_collect_b14 _ k (nI n) (nI p) σ = _
      unfold X9_collect_b14 X9_collect_b71
      rw [if_neg (show ¬ nI n ≤ nI p by rw [nI_le_iff (by omega) (by omega)]; omega), gdx_n (by omega) (by omega), letv_eq, b5, nc_n (by omega)]
      have e1 : wr σ (k + 5) p (nI (cn n M p)) k 5 = nI (cn n M p) := by rw [wr_off _ _ _ (by omega)]; exact b5
      have e2 : wr σ (k + 5) p (nI (cn n M p)) (k + 4) (cn n M p) = nI (n - 1 - h) := by rw [wr_off _ _ _ (by omega)]; exact b6
      have e3 : wr σ (k + 5) p (nI (cn n M p)) (k + 3) (n - 1 - h) = nI (n - tt h) := by
        rw [wr_off _ _ _ (by omega), h3 _ (by omega), show n - 1 - (n - 1 - h) = h by omega]
      rw [e1, gdx_n (by omega) (by omega), nc_n (by omega), e2, gdx_n (by omega) (by omega), nc_n (by omega), e3, nI_1, nI_1, letv_eq, wr_at, gdx_n (by omega) (by omega), nc_n (by omega)]
      by_cases d : n - tt h = p + 1
      · rw [if_pos (show nI (n - tt h) = nI (p + 1) by rw [d]), if_pos d]
      · rw [if_neg (show ¬ nI (n - tt h) = nI (p + 1) from fun q => d ((nI_inj (by omega) (by omega)).mp q)), if_neg d]
    rw [unf]
    by_cases d : n - tt h = p + 1
    · rw [if_pos d]
      have hσ4 : ∀ j, j ≠ cn n M p + 1 → wr (wr (wr σ (k + 5) p (nI (cn n M p))) k 5 (nI (cn n M p + 1))) (k + 4) (cn n M p + 1) (nI (p + 1)) (k + 4) j = σ (k + 4) j := fun j hj => by rw [wr_in _ _ hj, wr_off _ _ _ (by omega), wr_off _ _ _ (by omega)]
      have hσk : wr (wr (wr σ (k + 5) p (nI (cn n M p))) k 5 (nI (cn n M p + 1))) (k + 4) (cn n M p + 1) (nI (p + 1)) k 5 = nI (cn n M p + 1) := by rw [wr_off _ _ _ (by omega), wr_at]
      have hbeg : ∀ u, u ≤ p → (u = 0 ∨ cutb n M u = true) → wr (wr (wr σ (k + 5) p (nI (cn n M p))) k 5 (nI (cn n M p + 1))) (k + 4) (cn n M p + 1) (nI (p + 1)) (k + 4) (cn n M u) = nI u := fun u hu hx => by
        have := cn_mono n M hu
        rw [hσ4 _ (by omega)]
        exact b7 u hu hx
      obtain ⟨σ', q1, q2, q3, q4, q5, q6, q7⟩ := ih (p + 1) m (n - 1 - (p + 1)) (wr (wr (wr σ (k + 5) p (nI (cn n M p))) k 5 (nI (cn n M p + 1))) (k + 4) (cn n M p + 1) (nI (p + 1))) (by omega) (by omega) (fun v hv => by rw [wr_off _ _ _ (by omega), wr_off _ _ _ (by omega), wr_off _ _ _ (by omega)]; exact h3 v hv) (fun hlt => by
        have hcut := (hbit hlt).mpr d
        rw [hcut, if_pos rfl] at hcnS
        have htt2 := (hO (n - 1 - (p + 1)) (by omega)).2.1
        refine ⟨by omega, by omega, by omega, fun i hi => ?_, by rw [hσk, hcnS], by rw [hcnS, wr_at]; congr 1; omega, fun u hu hx => ?_⟩
        · rw [b4 i (by omega), hXc]
          cases ht : tt h with
          | zero => omega
          | succ s =>
            have hs : s = n - 1 - (p + 1) := by omega
            have hXs := (hO s (by omega)).1.1
            show (2 ^ s + X s).testBit i = _
            rw [show 2 ^ s + X s = X s ||| 2 ^ s by rw [or_add hXs, Nat.add_comm], or_bit, show decide (s = i) = false from decide_eq_false (by omega), Bool.or_false, hs]
        · by_cases eu : u = p + 1
          · rw [eu, hcnS, wr_at]
          · exact hbeg u (by omega) hx) (fun hlt => by
        have hnc : cutb n M n = false := by
          unfold cutb
          rw [show decide (n < n) = false from decide_eq_false (Nat.lt_irrefl n)]
          simp
        have hcnn : cn n M n = cn n M p := by
          have h7 := hcnS
          rw [hlt, hnc] at h7
          simpa using h7
        refine ⟨by rw [hσk, hcnn], by rw [hcnn, wr_at, hlt], fun u hu hx => ?_⟩
        by_cases eu : u = n
        · rcases hx with hx | hx
          · omega
          · rw [eu, hnc] at hx
            exact absurd hx (by decide)
        · exact hbeg u (by omega) hx) (fun q hq => by rw [wr_off _ _ _ (by omega), wr_off _ _ _ (by omega)]; exact r6 q hq)
      exact ⟨σ', q1, q2, q3, q4, q5, fun q x1 x2 x3 => by rw [q6 q x1 x2 x3, wr_off _ _ _ x2, wr_off _ _ _ x1, wr_off _ _ _ x3], fun j hj => by rw [q7 j hj, wr_off _ _ _ (by omega), wr_in _ _ hj, wr_off _ _ _ (by omega)]⟩
    · rw [if_neg d]
      have hlt : p + 1 < n := by omega
      have hcut : cutb n M (p + 1) = false := by
        cases e1 : cutb n M (p + 1) with
        | false => rfl
        | true => exact absurd ((hbit hlt).mp e1) d
      rw [hcut] at hcnS
      have hcnS' : cn n M (p + 1) = cn n M p := hcnS
      obtain ⟨σ', q1, q2, q3, q4, q5, q6, q7⟩ := ih (p + 1) m h (wr σ (k + 5) p (nI (cn n M p))) (by omega) (by omega) (fun v hv => by rw [wr_off _ _ _ (by omega)]; exact h3 v hv) (fun _ => by
        refine ⟨b1, by omega, by omega, b4, by rw [hcnS', wr_off _ _ _ (by omega)]; exact b5, by rw [hcnS', wr_off _ _ _ (by omega)]; exact b6, fun u hu hx => ?_⟩
        rw [wr_off _ _ _ (by omega)]
        by_cases eu : u = p + 1
        · rcases hx with hx | hx
          · omega
          · rw [eu, hcut] at hx
            exact absurd hx (by decide)
        · exact b7 u (by omega) hx) (fun q => by omega) r6
      exact ⟨σ', q1, q2, q3, q4, q5, fun q x1 x2 x3 => by rw [q6 q x1 x2 x3, wr_off _ _ _ x3], fun j hj => by rw [q7 j hj, wr_off _ _ _ (by omega)]⟩
/-- the runs, as found at cell k -/
def Rns (σ : Mem) (k n M : Nat) : Prop := σ k 5 = nI (cn n M n + 1) ∧ σ (k + 4) (cn n M n + 1) = nI n ∧ Beg σ (k + 4) n M n ∧ ∀ q, q < n → σ (k + 5) q = nI (cn n M q)
theorem runs9_s (hn : n ≤ 10) (hg : ∀ x y, x < n → y < n → g x y ≤ 90) (hc : ∀ x y, g x y = g y x) (hc20 : c ≤ 20) (hk : k1 + 12 ≤ k ∨ k + 6 ≤ k1) (σ : Mem) (hG : Gp σ k1 n g) : ∃ σ', X9_find k k1 (nI c) σ = some σ' ∧ ((n = 0 ∧ σ' k 5 = 0) ∨ (0 < n ∧ ∃ M, OptM (wdf g n) c n (n - 1) M ∧ Rns σ' k n M ∧ σ' (k + 1) 0 = nI (wt (wdf g n) c n (n - 1) M))) ∧ (∀ q, (q < k ∨ k + 6 ≤ q) → σ' q = σ q) ∧ ∀ j, j ≠ 5 → σ' k j = σ k j := by
  have hG2 : Gp (wr (wr σ (k + 1) n 0) (k + 2) n 0) k1 n g := ⟨by rw [wr_off _ _ _ (by omega), wr_off _ _ _ (by omega)]; exact hG.1, fun x y hx hy => by rw [wr_off _ _ _ (by omega), wr_off _ _ _ (by omega)]; exact hG.2 x y hx hy⟩
  have hT : Tab g n c (wr (wr σ (k + 1) n 0) (k + 2) n 0) k 0 (fun _ => 0) (fun _ => 0) := ⟨by rw [wr_off _ _ _ (by omega), wr_at], wr_at _ _ _ _, fun h hh => by omega⟩
  obtain ⟨σ2, X, tt, q1, q2, q3, q4⟩ := find9_l hn hg hc hc20 hk n 0 FU (fun _ => 0) (fun _ => 0) _ (by omega) (by unfold FU; omega) hG2 hT (fun h hh => by omega)
  have start : X9_find k k1 (nI c) σ = X9_find_l27 FU k k1 (nI c) (nI n - 1) (wr (wr σ (k + 1) n 0) (k + 2) n 0) := by
    unfold X9_find X9_find_b0
    rw [hG.1, gdx_n (by omega) (by omega), letv_eq, nc_n (by omega)]
    rw [show wr σ (k + 1) n 0 k1 0 = nI n by rw [wr_off _ _ _ (by omega)]; exact hG.1, gdx_n (by omega) (by omega), letv_eq, nc_n (by omega), letv_eq, show wr (wr σ (k + 1) n 0) (k + 2) n 0 k1 0 = nI n from hG2.1]
  have fr2 : ∀ q, (q < k + 1 ∨ k + 4 ≤ q) → σ2 q = σ q := fun q hq => by rw [q4 q hq, wr_off _ _ _ (by omega), wr_off _ _ _ (by omega)]
  by_cases h0 : n = 0
  · refine ⟨wr (wr σ2 k 5 0) (k + 4) 0 0, ?_, Or.inl ⟨h0, by rw [wr_off _ _ _ (by omega), wr_at]⟩, fun q hq => by rw [wr_off _ _ _ (by omega), wr_off _ _ _ (by omega), fr2 q (by omega)], fun j hj => by rw [wr_off _ _ _ (by omega), wr_in _ _ hj, fr2 k (by omega)]⟩
    rw [start, q1]
    unfold X9_collect X9_collect_b0
    rw [letv_eq, nc_0, h0]
    obtain ⟨m, hm⟩ : ∃ m, FU = m + 1 := ⟨999999999, rfl⟩
    rw [hm]
    rfl
  · have hO := q3 (n - 1) (by omega)
    have htt := hO.2.1
    obtain ⟨σ', r1, r2, r3, r4, r5, r6, r7⟩ := coll_l (k := k) (M := X (n - 1)) hn q3 n 0 FU (n - 1) (wr (wr σ2 k 5 0) (k + 4) 0 0) (by omega) (by unfold FU; omega) (fun v hv => by
      rw [wr_off _ _ _ (by omega), wr_off _ _ _ (by omega)]
      have := (q2.2.2 (n - 1 - v) (by omega)).2.2
      rw [show n - 1 - (n - 1 - v) = v by omega] at this
      exact this) (fun _ => ⟨by omega, by omega, by omega, fun i _ => rfl, by rw [wr_off _ _ _ (by omega), wr_at]; rfl, by
        show wr (wr σ2 k 5 0) (k + 4) 0 0 (k + 4) 0 = _
        rw [wr_at, show n - 1 - (n - 1) = 0 by omega]
        rfl, fun u hu hx => by
        obtain rfl : u = 0 := by omega
        show wr (wr σ2 k 5 0) (k + 4) 0 0 (k + 4) 0 = _
        rw [wr_at]
        rfl⟩) (fun q => by omega) (fun q hq => by omega)
    refine ⟨σ', ?_, Or.inr ⟨by omega, X (n - 1), hO.1, ⟨r2, r3, r4, r5⟩, ?_⟩, fun q hq => by rw [r6 q (by omega) (by omega) (by omega), wr_off _ _ _ (by omega), wr_off _ _ _ (by omega), fr2 q (by omega)], fun j hj => by rw [r7 j hj, wr_off _ _ _ (by omega), wr_in _ _ hj, fr2 k (by omega)]⟩
    · rw [start, q1]
      unfold X9_collect X9_collect_b0
      rw [letv_eq, nc_0]
      rw [show X9_collect_l14 FU k (nI n) 0 (wr (wr σ2 k 5 0) (k + 4) 0 0) = some σ' from r1, ob_some]
    · rw [r6 (k + 1) (by omega) (by omega) (by omega), wr_off _ _ _ (by omega), wr_off _ _ _ (by omega)]
      have := (q2.2.2 (n - 1) (by omega)).1
      rw [show n - 1 - (n - 1) = 0 by omega] at this
      exact this
end
