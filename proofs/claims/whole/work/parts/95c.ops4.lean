/-! PURE: what only asks; rows and feed under the coupling. -/
section
variable {F : Mem → (Nat → Nat) → Prop}
theorem op_fault (σ : Mem) (h : InvF F σ) : ∃ r, X11_fault 0 σ = r ∧ X12_fault 251 σ = r ∧ InvF F σ := by
  obtain ⟨B, m, L, I, h'⟩ := h
  exact ⟨σ 0 10, rfl, h'.2.2.1.symm, ⟨B, m, L, I, h'⟩⟩
theorem op_status (σ : Mem) (h : InvF F σ) : ∃ r, X11_status 0 σ = r ∧ X12_status 251 σ = r ∧ InvF F σ := by
  obtain ⟨B, m, L, I, h'⟩ := h
  exact ⟨σ 0 11, rfl, h'.2.2.2.1.symm, ⟨B, m, L, I, h'⟩⟩
theorem op_kind (σ : Mem) (h : InvF F σ) (v1 : Int32) : ∃ r, X11_kind 0 v1 σ = some r ∧ X12_kind 251 v1 σ = some r ∧ InvF F σ := by
  have hI := h
  obtain ⟨B, m, L, I, h⟩ := h
  obtain ⟨r1, r2, r3, r4, r5, r6, r7, r8, r9, r10, r11, r12, r13⟩ := h
  have n1 : σ 22 0 = nI (B 0) := r7.1
  have n2 : σ 255 0 = nI (B 0) := r8 0 (by omega)
  have hn := r6.1
  unfold X11_kind X11_kind_b0 X12_kind X12_kind_b0
  rcases pgs v1 (B 0) hn with ⟨p, hp, rfl, t1, t2⟩ | ⟨t1, t2⟩
  · refine ⟨nI (B (3 + 4 * p)), ?_, ?_, hI⟩
    · rw [t1 σ n1, if_neg (by decide), gdx_n (by omega) (by omega), nc_n (by omega), show σ (0 + 22 + 1) p = nI (B (3 + 4 * p)) from (r7.2.2.2 p hp).1]
    · rw [t2 σ n2, ob_some, if_neg (by decide), show X12_kindOf (251 + 4) (nI p) σ = some (nI (B (3 + 4 * p))) from kindOf_s 255 p σ B r8 hn hp, ob_some]
  · exact ⟨-1000001, by rw [t1 σ n1, if_pos rfl], by rw [t2 σ n2, ob_some, if_pos rfl], hI⟩
theorem op_trace (σ : Mem) (h : InvF F σ) (v1 : Int32) : ∃ r, X11_trace 0 v1 σ = some r ∧ X12_trace 251 v1 σ = some r ∧ InvF F σ := by
  have hI := h
  obtain ⟨B, m, L, I, h⟩ := h
  obtain ⟨r1, r2, r3, r4, ⟨t, t1, t2, t3, t4⟩, r6, r7, r8, r9, r10, r11, r12, r13⟩ := h
  unfold X11_trace X11_trace_b0 X12_trace X12_trace_b0
  rw [show σ (0 + 237) 1 = nI t from t2, t3]
  by_cases h0 : v1 < 0
  · refine ⟨-1000000, by rw [if_pos h0], ?_, hI⟩
    have : X12_in v1.toInt64 0 (Int32.toInt64 (nI t - 1)) = 0 := by
      rw [m_in, Int32.toInt_toInt64, l_0]
      refine if_neg (fun q => ?_)
      rw [Int32.lt_iff_toInt_lt] at h0
      have : (0 : Int32).toInt = 0 := by decide
      omega
    rw [this, if_pos rfl]
  · obtain ⟨p, hp, rfl⟩ := i32_nat h0
    have key : X12_in (nI p).toInt64 0 (Int32.toInt64 (nI t - 1)) = if p < t then 1 else 0 := by
      rw [m_in, Int32.toInt_toInt64, Int32.toInt_toInt64, l_0, nI_toInt hp]
      cases t with
      | zero =>
        rw [show (nI 0 - 1 : Int32).toInt = -1 from rfl, if_neg (by omega), if_neg (by omega)]
      | succ n =>
        rw [nI_s1, nI_toInt (by omega)]
        by_cases c : p < n + 1
        · rw [if_pos c, if_pos (by omega)]
        · rw [if_neg c, if_neg (by omega)]
    rw [key, if_neg h0]
    by_cases c : p < t
    · rw [if_pos c]
      refine ⟨σ 238 p, ?_, ?_, hI⟩
      · rw [if_neg (show ¬ nI t ≤ nI p by rw [nI_le_iff (by omega) hp]; omega), gdx_n (by omega) (by omega), nc_n (by omega)]
      · rw [if_neg (by decide), gdx_n (by omega) (by omega), nc_n (by omega), show σ (251 + 19) p = σ 238 p from (t4 p c).symm]
    · rw [if_neg c]
      exact ⟨-1000000, by rw [if_pos (show nI t ≤ nI p from nI_le (by omega) hp)], by rw [if_pos rfl], hI⟩
theorem such_s (x y : Nat) (hx : 1 ≤ x) (hx5 : x ≤ 5) (hy : y ≤ 5) (σ : Mem) : X11_isSuch (nI x) (nI y) σ = some (X12_isOf (nI x) (nI y)) := by
  unfold X11_isSuch X11_isSuch_b0
  obtain ⟨m, hm⟩ : ∃ m, FU = m + 1 + 1 + 1 + 1 + 1 + 1 + 1 := ⟨999999993, rfl⟩
  rw [hm]
  rcases (show x = 1 ∨ x = 2 ∨ x = 3 ∨ x = 4 ∨ x = 5 by omega) with rfl | rfl | rfl | rfl | rfl <;> rcases (show y = 0 ∨ y = 1 ∨ y = 2 ∨ y = 3 ∨ y = 4 ∨ y = 5 by omega) with rfl | rfl | rfl | rfl | rfl | rfl <;> rfl
theorem op_as (hl : Loc F) (σ : Mem) (h : InvF F σ) (v1 v2 : Int32) : ∃ (r : Int32) (σ1 σ2 : Mem), X11_as 0 v1 v2 σ = some (r, σ1) ∧ X12_as 251 v1 v2 σ1 = some (r, σ2) ∧ InvF F σ2 := by
  have hI := h
  obtain ⟨B, m, L, I, h⟩ := h
  have h' := h
  obtain ⟨r1, r2, r3, r4, r5, r6, r7, r8, r9, r10, r11, r12, r13⟩ := h
  have n1 : σ 22 0 = nI (B 0) := r7.1
  have n2 : σ 255 0 = nI (B 0) := r8 0 (by omega)
  have hn := r6.1
  -- both statuses become x
  have st : ∀ x : Int32, InvF F (wr (wr σ 0 11 x) 251 0 x) := by
    intro x
    have g : ∀ q, q ≠ 0 → q ≠ 251 → wr (wr σ 0 11 x) 251 0 x q = σ q := fun q a b => by rw [wr_off _ _ _ b, wr_off _ _ _ a]
    have g0 : ∀ j, j ≠ 11 → wr (wr σ 0 11 x) 251 0 x 0 j = σ 0 j := fun j hj => by rw [wr_off _ _ _ (by omega), wr_in _ _ hj]
    have g1 : ∀ j, j ≠ 0 → wr (wr σ 0 11 x) 251 0 x 251 j = σ 251 j := fun j hj => by rw [wr_in _ _ hj, wr_off _ _ _ (by omega)]
    refine ⟨B, m, L, I, IRow.cg r1 (fun q hq => g q (by omega) (by omega)), ITape.cg r2 (g 13 (by omega) (by omega)) (g 14 (by omega) (by omega)) (g 259 (by omega) (by omega)) (g1 10 (by omega)), by rw [g0 10 (by omega), g1 17 (by omega)]; exact r3, by rw [wr_off _ _ _ (by omega), wr_at, wr_at], Trc.cg r5 (by rw [g 237 (by omega) (by omega)]) (g 238 (by omega) (by omega)) (g 270 (by omega) (by omega)) (g1 31 (by omega)), r6, AtB.cg r7 (fun q a b => g q (by omega) (by omega)), by rw [g 255 (by omega) (by omega)]; exact r8, r9, CA.cg r10 (fun q a b => g q (by omega) (by omega)), MA.cg r11 (g1 8 (by omega)) (g 258 (by omega) (by omega)), Img.cg r12 (fun q hq => g q (by omega) (by omega)), Fsh.cg hl r13 (g0 9 (by omega)) (fun q a b => g q (by omega) (by omega))⟩
  unfold X11_as X11_as_b0 X12_as X12_as_b0
  rcases pgs v1 (B 0) hn with ⟨p, hp, rfl, t1, t2⟩ | ⟨t1, t2⟩
  · rw [t1 σ n1, if_neg (by decide)]
    rcases in_r v2 0 5 (by omega) (by omega) with ⟨y, a1, a2, rfl, a3⟩ | ⟨a3, a4⟩
    · have a3' : X12_in (nI y).toInt64 0 5 = 1 := a3
      obtain ⟨k1, k2, _⟩ := r6.2.2.2 p hp
      rw [if_neg (nI_nn (by omega)), if_pos (show nI y ≤ 5 from nI_le (b := 5) (by omega) (by omega)), gdx_n (by omega) (by omega), nc_n (by omega), show σ (0 + 22 + 1) p = nI (B (3 + 4 * p)) from (r7.2.2.2 p hp).1, such_s _ _ k1 k2 a2, ob_some, a3']
      have hk : ∀ x : Int32, X12_kindOf (251 + 4) (nI p) (wr (wr σ 0 11 x) 251 0 0) = some (nI (B (3 + 4 * p))) := fun x => kindOf_s 255 p _ B (by rw [wr_off _ _ _ (by omega), wr_off _ _ _ (by omega)]; exact r8) hn hp
      have n3 : ∀ x : Int32, wr σ 0 11 x 255 0 = nI (B 0) := fun x => by rw [wr_off _ _ _ (by omega)]; exact n2
      by_cases c : X12_isOf (nI (B (3 + 4 * p))) (nI y) = 0
      · rw [if_pos c]
        refine ⟨-1000010 - 3, wr σ 0 11 3, wr (wr σ 0 11 3) 251 0 3, rfl, ?_, st 3⟩
        rw [t2 _ (n3 3), ob_some, if_neg (by decide), if_neg (by decide), hk 3, ob_some, if_pos c]
        unfold X12_finding X12_finding_b0
        rw [wr_wr, ob2_some]
      · rw [if_neg c]
        refine ⟨nI p, wr σ 0 11 0, wr (wr σ 0 11 0) 251 0 0, rfl, ?_, st 0⟩
        rw [t2 _ (n3 0), ob_some, if_neg (by decide), if_neg (by decide), hk 0, ob_some, if_neg c]
    · have a3' : X12_in v2.toInt64 0 5 = 0 := a3
      refine ⟨-1000001, σ, σ, ?_, by rw [t2 σ n2, ob_some, if_neg (by decide), a3', if_pos rfl], hI⟩
      rcases a4 with a4 | a4
      · rw [if_pos (show v2 < 0 from a4)]
      · rw [if_neg (show ¬ v2 ≤ 5 from fun q => Int32.not_lt.mpr q a4)]
        split <;> rfl
  · exact ⟨-1000001, σ, σ, by rw [t1 σ n1, if_pos rfl], by rw [t2 σ n2, ob_some, if_pos rfl], hI⟩
theorem sum_s (σ : Mem) (B : Nat → Nat) (hb : AtB σ 22 B) (hr : RwB (σ 255) 0 B) (hn : B 0 ≤ 10) (w : Nat) (hw : w < 3) : ∀ (d i m1 m2 : Nat) (x : Int32), i + d = B 0 → d < m1 → d < m2 → ∃ r, X2_together_l4 m1 22 (nI w) x (nI i) σ = some r ∧ X12_sumOf_l4 m2 251 (nI w) x (nI i) σ = some r := by
  intro d
  induction d with
  | zero =>
    intro i m1 m2 x hi h1 h2
    obtain ⟨m1, rfl⟩ : ∃ m', m1 = m' + 1 := ⟨m1 - 1, by omega⟩
    obtain ⟨m2, rfl⟩ : ∃ m', m2 = m' + 1 := ⟨m2 - 1, by omega⟩
    obtain rfl : i = B 0 := by omega
    refine ⟨x, ?_, ?_⟩
    · show X2_together_b4 _ 22 (nI w) x (nI (B 0)) σ = _
      unfold X2_together_b4
      rw [show σ 22 0 = nI (B 0) from hb.1, if_pos (nI_le (by omega) (by omega))]
    · show X12_sumOf_b4 _ 251 (nI w) x (nI (B 0)) σ = _
      unfold X12_sumOf_b4
      rw [show σ (251 + 4) (nc 0) = nI (B 0) from hr 0 (by omega), if_pos (nI_le (by omega) (by omega))]
  | succ d ih =>
    intro i m1 m2 x hi h1 h2
    obtain ⟨m1, rfl⟩ : ∃ m', m1 = m' + 1 := ⟨m1 - 1, by omega⟩
    obtain ⟨m2, rfl⟩ : ∃ m', m2 = m' + 1 := ⟨m2 - 1, by omega⟩
    obtain ⟨r, e1, e2⟩ := ih (i + 1) m1 m2 (x + nI (B (4 + 4 * i + w))) (by omega) (by omega) (by omega)
    refine ⟨r, ?_, ?_⟩
    · show X2_together_b4 _ 22 (nI w) x (nI i) σ = _
      unfold X2_together_b4
      rw [show σ 22 0 = nI (B 0) from hb.1, if_neg (show ¬ nI (B 0) ≤ nI i by rw [nI_le_iff (by omega) (by omega)]; omega), gdx_n (by omega) (by omega), gdx_n (by omega) (by omega), letv_eq, nc_n (by omega), nc_n (by omega), nI_1, show σ (22 + 2 + 1 + w) i = nI (B (4 + 4 * i + w)) from (hb.2.2.2 i (by omega)).2 w hw]
      exact e1
    · show X12_sumOf_b4 _ 251 (nI w) x (nI i) σ = _
      unfold X12_sumOf_b4
      have e := hr (4 + 4 * i + w) (by omega)
      rw [show 0 + (4 + 4 * i + w) = 4 + 4 * i + w by omega] at e
      rw [show σ (251 + 4) (nc 0) = nI (B 0) from hr 0 (by omega), if_neg (show ¬ nI (B 0) ≤ nI i by rw [nI_le_iff (by omega) (by omega)]; omega), show (3 : Int32) = nI 3 from rfl, show (4 : Int32) = nI 4 from rfl, nI_mul, nI_add, nI_1, nI_add, gdx_n (by omega) (by omega), nc_n (by omega), letv_eq, nI_1, show 3 + 4 * i + 1 + w = 4 + 4 * i + w by omega, show σ (251 + 4) (4 + 4 * i + w) = _ from e]
      exact e2
theorem laid_s (σ : Mem) (h : IRow σ) : ∀ (d i m1 m2 : Nat) (x : Int32), i + d = 8 → d < m1 → d < m2 → ∃ r, X8_laid_l4 m1 1 x (nI i) σ = some r ∧ X12_count_l46 m2 251 x (nI i) σ = some r := by
  intro d
  induction d with
  | zero =>
    intro i m1 m2 x hi h1 h2
    obtain ⟨m1, rfl⟩ : ∃ m', m1 = m' + 1 := ⟨m1 - 1, by omega⟩
    obtain ⟨m2, rfl⟩ : ∃ m', m2 = m' + 1 := ⟨m2 - 1, by omega⟩
    obtain rfl : i = 8 := by omega
    exact ⟨x, rfl, rfl⟩
  | succ d ih =>
    intro i m1 m2 x hi h1 h2
    obtain ⟨m1, rfl⟩ : ∃ m', m1 = m' + 1 := ⟨m1 - 1, by omega⟩
    obtain ⟨m2, rfl⟩ : ∃ m', m2 = m' + 1 := ⟨m2 - 1, by omega⟩
    show ∃ r, X8_laid_b4 _ 1 x (nI i) σ = some r ∧ X12_count_b46 _ 251 x (nI i) σ = some r
    unfold X8_laid_b4 X12_count_b46 X12_count_b67
    rw [if_neg (show ¬ (8 : Int32) ≤ nI i from nI_ge (b := 8) (by omega) (by omega)), if_neg (show ¬ (8 : Int32) ≤ nI i from nI_ge (b := 8) (by omega) (by omega)), gdx_n (by omega) (by omega), gdx_n (by omega) (by omega), nc_n (by omega)]
    rcases h i (by omega) with ⟨e1, e2⟩ | ⟨l, n, a1, a2, a3, a4, a5, a6, _⟩
    · obtain ⟨r, q1, q2⟩ := ih (i + 1) m1 m2 x (by omega) (by omega) (by omega)
      refine ⟨r, ?_, ?_⟩
      · rw [show σ (1 + 11) i = -1 from e1, if_pos rfl]
        unfold X8_laid_b23
        rw [nI_1]
        exact q1
      · rw [show σ (251 + 1) i = -1 from e2, if_pos (by decide), letv_eq, nI_1, Int32.add_zero]
        exact q2
    · obtain ⟨r, q1, q2⟩ := ih (i + 1) m1 m2 (x + 1) (by omega) (by omega) (by omega)
      refine ⟨r, ?_, ?_⟩
      · rw [show σ (1 + 11) i = nI n from a5, if_neg (nI_nm1 (by omega))]
        unfold X8_laid_b23
        rw [nI_1]
        exact q1
      · rw [show σ (251 + 1) i = nI l from a4, if_neg (nI_nn (by omega)), letv_eq, nI_1]
        exact q2
theorem op_count (σ : Mem) (h : InvF F σ) (v1 : Int32) : ∃ r, X11_count 0 v1 σ = some r ∧ X12_count 251 v1 σ = some r ∧ InvF F σ := by
  have hI := h
  obtain ⟨B, m, L, I, h⟩ := h
  obtain ⟨r1, ⟨t, t1, t2, t3, t4⟩, r3, r4, r5, r6, r7, r8, r9, ⟨o, o1, o2, o3, o4⟩, r11, r12, r13⟩ := h
  have n1 : σ 22 0 = nI (B 0) := r7.1
  have n2 : σ 255 0 = nI (B 0) := r8 0 (by omega)
  have hn := r6.1
  have key : ∀ w, w < 3 → v1 - 2 = nI w → ∃ r, X11_count_b60 0 v1 σ = some r ∧ X12_count_b84 251 v1 σ = some r := by
    intro w hw e
    obtain ⟨r, q1, q2⟩ := sum_s σ B r7 r8 hn w hw (B 0) 0 FU FU 0 (by omega) (by unfold FU; omega) (by unfold FU; omega)
    refine ⟨r, ?_, ?_⟩
    · unfold X11_count_b60 X2_together X2_together_b0
      rw [e, show X2_together_l4 FU (0 + 22) (nI w) 0 0 σ = some r from q1, ob_some]
    · unfold X12_count_b84 X12_sumOf X12_sumOf_b0
      rw [e, show X12_sumOf_l4 FU 251 (nI w) 0 0 σ = some r from q2, ob_some]
  unfold X11_count X11_count_b0 X12_count X12_count_b0
  by_cases c0 : v1 = 0
  · obtain ⟨r, q1, q2⟩ := laid_s σ r1 8 0 FU FU 0 (by omega) (by unfold FU; omega) (by unfold FU; omega)
    refine ⟨r, ?_, ?_, hI⟩
    · rw [if_pos c0]
      unfold X8_laid X8_laid_b0
      rw [show X8_laid_l4 FU (0 + 1) 0 0 σ = some r from q1, ob_some]
    · rw [if_pos c0]
      exact q2
  · rw [if_neg c0, if_neg c0]
    by_cases c1 : v1 = 1
    · exact ⟨nI (B 0), by rw [if_pos c1, show σ (0 + 22) 0 = _ from n1], by rw [if_pos c1, show σ (251 + 4) (nc 0) = _ from n2], hI⟩
    · rw [if_neg c1, if_neg c1]
      by_cases c2 : v1 = 2
      · obtain ⟨r, q1, q2⟩ := key 0 (by omega) (by rw [c2]; rfl)
        exact ⟨r, by rw [if_pos c2]; exact q1, by rw [if_pos c2]; exact q2, hI⟩
      · rw [if_neg c2, if_neg c2]
        by_cases c3 : v1 = 3
        · obtain ⟨r, q1, q2⟩ := key 1 (by omega) (by rw [c3]; rfl)
          exact ⟨r, by rw [if_pos c3]; exact q1, by rw [if_pos c3]; exact q2, hI⟩
        · rw [if_neg c3, if_neg c3]
          by_cases c4 : v1 = 4
          · obtain ⟨r, q1, q2⟩ := key 2 (by omega) (by rw [c4]; rfl)
            exact ⟨r, by rw [if_pos c4]; exact q1, by rw [if_pos c4]; exact q2, hI⟩
          · rw [if_neg c4, if_neg c4]
            by_cases c5 : v1 = 5
            · exact ⟨nI m, by rw [if_pos c5, show σ (0 + 28) 2 = _ from o3], by rw [if_pos c5, r11.1], hI⟩
            · rw [if_neg c5, if_neg c5]
              by_cases c6 : v1 = 6
              · exact ⟨nI t, by rw [if_pos c6, show σ (0 + 13) 1 = _ from t2], by rw [if_pos c6, t3], hI⟩
              · exact ⟨-1000001, by rw [if_neg c6], by rw [if_neg c6], hI⟩
/-- after a call on rows -/
theorem inv_rows (hl : Loc F) {σ σ2 : Mem} (h : InvF F σ) (a : IRow σ2) (f : FrR σ σ2) (s : σ2 0 11 = σ2 251 0) : InvF F σ2 := by
  obtain ⟨B, m, L, I, r1, r2, r3, r4, r5, r6, r7, r8, r9, r10, r11, r12, r13⟩ := h
  obtain ⟨f1, f2, f3⟩ := f
  have g : ∀ q, q ≠ 0 → (q < 3 ∨ 12 < q) → (q < 251 ∨ 254 < q) → σ2 q = σ q := f1
  exact ⟨B, m, L, I, a, ITape.cg r2 (g 13 (by omega) (by omega) (by omega)) (g 14 (by omega) (by omega) (by omega)) (g 259 (by omega) (by omega) (by omega)) (f3 10 (by omega)), by rw [f2 10 (by omega), f3 17 (by omega)]; exact r3, s, Trc.cg r5 (by rw [g 237 (by omega) (by omega) (by omega)]) (g 238 (by omega) (by omega) (by omega)) (g 270 (by omega) (by omega) (by omega)) (f3 31 (by omega)), r6, AtB.cg r7 (fun q a b => g q (by omega) (by omega) (by omega)), by rw [g 255 (by omega) (by omega) (by omega)]; exact r8, r9, CA.cg r10 (fun q a b => g q (by omega) (by omega) (by omega)), MA.cg r11 (f3 8 (by omega)) (g 258 (by omega) (by omega) (by omega)), Img.cg r12 (fun q hq => g q (by omega) (by omega) (by omega)), Fsh.cg hl r13 (f2 9 (by omega)) (fun q a b => g q (by omega) (by omega) (by omega))⟩
theorem op_feedI (hl : Loc F) (σ : Mem) (h : InvF F σ) (v1 : Int32) : ∃ (r : Int32) (σ1 σ2 : Mem), X11_feed 0 v1 σ = some (r, σ1) ∧ X12_feed 251 v1 σ1 = some (r, σ2) ∧ InvF F σ2 := by
  obtain ⟨B, m, L, I, r1, r2, r3, r4, r5, r6, r7, r8, r9, r10, r11, r12, r13⟩ := h
  obtain ⟨r, σ1, σ2, e1, e2, e3, f1, f3⟩ := op_feed σ r2 v1
  have g : ∀ q, q ≠ 13 → q ≠ 14 → q ≠ 251 → q ≠ 259 → σ2 q = σ q := f1
  exact ⟨r, σ1, σ2, e1, e2, B, m, L, I, IRow.cg r1 (fun q hq => g q (by omega) (by omega) (by omega) (by omega)), e3, by rw [g 0 (by omega) (by omega) (by omega) (by omega), f3 17 (by omega)]; exact r3, by rw [g 0 (by omega) (by omega) (by omega) (by omega), f3 0 (by omega)]; exact r4, Trc.cg r5 (by rw [g 237 (by omega) (by omega) (by omega) (by omega)]) (g 238 (by omega) (by omega) (by omega) (by omega)) (g 270 (by omega) (by omega) (by omega) (by omega)) (f3 31 (by omega)), r6, AtB.cg r7 (fun q a b => g q (by omega) (by omega) (by omega) (by omega)), by rw [g 255 (by omega) (by omega) (by omega) (by omega)]; exact r8, r9, CA.cg r10 (fun q a b => g q (by omega) (by omega) (by omega) (by omega)), MA.cg r11 (f3 8 (by omega)) (g 258 (by omega) (by omega) (by omega) (by omega)), Img.cg r12 (fun q hq => g q (by omega) (by omega) (by omega) (by omega)), Fsh.cg hl r13 (by rw [g 0 (by omega) (by omega) (by omega) (by omega)]) (fun q a b => g q (by omega) (by omega) (by omega) (by omega))⟩
theorem op_rowI (hl : Loc F) (σ : Mem) (h : InvF F σ) (v1 v2 v3 : Int32) : ∃ (r : Int32) (σ1 σ2 : Mem), X11_row 0 v1 v2 v3 σ = some (r, σ1) ∧ X12_row 251 v1 v2 v3 σ1 = some (r, σ2) ∧ InvF F σ2 := by
  obtain ⟨B, m, L, I, h'⟩ := id h
  obtain ⟨r, σ1, σ2, e1, e2, e3, e4, e5⟩ := op_row σ h'.1 h'.2.2.2.1 v1 v2 v3
  exact ⟨r, σ1, σ2, e1, e2, inv_rows hl h e3 e4 e5⟩
theorem op_setI (hl : Loc F) (σ : Mem) (h : InvF F σ) (v1 v2 v3 : Int32) : ∃ (r : Int32) (σ1 σ2 : Mem), X11_set 0 v1 v2 v3 σ = some (r, σ1) ∧ X12_set 251 v1 v2 v3 σ1 = some (r, σ2) ∧ InvF F σ2 := by
  obtain ⟨B, m, L, I, h'⟩ := id h
  obtain ⟨r, σ1, σ2, e1, e2, e3, e4, e5⟩ := op_set σ h'.1 h'.2.2.2.1 v1 v2 v3
  exact ⟨r, σ1, σ2, e1, e2, inv_rows hl h e3 e4 e5⟩
theorem op_copyI (hl : Loc F) (σ : Mem) (h : InvF F σ) (v1 v2 v3 v4 v5 : Int32) : ∃ (r : Int32) (σ1 σ2 : Mem), X11_copy 0 v1 v2 v3 v4 v5 σ = some (r, σ1) ∧ X12_copy 251 v1 v2 v3 v4 v5 σ1 = some (r, σ2) ∧ InvF F σ2 := by
  obtain ⟨B, m, L, I, h'⟩ := id h
  obtain ⟨r, σ1, σ2, e1, e2, e3, e4, e5⟩ := op_copy σ h'.1 h'.2.2.2.1 v1 v2 v3 v4 v5
  exact ⟨r, σ1, σ2, e1, e2, inv_rows hl h e3 e4 e5⟩
theorem op_dropI (hl : Loc F) (σ : Mem) (h : InvF F σ) (v1 : Int32) : ∃ (r : Int32) (σ1 σ2 : Mem), X11_drop 0 v1 σ = some (r, σ1) ∧ X12_drop 251 v1 σ1 = some (r, σ2) ∧ InvF F σ2 := by
  obtain ⟨B, m, L, I, h'⟩ := id h
  obtain ⟨r, σ1, σ2, e1, e2, e3, e4, e5⟩ := op_drop σ h'.1 h'.2.2.2.1 v1
  exact ⟨r, σ1, σ2, e1, e2, inv_rows hl h e3 e4 e5⟩
end
