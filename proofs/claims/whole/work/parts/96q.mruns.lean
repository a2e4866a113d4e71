/-! PURE: runs, as the model lays them. -/
theorem size_l (M : Nat) (hM : M < 2 ^ 31) : ∀ (d i m : Nat), i + d = 10 → d < m → X12_sizeOf_l4 m (nI M) (nI (pc i M)) (nI i) = some (nI (pc 10 M)) := by
  intro d
  induction d with
  | zero =>
    intro i m hi hm
    obtain ⟨m, rfl⟩ : ∃ m', m = m' + 1 := ⟨m - 1, by omega⟩
    obtain rfl : i = 10 := by omega
    rfl
  | succ d ih =>
    intro i m hi hm
    obtain ⟨m, rfl⟩ : ∃ m', m = m' + 1 := ⟨m - 1, by omega⟩
    have e := ih (i + 1) m (by omega) (by omega)
    rw [← e]
    show X12_sizeOf_b4 _ (nI M) (nI (pc i M)) (nI i) = X12_sizeOf_l4 m (nI M) (nI (pc i M + (if M.testBit i then 1 else 0))) (nI (i + 1))
    unfold X12_sizeOf_b4 X12_sizeOf_b24
    rw [if_neg (show ¬ (10 : Int32) ≤ nI i from nI_ge (b := 10) (by omega) (by omega)), letv_eq, letv_eq, nI_1, nI_1, Int32.add_zero]
    cases c : M.testBit i with
    | true => rw [has_1 hM (by omega) c, if_neg (by decide), if_pos rfl]
    | false =>
      rw [has_0 hM (by omega) c, if_pos rfl, if_neg (by decide)]
      rfl
theorem size_s (M : Nat) (hM : M < 2 ^ 31) : X12_sizeOf (nI M) = some (nI (pc 10 M)) := size_l M hM 10 0 FU (by omega) (by unfold FU; omega)
theorem cn_ex (n M : Nat) : ∀ p i, 1 ≤ i → i ≤ cn n M p → ∃ u, 0 < u ∧ u ≤ p ∧ cutb n M u = true ∧ cn n M u = i := by
  intro p
  induction p with
  | zero =>
    intro i h1 h2
    have : cn n M 0 = 0 := rfl
    omega
  | succ p ih =>
    intro i h1 h2
    have h3 : cn n M (p + 1) = cn n M p + (if cutb n M (p + 1) then 1 else 0) := rfl
    by_cases c : i ≤ cn n M p
    · obtain ⟨u, u1, u2, u3, u4⟩ := ih i h1 c
      exact ⟨u, u1, by omega, u3, u4⟩
    · cases e : cutb n M (p + 1) with
      | false =>
        rw [e] at h3
        simp at h3
        omega
      | true =>
        rw [e, if_pos rfl] at h3
        exact ⟨p + 1, by omega, Nat.le_refl _, e, by omega⟩
theorem cn_cut {n M u p : Nat} (h0 : 0 < u) (h : cutb n M u = true) : p < u ↔ cn n M p < cn n M u := by
  obtain ⟨v, rfl⟩ : ∃ v, u = v + 1 := ⟨u - 1, by omega⟩
  have h3 : cn n M (v + 1) = cn n M v + (if cutb n M (v + 1) then 1 else 0) := rfl
  rw [h, if_pos rfl] at h3
  constructor
  · intro hp
    have := cn_mono n M (show p ≤ v by omega)
    omega
  · intro hp
    rcases Nat.lt_or_ge p (v + 1) with c | c
    · exact c
    · have := cn_mono n M c
      omega
section
variable {B : Nat → Nat}
theorem weight_l {k : Nat} {σ : Mem} (h : RwB (σ k) 0 B) (ho : okB B) (M : Nat) (hM : M < 2 ^ 31) : ∀ (d v a acc m : Nat), v + d = B 0 → a ≤ v → acc + d * 200 ≤ 5000 → d < m → X12_weightOf_l12 m k (nI M) (nI (B 0)) (nI acc) (nI (rm a v)) (nI v) σ = some (nI (acc + ws (wdf (far B) (B 0)) (B 2) (B 0) M d a)) := by
  have hn := ho.1
  have h2 : σ k (nc 2) = nI (B 2) := h 2 (by omega)
  intro d
  induction d with
  | zero =>
    intro v a acc m hv ha hacc hm
    obtain ⟨m, rfl⟩ : ∃ m', m = m' + 1 := ⟨m - 1, by omega⟩
    obtain rfl : v = B 0 := by omega
    have hr : rm a (B 0) < 2 ^ 31 := Nat.lt_of_lt_of_le (rm_lt _ _) (Nat.pow_le_pow_right (by omega) (by omega))
    show X12_weightOf_b12 _ k (nI M) (nI (B 0)) (nI acc) (nI (rm a (B 0))) (nI (B 0)) σ = _
    unfold X12_weightOf_b12
    rw [if_pos (nI_le (by omega) (by omega)), spread_s h ho _ hr, ob_some, nI_add]
    rfl
  | succ d ih =>
    intro v a acc m hv ha hacc hm
    obtain ⟨m, rfl⟩ : ∃ m', m = m' + 1 := ⟨m - 1, by omega⟩
    have hr : rm a v < 2 ^ 31 := Nat.lt_of_lt_of_le (rm_lt _ _) (Nat.pow_le_pow_right (by omega) (by omega))
    have hvd : v = B 0 - 1 - d := by omega
    have hw : wid (far B) (B 0) (rm a v) ≤ 90 := wid_le (fun x y hx hy => far_le ho hx hy) _
    have hc := ho.2.2.1
    show X12_weightOf_b12 _ k (nI M) (nI (B 0)) (nI acc) (nI (rm a v)) (nI v) σ = some (nI (acc + if M.testBit d then wdf (far B) (B 0) a (B 0 - 1 - d) + B 2 + ws (wdf (far B) (B 0)) (B 2) (B 0) M d (B 0 - 1 - d) else ws (wdf (far B) (B 0)) (B 2) (B 0) M d a))
    unfold X12_weightOf_b12 X12_weightOf_b44 X12_cutsAt X12_cutsAt_b0
    rw [if_neg (show ¬ nI (B 0) ≤ nI v by rw [nI_le_iff (by omega) (by omega)]; omega), nI_p1 (by omega), nI_sub (by omega), show B 0 - 1 - v = d by omega, letv_eq, shl_1 v (by omega), nI_or, nI_1, spread_s h ho _ hr, ob_some, letv_eq, h2, nI_add, nI_add, letv_eq]
    cases c : M.testBit d with
    | true =>
      rw [has_1 hM (by omega) c, if_neg (by decide), if_pos rfl]
      have e := ih (v + 1) v (acc + (wid (far B) (B 0) (rm a v) + B 2)) m (by omega) (by omega) (by omega) (by omega)
      rw [rm_succ (Nat.le_refl v), rm_self, Nat.zero_or] at e
      rw [show (0 : Int32) ||| nI (2 ^ v) = nI (2 ^ v) from Int32.zero_or, e, hvd]
      congr 2
      show acc + (wid (far B) (B 0) (rm a (B 0 - 1 - d)) + B 2) + _ = acc + (wid (far B) (B 0) (rm a (B 0 - 1 - d)) + B 2 + _)
      omega
    | false =>
      rw [has_0 hM (by omega) c, if_pos rfl, if_neg (by decide)]
      have e := ih (v + 1) a acc m (by omega) (by omega) (by omega) (by omega)
      rw [rm_succ ha] at e
      exact e
theorem weight_s {k : Nat} {σ : Mem} (h : RwB (σ k) 0 B) (ho : okB B) (hn0 : 0 < B 0) (M : Nat) (hM : M < 2 ^ 31) : X12_weightOf k (nI M) σ = some (nI (wt (wdf (far B) (B 0)) (B 2) (B 0) (B 0 - 1) M)) := by
  have hn := ho.1
  have e := weight_l h ho M hM (B 0 - 1) 1 0 0 FU (by omega) (by omega) (by omega) (by unfold FU; omega)
  rw [Nat.zero_add] at e
  unfold X12_weightOf X12_weightOf_b0
  rw [letv_eq, show σ k (nc 0) = nI (B 0) from h 0 (by omega)]
  unfold wt
  rw [show B 0 - 1 - (B 0 - 1) = 0 by omega]
  exact e
theorem beg_l {M : Nat} (hM : M < 2 ^ 31) (n : Nat) (hn : n ≤ 10) : ∀ (d p m : Nat) (σ : Mem), p + 1 + d = n → d < m → Beg σ 266 n M p → ∃ σ', X12_layRuns_l97 m 251 (nI n) (nI M) (nI (cn n M p + 1)) (nI (p + 1)) σ = some (nI (cn n M n + 1), σ') ∧ Beg σ' 266 n M n ∧ σ' 266 (cn n M n + 1) = nI n ∧ ∀ q, q ≠ 266 → σ' q = σ q := by
  intro d
  induction d with
  | zero =>
    intro p m σ hp hm hb
    obtain ⟨m, rfl⟩ : ∃ m', m = m' + 1 := ⟨m - 1, by omega⟩
    have hcn := cn_le n M p
    have hnc : cutb n M n = false := by
      unfold cutb
      rw [show decide (n < n) = false from decide_eq_false (Nat.lt_irrefl n)]
      simp
    have hpn : p + 1 = n := by omega
    have hcnn : cn n M n = cn n M p := by
      have h7 : cn n M (p + 1) = cn n M p + (if cutb n M (p + 1) then 1 else 0) := rfl
      rw [hpn, hnc] at h7
      simpa using h7
    refine ⟨wr σ 266 (cn n M p + 1) (nI n), ?_, fun u hu hx => ?_, by rw [hcnn, wr_at], fun q hq => wr_off _ _ _ hq⟩
    · show X12_layRuns_b97 _ 251 (nI n) (nI M) (nI (cn n M p + 1)) (nI (p + 1)) σ = _
      unfold X12_layRuns_b97
      rw [if_pos (nI_le (by omega) (by omega)), gdx_n (by omega) (by omega), nc_n (by omega), hcnn]
    · by_cases eu : u = n
      · rcases hx with hx | hx
        · omega
        · rw [eu, hnc] at hx
          exact absurd hx (by decide)
      · have := cn_mono n M (show u ≤ p by omega)
        rw [wr_in _ _ (by omega)]
        exact hb u (by omega) hx
  | succ d ih =>
    intro p m σ hp hm hb
    obtain ⟨m, rfl⟩ : ∃ m', m = m' + 1 := ⟨m - 1, by omega⟩
    have hcn := cn_le n M p
    have h7 : cn n M (p + 1) = cn n M p + (if cutb n M (p + 1) then 1 else 0) := rfl
    have hcb : cutb n M (p + 1) = M.testBit (n - 1 - (p + 1)) := by
      unfold cutb
      rw [show decide (0 < p + 1) = true from decide_eq_true (by omega), show decide (p + 1 < n) = true from decide_eq_true (by omega)]
      rfl
    have unf : X12_layRuns_l97 (m + 1) 251 (nI n) (nI M) (nI (cn n M p + 1)) (nI (p + 1)) σ = if cutb n M (p + 1) then X12_layRuns_l97 m 251 (nI n) (nI M) (nI (cn n M p + 1 + 1)) (nI (p + 1 + 1)) (wr σ 266 (cn n M p + 1) (nI (p + 1))) else X12_layRuns_l97 m 251 (nI n) (nI M) (nI (cn n M p + 1)) (nI (p + 1 + 1)) σ := by
      show X12_layRuns_b97 _ 251 (nI n) (nI M) (nI (cn n M p + 1)) (nI (p + 1)) σ = _
      unfold X12_layRuns_b97 X12_layRuns_b125 X12_cutsAt X12_cutsAt_b0
      rw [if_neg (show ¬ nI n ≤ nI (p + 1) by rw [nI_le_iff (by omega) (by omega)]; omega), nI_p1 (by omega), nI_sub (by omega), gdx_n (by omega) (by omega), nc_n (by omega), nI_1, nI_1, hcb]
      cases c : M.testBit (n - 1 - (p + 1)) with
      | true => rw [has_1 hM (by omega) c, if_neg (by decide), if_pos rfl]
      | false => rw [has_0 hM (by omega) c, if_pos rfl, if_neg (by decide)]
    rw [unf]
    cases c : cutb n M (p + 1) with
    | true =>
      rw [c, if_pos rfl] at h7
      obtain ⟨σ', q1, q2, q3, q4⟩ := ih (p + 1) m (wr σ 266 (cn n M p + 1) (nI (p + 1))) (by omega) (by omega) (fun u hu hx => by
        by_cases eu : u = p + 1
        · rw [eu, h7, wr_at]
        · have := cn_mono n M (show u ≤ p by omega)
          rw [wr_in _ _ (by omega)]
          exact hb u (by omega) hx)
      rw [h7] at q1
      exact ⟨σ', by rw [if_pos rfl]; exact q1, q2, q3, fun q hq => by rw [q4 q hq, wr_off _ _ _ hq]⟩
    | false =>
      rw [c] at h7
      have h7' : cn n M (p + 1) = cn n M p := h7
      obtain ⟨σ', q1, q2, q3, q4⟩ := ih (p + 1) m σ (by omega) (by omega) (fun u hu hx => by
        by_cases eu : u = p + 1
        · rcases hx with hx | hx
          · omega
          · rw [eu, c] at hx
            exact absurd hx (by decide)
        · exact hb u (by omega) hx)
      rw [h7'] at q1
      exact ⟨σ', by rw [if_neg (by decide)]; exact q1, q2, q3, q4⟩
/-- the best of the masks from e on -/
def BestM (B : Nat → Nat) (e M : Nat) : Prop := e ≤ M ∧ M < 2 ^ (B 0 - 1) ∧ ∀ m, e ≤ m → m < 2 ^ (B 0 - 1) → wt (wdf (far B) (B 0)) (B 2) (B 0) (B 0 - 1) M < wt (wdf (far B) (B 0)) (B 2) (B 0) (B 0 - 1) m ∨ (wt (wdf (far B) (B 0)) (B 2) (B 0) (B 0 - 1) M = wt (wdf (far B) (B 0)) (B 2) (B 0) (B 0 - 1) m ∧ (pc 10 M < pc 10 m ∨ (pc 10 M = pc 10 m ∧ m ≤ M)))
theorem pick_l {σ : Mem} (h : RwB (σ 255) 0 B) (ho : okB B) (hn0 : 0 < B 0) : ∀ (e m : Nat) (v2 v3 : Int32), e ≤ 2 ^ (B 0 - 1) → e < m → ((e = 2 ^ (B 0 - 1) ∧ v3 = -1000000) ∨ ∃ M, v2 = nI M ∧ v3 = nI (wt (wdf (far B) (B 0)) (B 2) (B 0) (B 0 - 1) M) ∧ BestM B e M) → ∃ M, X12_layRuns_l21 m 251 (nI (B 0)) v2 v3 (nI e - 1) σ = X12_layRuns_l97 FU 251 (nI (B 0)) (nI M) (nI 1) (nI 1) (wr (wr σ 251 25 (nI (wt (wdf (far B) (B 0)) (B 2) (B 0) (B 0 - 1) M))) 266 0 0) ∧ BestM B 0 M := by
  have hn := ho.1
  have hc := ho.2.2.1
  have h512 : 2 ^ (B 0 - 1) ≤ 2 ^ 9 := Nat.pow_le_pow_right (by omega) (by omega)
  have hwt : ∀ M, wt (wdf (far B) (B 0)) (B 2) (B 0) (B 0 - 1) M ≤ 2000 := fun M => by
    have h1 := ws_le (c := B 2) (n := B 0) (wd := wdf (far B) (B 0)) (K := 90) (fun a b => wid_le (fun x y hx hy => far_le ho hx hy) _) (M := M) (B 0 - 1) (B 0 - 1 - (B 0 - 1))
    have h2 : (B 0 - 1) * (90 + B 2) ≤ 10 * (90 + B 2) := Nat.mul_le_mul_right _ (by omega)
    unfold wt
    omega
  intro e
  induction e with
  | zero =>
    intro m v2 v3 he hm hs
    obtain ⟨m, rfl⟩ : ∃ m', m = m' + 1 := ⟨m - 1, by omega⟩
    rcases hs with ⟨hs, _⟩ | ⟨M, a1, a2, a3⟩
    · have := Nat.two_pow_pos (B 0 - 1)
      omega
    · refine ⟨M, ?_, a3⟩
      show X12_layRuns_b21 _ 251 (nI (B 0)) v2 v3 (nI 0 - 1) σ = _
      unfold X12_layRuns_b21
      rw [if_pos (by decide), letv_eq, nc_0, a1, a2]
      rfl
  | succ e ih =>
    intro m v2 v3 he hm hs
    obtain ⟨m, rfl⟩ : ∃ m', m = m' + 1 := ⟨m - 1, by omega⟩
    have hwe := hwt e
    have take : X12_layRuns_b67 (X12_layRuns_l21 m) 251 (nI (B 0)) (nI e) (nI (wt (wdf (far B) (B 0)) (B 2) (B 0) (B 0 - 1) e)) σ = X12_layRuns_l21 m 251 (nI (B 0)) (nI e) (nI (wt (wdf (far B) (B 0)) (B 2) (B 0) (B 0 - 1) e)) (nI e - 1) σ := by
      unfold X12_layRuns_b67 X12_layRuns_b73
      rw [← Int32.sub_eq_add_neg]
    have keepE : X12_layRuns_b73 (X12_layRuns_l21 m) 251 (nI (B 0)) v2 v3 (nI e) σ = X12_layRuns_l21 m 251 (nI (B 0)) v2 v3 (nI e - 1) σ := by
      unfold X12_layRuns_b73
      rw [← Int32.sub_eq_add_neg]
    have self : e < 2 ^ (B 0 - 1) := by omega
    have unf : X12_layRuns_l21 (m + 1) 251 (nI (B 0)) v2 v3 (nI (e + 1) - 1) σ = if v3 = -1000000 then X12_layRuns_l21 m 251 (nI (B 0)) (nI e) (nI (wt (wdf (far B) (B 0)) (B 2) (B 0) (B 0 - 1) e)) (nI e - 1) σ else if nI (wt (wdf (far B) (B 0)) (B 2) (B 0) (B 0 - 1) e) < v3 then X12_layRuns_l21 m 251 (nI (B 0)) (nI e) (nI (wt (wdf (far B) (B 0)) (B 2) (B 0) (B 0 - 1) e)) (nI e - 1) σ else if nI (wt (wdf (far B) (B 0)) (B 2) (B 0) (B 0 - 1) e) = v3 then ob (X12_sizeOf (nI e)) (fun r7 => ob (X12_sizeOf v2) (fun r8 => if r8 ≤ r7 then X12_layRuns_l21 m 251 (nI (B 0)) v2 v3 (nI e - 1) σ else X12_layRuns_l21 m 251 (nI (B 0)) (nI e) (nI (wt (wdf (far B) (B 0)) (B 2) (B 0) (B 0 - 1) e)) (nI e - 1) σ)) else X12_layRuns_l21 m 251 (nI (B 0)) v2 v3 (nI e - 1) σ := by
      show X12_layRuns_b21 _ 251 (nI (B 0)) v2 v3 (nI (e + 1) - 1) σ = _
      unfold X12_layRuns_b21
      rw [nI_s1, if_neg (nI_nn (by omega)), show X12_weightOf (251 + 4) (nI e) σ = _ from weight_s h ho hn0 e (by omega), ob_some, take, keepE]
    rw [unf]
    rcases hs with ⟨hs, hv3⟩ | ⟨M, a1, a2, a3, a4, a5⟩
    · rw [if_pos hv3]
      refine ih m _ _ (by omega) (by omega) (Or.inr ⟨e, rfl, rfl, Nat.le_refl e, by omega, fun m' h1 h2 => ?_⟩)
      have : m' = e := by omega
      rw [this]
      exact Or.inr ⟨rfl, Or.inr ⟨rfl, Nat.le_refl e⟩⟩
    · have hwM := hwt M
      rw [if_neg (show ¬ v3 = -1000000 from fun q => by
        rw [a2] at q
        exact nI_nn (show wt (wdf (far B) (B 0)) (B 2) (B 0) (B 0 - 1) M < 2 ^ 31 by omega) (by rw [q]; decide))]
      have stay : ¬ (wt (wdf (far B) (B 0)) (B 2) (B 0) (B 0 - 1) e < wt (wdf (far B) (B 0)) (B 2) (B 0) (B 0 - 1) M ∨ (wt (wdf (far B) (B 0)) (B 2) (B 0) (B 0 - 1) e = wt (wdf (far B) (B 0)) (B 2) (B 0) (B 0 - 1) M ∧ pc 10 e < pc 10 M)) → ∃ M, X12_layRuns_l21 m 251 (nI (B 0)) v2 v3 (nI e - 1) σ = X12_layRuns_l97 FU 251 (nI (B 0)) (nI M) (nI 1) (nI 1) (wr (wr σ 251 25 (nI (wt (wdf (far B) (B 0)) (B 2) (B 0) (B 0 - 1) M))) 266 0 0) ∧ BestM B 0 M := by
        intro hd
        refine ih m _ _ (by omega) (by omega) (Or.inr ⟨M, a1, a2, by omega, a4, fun m' h1 h2 => ?_⟩)
        by_cases e1 : m' = e
        · rw [e1]
          omega
        · exact a5 m' (by omega) h2
      have anew : (wt (wdf (far B) (B 0)) (B 2) (B 0) (B 0 - 1) e < wt (wdf (far B) (B 0)) (B 2) (B 0) (B 0 - 1) M ∨ (wt (wdf (far B) (B 0)) (B 2) (B 0) (B 0 - 1) e = wt (wdf (far B) (B 0)) (B 2) (B 0) (B 0 - 1) M ∧ pc 10 e < pc 10 M)) → ∃ M, X12_layRuns_l21 m 251 (nI (B 0)) (nI e) (nI (wt (wdf (far B) (B 0)) (B 2) (B 0) (B 0 - 1) e)) (nI e - 1) σ = X12_layRuns_l97 FU 251 (nI (B 0)) (nI M) (nI 1) (nI 1) (wr (wr σ 251 25 (nI (wt (wdf (far B) (B 0)) (B 2) (B 0) (B 0 - 1) M))) 266 0 0) ∧ BestM B 0 M := by
        intro hd
        refine ih m _ _ (by omega) (by omega) (Or.inr ⟨e, rfl, rfl, Nat.le_refl e, by omega, fun m' h1 h2 => ?_⟩)
        by_cases e1 : m' = e
        · rw [e1]
          exact Or.inr ⟨rfl, Or.inr ⟨rfl, Nat.le_refl e⟩⟩
        · have := a5 m' (by omega) h2
          omega
      rw [a2]
      by_cases d1 : wt (wdf (far B) (B 0)) (B 2) (B 0) (B 0 - 1) e < wt (wdf (far B) (B 0)) (B 2) (B 0) (B 0 - 1) M
      · rw [if_pos (nI_lt d1 (by omega))]
        exact anew (Or.inl d1)
      · rw [if_neg (show ¬ nI (wt (wdf (far B) (B 0)) (B 2) (B 0) (B 0 - 1) e) < nI (wt (wdf (far B) (B 0)) (B 2) (B 0) (B 0 - 1) M) by rw [nI_lt_iff (by omega) (by omega)]; exact d1)]
        rw [a2] at stay
        by_cases d2 : wt (wdf (far B) (B 0)) (B 2) (B 0) (B 0 - 1) e = wt (wdf (far B) (B 0)) (B 2) (B 0) (B 0 - 1) M
        · have hp1 := pc_le e 10
          have hp2 := pc_le M 10
          rw [if_pos (show nI (wt (wdf (far B) (B 0)) (B 2) (B 0) (B 0 - 1) e) = nI (wt (wdf (far B) (B 0)) (B 2) (B 0) (B 0 - 1) M) by rw [d2]), size_s e (by omega), ob_some, a1, size_s M (by omega), ob_some]
          rw [a1] at stay
          by_cases d3 : pc 10 M ≤ pc 10 e
          · rw [if_pos (nI_le d3 (by omega))]
            exact stay (by omega)
          · rw [if_neg (show ¬ nI (pc 10 M) ≤ nI (pc 10 e) by rw [nI_le_iff (by omega) (by omega)]; exact d3)]
            exact anew (by omega)
        · rw [if_neg (show ¬ nI (wt (wdf (far B) (B 0)) (B 2) (B 0) (B 0 - 1) e) = nI (wt (wdf (far B) (B 0)) (B 2) (B 0) (B 0 - 1) M) from fun q => d2 ((nI_inj (by omega) (by omega)).mp q))]
          exact stay (by omega)
/-- the model's runs of a book that has pages -/
theorem mruns_s {σ : Mem} (h : RwB (σ 255) 0 B) (ho : okB B) (hn0 : 0 < B 0) : ∃ σ' M, X12_layRuns 251 σ = some (nI (cn (B 0) M (B 0) + 1), σ') ∧ OptM (wdf (far B) (B 0)) (B 2) (B 0) (B 0 - 1) M ∧ σ' 251 25 = nI (wt (wdf (far B) (B 0)) (B 2) (B 0) (B 0 - 1) M) ∧ Beg σ' 266 (B 0) M (B 0) ∧ σ' 266 (cn (B 0) M (B 0) + 1) = nI (B 0) ∧ (∀ q, q ≠ 251 → q ≠ 266 → σ' q = σ q) ∧ ∀ j, j ≠ 25 → σ' 251 j = σ 251 j := by
  have hn := ho.1
  have h512 : 2 ^ (B 0 - 1) ≤ 2 ^ 9 := Nat.pow_le_pow_right (by omega) (by omega)
  obtain ⟨M, e1, e2, e3, e4⟩ := pick_l h ho hn0 (2 ^ (B 0 - 1)) FU 0 (-1000000) (Nat.le_refl _) (by unfold FU; omega) (Or.inl ⟨rfl, rfl⟩)
  obtain ⟨σ', q1, q2, q3, q4⟩ := beg_l (M := M) (by omega) (B 0) hn (B 0 - 1) 0 FU (wr (wr σ 251 25 (nI (wt (wdf (far B) (B 0)) (B 2) (B 0) (B 0 - 1) M))) 266 0 0) (by omega) (by unfold FU; omega) (fun u hu hx => by
    obtain rfl : u = 0 := by omega
    show wr _ 266 0 0 266 0 = _
    rw [wr_at]
    rfl)
  refine ⟨σ', M, ?_, ⟨e3, fun m hm => e4 m (Nat.zero_le m) hm⟩, ?_, q2, q3, fun q a b => by rw [q4 q b, wr_off _ _ _ b, wr_off _ _ _ a], fun j hj => by rw [q4 251 (by omega), wr_off _ _ _ (by omega), wr_in _ _ hj]⟩
  · unfold X12_layRuns X12_layRuns_b0
    rw [letv_eq, letv_eq, show σ (251 + 4) (nc 0) = nI (B 0) from h 0 (by omega), nI_p1 (by omega), shl_1 (B 0 - 1) (by omega), e1]
    exact q1
  · rw [q4 251 (by omega), wr_off _ _ _ (by omega), wr_at]
theorem runOf_l {σ : Mem} {n M p : Nat} (hn : n ≤ 10) (hp : p < n) (hb : Beg σ 266 n M n) : ∀ (d j m : Nat), j + d = cn n M p → d < m → X12_runOf_l2 m 251 (nI p) (nI (cn n M n + 1)) (nI j) σ = some (nI (cn n M p)) := by
  have hcn := cn_le n M n
  have hpn := cn_mono n M (show p ≤ n by omega)
  intro d
  induction d with
  | zero =>
    intro j m hj hm
    obtain ⟨m, rfl⟩ : ∃ m', m = m' + 1 := ⟨m - 1, by omega⟩
    obtain rfl : j = cn n M p := by omega
    show X12_runOf_b2 _ 251 (nI p) (nI (cn n M n + 1)) (nI (cn n M p)) σ = _
    unfold X12_runOf_b2
    rw [nI_s1]
    by_cases c : cn n M n ≤ cn n M p
    · rw [if_pos (nI_le c (by omega))]
    · obtain ⟨u, u1, u2, u3, u4⟩ := cn_ex n M n (cn n M p + 1) (by omega) (by omega)
      have hbu := hb u u2 (Or.inr u3)
      rw [u4] at hbu
      rw [if_neg (show ¬ nI (cn n M n) ≤ nI (cn n M p) by rw [nI_le_iff (by omega) (by omega)]; exact c), nI_1, gdx_n (by omega) (by omega), nc_n (by omega), show σ (251 + 15) (cn n M p + 1) = nI u from hbu, if_pos (nI_lt ((cn_cut u1 u3).mpr (by omega)) (by omega))]
  | succ d ih =>
    intro j m hj hm
    obtain ⟨m, rfl⟩ : ∃ m', m = m' + 1 := ⟨m - 1, by omega⟩
    obtain ⟨u, u1, u2, u3, u4⟩ := cn_ex n M n (j + 1) (by omega) (by omega)
    have hbu := hb u u2 (Or.inr u3)
    rw [u4] at hbu
    show X12_runOf_b2 _ 251 (nI p) (nI (cn n M n + 1)) (nI j) σ = _
    unfold X12_runOf_b2
    rw [nI_s1, if_neg (show ¬ nI (cn n M n) ≤ nI j by rw [nI_le_iff (by omega) (by omega)]; omega), nI_1, gdx_n (by omega) (by omega), nc_n (by omega), show σ (251 + 15) (j + 1) = nI u from hbu, if_neg (show ¬ nI p < nI u from fun q => by
      rw [nI_lt_iff (by omega) (by omega)] at q
      have := (cn_cut u1 u3).mp q
      omega)]
    exact ih (j + 1) m (by omega) (by omega)
end
