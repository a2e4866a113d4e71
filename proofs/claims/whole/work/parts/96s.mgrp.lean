/-! PURE: groups, as the model lays them. -/
section
variable {B : Nat → Nat}
/-- the model's scan: what is kept so far -/
def MSc (B : Nat → Nat) (L : Nat) (r : Nat → Nat) (a b : Nat) (v1 v2 : Int32) : Prop := (v1 = -1000000 ∧ v2 = nI (L + 1) ∧ ScN (far B) (B 0) L r a b) ∨ ∃ x y, v1 = nI (10 * x + y) ∧ v2 = nI (wj (far B) (B 0) r x y) ∧ ScJ (far B) (B 0) L r a b x y
theorem gm_zero {n : Nat} {r : Nat → Nat} {p : Nat} (h : RP n r) (hp : p < n) : gm n r p = 0 ↔ r p ≠ p := by
  constructor
  · intro e q
    have := (gm_bit n r p p).mpr ⟨hp, q⟩
    rw [e, Nat.zero_testBit] at this
    exact absurd this (by decide)
  · intro e
    apply Nat.eq_of_testBit_eq
    intro i
    rw [Nat.zero_testBit, Bool.eq_false_iff, Ne, gm_bit]
    rintro ⟨h1, h2⟩
    have := (h i h1).2
    rw [h2] at this
    exact e this
theorem njIn (ho : okB B) (L : Nat) (hL : L ≤ 1000) (r : Nat → Nat) (hr : RP (B 0) r) {σ : Mem} (h : RwB (σ 255) 0 B) (hg : ∀ p, p < 10 → σ 260 p = nI (gm (B 0) r p)) (K14 : Nat → Int32 → Int32 → Int32 → Mem → Option Int32) (a : Nat) (ha : a < B 0) : ∀ (d b m : Nat) (v1 v2 : Int32), b + d = B 0 → a < b → d < m → MSc B L r a b v1 v2 → ∃ v1' v2', X12_nextJoin_l29 K14 m 251 v1 v2 (nI a) (nI b) σ = K14 251 v1' v2' (nI (a + 1)) σ ∧ MSc B L r a (B 0) v1' v2' := by
  have hn := ho.1
  have hw : ∀ x y, wj (far B) (B 0) r x y ≤ 90 := fun x y => wid_le (fun p q hp hq => far_le ho hp hq) _
  intro d
  induction d with
  | zero =>
    intro b m v1 v2 hb hab hm hs
    obtain ⟨m, rfl⟩ : ∃ m', m = m' + 1 := ⟨m - 1, by omega⟩
    obtain rfl : b = B 0 := by omega
    refine ⟨v1, v2, ?_, hs⟩
    show X12_nextJoin_b29 K14 _ 251 v1 v2 (nI a) (nI (B 0)) σ = _
    unfold X12_nextJoin_b29
    rw [show σ (251 + 4) (nc 0) = nI (B 0) from h 0 (by omega), if_pos (nI_le (by omega) (by omega)), nI_1]
  | succ d ih =>
    intro b m v1 v2 hb hab hm hs
    obtain ⟨m, rfl⟩ : ∃ m', m = m' + 1 := ⟨m - 1, by omega⟩
    have ga := gm_lt (n := B 0) r a hn
    have gb := gm_lt (n := B 0) r b hn
    have hor : gm (B 0) r a ||| gm (B 0) r b < 2 ^ 10 := or_lt ga gb
    -- what one step does
    have unf : X12_nextJoin_l29 K14 (m + 1) 251 v1 v2 (nI a) (nI b) σ = if gm (B 0) r a = 0 then X12_nextJoin_b84 K14 (X12_nextJoin_l29 K14 m) 251 v1 v2 (nI a) (nI b) v2 σ else if gm (B 0) r b = 0 then X12_nextJoin_b84 K14 (X12_nextJoin_l29 K14 m) 251 v1 v2 (nI a) (nI b) v2 σ else X12_nextJoin_b84 K14 (X12_nextJoin_l29 K14 m) 251 v1 v2 (nI a) (nI b) (nI (wj (far B) (B 0) r a b)) σ := by
      show X12_nextJoin_b29 K14 _ 251 v1 v2 (nI a) (nI b) σ = _
      unfold X12_nextJoin_b29 X12_nextJoin_b83
      rw [show σ (251 + 4) (nc 0) = nI (B 0) from h 0 (by omega), if_neg (show ¬ nI (B 0) ≤ nI b by rw [nI_le_iff (by omega) (by omega)]; omega)]
      simp (disch := omega) only [gdx_n, nc_n]
      rw [show σ (251 + 9) a = _ from hg a (by omega), show σ (251 + 9) b = _ from hg b (by omega), nI_or, show X12_spreadOf (251 + 4) (nI (gm (B 0) r a ||| gm (B 0) r b)) σ = _ from spread_s h ho _ (by omega), ob_some]
      by_cases c : gm (B 0) r a = 0
      · rw [if_pos (show nI (gm (B 0) r a) ≤ 0 by rw [c]; decide), if_pos c]
      · rw [if_neg (show ¬ nI (gm (B 0) r a) ≤ 0 by rw [show (0 : Int32) = nI 0 from rfl, nI_le_iff (by omega) (by omega)]; omega), if_neg c]
        by_cases c2 : gm (B 0) r b = 0
        · rw [if_pos (show nI (gm (B 0) r b) ≤ 0 by rw [c2]; decide), if_pos c2]
        · rw [if_neg (show ¬ nI (gm (B 0) r b) ≤ 0 by rw [show (0 : Int32) = nI 0 from rfl, nI_le_iff (by omega) (by omega)]; omega), if_neg c2]
          rfl
    have same : X12_nextJoin_b84 K14 (X12_nextJoin_l29 K14 m) 251 v1 v2 (nI a) (nI b) v2 σ = X12_nextJoin_l29 K14 m 251 v1 v2 (nI a) (nI (b + 1)) σ := by
      unfold X12_nextJoin_b84 X12_nextJoin_b103
      rw [if_pos (Int32.le_refl v2), nI_1]
    have skip : ¬ vp (B 0) r a b → ∃ v1' v2', X12_nextJoin_l29 K14 m 251 v1 v2 (nI a) (nI (b + 1)) σ = K14 251 v1' v2' (nI (a + 1)) σ ∧ MSc B L r a (B 0) v1' v2' := by
      intro hv
      refine ih (b + 1) m v1 v2 (by omega) (by omega) (by omega) ?_
      rcases hs with ⟨s1, s2, s3⟩ | ⟨x, y, s1, s2, s3⟩
      · exact Or.inl ⟨s1, s2, ScN_skip s3 hv⟩
      · exact Or.inr ⟨x, y, s1, s2, ScJ_skip s3 hv⟩
    rw [unf]
    by_cases c : gm (B 0) r a = 0
    · rw [if_pos c, same]
      exact skip (fun q => (gm_zero hr ha).mp c q.2.2.1)
    · rw [if_neg c]
      by_cases c2 : gm (B 0) r b = 0
      · rw [if_pos c2, same]
        exact skip (fun q => (gm_zero hr (by omega)).mp c2 q.2.2.2)
      · rw [if_neg c2]
        have hv : vp (B 0) r a b := ⟨hab, by omega, by
          rcases Nat.decEq (r a) a with q | q
          · exact absurd ((gm_zero hr ha).mpr q) c
          · exact q, by
          rcases Nat.decEq (r b) b with q | q
          · exact absurd ((gm_zero hr (by omega)).mpr q) c2
          · exact q⟩
        have hwab := hw a b
        unfold X12_nextJoin_b84 X12_nextJoin_b103
        rw [letv_eq, show (10 : Int32) = nI 10 from rfl, nI_mul, nI_add, nI_1]
        rcases hs with ⟨s1, s2, s3⟩ | ⟨x, y, s1, s2, s3⟩
        · by_cases c3 : wj (far B) (B 0) r a b ≤ L
          · rw [if_neg (show ¬ v2 ≤ nI (wj (far B) (B 0) r a b) by rw [s2, nI_le_iff (by omega) (by omega)]; omega)]
            exact ih (b + 1) m _ _ (by omega) (by omega) (by omega) (Or.inr ⟨a, b, rfl, rfl, ScN_new s3 hv c3⟩)
          · rw [if_pos (show v2 ≤ nI (wj (far B) (B 0) r a b) by rw [s2, nI_le_iff (by omega) (by omega)]; omega)]
            exact ih (b + 1) m _ _ (by omega) (by omega) (by omega) (Or.inl ⟨s1, s2, ScN_far s3 (by omega)⟩)
        · have hwxy := hw x y
          by_cases c3 : wj (far B) (B 0) r x y ≤ wj (far B) (B 0) r a b
          · rw [if_pos (show v2 ≤ nI (wj (far B) (B 0) r a b) by rw [s2, nI_le_iff (by omega) (by omega)]; omega)]
            exact ih (b + 1) m _ _ (by omega) (by omega) (by omega) (Or.inr ⟨x, y, s1, s2, ScJ_stay s3 c3⟩)
          · rw [if_neg (show ¬ v2 ≤ nI (wj (far B) (B 0) r a b) by rw [s2, nI_le_iff (by omega) (by omega)]; omega)]
            exact ih (b + 1) m _ _ (by omega) (by omega) (by omega) (Or.inr ⟨a, b, rfl, rfl, ScJ_new s3 hv (by omega)⟩)
theorem njOut (ho : okB B) (L : Nat) (hL : L ≤ 1000) (r : Nat → Nat) (hr : RP (B 0) r) {σ : Mem} (h : RwB (σ 255) 0 B) (hg : ∀ p, p < 10 → σ 260 p = nI (gm (B 0) r p)) : ∀ (d a m : Nat) (v1 v2 : Int32), a + d = B 0 → d < m → MSc B L r a (a + 1) v1 v2 → ∃ v1' v2', X12_nextJoin_l14 m 251 v1 v2 (nI a) σ = some v1' ∧ MSc B L r (B 0) (B 0) v1' v2' := by
  have hn := ho.1
  intro d
  induction d with
  | zero =>
    intro a m v1 v2 ha hm hs
    obtain ⟨m, rfl⟩ : ∃ m', m = m' + 1 := ⟨m - 1, by omega⟩
    obtain rfl : a = B 0 := by omega
    refine ⟨v1, v2, ?_, ?_⟩
    · show X12_nextJoin_b14 _ 251 v1 v2 (nI (B 0)) σ = _
      unfold X12_nextJoin_b14
      rw [show σ (251 + 4) (nc 0) = nI (B 0) from h 0 (by omega), if_pos (nI_le (by omega) (by omega))]
    · have hbe : ∀ x y, vp (B 0) r x y → (bef x y (B 0) (B 0) ↔ bef x y (B 0) (B 0 + 1)) := fun x y hv => by
        obtain ⟨q1, q2, _⟩ := hv
        unfold bef
        omega
      rcases hs with ⟨s1, s2, s3⟩ | ⟨x, y, s1, s2, s3⟩
      · exact Or.inl ⟨s1, s2, fun x y hb hxy => s3 x y ((hbe x y hxy).mp hb) hxy⟩
      · exact Or.inr ⟨x, y, s1, s2, s3.1, (hbe x y s3.1).mpr s3.2.1, s3.2.2.1, fun x' y' hb hxy => s3.2.2.2 x' y' ((hbe x' y' hxy).mp hb) hxy⟩
  | succ d ih =>
    intro a m v1 v2 ha hm hs
    obtain ⟨m, rfl⟩ : ∃ m', m = m' + 1 := ⟨m - 1, by omega⟩
    obtain ⟨u1, u2, e1, e2⟩ := njIn ho L hL r hr h hg (X12_nextJoin_l14 m) a (by omega) d (a + 1) FU v1 v2 (by omega) (by omega) (by unfold FU; omega) hs
    obtain ⟨w1, w2, f1, f2⟩ := ih (a + 1) m u1 u2 (by omega) (by omega) (by
      rcases e2 with ⟨s1, s2, s3⟩ | ⟨x, y, s1, s2, s3⟩
      · exact Or.inl ⟨s1, s2, ScN_row s3⟩
      · exact Or.inr ⟨x, y, s1, s2, ScJ_row s3⟩)
    refine ⟨w1, w2, ?_, f2⟩
    show X12_nextJoin_b14 _ 251 v1 v2 (nI a) σ = _
    unfold X12_nextJoin_b14
    rw [show σ (251 + 4) (nc 0) = nI (B 0) from h 0 (by omega), if_neg (show ¬ nI (B 0) ≤ nI a by rw [nI_le_iff (by omega) (by omega)]; omega), letv_eq, nI_1, e1, f1]
theorem nj_s (ho : okB B) (r : Nat → Nat) (hr : RP (B 0) r) {σ : Mem} (h : RwB (σ 255) 0 B) (hg : ∀ p, p < 10 → σ 260 p = nI (gm (B 0) r p)) : ∃ v, X12_nextJoin 251 σ = some v ∧ ((v = -1000000 ∧ ScN (far B) (B 0) (B 1) r (B 0) (B 0)) ∨ ∃ x y, v = nI (10 * x + y) ∧ ScJ (far B) (B 0) (B 1) r (B 0) (B 0) x y) := by
  have hn := ho.1
  have hl := ho.2.1
  obtain ⟨v, v2, e1, e2⟩ := njOut ho (B 1) (by omega) r hr h hg (B 0) 0 FU (-1000000) (nI (B 1 + 1)) (by omega) (by unfold FU; omega) (Or.inl ⟨rfl, rfl, fun x y hb hxy => by
    unfold bef at hb
    have := hxy.1
    omega⟩)
  refine ⟨v, ?_, ?_⟩
  · unfold X12_nextJoin X12_nextJoin_b0
    rw [letv_eq, show σ (251 + 4) (nc 1) = nI (B 1) from h 1 (by omega), nI_1]
    exact e1
  · rcases e2 with ⟨s1, _, s3⟩ | ⟨x, y, s1, _, s3⟩
    · exact Or.inl ⟨s1, s3⟩
    · exact Or.inr ⟨x, y, s1, s3⟩
theorem lg_l (ho : okB B) (hn0 : 0 < B 0) : ∀ (d i m : Nat) (f : Nat → Nat → Nat) (v : Int32) (σ : Mem), i + d + 1 = B 0 → d + 1 < m → Chn (far B) (B 0) (B 1) f i → RwB (σ 255) 0 B → (∀ p, p < 10 → σ 260 p = nI (gm (B 0) (f i) p)) → ((v = -1000000 ∧ ScN (far B) (B 0) (B 1) (f i) (B 0) (B 0)) ∨ ∃ x y, v = nI (10 * x + y) ∧ ScJ (far B) (B 0) (B 1) (f i) (B 0) (B 0) x y) → ∃ σ' f' m', X12_layGroups_l49 m 251 (nI (B 0 - i)) v σ = some (nI (B 0 - m'), σ') ∧ ChE (far B) (B 0) (B 1) f' m' ∧ m' < B 0 ∧ (∀ p, p < 10 → σ' 260 p = nI (gm (B 0) (f' m') p)) ∧ ∀ q, q ≠ 260 → σ' q = σ q := by
  have hn := ho.1
  intro d
  induction d with
  | zero =>
    intro i m f v σ hi hm hc h hg hv
    obtain ⟨m, rfl⟩ : ∃ m', m = m' + 1 := ⟨m - 1, by omega⟩
    have hok := Chn_ok hn hc i (Nat.le_refl i)
    have hN : ScN (far B) (B 0) (B 1) (f i) (B 0) (B 0) := ScN_few hn hok.1 (by omega)
    refine ⟨σ, f, i, ?_, ⟨hc, hN⟩, by omega, hg, fun q _ => rfl⟩
    show X12_layGroups_b49 _ 251 (nI (B 0 - i)) v σ = _
    unfold X12_layGroups_b49
    rw [if_pos (show nI (B 0 - i) ≤ 1 from nI_le (b := 1) (by omega) (by omega))]
    split <;> rfl
  | succ d ih =>
    intro i m f v σ hi hm hc h hg hv
    obtain ⟨m, rfl⟩ : ∃ m', m = m' + 1 := ⟨m - 1, by omega⟩
    rcases hv with ⟨hv, hN⟩ | ⟨x, y, hv, hJ⟩
    · refine ⟨σ, f, i, ?_, ⟨hc, hN⟩, by omega, hg, fun q _ => rfl⟩
      show X12_layGroups_b49 _ 251 (nI (B 0 - i)) v σ = _
      unfold X12_layGroups_b49
      rw [if_pos hv]
    · have hok := Chn_ok hn hc i (Nat.le_refl i)
      obtain ⟨v1, v2, v3, v4⟩ := hJ.1
      obtain ⟨c1, c2⟩ := Chn_ext hc hJ
      have hg' : ∀ p, p < 10 → wr (wr σ 260 x (nI (gm (B 0) (f i) x ||| gm (B 0) (f i) y))) 260 y 0 260 p = nI (gm (B 0) (jn (f i) x y) p) := fun p hp => by
        by_cases e1 : p = y
        · subst e1
          rw [wr_at, gm_jn_b (by omega)]
          rfl
        · rw [wr_in _ _ e1]
          by_cases e2 : p = x
          · subst e2
            rw [wr_at, gm_jn_a (by omega)]
          · rw [wr_in _ _ e2, gm_jn_o e2 e1]
            exact hg p hp
      have hR : RwB (wr (wr σ 260 x (nI (gm (B 0) (f i) x ||| gm (B 0) (f i) y))) 260 y 0 255) 0 B := by
        rw [wr_off _ _ _ (by omega), wr_off _ _ _ (by omega)]
        exact h
      obtain ⟨w, n1, n2⟩ := nj_s ho (jn (f i) x y) (RP_jn hok.1 hJ.1) hR hg'
      obtain ⟨σ', f', m', q1, q2, q3, q4, q5⟩ := ih (i + 1) m (fun j => if j = i + 1 then jn (f i) x y else f j) w _ (by omega) (by omega) c1 hR (by rw [if_pos rfl]; exact hg') (by rw [if_pos rfl]; exact n2)
      refine ⟨σ', f', m', ?_, q2, q3, q4, fun q hq => by rw [q5 q hq, wr_off _ _ _ hq, wr_off _ _ _ hq]⟩
      show X12_layGroups_b49 _ 251 (nI (B 0 - i)) v σ = _
      unfold X12_layGroups_b49
      rw [hv, if_neg (show ¬ nI (10 * x + y) = -1000000 from fun q => nI_nn (show 10 * x + y < 2 ^ 31 by omega) (by rw [q]; decide)), if_neg (show ¬ nI (B 0 - i) ≤ 1 by rw [show (1 : Int32) = nI 1 from rfl, nI_le_iff (by omega) (by omega)]; omega), show (10 : Int32) = nI 10 from rfl, nI_div (by omega) (by omega), irm_n (by omega) (by omega), show (10 * x + y) / 10 = x by omega, show (10 * x + y) % 10 = y by omega]
      simp (disch := omega) only [gdx_n, nc_n, letv_eq]
      rw [show σ (251 + 9) x = _ from hg x (by omega), show σ (251 + 9) y = _ from hg y (by omega), nI_or]
      rw [show X12_nextJoin 251 (wr (wr σ (251 + 9) x (nI (gm (B 0) (f i) x ||| gm (B 0) (f i) y))) (251 + 9) y 0) = some w from n1, ob_some]
      rw [show B 0 - i = (B 0 - (i + 1)) + 1 by omega, nI_m1]
      exact q1
theorem lay0_l (ho : okB B) : ∀ (d p m : Nat) (σ : Mem), p + d = 10 → d < m → RwB (σ 255) 0 B → (∀ q, q < p → σ 260 q = nI (gm (B 0) (fun x => x) q)) → ∃ σ', X12_layGroups_l2 m 251 (nI p) σ = ob (X12_nextJoin 251 σ') (fun r3 => X12_layGroups_l49 FU 251 (nI (B 0)) r3 σ') ∧ RwB (σ' 255) 0 B ∧ (∀ q, q < 10 → σ' 260 q = nI (gm (B 0) (fun x => x) q)) ∧ ∀ q, q ≠ 260 → σ' q = σ q := by
  have hn := ho.1
  intro d
  induction d with
  | zero =>
    intro p m σ hp hm h hg
    obtain ⟨m, rfl⟩ : ∃ m', m = m' + 1 := ⟨m - 1, by omega⟩
    obtain rfl : p = 10 := by omega
    refine ⟨σ, ?_, h, hg, fun q _ => rfl⟩
    show X12_layGroups_b2 _ 251 (nI 10) σ = _
    unfold X12_layGroups_b2
    rw [if_pos (by decide), letv_eq, show σ (251 + 4) (nc 0) = nI (B 0) from h 0 (by omega)]
  | succ d ih =>
    intro p m σ hp hm h hg
    obtain ⟨m, rfl⟩ : ∃ m', m = m' + 1 := ⟨m - 1, by omega⟩
    have hgp : gm (B 0) (fun x => x) p = if p < B 0 then 2 ^ p else 0 := by
      apply Nat.eq_of_testBit_eq
      intro i
      by_cases c : p < B 0
      · rw [if_pos c, Nat.testBit_two_pow, Bool.eq_iff_iff, gm_bit, decide_eq_true_eq]
        omega
      · rw [if_neg c, Nat.zero_testBit, Bool.eq_false_iff, Ne, gm_bit]
        omega
    obtain ⟨σ', q1, q2, q3, q4⟩ := ih (p + 1) m (wr σ 260 p (nI (gm (B 0) (fun x => x) p))) (by omega) (by omega) (by rw [wr_off _ _ _ (by omega)]; exact h) (fun q hq => by
      by_cases e : q = p
      · subst e
        exact wr_at _ _ _ _
      · rw [wr_in _ _ e]
        exact hg q (by omega))
    refine ⟨σ', ?_, q2, q3, fun q hq => by rw [q4 q hq, wr_off _ _ _ hq]⟩
    rw [← q1]
    show X12_layGroups_b2 _ 251 (nI p) σ = _
    unfold X12_layGroups_b2 X12_layGroups_b30
    rw [if_neg (show ¬ (10 : Int32) ≤ nI p from nI_ge (b := 10) (by omega) (by omega)), show σ (251 + 4) (nc 0) = nI (B 0) from h 0 (by omega), gdx_n (by omega) (by omega), nc_n (by omega), gdx_n (by omega) (by omega), shl_1 p (by omega), nI_1, hgp]
    by_cases c : p < B 0
    · rw [if_neg (show ¬ nI (B 0) ≤ nI p by rw [nI_le_iff (by omega) (by omega)]; omega), if_pos c]
    · rw [if_pos (show nI (B 0) ≤ nI p from nI_le (by omega) (by omega)), if_neg c]
      rfl
theorem mgrp_s (ho : okB B) (hn0 : 0 < B 0) {σ : Mem} (h : RwB (σ 255) 0 B) : ∃ σ' f m, X12_layGroups 251 σ = some (nI (B 0 - m), σ') ∧ ChE (far B) (B 0) (B 1) f m ∧ m < B 0 ∧ (∀ p, p < 10 → σ' 260 p = nI (gm (B 0) (f m) p)) ∧ ∀ q, q ≠ 260 → σ' q = σ q := by
  have hn := ho.1
  obtain ⟨σ1, e1, e2, e3, e4⟩ := lay0_l ho 10 0 FU σ (by omega) (by unfold FU; omega) h (fun q hq => by omega)
  obtain ⟨v, n1, n2⟩ := nj_s ho (fun x => x) (fun p hp => ⟨hp, rfl⟩) e2 e3
  obtain ⟨σ', f', m', q1, q2, q3, q4, q5⟩ := lg_l ho hn0 (B 0 - 1) 0 FU (fun _ x => x) v σ1 (by omega) (by unfold FU; omega) ⟨fun p => rfl, fun i hi => by omega⟩ e2 e3 n2
  refine ⟨σ', f', m', ?_, q2, q3, q4, fun q hq => by rw [q5 q hq, e4 q hq]⟩
  unfold X12_layGroups X12_layGroups_b0
  rw [show X12_layGroups_l2 FU 251 0 σ = _ from e1, n1, ob_some]
  exact q1
theorem gof_l {σ : Mem} {n : Nat} {r : Nat → Nat} {p : Nat} (hn : n ≤ 10) (hp : p < n) (hr : RP n r) (h0 : σ 255 0 = nI n) (hg : ∀ q, q < 10 → σ 260 q = nI (gm n r q)) : ∀ (d a m : Nat) (v : Int32), a + d = n → d < m → (r p < a → v = nI (r p)) → X12_groupOf_l4 m 251 (nI p) v (nI a) σ = some (nI (r p)) := by
  intro d
  induction d with
  | zero =>
    intro a m v ha hm hv
    obtain ⟨m, rfl⟩ : ∃ m', m = m' + 1 := ⟨m - 1, by omega⟩
    show X12_groupOf_b4 _ 251 (nI p) v (nI a) σ = _
    unfold X12_groupOf_b4
    rw [show σ (251 + 4) (nc 0) = nI n from h0, if_pos (nI_le (by omega) (by omega)), hv (by have := (hr p hp).1; omega)]
  | succ d ih =>
    intro a m v ha hm hv
    obtain ⟨m, rfl⟩ : ∃ m', m = m' + 1 := ⟨m - 1, by omega⟩
    have hlt := gm_lt (n := n) r a hn
    show X12_groupOf_b4 _ 251 (nI p) v (nI a) σ = _
    unfold X12_groupOf_b4 X12_groupOf_b32
    rw [show σ (251 + 4) (nc 0) = nI n from h0, if_neg (show ¬ nI n ≤ nI a by rw [nI_le_iff (by omega) (by omega)]; omega), gdx_n (by omega) (by omega), nc_n (by omega), show σ (251 + 9) a = _ from hg a (by omega), nI_1]
    by_cases c : r p = a
    · rw [has_1 (by omega) (by omega) ((gm_bit n r a p).mpr ⟨hp, c⟩), if_neg (by decide)]
      exact ih (a + 1) m (nI a) (by omega) (by omega) (fun _ => by rw [c])
    · have : (gm n r a).testBit p = false := by
        cases e : (gm n r a).testBit p with
        | false => rfl
        | true => exact absurd ((gm_bit n r a p).mp e).2 c
      rw [has_0 (by omega) (by omega) this, if_pos rfl]
      exact ih (a + 1) m v (by omega) (by omega) (fun q => hv (by omega))
end
