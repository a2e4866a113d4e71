/-! PURE: how far pages lie apart. -/
def dif (a b : Nat) : Nat := if a ≤ b then b - a else a - b
theorem dif_comm (a b : Nat) : dif a b = dif b a := by
  unfold dif
  split <;> split <;> omega
theorem dif_le {a b m : Nat} (ha : a ≤ m) (hb : b ≤ m) : dif a b ≤ m := by
  unfold dif
  split <;> omega
def giv (k s h w : Nat) : Nat := if k = 2 then s + h else if k = 3 then s + h / 2 + w else if k = 4 then max s (max h w) else if k = 5 then max s (max h w) + 5 else s + h + w
def far (B : Nat → Nat) (a b : Nat) : Nat := if a = b then 0 else min (giv (B (3 + 4 * a)) (dif (B (4 + 4 * a)) (B (4 + 4 * b))) (dif (B (4 + 4 * a + 1)) (B (4 + 4 * b + 1))) (dif (B (4 + 4 * a + 2)) (B (4 + 4 * b + 2)))) (giv (B (3 + 4 * b)) (dif (B (4 + 4 * a)) (B (4 + 4 * b))) (dif (B (4 + 4 * a + 1)) (B (4 + 4 * b + 1))) (dif (B (4 + 4 * a + 2)) (B (4 + 4 * b + 2))))
theorem far_comm (B : Nat → Nat) (a b : Nat) : far B a b = far B b a := by
  unfold far
  by_cases c : a = b
  · rw [if_pos c, if_pos c.symm]
  · rw [if_neg c, if_neg (fun q => c q.symm), dif_comm (B (4 + 4 * a)), dif_comm (B (4 + 4 * a + 1)), dif_comm (B (4 + 4 * a + 2)), Nat.min_comm]
theorem far_self (B : Nat → Nat) (a : Nat) : far B a a = 0 := if_pos rfl
theorem giv_le {k s h w : Nat} (hs : s ≤ 30) (hh : h ≤ 30) (hw : w ≤ 30) : giv k s h w ≤ 90 := by
  unfold giv
  split
  · omega
  · split
    · omega
    · split
      · omega
      · split <;> omega
theorem far_le {B : Nat → Nat} (h : okB B) {a b : Nat} (ha : a < B 0) (hb : b < B 0) : far B a b ≤ 90 := by
  unfold far
  split
  · omega
  · have h1 := (h.2.2.2 a ha).2.2
    have h2 := (h.2.2.2 b hb).2.2
    have e := giv_le (k := B (3 + 4 * a)) (dif_le (h1 0 (by omega)) (h2 0 (by omega))) (dif_le (h1 1 (by omega)) (h2 1 (by omega))) (dif_le (h1 2 (by omega)) (h2 2 (by omega)))
    exact Nat.le_trans (Nat.min_le_left _ _) e
theorem neg_sb (x y : Int32) : 0 - (x - y) = y - x := by
  rw [Int32.zero_sub, Int32.neg_sub]
theorem ab_n {x y : Nat} (hx : x < 2 ^ 30) (hy : y < 2 ^ 30) : ab (nI x - nI y) = nI (dif x y) := by
  show (if 0 ≤ nI x - nI y then nI x - nI y else 0 - (nI x - nI y)) = _
  unfold dif
  by_cases c : y ≤ x
  · rw [if_pos ((sb_le hx hy).mpr c), nI_sub c]
    by_cases c2 : x ≤ y
    · rw [if_pos c2, show x - y = y - x by omega]
    · rw [if_neg c2]
  · rw [if_neg (fun q => c ((sb_le hx hy).mp q)), neg_sb, nI_sub (by omega), if_pos (by omega)]
theorem mx_n {x y : Nat} (hx : x < 2 ^ 31) (hy : y < 2 ^ 31) : mx (nI x) (nI y) = nI (max x y) := by
  show (if nI x < nI y then nI y else nI x) = _
  by_cases c : x < y
  · rw [if_pos (nI_lt c hy), Nat.max_eq_right (by omega)]
  · rw [if_neg (fun q => c ((nI_lt_iff hx hy).mp q)), Nat.max_eq_left (by omega)]
theorem mn_n {x y : Nat} (hx : x < 2 ^ 31) (hy : y < 2 ^ 31) : mn (nI x) (nI y) = nI (min x y) := by
  show (if nI y < nI x then nI y else nI x) = _
  by_cases c : y < x
  · rw [if_pos (nI_lt c hx), Nat.min_eq_right (by omega)]
  · rw [if_neg (fun q => c ((nI_lt_iff hy hx).mp q)), Nat.min_eq_left (by omega)]
theorem c5 {k : Nat} (h1 : 1 ≤ k) (h2 : k ≤ 5) : k = 1 ∨ k = 2 ∨ k = 3 ∨ k = 4 ∨ k = 5 := by omega
theorem given_s {k s h w : Nat} (h1 : 1 ≤ k) (h2 : k ≤ 5) (hs : s ≤ 30) (hh : h ≤ 30) (hw : w ≤ 30) : X5_given (nI k) (nI s) (nI h) (nI w) = nI (giv k s h w) := by
  unfold X5_given X5_given_b0
  rw [letv_eq, mx_n (by omega) (by omega), mx_n (by omega) (by omega), show (2 : Int32) = nI 2 from rfl, nI_div (by omega) (by omega), nI_add, nI_add, nI_add, nI_add, show (5 : Int32) = nI 5 from rfl, nI_add]
  rcases c5 h1 h2 with rfl | rfl | rfl | rfl | rfl <;> rfl
theorem mgiven_s {k s h w : Nat} (h1 : 1 ≤ k) (h2 : k ≤ 5) (hs : s ≤ 30) (hh : h ≤ 30) (hw : w ≤ 30) : X12_givenBy (nI k) (nI s) (nI h) (nI w) = nI (giv k s h w) := by
  have e24 : ∀ x : Nat, X12_givenBy_b24 (nI k) (nI s) (nI h) (nI w) (nI x) = if k = 1 then nI (s + h + w) else if k = 2 then nI (s + h) else if k = 3 then nI (s + h / 2 + w) else if k = 4 then nI x else nI (x + 5) := by
    intro x
    unfold X12_givenBy_b24
    rw [show (2 : Int32) = nI 2 from rfl, nI_div (by omega) (by omega), nI_add, nI_add, nI_add, nI_add, show (5 : Int32) = nI 5 from rfl, nI_add]
    rcases c5 h1 h2 with rfl | rfl | rfl | rfl | rfl <;> rfl
  have e10 : ∀ x : Nat, x ≤ 30 → X12_givenBy_b10 (nI k) (nI s) (nI h) (nI w) (nI x) = X12_givenBy_b24 (nI k) (nI s) (nI h) (nI w) (nI (max x w)) := by
    intro x hx
    unfold X12_givenBy_b10
    by_cases c : x ≤ w
    · rw [if_pos (nI_le c (by omega)), Nat.max_eq_right c]
    · rw [if_neg (fun q => c ((nI_le_iff (by omega) (by omega)).mp q)), Nat.max_eq_left (by omega)]
  have e0 : X12_givenBy (nI k) (nI s) (nI h) (nI w) = X12_givenBy_b24 (nI k) (nI s) (nI h) (nI w) (nI (max (max s h) w)) := by
    unfold X12_givenBy X12_givenBy_b0
    by_cases c : s ≤ h
    · rw [if_pos (nI_le c (by omega)), e10 h hh, Nat.max_eq_right c]
    · rw [if_neg (fun q => c ((nI_le_iff (by omega) (by omega)).mp q)), e10 s hs, Nat.max_eq_left (show h ≤ s by omega)]
  rw [e0, e24, Nat.max_assoc]
  unfold giv
  rcases c5 h1 h2 with rfl | rfl | rfl | rfl | rfl <;> rfl
theorem between_s {σ : Mem} {k a b : Nat} {B : Nat → Nat} (h : AtB σ k B) (ho : okB B) (ha : a < B 0) (hb : b < B 0) (hab : a ≠ b) : X5_between k (nI a) (nI b) σ = some (nI (far B a b)) := by
  obtain ⟨o1, o2, o3, o4⟩ := ho
  obtain ⟨p1, p2, p3⟩ := o4 a ha
  obtain ⟨q1, q2, q3⟩ := o4 b hb
  have pa := h.2.2.2 a ha
  have pb := h.2.2.2 b hb
  unfold X5_between X5_between_b0
  simp (disch := omega) only [gdx_n, letv_eq, nc_n, nc_0, nc_1, nc_2]
  rw [show σ (k + 2 + 1 + 0) a = _ from pa.2 0 (by omega), show σ (k + 2 + 1 + 1) a = _ from pa.2 1 (by omega), show σ (k + 2 + 1 + 2) a = _ from pa.2 2 (by omega), show σ (k + 2 + 1 + 0) b = _ from pb.2 0 (by omega), show σ (k + 2 + 1 + 1) b = _ from pb.2 1 (by omega), show σ (k + 2 + 1 + 2) b = _ from pb.2 2 (by omega), pa.1, pb.1]
  have a0 := p3 0 (by omega)
  have a1 := p3 1 (by omega)
  have a2 := p3 2 (by omega)
  have b0 := q3 0 (by omega)
  have b1 := q3 1 (by omega)
  have b2 := q3 2 (by omega)
  have d0 := dif_le a0 b0
  have d1 := dif_le a1 b1
  have d2 := dif_le a2 b2
  rw [ab_n (by omega) (by omega), ab_n (by omega) (by omega), ab_n (by omega) (by omega), given_s p1 p2 d0 d1 d2, given_s q1 q2 d0 d1 d2]
  have g1 := giv_le (k := B (3 + 4 * a)) d0 d1 d2
  have g2 := giv_le (k := B (3 + 4 * b)) d0 d1 d2
  rw [mn_n (by omega) (by omega)]
  unfold far
  rw [if_neg hab]
  rfl
theorem away_s {σ : Mem} {k a b w : Nat} {B : Nat → Nat} (h : RwB (σ k) 0 B) (ho : okB B) (ha : a < B 0) (hb : b < B 0) (hw : w < 3) : X12_awayBy k (nI a) (nI b) (nI w) σ = some (nI (dif (B (4 + 4 * a + w)) (B (4 + 4 * b + w)))) := by
  have hn := ho.1
  have e1 := h (4 + 4 * a + w) (by omega)
  have e2 := h (4 + 4 * b + w) (by omega)
  rw [Nat.zero_add] at e1 e2
  have a0 := (ho.2.2.2 a ha).2.2 w hw
  have b0 := (ho.2.2.2 b hb).2.2 w hw
  unfold X12_awayBy X12_awayBy_b0
  rw [show (3 : Int32) = nI 3 from rfl, show (4 : Int32) = nI 4 from rfl, nI_mul, nI_add, nI_1, nI_add, nI_mul, nI_add, nI_1, nI_add, gdx_n (by omega) (by omega), gdx_n (by omega) (by omega), letv_eq, nc_n (by omega), nc_n (by omega), show 3 + 4 * a + 1 + w = 4 + 4 * a + w by omega, show 3 + 4 * b + 1 + w = 4 + 4 * b + w by omega, e1, e2]
  have := ab_n (x := B (4 + 4 * a + w)) (y := B (4 + 4 * b + w)) (by omega) (by omega)
  rw [← this]
  show _ = some (if 0 ≤ nI (B (4 + 4 * a + w)) - nI (B (4 + 4 * b + w)) then nI (B (4 + 4 * a + w)) - nI (B (4 + 4 * b + w)) else 0 - (nI (B (4 + 4 * a + w)) - nI (B (4 + 4 * b + w))))
  rw [Int32.zero_sub]
  split <;> rfl
theorem farOf_s {σ : Mem} {k a b : Nat} {B : Nat → Nat} (h : RwB (σ k) 0 B) (ho : okB B) (ha : a < B 0) (hb : b < B 0) (hab : a ≠ b) : X12_farOf k (nI a) (nI b) σ = some (nI (far B a b)) := by
  have hn := ho.1
  obtain ⟨p1, p2, p3⟩ := ho.2.2.2 a ha
  obtain ⟨q1, q2, q3⟩ := ho.2.2.2 b hb
  unfold X12_farOf X12_farOf_b0
  rw [show X12_awayBy k (nI a) (nI b) 0 σ = _ from away_s (w := 0) h ho ha hb (by omega), ob_some, show X12_awayBy k (nI a) (nI b) 1 σ = _ from away_s (w := 1) h ho ha hb (by omega), ob_some, show X12_awayBy k (nI a) (nI b) 2 σ = _ from away_s (w := 2) h ho ha hb (by omega), ob_some, kindOf_s k a σ B h hn ha, ob_some, letv_eq, kindOf_s k b σ B h hn hb, ob_some, letv_eq]
  have d0 : dif (B (4 + 4 * a)) (B (4 + 4 * b)) ≤ 30 := dif_le (p3 0 (by omega)) (q3 0 (by omega))
  have d1 := dif_le (p3 1 (by omega)) (q3 1 (by omega))
  have d2 := dif_le (p3 2 (by omega)) (q3 2 (by omega))
  simp only [Nat.add_zero]
  rw [mgiven_s p1 p2 d0 d1 d2, mgiven_s q1 q2 d0 d1 d2]
  have g1 := giv_le (k := B (3 + 4 * a)) d0 d1 d2
  have g2 := giv_le (k := B (3 + 4 * b)) d0 d1 d2
  unfold far
  rw [if_neg hab]
  by_cases c : giv (B (3 + 4 * b)) (dif (B (4 + 4 * a)) (B (4 + 4 * b))) (dif (B (4 + 4 * a + 1)) (B (4 + 4 * b + 1))) (dif (B (4 + 4 * a + 2)) (B (4 + 4 * b + 2))) ≤ giv (B (3 + 4 * a)) (dif (B (4 + 4 * a)) (B (4 + 4 * b))) (dif (B (4 + 4 * a + 1)) (B (4 + 4 * b + 1))) (dif (B (4 + 4 * a + 2)) (B (4 + 4 * b + 2)))
  · rw [Nat.min_eq_right c]
    exact if_pos (nI_le c (by omega))
  · rw [Nat.min_eq_left (by omega)]
    exact if_neg (fun q => c ((nI_le_iff (by omega) (by omega)).mp q))
/-- the gaps at cell k -/
def Gp (σ : Mem) (k n : Nat) (g : Nat → Nat → Nat) : Prop := σ k 0 = nI n ∧ ∀ x y, x < n → y < n → σ (k + 2 + x) y = nI (g x y)
theorem sfrom_l (k k1 : Nat) (hk : k1 + 6 ≤ k + 2 ∨ k + 12 ≤ k1) (B : Nat → Nat) (ho : okB B) (a : Nat) (ha : a < B 0) : ∀ (d b m : Nat) (σ : Mem), b + d = B 0 → d < m → σ k 0 = nI (B 0) → AtB σ k1 B → ∃ σ', X5_surveyFrom_l2 m k k1 (nI a) (nI b) σ = some σ' ∧ (∀ x y, x < B 0 → y < B 0 → σ' (k + 2 + x) y = if (x = a ∧ b ≤ y) ∨ (y = a ∧ b ≤ x) then nI (far B x y) else σ (k + 2 + x) y) ∧ ∀ q, (q < k + 2 ∨ k + 12 ≤ q) → σ' q = σ q := by
  have hn := ho.1
  intro d
  induction d with
  | zero =>
    intro b m σ hb hm h0 hB
    obtain ⟨m, rfl⟩ : ∃ m', m = m' + 1 := ⟨m - 1, by omega⟩
    refine ⟨σ, ?_, fun x y hx hy => by rw [if_neg (by omega)], fun q hq => rfl⟩
    show X5_surveyFrom_b2 _ k k1 (nI a) (nI b) σ = _
    unfold X5_surveyFrom_b2
    rw [h0, if_pos (nI_le (by omega) (by omega))]
  | succ d ih =>
    intro b m σ hb hm h0 hB
    obtain ⟨m, rfl⟩ : ∃ m', m = m' + 1 := ⟨m - 1, by omega⟩
    obtain ⟨σ', e1, e2, e3⟩ := ih (b + 1) m (wr (wr σ (k + 2 + a) b (nI (far B a b))) (k + 2 + b) a (nI (far B a b))) (by omega) (by omega) (by rw [wr_off _ _ _ (by omega), wr_off _ _ _ (by omega)]; exact h0) (AtB.cg hB (fun q u v => by rw [wr_off _ _ _ (by omega), wr_off _ _ _ (by omega)]))
    refine ⟨σ', ?_, fun x y hx hy => ?_, fun q hq => by rw [e3 q hq, wr_off _ _ _ (by omega), wr_off _ _ _ (by omega)]⟩
    · have key : X5_surveyFrom_b25 (X5_surveyFrom_l2 m) k k1 (nI a) (nI b) (nI (far B a b)) σ = some σ' := by
        unfold X5_surveyFrom_b25
        simp (disch := omega) only [gdx_n, letv_eq, nc_n, nI_1]
        exact e1
      show X5_surveyFrom_b2 _ k k1 (nI a) (nI b) σ = _
      unfold X5_surveyFrom_b2
      rw [h0, if_neg (show ¬ nI (B 0) ≤ nI b by rw [nI_le_iff (by omega) (by omega)]; omega)]
      by_cases c : a = b
      · rw [if_pos (show nI a = nI b by rw [c])]
        rw [← key, c, far_self]
        rfl
      · rw [if_neg (show ¬ nI a = nI b from fun q => c ((nI_inj (by omega) (by omega)).mp q)), between_s hB ho ha (by omega) c, ob_some]
        exact key
    · rw [e2 x y hx hy]
      by_cases c1 : (x = a ∧ b + 1 ≤ y) ∨ (y = a ∧ b + 1 ≤ x)
      · rw [if_pos c1, if_pos (show (x = a ∧ b ≤ y) ∨ (y = a ∧ b ≤ x) by omega)]
      · rw [if_neg c1]
        by_cases c2 : x = b ∧ y = a
        · obtain ⟨rfl, rfl⟩ := c2
          rw [wr_at, if_pos (show (x = y ∧ x ≤ y) ∨ (y = y ∧ x ≤ x) by omega), far_comm]
        · have e : wr (wr σ (k + 2 + a) b (nI (far B a b))) (k + 2 + b) a (nI (far B a b)) (k + 2 + x) y = wr σ (k + 2 + a) b (nI (far B a b)) (k + 2 + x) y := by
            by_cases c3 : x = b
            · subst c3
              rw [wr_in _ _ (by omega)]
            · rw [wr_off _ _ _ (by omega)]
          rw [e]
          by_cases c4 : x = a ∧ y = b
          · obtain ⟨rfl, rfl⟩ := c4
            rw [wr_at, if_pos (show (x = x ∧ y ≤ y) ∨ (y = x ∧ y ≤ x) by omega)]
          · have e5 : wr σ (k + 2 + a) b (nI (far B a b)) (k + 2 + x) y = σ (k + 2 + x) y := by
              by_cases c3 : x = a
              · subst c3
                rw [wr_in _ _ (by omega)]
              · rw [wr_off _ _ _ (by omega)]
            rw [e5, if_neg (show ¬ ((x = a ∧ b ≤ y) ∨ (y = a ∧ b ≤ x)) by omega)]
theorem sfrom_s (k k1 : Nat) (hk : k1 + 6 ≤ k + 2 ∨ k + 12 ≤ k1) (B : Nat → Nat) (ho : okB B) (a : Nat) (ha : a < B 0) (σ : Mem) (h0 : σ k 0 = nI (B 0)) (hB : AtB σ k1 B) : ∃ σ', X5_surveyFrom k k1 (nI a) σ = some σ' ∧ (∀ x y, x < B 0 → y < B 0 → σ' (k + 2 + x) y = if x = a ∨ y = a then nI (far B x y) else σ (k + 2 + x) y) ∧ ∀ q, (q < k + 2 ∨ k + 12 ≤ q) → σ' q = σ q := by
  have hn := ho.1
  obtain ⟨σ', e1, e2, e3⟩ := sfrom_l k k1 hk B ho a ha (B 0) 0 FU σ (by omega) (by unfold FU; omega) h0 hB
  refine ⟨σ', e1, fun x y hx hy => ?_, e3⟩
  rw [e2 x y hx hy]
  by_cases c : x = a ∨ y = a
  · rw [if_pos c, if_pos (show (x = a ∧ 0 ≤ y) ∨ (y = a ∧ 0 ≤ x) by omega)]
  · rw [if_neg c, if_neg (show ¬ ((x = a ∧ 0 ≤ y) ∨ (y = a ∧ 0 ≤ x)) by omega)]
theorem survey_l (k k1 : Nat) (hk : k1 + 6 ≤ k ∨ k + 12 ≤ k1) (B : Nat → Nat) (ho : okB B) : ∀ (d a m : Nat) (σ : Mem), a + d = B 0 → d < m → σ k 0 = nI (B 0) → AtB σ k1 B → ∃ σ', X5_survey_l10 m k k1 (nI a) σ = some σ' ∧ (∀ x y, x < B 0 → y < B 0 → σ' (k + 2 + x) y = if a ≤ x ∨ a ≤ y then nI (far B x y) else σ (k + 2 + x) y) ∧ ∀ q, (q < k + 2 ∨ k + 12 ≤ q) → σ' q = σ q := by
  have hn := ho.1
  intro d
  induction d with
  | zero =>
    intro a m σ ha hm h0 hB
    obtain ⟨m, rfl⟩ : ∃ m', m = m' + 1 := ⟨m - 1, by omega⟩
    refine ⟨σ, ?_, fun x y hx hy => by rw [if_neg (by omega)], fun q hq => rfl⟩
    show X5_survey_b10 _ k k1 (nI a) σ = _
    unfold X5_survey_b10
    rw [h0, if_pos (nI_le (by omega) (by omega))]
  | succ d ih =>
    intro a m σ ha hm h0 hB
    obtain ⟨m, rfl⟩ : ∃ m', m = m' + 1 := ⟨m - 1, by omega⟩
    obtain ⟨σ1, e1, e2, e3⟩ := sfrom_s k k1 (by omega) B ho a (by omega) σ h0 hB
    obtain ⟨σ', f1, f2, f3⟩ := ih (a + 1) m σ1 (by omega) (by omega) (by rw [e3 k (by omega)]; exact h0) (AtB.cg hB (fun q u v => e3 q (by omega)))
    refine ⟨σ', ?_, fun x y hx hy => ?_, fun q hq => by rw [f3 q hq, e3 q hq]⟩
    · show X5_survey_b10 _ k k1 (nI a) σ = _
      unfold X5_survey_b10
      rw [h0, if_neg (show ¬ nI (B 0) ≤ nI a by rw [nI_le_iff (by omega) (by omega)]; omega), e1, ob_some, nI_1]
      exact f1
    · rw [f2 x y hx hy, e2 x y hx hy]
      by_cases c : a + 1 ≤ x ∨ a + 1 ≤ y
      · rw [if_pos c, if_pos (show a ≤ x ∨ a ≤ y by omega)]
      · rw [if_neg c]
        by_cases c2 : x = a ∨ y = a
        · rw [if_pos c2, if_pos (show a ≤ x ∨ a ≤ y by omega)]
        · rw [if_neg c2, if_neg (show ¬ (a ≤ x ∨ a ≤ y) by omega)]
theorem survey_s (k k1 : Nat) (hk : k1 + 6 ≤ k ∨ k + 12 ≤ k1) (B : Nat → Nat) (ho : okB B) (σ : Mem) (hB : AtB σ k1 B) : ∃ σ', X5_survey k k1 σ = some σ' ∧ Gp σ' k (B 0) (far B) ∧ (∀ q, (q < k ∨ k + 12 ≤ q ∨ q = k + 1) → σ' q = σ q) ∧ ∀ j, j ≠ 0 → σ' k j = σ k j := by
  have hn := ho.1
  obtain ⟨σ', e1, e2, e3⟩ := survey_l k k1 hk B ho (B 0) 0 FU (wr σ k 0 (nI (B 0))) (by omega) (by unfold FU; omega) (wr_at _ _ _ _) (AtB.cg hB (fun q u v => wr_off _ _ _ (by omega)))
  refine ⟨σ', ?_, ⟨by rw [e3 k (by omega), wr_at], fun x y hx hy => by rw [e2 x y hx hy, if_pos (by omega)]⟩, fun q hq => by rw [e3 q (by omega), wr_off _ _ _ (by omega)], fun j hj => by rw [e3 k (by omega), wr_in _ _ hj]⟩
  unfold X5_survey X5_survey_b0
  rw [hB.1]
  exact e1
