/-! PURE: groups, as the class finds them. -/
section
variable {g : Nat → Nat → Nat} {n L : Nat}
theorem wid3 (g : Nat → Nat → Nat) (n A B C : Nat) : wid g n (A ||| B ||| C) = max (wid g n (A ||| B)) (max (wid g n (A ||| C)) (wid g n (B ||| C))) := by
  have h1 := wid_is g n (A ||| B)
  have h2 := wid_is g n (A ||| C)
  have h3 := wid_is g n (B ||| C)
  refine IsW_uniq (wid_is g n (A ||| B ||| C)) ⟨fun p q hp hq b1 b2 => ?_, ?_⟩
  · rw [Nat.testBit_or, Nat.testBit_or, Bool.or_eq_true, Bool.or_eq_true] at b1 b2
    have k1 : ∀ i, A.testBit i = true → (A ||| B).testBit i = true ∧ (A ||| C).testBit i = true := fun i hi => by rw [Nat.testBit_or, Nat.testBit_or, hi]; exact ⟨rfl, rfl⟩
    have k2 : ∀ i, B.testBit i = true → (A ||| B).testBit i = true ∧ (B ||| C).testBit i = true := fun i hi => by rw [Nat.testBit_or, Nat.testBit_or, hi, Bool.or_true]; exact ⟨rfl, rfl⟩
    have k3 : ∀ i, C.testBit i = true → (A ||| C).testBit i = true ∧ (B ||| C).testBit i = true := fun i hi => by rw [Nat.testBit_or, Nat.testBit_or, hi, Bool.or_true, Bool.or_true]; exact ⟨rfl, rfl⟩
    have hm1 := Nat.le_max_left (wid g n (A ||| B)) (max (wid g n (A ||| C)) (wid g n (B ||| C)))
    have hm2 : wid g n (A ||| C) ≤ max (wid g n (A ||| B)) (max (wid g n (A ||| C)) (wid g n (B ||| C))) := Nat.le_trans (Nat.le_max_left _ _) (Nat.le_max_right _ _)
    have hm3 : wid g n (B ||| C) ≤ max (wid g n (A ||| B)) (max (wid g n (A ||| C)) (wid g n (B ||| C))) := Nat.le_trans (Nat.le_max_right _ _) (Nat.le_max_right _ _)
    rcases b1 with (b1 | b1) | b1
    · rcases b2 with (b2 | b2) | b2
      · exact Nat.le_trans (h1.1 p q hp hq (k1 p b1).1 (k1 q b2).1) hm1
      · exact Nat.le_trans (h1.1 p q hp hq (k1 p b1).1 (k2 q b2).1) hm1
      · exact Nat.le_trans (h2.1 p q hp hq (k1 p b1).2 (k3 q b2).1) hm2
    · rcases b2 with (b2 | b2) | b2
      · exact Nat.le_trans (h1.1 p q hp hq (k2 p b1).1 (k1 q b2).1) hm1
      · exact Nat.le_trans (h1.1 p q hp hq (k2 p b1).1 (k2 q b2).1) hm1
      · exact Nat.le_trans (h3.1 p q hp hq (k2 p b1).2 (k3 q b2).2) hm3
    · rcases b2 with (b2 | b2) | b2
      · exact Nat.le_trans (h2.1 p q hp hq (k3 p b1).1 (k1 q b2).2) hm2
      · exact Nat.le_trans (h3.1 p q hp hq (k3 p b1).2 (k2 q b2).2) hm3
      · exact Nat.le_trans (h2.1 p q hp hq (k3 p b1).1 (k3 q b2).1) hm2
  · have up : ∀ {S w : Nat}, IsW g n S w → (∀ i, S.testBit i = true → (A ||| B ||| C).testBit i = true) → w = 0 ∨ ∃ p q, p < n ∧ q < n ∧ (A ||| B ||| C).testBit p = true ∧ (A ||| B ||| C).testBit q = true ∧ g p q = w := by
      intro S w hS hi
      rcases hS.2 with e | ⟨p, q, e1, e2, e3, e4, e5⟩
      · exact Or.inl e
      · exact Or.inr ⟨p, q, e1, e2, hi p e3, hi q e4, e5⟩
    have u1 := up h1 (fun i hi => by rw [Nat.testBit_or, hi]; rfl)
    have u2 := up h2 (fun i hi => by
      rw [Nat.testBit_or, Bool.or_eq_true] at hi
      rw [Nat.testBit_or, Nat.testBit_or]
      rcases hi with hi | hi
      · rw [hi]
        rfl
      · rw [hi, Bool.or_true])
    have u3 := up h3 (fun i hi => by
      rw [Nat.testBit_or, Bool.or_eq_true] at hi
      rw [Nat.testBit_or, Nat.testBit_or]
      rcases hi with hi | hi
      · rw [hi, Bool.or_true]
        rfl
      · rw [hi, Bool.or_true])
    by_cases c1 : max (wid g n (A ||| C)) (wid g n (B ||| C)) ≤ wid g n (A ||| B)
    · rw [Nat.max_eq_left c1]
      exact u1
    · rw [Nat.max_eq_right (show wid g n (A ||| B) ≤ max (wid g n (A ||| C)) (wid g n (B ||| C)) by omega)]
      by_cases c2 : wid g n (B ||| C) ≤ wid g n (A ||| C)
      · rw [Nat.max_eq_left c2]
        exact u2
      · rw [Nat.max_eq_right (show wid g n (A ||| C) ≤ wid g n (B ||| C) by omega)]
        exact u3
def JT (g : Nat → Nat → Nat) (n : Nat) (r : Nat → Nat) (σ : Mem) : Prop := (∀ p, p < n → σ 198 p = nI (r p)) ∧ ∀ a b, a < n → b < n → r a = a → r b = b → a ≠ b → σ (200 + a) b = nI (wj g n r a b)
def CSc (g : Nat → Nat → Nat) (n L : Nat) (r : Nat → Nat) (a b : Nat) (v3 v4 v5 : Int32) : Prop := (v3 = -1000000 ∧ v4 = -1000000 ∧ v5 = nI (L + 1) ∧ ScN g n L r a b) ∨ ∃ x y, v3 = nI x ∧ v4 = nI y ∧ v5 = nI (wj g n r x y) ∧ ScJ g n L r a b x y
theorem wj_comm (g : Nat → Nat → Nat) (n : Nat) (r : Nat → Nat) (a b : Nat) : wj g n r a b = wj g n r b a := by
  unfold wj
  rw [Nat.or_comm]
theorem joIn (hn : n ≤ 10) (hg : ∀ x y, x < n → y < n → g x y ≤ 90) (hL : L ≤ 1000) (r : Nat → Nat) (hr : RP n r) {σ : Mem} (hJ : JT g n r σ) (K15 : Nat → Int32 → Int32 → Int32 → Int32 → Int32 → Mem → Option (Int32 × Mem)) (a : Nat) (ha : a < n) : ∀ (d b m : Nat) (v3 v4 v5 : Int32), b + d = n → a < b → d < m → CSc g n L r a b v3 v4 v5 → ∃ v3' v4' v5', X4_joinsOnce_l27 K15 m 175 (nI n) v3 v4 v5 (nI a) (nI b) σ = K15 175 (nI n) v3' v4' v5' (nI (a + 1)) σ ∧ CSc g n L r a n v3' v4' v5' := by
  have hw : ∀ x y, wj g n r x y ≤ 90 := fun x y => wid_le hg _
  intro d
  induction d with
  | zero =>
    intro b m v3 v4 v5 hb hab hm hs
    obtain ⟨m, rfl⟩ : ∃ m', m = m' + 1 := ⟨m - 1, by omega⟩
    obtain rfl : b = n := by omega
    refine ⟨v3, v4, v5, ?_, hs⟩
    show X4_joinsOnce_b27 K15 _ 175 (nI b) v3 v4 v5 (nI a) (nI b) σ = _
    unfold X4_joinsOnce_b27
    rw [if_pos (nI_le (by omega) (by omega)), nI_1]
  | succ d ih =>
    intro b m v3 v4 v5 hb hab hm hs
    obtain ⟨m, rfl⟩ : ∃ m', m = m' + 1 := ⟨m - 1, by omega⟩
    have hra := (hr a ha).1
    have hrb := (hr b (by omega)).1
    have skip : ¬ vp n r a b → ∃ v3' v4' v5', X4_joinsOnce_l27 K15 m 175 (nI n) v3 v4 v5 (nI a) (nI (b + 1)) σ = K15 175 (nI n) v3' v4' v5' (nI (a + 1)) σ ∧ CSc g n L r a n v3' v4' v5' := by
      intro hv
      refine ih (b + 1) m v3 v4 v5 (by omega) (by omega) (by omega) ?_
      rcases hs with ⟨s1, s2, s4, s3⟩ | ⟨x, y, s1, s2, s4, s3⟩
      · exact Or.inl ⟨s1, s2, s4, ScN_skip s3 hv⟩
      · exact Or.inr ⟨x, y, s1, s2, s4, ScJ_skip s3 hv⟩
    show ∃ v3' v4' v5', X4_joinsOnce_b27 K15 _ 175 (nI n) v3 v4 v5 (nI a) (nI b) σ = _ ∧ _
    unfold X4_joinsOnce_b27 X4_joinsOnce_b91
    rw [if_neg (show ¬ nI n ≤ nI b by rw [nI_le_iff (by omega) (by omega)]; omega)]
    simp (disch := omega) only [gdx_n, nc_n, letv_eq, nI_1]
    rw [show σ (175 + 23) a = _ from hJ.1 a ha, show σ (175 + 23) b = _ from hJ.1 b (by omega)]
    by_cases ca : r a = a
    · rw [if_pos (show nI (r a) = nI a by rw [ca])]
      by_cases cb : r b = b
      · rw [if_pos (show nI (r b) = nI b by rw [cb])]
        have hv : vp n r a b := ⟨hab, by omega, ca, cb⟩
        have hwab := hw a b
        rw [show σ (175 + 24 + 1 + a) b = nI (wj g n r a b) from hJ.2 a b ha (by omega) ca cb (by omega)]
        rcases hs with ⟨s1, s2, s4, s3⟩ | ⟨x, y, s1, s2, s4, s3⟩
        · by_cases c3 : wj g n r a b ≤ L
          · rw [if_neg (show ¬ v5 ≤ nI (wj g n r a b) by rw [s4, nI_le_iff (by omega) (by omega)]; omega)]
            exact ih (b + 1) m _ _ _ (by omega) (by omega) (by omega) (Or.inr ⟨a, b, rfl, rfl, rfl, ScN_new s3 hv c3⟩)
          · rw [if_pos (show v5 ≤ nI (wj g n r a b) by rw [s4, nI_le_iff (by omega) (by omega)]; omega)]
            exact ih (b + 1) m _ _ _ (by omega) (by omega) (by omega) (Or.inl ⟨s1, s2, s4, ScN_far s3 (by omega)⟩)
        · have hwxy := hw x y
          by_cases c3 : wj g n r x y ≤ wj g n r a b
          · rw [if_pos (show v5 ≤ nI (wj g n r a b) by rw [s4, nI_le_iff (by omega) (by omega)]; omega)]
            exact ih (b + 1) m _ _ _ (by omega) (by omega) (by omega) (Or.inr ⟨x, y, s1, s2, s4, ScJ_stay s3 c3⟩)
          · rw [if_neg (show ¬ v5 ≤ nI (wj g n r a b) by rw [s4, nI_le_iff (by omega) (by omega)]; omega)]
            exact ih (b + 1) m _ _ _ (by omega) (by omega) (by omega) (Or.inr ⟨a, b, rfl, rfl, rfl, ScJ_new s3 hv (by omega)⟩)
      · rw [if_neg (show ¬ nI (r b) = nI b from fun q => cb ((nI_inj (by omega) (by omega)).mp q))]
        exact skip (fun q => cb q.2.2.2)
    · rw [if_neg (show ¬ nI (r a) = nI a from fun q => ca ((nI_inj (by omega) (by omega)).mp q))]
      exact skip (fun q => ca q.2.2.1)
/-- the end of a scan -/
def joE (n : Nat) (v3 v4 : Int32) (σ : Mem) : Option (Int32 × Mem) := if v3 < 0 then some (0, σ) else if 0 ≤ v4 then ob (X4_unite 175 (nI n) v3 v4 σ) (fun σ4 => some (1, σ4)) else some (0, σ)
theorem joOut (hn : n ≤ 10) (hg : ∀ x y, x < n → y < n → g x y ≤ 90) (hL : L ≤ 1000) (r : Nat → Nat) (hr : RP n r) {σ : Mem} (hJ : JT g n r σ) : ∀ (d a m : Nat) (v3 v4 v5 : Int32), a + d = n → d < m → CSc g n L r a (a + 1) v3 v4 v5 → ∃ v3' v4' v5', X4_joinsOnce_l15 m 175 (nI n) v3 v4 v5 (nI a) σ = joE n v3' v4' σ ∧ CSc g n L r n n v3' v4' v5' := by
  intro d
  induction d with
  | zero =>
    intro a m v3 v4 v5 ha hm hs
    obtain ⟨m, rfl⟩ : ∃ m', m = m' + 1 := ⟨m - 1, by omega⟩
    obtain rfl : a = n := by omega
    refine ⟨v3, v4, v5, ?_, ?_⟩
    · show X4_joinsOnce_b15 _ 175 (nI a) v3 v4 v5 (nI a) σ = _
      unfold X4_joinsOnce_b15
      rw [if_pos (nI_le (by omega) (by omega))]
      rfl
    · have hbe : ∀ x y, vp a r x y → (bef x y a a ↔ bef x y a (a + 1)) := fun x y hv => by
        obtain ⟨q1, q2, _⟩ := hv
        unfold bef
        omega
      rcases hs with ⟨s1, s2, s4, s3⟩ | ⟨x, y, s1, s2, s4, s3⟩
      · exact Or.inl ⟨s1, s2, s4, fun x y hb hxy => s3 x y ((hbe x y hxy).mp hb) hxy⟩
      · exact Or.inr ⟨x, y, s1, s2, s4, s3.1, (hbe x y s3.1).mpr s3.2.1, s3.2.2.1, fun x' y' hb hxy => s3.2.2.2 x' y' ((hbe x' y' hxy).mp hb) hxy⟩
  | succ d ih =>
    intro a m v3 v4 v5 ha hm hs
    obtain ⟨m, rfl⟩ : ∃ m', m = m' + 1 := ⟨m - 1, by omega⟩
    obtain ⟨u3, u4, u5, e1, e2⟩ := joIn hn hg hL r hr hJ (X4_joinsOnce_l15 m) a (by omega) d (a + 1) FU v3 v4 v5 (by omega) (by omega) (by unfold FU; omega) hs
    obtain ⟨w3, w4, w5, f1, f2⟩ := ih (a + 1) m u3 u4 u5 (by omega) (by omega) (by
      rcases e2 with ⟨s1, s2, s4, s3⟩ | ⟨x, y, s1, s2, s4, s3⟩
      · exact Or.inl ⟨s1, s2, s4, ScN_row s3⟩
      · exact Or.inr ⟨x, y, s1, s2, s4, ScJ_row s3⟩)
    refine ⟨w3, w4, w5, ?_, f2⟩
    show X4_joinsOnce_b15 _ 175 (nI n) v3 v4 v5 (nI a) σ = _
    unfold X4_joinsOnce_b15
    rw [if_neg (show ¬ nI n ≤ nI a by rw [nI_le_iff (by omega) (by omega)]; omega), letv_eq, nI_1, e1, f1]
theorem uniJ (hn : n ≤ 10) (x y : Nat) (hx : x < y) (hy : y < n) (own : Int32) : ∀ (d t m : Nat) (σ : Mem), t + d = n → d < m → ∃ σ', X4_unite_l57 m 175 (nI n) (nI x) (nI y) own (nI t) σ = some σ' ∧ (∀ s, t ≤ s → s < n → s ≠ x → s ≠ y → σ' (200 + x) s = mx own (mx (σ (200 + x) s) (σ (200 + y) s)) ∧ σ' (200 + s) x = mx own (mx (σ (200 + x) s) (σ (200 + y) s))) ∧ (∀ a b, a ≠ x → b ≠ x → σ' (200 + a) b = σ (200 + a) b) ∧ (∀ s, s < t → s ≠ x → σ' (200 + x) s = σ (200 + x) s ∧ σ' (200 + s) x = σ (200 + s) x) ∧ ∀ q, (q < 200 ∨ 210 ≤ q) → σ' q = σ q := by
  intro d
  induction d with
  | zero =>
    intro t m σ ht hm
    obtain ⟨m, rfl⟩ : ∃ m', m = m' + 1 := ⟨m - 1, by omega⟩
    refine ⟨σ, ?_, fun s h1 h2 => by omega, fun a b _ _ => rfl, fun s _ _ => ⟨rfl, rfl⟩, fun q _ => rfl⟩
    show X4_unite_b57 _ 175 (nI n) (nI x) (nI y) own (nI t) σ = _
    unfold X4_unite_b57
    rw [if_pos (nI_le (by omega) (by omega))]
  | succ d ih =>
    intro t m σ ht hm
    obtain ⟨m, rfl⟩ : ∃ m', m = m' + 1 := ⟨m - 1, by omega⟩
    have e0 : ∀ w : Int32, ∀ s, s ≠ x → s ≠ t → wr (wr σ (200 + x) t w) (200 + t) x w (200 + x) s = σ (200 + x) s := fun w s h1 h2 => by
      by_cases c : t = x
      · subst c
        rw [wr_in _ _ h1, wr_in _ _ h2]
      · rw [wr_off _ _ _ (by omega), wr_in _ _ h2]
    have e1 : ∀ w : Int32, ∀ a b, a ≠ x → b ≠ x → wr (wr σ (200 + x) t w) (200 + t) x w (200 + a) b = σ (200 + a) b := fun w a b h1 h2 => by
      by_cases c : a = t
      · subst c
        rw [wr_in _ _ h2, wr_off _ _ _ (by omega)]
      · rw [wr_off _ _ _ (by omega), wr_off _ _ _ (by omega)]
    have e2 : ∀ w : Int32, ∀ s, s ≠ x → s ≠ t → wr (wr σ (200 + x) t w) (200 + t) x w (200 + s) x = σ (200 + s) x := fun w s h1 h2 => by rw [wr_off _ _ _ (by omega), wr_off _ _ _ (by omega)]
    obtain ⟨σ', q1, q2, q3, q4, q5⟩ := ih (t + 1) m (wr (wr σ (200 + x) t (mx own (mx (σ (200 + x) t) (σ (200 + y) t)))) (200 + t) x (mx own (mx (σ (200 + x) t) (σ (200 + y) t)))) (by omega) (by omega)
    refine ⟨σ', ?_, fun s h1 h2 h3 h4 => ?_, fun a b h1 h2 => by rw [q3 a b h1 h2, e1 _ a b h1 h2], fun s h1 h2 => ?_, fun q hq => by rw [q5 q hq, wr_off _ _ _ (by omega), wr_off _ _ _ (by omega)]⟩
    · show X4_unite_b57 _ 175 (nI n) (nI x) (nI y) own (nI t) σ = _
      unfold X4_unite_b57
      rw [if_neg (show ¬ nI n ≤ nI t by rw [nI_le_iff (by omega) (by omega)]; omega)]
      simp (disch := omega) only [gdx_n, nc_n, letv_eq, nI_1]
      exact q1
    · by_cases c : s = t
      · subst c
        obtain ⟨r1, r2⟩ := q4 s (by omega) h3
        rw [r1, r2]
        refine ⟨?_, wr_at _ _ _ _⟩
        rw [wr_off _ _ _ (by omega), wr_at]
      · obtain ⟨r1, r2⟩ := q2 s (by omega) h2 h3 h4
        rw [r1, r2, e0 _ s h3 c, e1 _ y s (by omega) h3]
        exact ⟨rfl, rfl⟩
    · obtain ⟨r1, r2⟩ := q4 s (by omega) h2
      rw [r1, r2]
      exact ⟨e0 _ s h2 (by omega), e2 _ s h2 (by omega)⟩
theorem uniG (hn : n ≤ 10) (x y : Nat) (hx : x < n) (hy : y < n) (r : Nat → Nat) (hr : RP n r) : ∀ (d t m : Nat) (σ : Mem), t + d = n → d < m → (∀ p, p < n → σ 198 p = nI (if p < t then jn r x y p else r p)) → ∃ σ', X4_unite_l13 m 175 (nI n) (nI x) (nI y) (nI t) σ = X4_unite_l57 FU 175 (nI n) (nI x) (nI y) (σ (200 + x) y) (nI 0) σ' ∧ (∀ p, p < n → σ' 198 p = nI (jn r x y p)) ∧ ∀ q, q ≠ 198 → σ' q = σ q := by
  intro d
  induction d with
  | zero =>
    intro t m σ ht hm hs
    obtain ⟨m, rfl⟩ : ∃ m', m = m' + 1 := ⟨m - 1, by omega⟩
    refine ⟨σ, ?_, fun p hp => by rw [hs p hp, if_pos (by omega)], fun q _ => rfl⟩
    show X4_unite_b13 _ 175 (nI n) (nI x) (nI y) (nI t) σ = _
    unfold X4_unite_b13
    rw [if_pos (nI_le (by omega) (by omega))]
    simp (disch := omega) only [gdx_n, nc_n, letv_eq]
    rfl
  | succ d ih =>
    intro t m σ ht hm hs
    obtain ⟨m, rfl⟩ : ∃ m', m = m' + 1 := ⟨m - 1, by omega⟩
    have ht0 := hs t (by omega)
    rw [if_neg (by omega)] at ht0
    have hrt := (hr t (by omega)).1
    have hx' : ∀ v : Nat, v = jn r x y t → ∀ p, p < n → wr σ 198 t (nI v) 198 p = nI (if p < t + 1 then jn r x y p else r p) := fun v hv p hp => by
      by_cases c : p = t
      · subst c
        rw [wr_at, if_pos (by omega), hv]
      · rw [wr_in _ _ c, hs p hp]
        by_cases c2 : p < t
        · rw [if_pos c2, if_pos (by omega)]
        · rw [if_neg c2, if_neg (by omega)]
    show ∃ σ', X4_unite_b13 _ 175 (nI n) (nI x) (nI y) (nI t) σ = _ ∧ _
    unfold X4_unite_b13 X4_unite_b38
    rw [if_neg (show ¬ nI n ≤ nI t by rw [nI_le_iff (by omega) (by omega)]; omega), gdx_n (by omega) (by omega), nc_n (by omega), show σ (175 + 23) t = nI (r t) from ht0, gdx_n (by omega) (by omega), nI_1]
    by_cases c : r t = y
    · rw [if_pos (show nI (r t) = nI y by rw [c])]
      obtain ⟨σ', q1, q2, q3⟩ := ih (t + 1) m (wr σ 198 t (nI x)) (by omega) (by omega) (hx' x (by unfold jn; rw [if_pos c]))
      refine ⟨σ', ?_, q2, fun q hq => by rw [q3 q hq, wr_off _ _ _ hq]⟩
      rw [wr_off _ _ _ (by omega)] at q1
      exact q1
    · rw [if_neg (show ¬ nI (r t) = nI y from fun q => c ((nI_inj (by omega) (by omega)).mp q))]
      exact ih (t + 1) m σ (by omega) (by omega) (fun p hp => by
        rw [hs p hp]
        by_cases c2 : p < t
        · rw [if_pos c2, if_pos (by omega)]
        · rw [if_neg c2]
          by_cases c3 : p = t
          · rw [if_pos (by omega), c3]
            unfold jn
            rw [if_neg c]
          · rw [if_neg (by omega)])
theorem uni_s (hn : n ≤ 10) (hg : ∀ x y, x < n → y < n → g x y ≤ 90) (r : Nat → Nat) (hr : RP n r) (x y : Nat) (hv : vp n r x y) (σ : Mem) (hJ : JT g n r σ) : ∃ σ', X4_unite 175 (nI n) (nI x) (nI y) σ = some σ' ∧ JT g n (jn r x y) σ' ∧ σ' 175 4 = σ 175 4 - 1 ∧ (∀ j, j ≠ 4 → σ' 175 j = σ 175 j) ∧ ∀ q, q ≠ 175 → q ≠ 198 → (q < 200 ∨ 210 ≤ q) → σ' q = σ q := by
  obtain ⟨v1, v2, v3, v4⟩ := id hv
  have hw : ∀ a b, wj g n r a b ≤ 90 := fun a b => wid_le hg _
  obtain ⟨σ1, e1, e2, e3⟩ := uniG hn x y (by omega) v2 r hr n 0 FU (wr σ 175 4 (σ 175 4 - 1)) (by omega) (by unfold FU; omega) (fun p hp => by rw [wr_off _ _ _ (by omega), if_neg (by omega)]; exact hJ.1 p hp)
  obtain ⟨σ', q1, q2, q3, q4, q5⟩ := uniJ hn x y v1 v2 (wr σ 175 4 (σ 175 4 - 1) (200 + x) y) n 0 FU σ1 (by omega) (by unfold FU; omega)
  have g1 : ∀ q, q ≠ 198 → q ≠ 175 → σ1 q = σ q := fun q a b => by rw [e3 q a, wr_off _ _ _ b]
  refine ⟨σ', ?_, ⟨fun p hp => by rw [q5 198 (by omega)]; exact e2 p hp, fun a b ha hb h1 h2 h3 => ?_⟩, by rw [q5 175 (by omega), e3 175 (by omega), wr_at], fun j hj => by rw [q5 175 (by omega), e3 175 (by omega), wr_in _ _ hj], fun q a b c => by rw [q5 q c, g1 q b a]⟩
  · unfold X4_unite X4_unite_b0
    rw [show X4_unite_l13 FU 175 (nI n) (nI x) (nI y) 0 (wr σ 175 4 (σ 175 4 - 1)) = _ from e1]
    exact q1
  · have own : wr σ 175 4 (σ 175 4 - 1) (200 + x) y = nI (wj g n r x y) := by
      rw [wr_off _ _ _ (by omega)]
      exact hJ.2 x y (by omega) v2 v3 v4 (by omega)
    -- who stands now stood before, and is not y
    have old : ∀ t, t < n → jn r x y t = t → t ≠ y ∧ r t = t := fun t ht h => by
      unfold jn at h
      by_cases c : r t = y
      · rw [if_pos c] at h
        rw [← h, v3] at c
        omega
      · rw [if_neg c] at h
        exact ⟨fun q => c (by rw [q]; exact v4), h⟩
    have trip : ∀ s, s < n → s ≠ x → jn r x y s = s → mx (wr σ 175 4 (σ 175 4 - 1) (200 + x) y) (mx (σ1 (200 + x) s) (σ1 (200 + y) s)) = nI (wj g n (jn r x y) x s) := fun s hs hsx h => by
      obtain ⟨o1, o2⟩ := old s hs h
      rw [own, g1 _ (by omega) (by omega), g1 _ (by omega) (by omega), hJ.2 x s (by omega) hs v3 o2 (fun q => hsx q.symm), hJ.2 y s v2 hs v4 o2 (fun q => o1 q.symm)]
      have w1 := hw x y
      have w2 := hw x s
      have w3 := hw y s
      rw [mx_n (by omega) (by omega), mx_n (by omega) (by omega)]
      congr 1
      unfold wj
      rw [gm_jn_a (by omega), gm_jn_o hsx o1, wid3]
    by_cases ca : a = x
    · subst ca
      obtain ⟨o1, o2⟩ := old b hb h2
      rw [(q2 b (by omega) hb (fun q => h3 q.symm) o1).1]
      exact trip b hb (fun q => h3 q.symm) h2
    · by_cases cb : b = x
      · subst cb
        obtain ⟨o1, o2⟩ := old a ha h1
        rw [(q2 a (by omega) ha ca o1).2, wj_comm]
        exact trip a ha ca h1
      · obtain ⟨o1, o2⟩ := old a ha h1
        obtain ⟨p1, p2⟩ := old b hb h2
        rw [q3 a b ca cb, g1 _ (by omega) (by omega), hJ.2 a b ha hb o2 p2 h3]
        congr 1
        unfold wj
        rw [gm_jn_o ca o1, gm_jn_o cb p1]
theorem jo_s (hn : n ≤ 10) (hg : ∀ x y, x < n → y < n → g x y ≤ 90) (hL : L ≤ 1000) (r : Nat → Nat) (hr : RP n r) (σ : Mem) (hJ : JT g n r σ) : (X4_joinsOnce 175 (nI n) (nI L) σ = some (0, σ) ∧ ScN g n L r n n) ∨ ∃ x y σ', X4_joinsOnce 175 (nI n) (nI L) σ = some (1, σ') ∧ ScJ g n L r n n x y ∧ JT g n (jn r x y) σ' ∧ σ' 175 4 = σ 175 4 - 1 ∧ (∀ j, j ≠ 4 → σ' 175 j = σ 175 j) ∧ ∀ q, q ≠ 175 → q ≠ 198 → (q < 200 ∨ 210 ≤ q) → σ' q = σ q := by
  obtain ⟨v3, v4, v5, e1, e2⟩ := joOut (L := L) hn hg hL r hr hJ n 0 FU (-1000000) (-1000000) (nI (L + 1)) (by omega) (by unfold FU; omega) (Or.inl ⟨rfl, rfl, rfl, fun x y hb hxy => by
    unfold bef at hb
    have := hxy.1
    omega⟩)
  have start : X4_joinsOnce 175 (nI n) (nI L) σ = joE n v3 v4 σ := by
    unfold X4_joinsOnce X4_joinsOnce_b0
    rw [letv_eq, nI_1]
    exact e1
  rw [start]
  unfold joE
  rcases e2 with ⟨s1, s2, s4, s3⟩ | ⟨x, y, s1, s2, s4, s3⟩
  · left
    rw [s1, if_pos (by decide)]
    exact ⟨rfl, s3⟩
  · right
    obtain ⟨v1, v2, _⟩ := id s3.1
    obtain ⟨σ', q1, q2, q3, q4, q5⟩ := uni_s hn hg r hr x y s3.1 σ hJ
    refine ⟨x, y, σ', ?_, s3, q2, q3, q4, q5⟩
    rw [s1, s2, if_neg (nI_nn (by omega)), if_pos (nI_ge0 (by omega)), q1, ob_some]
theorem join_l (hn : n ≤ 10) (hg : ∀ x y, x < n → y < n → g x y ≤ 90) (hL : L ≤ 1000) : ∀ (d i m : Nat) (f : Nat → Nat → Nat) (σ : Mem), (i + d + 1 = n ∨ (n = 0 ∧ i = 0)) → d + 1 < m → Chn g n L f i → JT g n (f i) σ → σ 175 4 = nI (n - i) → ∃ σ' f' m', X4_join_l52 m 175 (nI n) (nI L) (nI (i + 1)) σ = some σ' ∧ ChE g n L f' m' ∧ m' ≤ n ∧ (∀ p, p < n → σ' 198 p = nI (f' m' p)) ∧ σ' 175 4 = nI (n - m') ∧ (∀ j, j ≠ 4 → σ' 175 j = σ 175 j) ∧ ∀ q, q ≠ 175 → q ≠ 198 → (q < 200 ∨ 210 ≤ q) → σ' q = σ q := by
  intro d
  induction d with
  | zero =>
    intro i m f σ hi hm hc hJ h4
    obtain ⟨m, rfl⟩ : ∃ m', m = m' + 1 := ⟨m - 1, by omega⟩
    have hok := Chn_ok hn hc i (Nat.le_refl i)
    refine ⟨σ, f, i, ?_, ⟨hc, ScN_few hn hok.1 (by omega)⟩, by omega, hJ.1, h4, fun _ _ => rfl, fun _ _ _ _ => rfl⟩
    show X4_join_b52 _ 175 (nI n) (nI L) (nI (i + 1)) σ = _
    unfold X4_join_b52
    rw [if_pos (nI_le (by omega) (by omega))]
  | succ d ih =>
    intro i m f σ hi hm hc hJ h4
    obtain ⟨m, rfl⟩ : ∃ m', m = m' + 1 := ⟨m - 1, by omega⟩
    have hok := Chn_ok hn hc i (Nat.le_refl i)
    rcases hi with hi | ⟨hi, hi0⟩
    · rcases jo_s hn hg hL (f i) hok.1 σ hJ with ⟨e1, e2⟩ | ⟨x, y, σ1, e1, e2, e3, e4, e5, e6⟩
      · refine ⟨σ, f, i, ?_, ⟨hc, e2⟩, by omega, hJ.1, h4, fun _ _ => rfl, fun _ _ _ _ => rfl⟩
        show X4_join_b52 _ 175 (nI n) (nI L) (nI (i + 1)) σ = _
        unfold X4_join_b52
        rw [if_neg (show ¬ nI n ≤ nI (i + 1) by rw [nI_le_iff (by omega) (by omega)]; omega), e1, ob2_some, if_pos rfl]
      · obtain ⟨c1, c2⟩ := Chn_ext hc e2
        obtain ⟨σ', f', m', q1, q2, q3, q4, q5, q6, q7⟩ := ih (i + 1) m (fun j => if j = i + 1 then jn (f i) x y else f j) σ1 (by omega) (by omega) c1 (by rw [if_pos rfl]; exact e3) (by rw [e4, h4, show n - i = (n - (i + 1)) + 1 by omega, nI_s1])
        refine ⟨σ', f', m', ?_, q2, q3, q4, q5, fun j hj => by rw [q6 j hj, e5 j hj], fun q a b c => by rw [q7 q a b c, e6 q a b c]⟩
        show X4_join_b52 _ 175 (nI n) (nI L) (nI (i + 1)) σ = _
        unfold X4_join_b52
        rw [if_neg (show ¬ nI n ≤ nI (i + 1) by rw [nI_le_iff (by omega) (by omega)]; omega), e1, ob2_some, if_neg (by decide), nI_1]
        exact q1
    · refine ⟨σ, f, i, ?_, ⟨hc, fun x y _ hxy => by have := hxy.2.1; omega⟩, by omega, hJ.1, h4, fun _ _ => rfl, fun _ _ _ _ => rfl⟩
      show X4_join_b52 _ 175 (nI n) (nI L) (nI (i + 1)) σ = _
      unfold X4_join_b52
      rw [if_pos (nI_le (by omega) (by omega))]
theorem join0_l (hn : n ≤ 10) : ∀ (d t m : Nat) (σ : Mem), t + d = n → d < m → Gp σ 177 n g → (∀ p, p < t → σ 198 p = nI p ∧ ∀ b, b < n → σ (200 + p) b = nI (g p b)) → ∃ σ', X4_join_l2 m 175 (nI n) (nI L) (nI t) σ = X4_join_l52 FU 175 (nI n) (nI L) (nI 1) (wr σ' 175 4 (nI n)) ∧ (∀ p, p < n → σ' 198 p = nI p ∧ ∀ b, b < n → σ' (200 + p) b = nI (g p b)) ∧ ∀ q, q ≠ 198 → (q < 200 ∨ 210 ≤ q) → σ' q = σ q := by
  intro d
  induction d with
  | zero =>
    intro t m σ ht hm hG hs
    obtain ⟨m, rfl⟩ : ∃ m', m = m' + 1 := ⟨m - 1, by omega⟩
    refine ⟨σ, ?_, fun p hp => hs p (by omega), fun q _ _ => rfl⟩
    show X4_join_b2 _ 175 (nI n) (nI L) (nI t) σ = _
    unfold X4_join_b2
    rw [if_pos (nI_le (by omega) (by omega))]
    rfl
  | succ d ih =>
    intro t m σ ht hm hG hs
    obtain ⟨m, rfl⟩ : ∃ m', m = m' + 1 := ⟨m - 1, by omega⟩
    obtain ⟨σ', q1, q2, q3⟩ := ih (t + 1) m (wrF (wr σ 198 t (nI t)) (200 + t) (va_cpy (σ (179 + t)) (σ (200 + t)) 0 0 10)) (by omega) (by omega) ⟨by rw [wrF_ne _ _ (by omega), wr_off _ _ _ (by omega)]; exact hG.1, fun x y hx hy => by rw [wrF_ne _ _ (by omega), wr_off _ _ _ (by omega)]; exact hG.2 x y hx hy⟩ (fun p hp => by
      by_cases c : p = t
      · subst c
        refine ⟨by rw [wrF_ne _ _ (by omega), wr_at], fun b hb => ?_⟩
        rw [wrF_same]
        unfold va_cpy
        rw [if_pos (by omega), show 0 + (b - 0) = b by omega]
        exact hG.2 p b (by omega) hb
      · obtain ⟨a1, a2⟩ := hs p (by omega)
        refine ⟨by rw [wrF_ne _ _ (by omega), wr_in _ _ c]; exact a1, fun b hb => ?_⟩
        rw [wrF_ne _ _ (by omega), wr_off _ _ _ (by omega)]
        exact a2 b hb)
    refine ⟨σ', ?_, q2, fun q a b => by rw [q3 q a b, wrF_ne _ _ (by omega), wr_off _ _ _ a]⟩
    rw [← q1]
    show X4_join_b2 _ 175 (nI n) (nI L) (nI t) σ = _
    unfold X4_join_b2
    rw [if_neg (show ¬ nI n ≤ nI t by rw [nI_le_iff (by omega) (by omega)]; omega)]
    simp (disch := omega) only [gdx_n, nc_n, letv_eq, nI_1, nc_0, nc_10, gdc_10, wr_off]
theorem join_s (hn : n ≤ 10) (hg : ∀ x y, x < n → y < n → g x y ≤ 90) (hc : ∀ x y, g x y = g y x) (hz : ∀ x, g x x = 0) (hL : L ≤ 1000) (σ : Mem) (hG : Gp σ 177 n g) : ∃ σ' f m, X4_join 175 (nI n) (nI L) σ = some σ' ∧ ChE g n L f m ∧ m ≤ n ∧ (∀ p, p < n → σ' 198 p = nI (f m p)) ∧ σ' 175 4 = nI (n - m) ∧ (∀ j, j ≠ 4 → σ' 175 j = σ 175 j) ∧ ∀ q, q ≠ 175 → q ≠ 198 → (q < 200 ∨ 210 ≤ q) → σ' q = σ q := by
  obtain ⟨σ1, e1, e2, e3⟩ := join0_l (L := L) hn n 0 FU σ (by omega) (by unfold FU; omega) hG (fun p hp => by omega)
  have hw2 : ∀ a b, a < n → b < n → a ≠ b → wj g n (fun x => x) a b = g a b := fun a b ha hb hab => by
    refine IsW_uniq (wid_is g n _) ⟨fun p q hp hq b1 b2 => ?_, Or.inr ⟨a, b, ha, hb, ?_, ?_, rfl⟩⟩
    · rw [Nat.testBit_or, Bool.or_eq_true, gm_bit, gm_bit] at b1 b2
      have b1' : p = a ∨ p = b := by omega
      have b2' : q = a ∨ q = b := by omega
      rcases b1' with c1 | c1
      · rcases b2' with c2 | c2
        · rw [c1, c2, hz]
          exact Nat.zero_le _
        · rw [c1, c2]
          exact Nat.le_refl _
      · rcases b2' with c2 | c2
        · rw [c1, c2, hc]
          exact Nat.le_refl _
        · rw [c1, c2, hz]
          exact Nat.zero_le _
    · rw [Nat.testBit_or, (gm_bit n (fun x => x) a a).mpr ⟨ha, rfl⟩]
      rfl
    · rw [Nat.testBit_or, (gm_bit n (fun x => x) b b).mpr ⟨hb, rfl⟩, Bool.or_true]
  obtain ⟨σ', f', m', q1, q2, q3, q4, q5, q6, q7⟩ := join_l (L := L) hn hg hL (n - 1) 0 FU (fun _ x => x) (wr σ1 175 4 (nI n)) (by omega) (by unfold FU; omega) ⟨fun p => rfl, fun i hi => by omega⟩ ⟨fun p hp => by rw [wr_off _ _ _ (by omega)]; exact (e2 p hp).1, fun a b ha hb _ _ hab => by rw [wr_off _ _ _ (by omega), (e2 a ha).2 b hb, hw2 a b ha hb hab]⟩ (wr_at _ _ _ _)
  refine ⟨σ', f', m', ?_, q2, q3, q4, q5, fun j hj => by rw [q6 j hj, wr_in _ _ hj, e3 175 (by omega) (by omega)], fun q a b c => by rw [q7 q a b c, wr_off _ _ _ a, e3 q b c]⟩
  unfold X4_join X4_join_b0
  rw [show X4_join_l2 FU 175 (nI n) (nI L) 0 σ = _ from e1]
  exact q1
end
