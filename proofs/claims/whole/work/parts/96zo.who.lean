/-! PURE: who (kinds, numbers, limits by the hands that are told). -/
theorem Ref.st {σ σ' : Mem} {B : Nat → Nat} {m : Nat} {L I : Nat → Nat → Nat} (h : Ref FOK σ B m L I) (fr : ∀ q, q ≠ 0 → q ≠ 251 → σ' q = σ q) (f2 : ∀ j, j ≠ 11 → σ' 0 j = σ 0 j) (f3 : ∀ j, j ≠ 0 → σ' 251 j = σ 251 j) (s : σ' 0 11 = σ' 251 0) : Ref FOK σ' B m L I := by
  obtain ⟨r1, r2, r3, r4, r5, r6, r7, r8, r9, r10, r11, r12, r13⟩ := h
  exact ⟨IRow.cg r1 (fun q hq => fr q (by omega) (by omega)), ITape.cg r2 (fr 13 (by omega) (by omega)) (fr 14 (by omega) (by omega)) (fr 259 (by omega) (by omega)) (f3 10 (by omega)), by rw [f2 10 (by omega), f3 17 (by omega)]; exact r3, s, Trc.cg r5 (by rw [fr 237 (by omega) (by omega)]) (fr 238 (by omega) (by omega)) (fr 270 (by omega) (by omega)) (f3 31 (by omega)), r6, AtB.cg r7 (fun q a b => fr q (by omega) (by omega)), by rw [fr 255 (by omega) (by omega)]; exact r8, r9, CA.cg r10 (fun q a b => fr q (by omega) (by omega)), MA.cg r11 (f3 8 (by omega)) (fr 258 (by omega) (by omega)), Img.cg r12 (fun q hq => fr q (by omega) (by omega)), Fsh.cg FOK_loc r13 (f2 9 (by omega)) (fun q a b => fr q (by omega) (by omega))⟩
/-- the hands are as they are told -/
def So (B : Nat → Nat) (L u : Nat) (f : Nat → Int32) : Prop := ∃ kk h, HOK (nrT (nrM (far B) (B 0) L)) (B 0) kk h ∧ ∀ i, i < u → nI (h i) = f i
theorem hear_l (row a u : Nat) (hr : row < 8) (hu : u ≤ 10) (ha : a + u ≤ 40) : ∀ (d i m : Nat) (σ : Mem), i + d = u → d < m → σ 211 3 = nI i → (∀ j, j < i → σ 234 j = σ (3 + row) (a + j)) → ∃ σ', X3_hear_l8 m 211 (3 + row) (nI a) (nI u) (nI i) σ = some σ' ∧ σ' 211 3 = nI u ∧ (∀ j, j < u → σ' 234 j = σ (3 + row) (a + j)) ∧ ∀ q, q ≠ 211 → q ≠ 234 → σ' q = σ q := by
  intro d
  induction d with
  | zero =>
    intro i m σ hi hm h0 h1
    obtain ⟨m, rfl⟩ : ∃ m', m = m' + 1 := ⟨m - 1, by omega⟩
    obtain rfl : i = u := by omega
    refine ⟨σ, ?_, h0, h1, fun q _ _ => rfl⟩
    show X3_hear_b8 _ 211 (3 + row) (nI a) (nI i) (nI i) σ = _
    unfold X3_hear_b8
    rw [if_pos (nI_le (by omega) (by omega))]
  | succ d ih =>
    intro i m σ hi hm h0 h1
    obtain ⟨m, rfl⟩ : ∃ m', m = m' + 1 := ⟨m - 1, by omega⟩
    have e0 : wr σ 234 i (σ (3 + row) (a + i)) 211 3 = nI i := by rw [wr_off _ _ _ (by omega)]; exact h0
    have fr : ∀ q, q ≠ 211 → q ≠ 234 → wr (wr σ 234 i (σ (3 + row) (a + i))) 211 3 (nI (i + 1)) q = σ q := fun q x y => by rw [wr_off _ _ _ x, wr_off _ _ _ y]
    obtain ⟨σ', q1, q2, q3, q4⟩ := ih (i + 1) m (wr (wr σ 234 i (σ (3 + row) (a + i))) 211 3 (nI (i + 1))) (by omega) (by omega) (wr_at _ _ _ _) (fun j hj => by
      rw [fr (3 + row) (by omega) (by omega), wr_off _ _ _ (by omega)]
      by_cases c : j = i
      · subst c
        rw [wr_at]
      · rw [wr_in _ _ c]
        exact h1 j (by omega))
    refine ⟨σ', ?_, q2, fun j hj => by rw [q3 j hj, fr (3 + row) (by omega) (by omega)], fun q x y => by rw [q4 q x y, fr q x y]⟩
    show X3_hear_b8 _ 211 (3 + row) (nI a) (nI u) (nI i) σ = _
    unfold X3_hear_b8
    rw [if_neg (show ¬ nI u ≤ nI i by rw [nI_le_iff (by omega) (by omega)]; omega), if_neg (show ¬ (10 : Int32) ≤ nI i from nI_ge (b := 10) (by omega) (by omega)), nI_add, if_neg (show ¬ (40 : Int32) ≤ nI (a + i) from nI_ge (b := 40) (by omega) (by omega)), gdx_n (by omega) (by omega), gdx_n (by omega) (by omega), nc_n (by omega), nc_n (by omega), letv_eq, show wr σ (211 + 23) i (σ (3 + row) (a + i)) 211 3 = nI i from e0, nI_1]
    exact q1
theorem hear_s (row a u : Nat) (hr : row < 8) (hu : u ≤ 10) (ha : a + u ≤ 40) (σ : Mem) : ∃ σ', X3_hear 211 (3 + row) (nI a) (nI u) σ = some σ' ∧ σ' 211 3 = nI u ∧ (∀ j, j < u → σ' 234 j = σ (3 + row) (a + j)) ∧ ∀ q, q ≠ 211 → q ≠ 234 → σ' q = σ q := by
  obtain ⟨σ', q1, q2, q3, q4⟩ := hear_l row a u hr hu ha u 0 FU (wr σ 211 3 0) (by omega) (by unfold FU; omega) (wr_at _ _ _ _) (fun j hj => absurd hj (Nat.not_lt_zero j))
  exact ⟨σ', q1, q2, fun j hj => by rw [q3 j hj, wr_off _ _ _ (by omega)], fun q x y => by rw [q4 q x y, wr_off _ _ _ x]⟩
theorem soby_l (h : Nat → Nat) (u : Nat) (f : Nat → Int32) (hu : u ≤ 10) (σ : Mem) (h0 : σ 211 3 = nI u) (h1 : ∀ i, i < u → σ 234 i = f i) (h2 : ∀ i, i < u → σ 232 i = nI (h i)) : ∀ (d i m : Nat), i + d = u → d < m → (X3_isSoBy_l10 m 211 (nI i) σ = some (1, σ) ∧ ∀ j, i ≤ j → j < u → nI (h j) = f j) ∨ (X3_isSoBy_l10 m 211 (nI i) σ = some (0, σ) ∧ ∃ j, j < u ∧ ¬ nI (h j) = f j) := by
  intro d
  induction d with
  | zero =>
    intro i m hi hm
    obtain ⟨m, rfl⟩ : ∃ m', m = m' + 1 := ⟨m - 1, by omega⟩
    refine Or.inl ⟨?_, fun j x y => by omega⟩
    show X3_isSoBy_b10 _ 211 (nI i) σ = _
    unfold X3_isSoBy_b10
    rw [h0, if_pos (nI_le (by omega) (by omega))]
  | succ d ih =>
    intro i m hi hm
    obtain ⟨m, rfl⟩ : ∃ m', m = m' + 1 := ⟨m - 1, by omega⟩
    have un : X3_isSoBy_l10 (m + 1) 211 (nI i) σ = if nI (h i) = f i then X3_isSoBy_l10 m 211 (nI (i + 1)) σ else some (0, σ) := by
      show X3_isSoBy_b10 _ 211 (nI i) σ = _
      unfold X3_isSoBy_b10
      rw [h0, if_neg (show ¬ nI u ≤ nI i by rw [nI_le_iff (by omega) (by omega)]; omega), gdx_n (by omega) (by omega), gdx_n (by omega) (by omega), nc_n (by omega), show σ (211 + 7 + 14) i = _ from h2 i (by omega), show σ (211 + 23) i = _ from h1 i (by omega), nI_1]
    rw [un]
    by_cases c : nI (h i) = f i
    · rw [if_pos c]
      rcases ih (i + 1) m (by omega) (by omega) with ⟨x, y⟩ | ⟨x, y⟩
      · refine Or.inl ⟨x, fun j a b => ?_⟩
        by_cases e : j = i
        · rw [e]
          exact c
        · exact y j (by omega) b
      · exact Or.inr ⟨x, y⟩
    · rw [if_neg c]
      exact Or.inr ⟨rfl, i, by omega, c⟩
theorem So_of {B : Nat → Nat} {L u kk : Nat} {h : Nat → Nat} {f : Nat → Int32} (hu : u ≤ B 0) (a : HOK (nrT (nrM (far B) (B 0) L)) (B 0) kk h) : So B L u f ↔ ∀ i, i < u → nI (h i) = f i := by
  constructor
  · rintro ⟨kk', h', b, c⟩ i hi
    rw [(HOK_uniq a b).2 i (by omega)]
    exact c i hi
  · intro c
    exact ⟨kk, h, a, c⟩
theorem soby_s {B : Nat → Nat} (ho : okB B) (hn0 : 0 < B 0) {u : Nat} (hu : u ≤ B 0) (L : Nat) (hL : L < 2 ^ 20) (f : Nat → Int32) (σ : Mem) (hG : Gp σ 219 (B 0) (far B)) (h0 : σ 211 3 = nI u) (h1 : ∀ i, i < u → σ 234 i = f i) : ∃ r σ', X3_isSoBy 211 (nI L) σ = some (r, σ') ∧ ((r = 1 ∧ So B L u f) ∨ (r = 0 ∧ ¬ So B L u f)) ∧ ∀ q, q ≠ 218 → q ≠ 231 → q ≠ 232 → q ≠ 233 → σ' q = σ q := by
  have hn := ho.1
  obtain ⟨σ1, a1, a2, a3, a4⟩ := find_s (k := 218) hn (far20 ho) (far_comm _) (far_self _) L hL σ hG
  rcases a2.2 with ⟨e0, _⟩ | ⟨_, kk, h, e1, e2, e3⟩
  · omega
  have hs := So_of (f := f) hu e1
  rcases soby_l h u f (by omega) σ1 (by rw [a3 211 (by omega) (by omega) (by omega) (by omega)]; exact h0) (fun i hi => by rw [a3 234 (by omega) (by omega) (by omega) (by omega)]; exact h1 i hi) (fun i hi => e2.1 i (by omega)) u 0 FU (by omega) (by unfold FU; omega) with ⟨x, y⟩ | ⟨x, j, y, z⟩
  · refine ⟨1, σ1, ?_, Or.inl ⟨rfl, hs.mpr (fun i hi => y i (by omega) hi)⟩, fun q x y z w => a3 q x y z w⟩
    unfold X3_isSoBy X3_isSoBy_b0
    rw [show X6_findFor (211 + 7) (nI L) σ = some σ1 from a1, ob_some]
    exact x
  · refine ⟨0, σ1, ?_, Or.inr ⟨rfl, fun q => z (hs.mp q j y)⟩, fun q x y z w => a3 q x y z w⟩
    unfold X3_isSoBy X3_isSoBy_b0
    rw [show X6_findFor (211 + 7) (nI L) σ = some σ1 from a1, ob_some]
    exact x
theorem hso_0 (o u : Nat) (hu : u ≤ 10) (σ : Mem) : ∀ (d i m : Nat), i + d = u → d < m → X12_areHandsSo_l23 m 251 (nI o) (nI u) 0 (nI i) σ = some (0, σ) := by
  intro d
  induction d with
  | zero =>
    intro i m hi hm
    obtain ⟨m, rfl⟩ : ∃ m', m = m' + 1 := ⟨m - 1, by omega⟩
    show X12_areHandsSo_b23 _ 251 (nI o) (nI u) 0 (nI i) σ = _
    unfold X12_areHandsSo_b23
    rw [if_pos (nI_le (by omega) (by omega))]
    rfl
  | succ d ih =>
    intro i m hi hm
    obtain ⟨m, rfl⟩ : ∃ m', m = m' + 1 := ⟨m - 1, by omega⟩
    show X12_areHandsSo_b23 _ 251 (nI o) (nI u) 0 (nI i) σ = _
    unfold X12_areHandsSo_b23 X12_areHandsSo_b57 X12_areHandsSo_b58
    rw [if_neg (show ¬ nI u ≤ nI i by rw [nI_le_iff (by omega) (by omega)]; omega), if_pos rfl, nI_1]
    exact ih (i + 1) m (by omega) (by omega)
theorem hso_l (h : Nat → Nat) (o u : Nat) (f : Nat → Int32) (hu : u ≤ 10) (ho : o + u ≤ 320) (σ : Mem) (h1 : ∀ i, i < u → σ 254 (o + i) = f i) (h2 : ∀ i, i < u → σ 264 i = nI (h i)) : ∀ (d i m : Nat), i + d = u → d < m → (X12_areHandsSo_l23 m 251 (nI o) (nI u) 1 (nI i) σ = some (1, σ) ∧ ∀ j, i ≤ j → j < u → nI (h j) = f j) ∨ (X12_areHandsSo_l23 m 251 (nI o) (nI u) 1 (nI i) σ = some (0, σ) ∧ ∃ j, j < u ∧ ¬ nI (h j) = f j) := by
  intro d
  induction d with
  | zero =>
    intro i m hi hm
    obtain ⟨m, rfl⟩ : ∃ m', m = m' + 1 := ⟨m - 1, by omega⟩
    refine Or.inl ⟨?_, fun j x y => by omega⟩
    show X12_areHandsSo_b23 _ 251 (nI o) (nI u) 1 (nI i) σ = _
    unfold X12_areHandsSo_b23
    rw [if_pos (nI_le (by omega) (by omega))]
    rfl
  | succ d ih =>
    intro i m hi hm
    obtain ⟨m, rfl⟩ : ∃ m', m = m' + 1 := ⟨m - 1, by omega⟩
    have un : X12_areHandsSo_l23 (m + 1) 251 (nI o) (nI u) 1 (nI i) σ = if nI (h i) = f i then X12_areHandsSo_l23 m 251 (nI o) (nI u) 1 (nI (i + 1)) σ else X12_areHandsSo_l23 m 251 (nI o) (nI u) 0 (nI (i + 1)) σ := by
      show X12_areHandsSo_b23 _ 251 (nI o) (nI u) 1 (nI i) σ = _
      unfold X12_areHandsSo_b23 X12_areHandsSo_b57 X12_areHandsSo_b58
      rw [if_neg (show ¬ nI u ≤ nI i by rw [nI_le_iff (by omega) (by omega)]; omega), if_neg (by decide), gdx_n (by omega) (by omega), nI_add, gdx_n (by omega) (by omega), nc_n (by omega), nc_n (by omega), show σ (251 + 13) i = _ from h2 i (by omega), show σ (251 + 3) (o + i) = _ from h1 i (by omega), nI_1]
    rw [un]
    by_cases c : nI (h i) = f i
    · rw [if_pos c]
      rcases ih (i + 1) m (by omega) (by omega) with ⟨x, y⟩ | ⟨x, y⟩
      · refine Or.inl ⟨x, fun j a b => ?_⟩
        by_cases e : j = i
        · rw [e]
          exact c
        · exact y j (by omega) b
      · exact Or.inr ⟨x, y⟩
    · rw [if_neg c]
      exact Or.inr ⟨hso_0 o u hu σ d (i + 1) m (by omega) (by omega), i, by omega, c⟩
theorem hso_s {B : Nat → Nat} (ho : okB B) (hn0 : 0 < B 0) {u : Nat} (hu : u ≤ B 0) (o : Nat) (hou : o + u ≤ 320) (f : Nat → Int32) (σ : Mem) (hR : RwB (σ 257) 0 B) (h1 : ∀ i, i < u → σ 254 (o + i) = f i) : ∃ r σ', X12_areHandsSo 251 (nI o) (nI u) σ = some (r, σ') ∧ ((r = 1 ∧ So B (B 1) u f) ∨ (r = 0 ∧ ¬ So B (B 1) u f)) ∧ ∀ q, (q < 261 ∨ 266 ≤ q) → σ' q = σ q := by
  have hn := ho.1
  have hl := ho.2.1
  obtain ⟨σ1, kk, h, a1, a2, a3, a4, a5⟩ := hands_s (k1 := 257) (by omega) ho hn0 (B 1) (by omega) σ hR (by
    have := hR 1 (by omega)
    rw [Nat.zero_add] at this
    exact this)
  have hk : 0 < kk := by
    have := a2.1.1.1 0 hn0
    omega
  have hkn : kk ≤ 10 := by
    rcases Nat.lt_or_ge 10 kk with c | c
    · exact absurd (Val_id (nr := nrT (nrM (far B) (B 0) (B 1))) (B 0) (fun p hp => nrM_rf (far_self B) p hp)) (a2.2 (B 0) (by omega) _)
    · exact c
  have hs := So_of (f := f) hu a2
  have un : X12_areHandsSo 251 (nI o) (nI u) σ = X12_areHandsSo_l23 FU 251 (nI o) (nI u) 1 (nI 0) σ1 := by
    unfold X12_areHandsSo X12_areHandsSo_b0 X12_areHandsSo_b18
    rw [show X12_layHands 251 (251 + 6) σ = _ from a1, ob2_some, if_neg (show ¬ nI kk ≤ 0 by rw [show (0 : Int32) = nI 0 from rfl, nI_le_iff (by omega) (by omega)]; omega)]
    rfl
  rw [un]
  rcases hso_l h o u f (by omega) hou σ1 (fun i hi => by rw [a5 254 (by omega)]; exact h1 i hi) (fun i hi => a3 i (by omega)) u 0 FU (by omega) (by unfold FU; omega) with ⟨x, y⟩ | ⟨x, j, y, z⟩
  · exact ⟨1, σ1, x, Or.inl ⟨rfl, hs.mpr (fun i hi => y i (by omega) hi)⟩, a5⟩
  · exact ⟨0, σ1, x, Or.inr ⟨rfl, fun q => z (hs.mp q j y)⟩, a5⟩
/-- the mask of what fits -/
theorem bit_add {acc M v hi : Nat} {P : Nat → Prop} (hv : v < hi) (hP : P v) (h : ∀ j, M.testBit j = true ↔ (acc ||| 2 ^ v).testBit j = true ∨ (v + 1 ≤ j ∧ j < hi ∧ P j)) : ∀ j, M.testBit j = true ↔ acc.testBit j = true ∨ (v ≤ j ∧ j < hi ∧ P j) := by
  intro j
  rw [h j, or_bit]
  by_cases e : v = j
  · subst e
    simp [hv, hP]
  · have : (v + 1 ≤ j ↔ v ≤ j) := by omega
    rw [decide_eq_false e, Bool.or_false, this]
theorem bit_not {acc M v hi : Nat} {P : Nat → Prop} (hP : ¬ P v) (h : ∀ j, M.testBit j = true ↔ acc.testBit j = true ∨ (v + 1 ≤ j ∧ j < hi ∧ P j)) : ∀ j, M.testBit j = true ↔ acc.testBit j = true ∨ (v ≤ j ∧ j < hi ∧ P j) := by
  intro j
  rw [h j]
  by_cases e : v = j
  · subst e
    simp [hP]
  · have : (v + 1 ≤ j ↔ v ≤ j) := by omega
    rw [this]
theorem bit_end {acc v hi : Nat} {P : Nat → Prop} (hv : hi ≤ v) : ∀ j, acc.testBit j = true ↔ acc.testBit j = true ∨ (v ≤ j ∧ j < hi ∧ P j) := by
  intro j
  constructor
  · exact Or.inl
  · rintro (a | ⟨a, b, _⟩)
    · exact a
    · omega
theorem updB_updB (B : Nat → Nat) (j x y : Nat) : updB (updB B j x) j y = updB B j y := by
  funext i
  unfold updB
  by_cases c : i = j
  · rw [if_pos c, if_pos c]
  · rw [if_neg c, if_neg c, if_neg c]
theorem updB_self (B : Nat → Nat) (j : Nat) : updB B j (B j) = B := by
  funext i
  unfold updB
  by_cases c : i = j
  · rw [if_pos c, c]
  · rw [if_neg c]
theorem kinds_l {B : Nat → Nat} (ho : okB B) {p : Nat} (hp : p < B 0) {u : Nat} (hu : u ≤ B 0) (f : Nat → Int32) : ∀ (d v m acc x : Nat) (σ : Mem), v + d = 6 → d < m → 1 ≤ v → AtB σ 212 (updB B (3 + 4 * p + 0) x) → Gp σ 219 (B 0) (far (updB B (3 + 4 * p + 0) x)) → σ 211 3 = nI u → (∀ i, i < u → σ 234 i = f i) → ∃ M σ', X3_kindsOf_l27 m 211 (nI p) (nI acc) (nI v) σ = some (nI M, σ') ∧ (∀ j, M.testBit j = true ↔ acc.testBit j = true ∨ (v ≤ j ∧ j < 6 ∧ So (updB B (3 + 4 * p + 0) j) (B 1) u f)) ∧ ∀ q, (q < 211 ∨ 237 ≤ q) → σ' q = σ q := by
  have hn := ho.1
  have hl := ho.2.1
  intro d
  induction d with
  | zero =>
    intro v m acc x σ hv hm h1 hA hG h0 hf
    obtain ⟨m, rfl⟩ : ∃ m', m = m' + 1 := ⟨m - 1, by omega⟩
    refine ⟨acc, σ, ?_, bit_end (by omega), fun q _ => rfl⟩
    show X3_kindsOf_b27 _ 211 (nI p) (nI acc) (nI v) σ = _
    unfold X3_kindsOf_b27
    rw [if_pos (show (5 : Int32) < nI v from nI_lt (a := 5) (by omega) (by omega))]
  | succ d ih =>
    intro v m acc x σ hv hm h1 hA hG h0 hf
    obtain ⟨m, rfl⟩ : ∃ m', m = m' + 1 := ⟨m - 1, by omega⟩
    have ho' : okB (updB B (3 + 4 * p + 0) v) := okB_upd p 0 v ho (Or.inl ⟨rfl, by omega, by omega⟩)
    have e0 : ∀ y, updB B (3 + 4 * p + 0) y 0 = B 0 := fun y => updB_ne _ _ (by omega)
    have e1 : updB B (3 + 4 * p + 0) v 1 = B 1 := updB_ne _ _ (by omega)
    obtain ⟨σ1, a1, a2, a3, a4⟩ := tri_s (B := updB B (3 + 4 * p + 0) x) (p := p) (c := 0) (v := v) (by rw [e0]; exact hp) (show 0 < 4 by omega) (by rw [updB_updB]; exact ho') σ hA (by rw [e0]; exact hG)
    rw [updB_updB] at a2 a3
    rw [e0] at a3
    obtain ⟨r, σ2, b1, b2, b3⟩ := soby_s ho' (by rw [e0]; omega) (by rw [e0]; exact hu) (B 1) (by omega) f σ1 (by rw [e0]; exact a3) (by rw [a4 211 (by omega)]; exact h0) (fun i hi => by rw [a4 234 (by omega)]; exact hf i hi)
    have hA2 : AtB σ2 212 (updB B (3 + 4 * p + 0) v) := AtB.cg a2 (fun q x y => b3 q (by omega) (by omega) (by omega) (by omega))
    have hG2 : Gp σ2 219 (B 0) (far (updB B (3 + 4 * p + 0) v)) := ⟨by rw [b3 219 (by omega) (by omega) (by omega) (by omega)]; exact a3.1, fun x y hx hy => by rw [b3 (219 + 2 + x) (by omega) (by omega) (by omega) (by omega)]; exact a3.2 x y hx hy⟩
    have h02 : σ2 211 3 = nI u := by rw [b3 211 (by omega) (by omega) (by omega) (by omega), a4 211 (by omega)]; exact h0
    have hf2 : ∀ i, i < u → σ2 234 i = f i := fun i hi => by rw [b3 234 (by omega) (by omega) (by omega) (by omega), a4 234 (by omega)]; exact hf i hi
    have fr : ∀ q, (q < 211 ∨ 237 ≤ q) → σ2 q = σ q := fun q hq => by rw [b3 q (by omega) (by omega) (by omega) (by omega), a4 q (by omega)]
    have un : X3_kindsOf_l27 (m + 1) 211 (nI p) (nI acc) (nI v) σ = if r = 0 then X3_kindsOf_l27 m 211 (nI p) (nI acc) (nI (v + 1)) σ2 else X3_kindsOf_l27 m 211 (nI p) (nI (acc ||| 2 ^ v)) (nI (v + 1)) σ2 := by
      show X3_kindsOf_b27 _ 211 (nI p) (nI acc) (nI v) σ = _
      unfold X3_kindsOf_b27 X3_kindsOf_b80
      rw [if_neg (show ¬ (5 : Int32) < nI v from nI_nlt (a := 5) (by omega) (by omega)), gdx_n (by omega) (by omega), nc_n (by omega), show X5_surveyFrom (211 + 7 + 1) (211 + 1) (nI p) (wr σ (211 + 1 + 1) p (nI v)) = some σ1 from a1, ob_some, show σ1 (211 + 1) 1 = nI (B 1) from a2.2.1.trans (by rw [e1]), b1, ob2_some, letv_eq, shl_1 v (by omega), nI_or, nI_1]
    rw [un]
    rcases b2 with ⟨r1, s⟩ | ⟨r0, s⟩
    · rw [if_neg (by rw [r1]; decide)]
      obtain ⟨M, σ', q1, q2, q3⟩ := ih (v + 1) m (acc ||| 2 ^ v) v σ2 (by omega) (by omega) (by omega) hA2 hG2 h02 hf2
      exact ⟨M, σ', q1, bit_add (P := fun j => So (updB B (3 + 4 * p + 0) j) (B 1) u f) (by omega) s q2, fun q hq => by rw [q3 q hq, fr q hq]⟩
    · rw [if_pos r0]
      obtain ⟨M, σ', q1, q2, q3⟩ := ih (v + 1) m acc v σ2 (by omega) (by omega) (by omega) hA2 hG2 h02 hf2
      exact ⟨M, σ', q1, bit_not (P := fun j => So (updB B (3 + 4 * p + 0) j) (B 1) u f) s q2, fun q hq => by rw [q3 q hq, fr q hq]⟩
theorem nums_l {B : Nat → Nat} (ho : okB B) {p : Nat} (hp : p < B 0) {w : Nat} (hw : w < 3) {u : Nat} (hu : u ≤ B 0) (f : Nat → Int32) : ∀ (d v m acc x : Nat) (σ : Mem), v + d = 31 → d < m → AtB σ 212 (updB B (3 + 4 * p + (w + 1)) x) → Gp σ 219 (B 0) (far (updB B (3 + 4 * p + (w + 1)) x)) → σ 211 3 = nI u → (∀ i, i < u → σ 234 i = f i) → ∃ M σ', X3_numbersOf_l28 m 211 (nI p) (nI w) (nI acc) (nI v) σ = some (nI M, σ') ∧ (∀ j, M.testBit j = true ↔ acc.testBit j = true ∨ (v ≤ j ∧ j < 31 ∧ So (updB B (3 + 4 * p + (w + 1)) j) (B 1) u f)) ∧ ∀ q, (q < 211 ∨ 237 ≤ q) → σ' q = σ q := by
  have hn := ho.1
  have hl := ho.2.1
  have hcl : cl 212 (w + 1) = 211 + 1 + 2 + 1 + w := by rw [cl_s]
  intro d
  induction d with
  | zero =>
    intro v m acc x σ hv hm hA hG h0 hf
    obtain ⟨m, rfl⟩ : ∃ m', m = m' + 1 := ⟨m - 1, by omega⟩
    refine ⟨acc, σ, ?_, bit_end (by omega), fun q _ => rfl⟩
    show X3_numbersOf_b28 _ 211 (nI p) (nI w) (nI acc) (nI v) σ = _
    unfold X3_numbersOf_b28
    rw [if_pos (show (30 : Int32) < nI v from nI_lt (a := 30) (by omega) (by omega))]
  | succ d ih =>
    intro v m acc x σ hv hm hA hG h0 hf
    obtain ⟨m, rfl⟩ : ∃ m', m = m' + 1 := ⟨m - 1, by omega⟩
    have ho' : okB (updB B (3 + 4 * p + (w + 1)) v) := okB_upd p (w + 1) v ho (Or.inr ⟨by omega, by omega, by omega⟩)
    have e0 : ∀ y, updB B (3 + 4 * p + (w + 1)) y 0 = B 0 := fun y => updB_ne _ _ (by omega)
    have e1 : updB B (3 + 4 * p + (w + 1)) v 1 = B 1 := updB_ne _ _ (by omega)
    obtain ⟨σ1, a1, a2, a3, a4⟩ := tri_s (B := updB B (3 + 4 * p + (w + 1)) x) (p := p) (c := w + 1) (v := v) (by rw [e0]; exact hp) (show w + 1 < 4 by omega) (by rw [updB_updB]; exact ho') σ hA (by rw [e0]; exact hG)
    rw [updB_updB] at a2 a3
    rw [e0] at a3
    obtain ⟨r, σ2, b1, b2, b3⟩ := soby_s ho' (by rw [e0]; omega) (by rw [e0]; exact hu) (B 1) (by omega) f σ1 (by rw [e0]; exact a3) (by rw [a4 211 (by omega)]; exact h0) (fun i hi => by rw [a4 234 (by omega)]; exact hf i hi)
    have hA2 : AtB σ2 212 (updB B (3 + 4 * p + (w + 1)) v) := AtB.cg a2 (fun q x y => b3 q (by omega) (by omega) (by omega) (by omega))
    have hG2 : Gp σ2 219 (B 0) (far (updB B (3 + 4 * p + (w + 1)) v)) := ⟨by rw [b3 219 (by omega) (by omega) (by omega) (by omega)]; exact a3.1, fun x y hx hy => by rw [b3 (219 + 2 + x) (by omega) (by omega) (by omega) (by omega)]; exact a3.2 x y hx hy⟩
    have h02 : σ2 211 3 = nI u := by rw [b3 211 (by omega) (by omega) (by omega) (by omega), a4 211 (by omega)]; exact h0
    have hf2 : ∀ i, i < u → σ2 234 i = f i := fun i hi => by rw [b3 234 (by omega) (by omega) (by omega) (by omega), a4 234 (by omega)]; exact hf i hi
    have fr : ∀ q, (q < 211 ∨ 237 ≤ q) → σ2 q = σ q := fun q hq => by rw [b3 q (by omega) (by omega) (by omega) (by omega), a4 q (by omega)]
    have un : X3_numbersOf_l28 (m + 1) 211 (nI p) (nI w) (nI acc) (nI v) σ = if r = 0 then X3_numbersOf_l28 m 211 (nI p) (nI w) (nI acc) (nI (v + 1)) σ2 else X3_numbersOf_l28 m 211 (nI p) (nI w) (nI (acc ||| 2 ^ v)) (nI (v + 1)) σ2 := by
      show X3_numbersOf_b28 _ 211 (nI p) (nI w) (nI acc) (nI v) σ = _
      unfold X3_numbersOf_b28 X3_numbersOf_b86
      rw [if_neg (show ¬ (30 : Int32) < nI v from nI_nlt (a := 30) (by omega) (by omega)), gdx_n (by omega) (by omega), gdx_n (by omega) (by omega), nc_n (by omega), nc_n (by omega), ← hcl, show X5_surveyFrom (211 + 7 + 1) (211 + 1) (nI p) (wr σ (cl 212 (w + 1)) p (nI v)) = some σ1 from a1, ob_some, show σ1 (211 + 1) 1 = nI (B 1) from a2.2.1.trans (by rw [e1]), b1, ob2_some, letv_eq, shl_1 v (by omega), nI_or, nI_1]
    rw [un]
    rcases b2 with ⟨r1, s⟩ | ⟨r0, s⟩
    · rw [if_neg (by rw [r1]; decide)]
      obtain ⟨M, σ', q1, q2, q3⟩ := ih (v + 1) m (acc ||| 2 ^ v) v σ2 (by omega) (by omega) hA2 hG2 h02 hf2
      exact ⟨M, σ', q1, bit_add (P := fun j => So (updB B (3 + 4 * p + (w + 1)) j) (B 1) u f) (by omega) s q2, fun q hq => by rw [q3 q hq, fr q hq]⟩
    · rw [if_pos r0]
      obtain ⟨M, σ', q1, q2, q3⟩ := ih (v + 1) m acc v σ2 (by omega) (by omega) hA2 hG2 h02 hf2
      exact ⟨M, σ', q1, bit_not (P := fun j => So (updB B (3 + 4 * p + (w + 1)) j) (B 1) u f) s q2, fun q hq => by rw [q3 q hq, fr q hq]⟩
theorem fit_l {B : Nat → Nat} (ho : okB B) {p c : Nat} (hp : p < B 0) {hi : Nat} (hok : ∀ v, v ≤ hi → (c = 0 → 1 ≤ v) → okB (updB B (3 + 4 * p + c) v)) (hc : c < 4) (hhi : hi ≤ 30) {u : Nat} (hu : u ≤ B 0) (o : Nat) (hou : o + u ≤ 320) (f : Nat → Int32) : ∀ (d v m acc : Nat) (σ : Mem), v + d = hi + 1 → d < m → (c = 0 → 1 ≤ v) → RwB (σ 255) 0 B → (∀ i, i < u → σ 254 (o + i) = f i) → ∃ M σ', X12_fitting_l6 m 251 (nI (3 + 4 * p + c)) (nI hi) (nI o) (nI u) (nI acc) (nI v) σ = some (nI M, σ') ∧ (∀ j, M.testBit j = true ↔ acc.testBit j = true ∨ (v ≤ j ∧ j < hi + 1 ∧ So (updB B (3 + 4 * p + c) j) (B 1) u f)) ∧ ∀ q, q ≠ 257 → (q < 261 ∨ 266 ≤ q) → σ' q = σ q := by
  have hn := ho.1
  have hl := ho.2.1
  intro d
  induction d with
  | zero =>
    intro v m acc σ hv hm h1 hR hf
    obtain ⟨m, rfl⟩ : ∃ m', m = m' + 1 := ⟨m - 1, by omega⟩
    refine ⟨acc, σ, ?_, bit_end (by omega), fun q _ _ => rfl⟩
    show X12_fitting_b6 _ 251 (nI (3 + 4 * p + c)) (nI hi) (nI o) (nI u) (nI acc) (nI v) σ = _
    unfold X12_fitting_b6
    rw [if_pos (nI_lt (by omega) (by omega))]
  | succ d ih =>
    intro v m acc σ hv hm h1 hR hf
    obtain ⟨m, rfl⟩ : ∃ m', m = m' + 1 := ⟨m - 1, by omega⟩
    have ho' := hok v (by omega) h1
    have e0 : updB B (3 + 4 * p + c) v 0 = B 0 := updB_ne _ _ (by omega)
    have e1 : updB B (3 + 4 * p + c) v 1 = B 1 := updB_ne _ _ (by omega)
    obtain ⟨σ1, a1, a2, a3⟩ := then_s hn hR
    have hR' : RwB (wr σ1 257 (3 + 4 * p + c) (nI v) 257) 0 (updB B (3 + 4 * p + c) v) := by
      rw [wr_row]
      exact RwB_upd _ v a2 (by omega)
    obtain ⟨r, σ2, b1, b2, b3⟩ := hso_s ho' (by rw [e0]; omega) (by rw [e0]; exact hu) o hou f (wr σ1 257 (3 + 4 * p + c) (nI v)) hR' (fun i hi => by rw [wr_off _ _ _ (by omega), a3 254 (by omega)]; exact hf i hi)
    rw [e1] at b2
    have fr : ∀ q, q ≠ 257 → (q < 261 ∨ 266 ≤ q) → σ2 q = σ q := fun q x y => by rw [b3 q y, wr_off _ _ _ x, a3 q x]
    have un : X12_fitting_l6 (m + 1) 251 (nI (3 + 4 * p + c)) (nI hi) (nI o) (nI u) (nI acc) (nI v) σ = if r = 0 then X12_fitting_l6 m 251 (nI (3 + 4 * p + c)) (nI hi) (nI o) (nI u) (nI acc) (nI (v + 1)) σ2 else X12_fitting_l6 m 251 (nI (3 + 4 * p + c)) (nI hi) (nI o) (nI u) (nI (acc ||| 2 ^ v)) (nI (v + 1)) σ2 := by
      show X12_fitting_b6 _ 251 (nI (3 + 4 * p + c)) (nI hi) (nI o) (nI u) (nI acc) (nI v) σ = _
      unfold X12_fitting_b6 X12_fitting_b45
      rw [if_neg (show ¬ nI hi < nI v by rw [nI_lt_iff (by omega) (by omega)]; omega), a1, ob_some, gdx_n (by omega) (by omega), nc_n (by omega), show X12_areHandsSo 251 (nI o) (nI u) (wr σ1 (251 + 6) (3 + 4 * p + c) (nI v)) = _ from b1, ob2_some, letv_eq, letv_eq, shl_1 v (by omega), nI_or, nI_1, show nI acc ||| 0 = nI acc from (nI_or acc 0).trans (by rw [Nat.or_zero])]
    rw [un]
    have hR2 : RwB (σ2 255) 0 B := by rw [fr 255 (by omega) (by omega)]; exact hR
    have hf2 : ∀ i, i < u → σ2 254 (o + i) = f i := fun i hi => by rw [fr 254 (by omega) (by omega)]; exact hf i hi
    rcases b2 with ⟨r1, s⟩ | ⟨r0, s⟩
    · rw [if_neg (by rw [r1]; decide)]
      obtain ⟨M, σ', q1, q2, q3⟩ := ih (v + 1) m (acc ||| 2 ^ v) σ2 (by omega) (by omega) (fun _ => by omega) hR2 hf2
      exact ⟨M, σ', q1, bit_add (P := fun j => So (updB B (3 + 4 * p + c) j) (B 1) u f) (by omega) s q2, fun q x y => by rw [q3 q x y, fr q x y]⟩
    · rw [if_pos r0]
      obtain ⟨M, σ', q1, q2, q3⟩ := ih (v + 1) m acc σ2 (by omega) (by omega) (fun _ => by omega) hR2 hf2
      exact ⟨M, σ', q1, bit_not (P := fun j => So (updB B (3 + 4 * p + c) j) (B 1) u f) s q2, fun q x y => by rw [q3 q x y, fr q x y]⟩
