/-! PURE: who, the limits and the operation. -/
theorem lgc {a b : Nat} (ha : a < 2 ^ 63) (hb : b < 2 ^ 63) : (lg_cmp (lN a) (lN b) = 0 ↔ a = b) ∧ (lg_cmp (lN a) (lN b) ≤ 0 ↔ a ≤ b) ∧ (0 ≤ lg_cmp (lN a) (lN b) ↔ b ≤ a) := by
  have h1 : lg_cmp (lN a) (lN b) < 0 ↔ a < b := (lg_cmp_lt _ _).trans (l_lt ha hb)
  have h2 : 0 < lg_cmp (lN a) (lN b) ↔ b < a := (lg_cmp_gt _ _).trans (l_lt hb ha)
  generalize lg_cmp (lN a) (lN b) = z at h1 h2
  have e1 : (z < 0) ↔ z.toInt < 0 := Int32.lt_iff_toInt_lt
  have e2 : (0 < z) ↔ 0 < z.toInt := Int32.lt_iff_toInt_lt
  have e3 : z ≤ 0 ↔ z.toInt ≤ 0 := Int32.le_iff_toInt_le
  have e4 : 0 ≤ z ↔ 0 ≤ z.toInt := Int32.le_iff_toInt_le
  have e5 : z = 0 ↔ z.toInt = 0 := Int32.toInt_inj.symm
  rw [e1] at h1
  rw [e2] at h2
  rw [e3, e4, e5]
  omega
theorem far_lim (B : Nat → Nat) (l : Nat) : far (updB B 1 l) = far B := by
  funext x y
  unfold far
  rw [updB_ne _ _ (show 3 + 4 * x ≠ 1 by omega), updB_ne _ _ (show 4 + 4 * x ≠ 1 by omega), updB_ne _ _ (show 4 + 4 * x + 1 ≠ 1 by omega), updB_ne _ _ (show 4 + 4 * x + 2 ≠ 1 by omega), updB_ne _ _ (show 3 + 4 * y ≠ 1 by omega), updB_ne _ _ (show 4 + 4 * y ≠ 1 by omega), updB_ne _ _ (show 4 + 4 * y + 1 ≠ 1 by omega), updB_ne _ _ (show 4 + 4 * y + 2 ≠ 1 by omega)]
theorem updB_at1 (B : Nat → Nat) (j l : Nat) : updB B j l j = l := if_pos rfl
theorem okB_lim {B : Nat → Nat} (h : okB B) {l : Nat} (hl : l ≤ 60) : okB (updB B 1 l) := by
  obtain ⟨a, b, c, d⟩ := h
  refine ⟨by rw [updB_ne _ _ (by omega)]; exact a, by rw [updB_at1]; exact hl, by rw [updB_ne _ _ (by omega)]; exact c, fun p hp => ?_⟩
  rw [updB_ne _ _ (by omega)] at hp
  rw [updB_ne _ _ (show 3 + 4 * p ≠ 1 by omega)]
  refine ⟨(d p hp).1, (d p hp).2.1, fun w hw => ?_⟩
  rw [updB_ne _ _ (show 4 + 4 * p + w ≠ 1 by omega)]
  exact (d p hp).2.2 w hw
theorem So_lim {B : Nat → Nat} {l L u : Nat} {f : Nat → Int32} : So (updB B 1 l) L u f ↔ So B L u f := by
  unfold So
  rw [far_lim, updB_ne _ _ (show 0 ≠ 1 by omega)]
theorem lims_l {B : Nat → Nat} (ho : okB B) (hn0 : 0 < B 0) {u : Nat} (hu : u ≤ B 0) (f : Nat → Int32) : ∀ (d l m acc : Nat) (σ : Mem), l + d = 61 → d < m → Gp σ 219 (B 0) (far B) → σ 211 3 = nI u → (∀ i, i < u → σ 234 i = f i) → ∃ M σ', X3_limitsOf_l16 m 211 (lN acc) (nI l) σ = some (lN M, σ') ∧ (∀ j, M.testBit j = true ↔ acc.testBit j = true ∨ (l ≤ j ∧ j < 61 ∧ So B j u f)) ∧ ∀ q, (q < 211 ∨ 237 ≤ q) → σ' q = σ q := by
  have hn := ho.1
  intro d
  induction d with
  | zero =>
    intro l m acc σ hl hm hG h0 hf
    obtain ⟨m, rfl⟩ : ∃ m', m = m' + 1 := ⟨m - 1, by omega⟩
    refine ⟨acc, σ, ?_, bit_end (by omega), fun q _ => rfl⟩
    show X3_limitsOf_b16 _ 211 (lN acc) (nI l) σ = _
    unfold X3_limitsOf_b16
    rw [if_pos (show (60 : Int32) < nI l from nI_lt (a := 60) (by omega) (by omega))]
  | succ d ih =>
    intro l m acc σ hl hm hG h0 hf
    obtain ⟨m, rfl⟩ : ∃ m', m = m' + 1 := ⟨m - 1, by omega⟩
    obtain ⟨r, σ2, b1, b2, b3⟩ := soby_s ho hn0 hu l (by omega) f σ hG h0 hf
    have hG2 : Gp σ2 219 (B 0) (far B) := ⟨by rw [b3 219 (by omega) (by omega) (by omega) (by omega)]; exact hG.1, fun x y hx hy => by rw [b3 (219 + 2 + x) (by omega) (by omega) (by omega) (by omega)]; exact hG.2 x y hx hy⟩
    have h02 : σ2 211 3 = nI u := by rw [b3 211 (by omega) (by omega) (by omega) (by omega)]; exact h0
    have hf2 : ∀ i, i < u → σ2 234 i = f i := fun i hi => by rw [b3 234 (by omega) (by omega) (by omega) (by omega)]; exact hf i hi
    have fr : ∀ q, (q < 211 ∨ 237 ≤ q) → σ2 q = σ q := fun q hq => b3 q (by omega) (by omega) (by omega) (by omega)
    have un : X3_limitsOf_l16 (m + 1) 211 (lN acc) (nI l) σ = if r = 0 then X3_limitsOf_l16 m 211 (lN acc) (nI (l + 1)) σ2 else X3_limitsOf_l16 m 211 (lN (acc ||| 2 ^ l)) (nI (l + 1)) σ2 := by
      show X3_limitsOf_b16 _ 211 (lN acc) (nI l) σ = _
      unfold X3_limitsOf_b16 X3_limitsOf_b39
      rw [if_neg (show ¬ (60 : Int32) < nI l from nI_nlt (a := 60) (by omega) (by omega)), b1, ob2_some, letv_eq, lsh_1 l (by omega), lN_or, nI_1]
    rw [un]
    rcases b2 with ⟨r1, s⟩ | ⟨r0, s⟩
    · rw [if_neg (by rw [r1]; decide)]
      obtain ⟨M, σ', q1, q2, q3⟩ := ih (l + 1) m (acc ||| 2 ^ l) σ2 (by omega) (by omega) hG2 h02 hf2
      exact ⟨M, σ', q1, bit_add (P := fun j => So B j u f) (by omega) s q2, fun q hq => by rw [q3 q hq, fr q hq]⟩
    · rw [if_pos r0]
      obtain ⟨M, σ', q1, q2, q3⟩ := ih (l + 1) m acc σ2 (by omega) (by omega) hG2 h02 hf2
      exact ⟨M, σ', q1, bit_not (P := fun j => So B j u f) s q2, fun q hq => by rw [q3 q hq, fr q hq]⟩
def Fs (M : Nat) (v : Int32) : Prop := (M = 0 ∧ v = -1000000) ∨ ∃ j, isLow M j ∧ v = nI j
theorem lowb_lt {M j n : Nat} (h : isLow M j) (hM : M < 2 ^ n) : j < n := by
  rcases Nat.lt_or_ge j n with e | e
  · exact e
  · have := lt_bits.mp hM j e
    rw [h.1] at this
    exact absurd this (by decide)
theorem orb_lt {acc l : Nat} (h : acc < 2 ^ l) : acc ||| 2 ^ l < 2 ^ (l + 1) := by
  apply lt_bits.mpr
  intro i hi
  rw [or_bit, lt_bits.mp h i (by omega), decide_eq_false (by omega)]
  rfl
theorem fl_l {B : Nat → Nat} (ho : okB B) (hn0 : 0 < B 0) {u : Nat} (hu : u ≤ B 0) (o : Nat) (hou : o + u ≤ 320) (f : Nat → Int32) (v1 : Int32) : ∀ (d l m acc x : Nat) (v5 : Int32) (σ : Mem), l + d = 61 → d < m → acc < 2 ^ l → Fs acc v5 → RwB (σ 257) 0 (updB B 1 x) → (∀ i, i < u → σ 254 (o + i) = f i) → ∃ M v5' σ', X12_fittingLimits_l14 m 251 v1 (nI o) (nI u) (nI (pc 64 acc)) v5 (nI l) σ = some (if v1 = 0 then nI (pc 64 M) else v5', σ') ∧ Fs M v5' ∧ (∀ j, M.testBit j = true ↔ acc.testBit j = true ∨ (l ≤ j ∧ j < 61 ∧ So B j u f)) ∧ M < 2 ^ 61 ∧ ∀ q, q ≠ 257 → (q < 261 ∨ 266 ≤ q) → σ' q = σ q := by
  have hn := ho.1
  intro d
  induction d with
  | zero =>
    intro l m acc x v5 σ hl hm hacc hF hR hf
    obtain ⟨m, rfl⟩ : ∃ m', m = m' + 1 := ⟨m - 1, by omega⟩
    obtain rfl : l = 61 := by omega
    refine ⟨acc, v5, σ, ?_, hF, bit_end (by omega), hacc, fun q _ _ => rfl⟩
    show X12_fittingLimits_b14 _ 251 v1 (nI o) (nI u) (nI (pc 64 acc)) v5 (nI 61) σ = _
    unfold X12_fittingLimits_b14
    rw [if_pos (show (60 : Int32) < nI 61 by decide)]
    by_cases c : v1 = 0
    · rw [if_pos c, if_pos c]
    · rw [if_neg c, if_neg c]
  | succ d ih =>
    intro l m acc x v5 σ hl hm hacc hF hR hf
    obtain ⟨m, rfl⟩ : ∃ m', m = m' + 1 := ⟨m - 1, by omega⟩
    have e0 : ∀ y, updB B 1 y 0 = B 0 := fun y => updB_ne _ _ (by omega)
    have hR' : RwB (wr σ 257 1 (nI l) 257) 0 (updB B 1 l) := by
      rw [wr_row]
      have := RwB_upd 1 l hR (by omega)
      rw [updB_updB] at this
      exact this
    obtain ⟨r, σ2, b1, b2, b3⟩ := hso_s (okB_lim ho (l := l) (by omega)) (by rw [e0]; omega) (by rw [e0]; exact hu) o hou f (wr σ 257 1 (nI l)) hR' (fun i hi => by rw [wr_off _ _ _ (by omega)]; exact hf i hi)
    rw [updB_at1, So_lim] at b2
    have fr : ∀ q, q ≠ 257 → (q < 261 ∨ 266 ≤ q) → σ2 q = σ q := fun q x y => by rw [b3 q y, wr_off _ _ _ x]
    have hR2 : RwB (σ2 257) 0 (updB B 1 l) := by rw [b3 257 (by omega)]; exact hR'
    have hf2 : ∀ i, i < u → σ2 254 (o + i) = f i := fun i hi => by rw [fr 254 (by omega) (by omega)]; exact hf i hi
    have hbl : acc.testBit l = false := lt_bits.mp hacc l (Nat.le_refl l)
    have hpc : pc 64 (acc ||| 2 ^ l) = pc 64 acc + 1 := by rw [pc_or hbl, if_pos (by omega)]
    have un : X12_fittingLimits_l14 (m + 1) 251 v1 (nI o) (nI u) (nI (pc 64 acc)) v5 (nI l) σ = if r = 0 then X12_fittingLimits_l14 m 251 v1 (nI o) (nI u) (nI (pc 64 acc)) v5 (nI (l + 1)) σ2 else if v5 = -1000000 then X12_fittingLimits_l14 m 251 v1 (nI o) (nI u) (nI (pc 64 (acc ||| 2 ^ l))) (nI l) (nI (l + 1)) σ2 else X12_fittingLimits_l14 m 251 v1 (nI o) (nI u) (nI (pc 64 (acc ||| 2 ^ l))) v5 (nI (l + 1)) σ2 := by
      show X12_fittingLimits_b14 _ 251 v1 (nI o) (nI u) (nI (pc 64 acc)) v5 (nI l) σ = _
      unfold X12_fittingLimits_b14 X12_fittingLimits_b55 X12_fittingLimits_b57
      rw [if_neg (show ¬ (60 : Int32) < nI l from nI_nlt (a := 60) (by omega) (by omega)), show nc 1 = 1 from rfl, show X12_areHandsSo 251 (nI o) (nI u) (wr σ (251 + 6) 1 (nI l)) = _ from b1, ob2_some, nI_1, nI_1, hpc]
    rw [un]
    rcases b2 with ⟨r1, s⟩ | ⟨r0, s⟩
    · rw [if_neg (by rw [r1]; decide)]
      rcases hF with ⟨z1, z2⟩ | ⟨j, z1, z2⟩
      · rw [if_pos z2]
        obtain ⟨M, v5', σ', q1, q2, q3, q4, q5⟩ := ih (l + 1) m (acc ||| 2 ^ l) l (nI l) σ2 (by omega) (by omega) (orb_lt hacc) (Or.inr ⟨l, ⟨by rw [or_bit, hbl]; simp, fun i hi => by rw [or_bit, z1, Nat.zero_testBit, decide_eq_false (by omega)]; rfl⟩, rfl⟩) hR2 hf2
        exact ⟨M, v5', σ', q1, q2, bit_add (P := fun j => So B j u f) (by omega) s q3, q4, fun q x y => by rw [q5 q x y, fr q x y]⟩
      · have hj : j < l := lowb_lt z1 hacc
        rw [if_neg (show ¬ v5 = -1000000 by
          intro q
          rw [z2] at q
          have := congrArg Int32.toInt q
          rw [nI_toInt (by omega)] at this
          have h2 : (-1000000 : Int32).toInt = -1000000 := by decide
          omega)]
        obtain ⟨M, v5', σ', q1, q2, q3, q4, q5⟩ := ih (l + 1) m (acc ||| 2 ^ l) l v5 σ2 (by omega) (by omega) (orb_lt hacc) (Or.inr ⟨j, ⟨by rw [or_bit, z1.1]; rfl, fun i hi => by rw [or_bit, z1.2 i hi, decide_eq_false (by omega)]; rfl⟩, z2⟩) hR2 hf2
        exact ⟨M, v5', σ', q1, q2, bit_add (P := fun j => So B j u f) (by omega) s q3, q4, fun q x y => by rw [q5 q x y, fr q x y]⟩
    · rw [if_pos r0]
      obtain ⟨M, v5', σ', q1, q2, q3, q4, q5⟩ := ih (l + 1) m acc l v5 σ2 (by omega) (by omega) (Nat.lt_of_lt_of_le hacc (Nat.pow_le_pow_right (by omega) (by omega))) hF hR2 hf2
      exact ⟨M, v5', σ', q1, q2, bit_not (P := fun j => So B j u f) s q3, q4, fun q x y => by rw [q5 q x y, fr q x y]⟩
theorem bits_eq {M M' : Nat} {P : Nat → Prop} (h : ∀ j, M.testBit j = true ↔ P j) (h' : ∀ j, M'.testBit j = true ↔ P j) : M = M' := by
  apply Nat.eq_of_testBit_eq
  intro j
  rw [Bool.eq_iff_iff, h j, h' j]
theorem op_who (σ : Mem) (h : InvF FOK σ) (v1 v2 v3 v4 v5 : Int32) : ∃ (r : Int32) (σ1 σ2 : Mem), X11_who 0 v1 v2 v3 v4 v5 σ = some (r, σ1) ∧ X12_who 251 v1 v2 v3 v4 v5 σ1 = some (r, σ2) ∧ InvF FOK σ2 := by
  have hI := h
  obtain ⟨B, m, L, I, h⟩ := h
  obtain ⟨r6, r7, r8⟩ := ref_rb h
  have n1 : σ 22 0 = nI (B 0) := r7.1
  have n2 : σ 255 0 = nI (B 0) := r8 0 (by omega)
  have hn := r6.1
  have hl := r6.2.1
  unfold X11_who X11_who_b0
  rcases pgs v1 (B 0) hn with ⟨p, hp, rfl, t1, t2⟩ | ⟨t1, t2⟩
  rotate_left
  · exact ⟨-1000001, σ, σ, by rw [t1 σ n1, if_pos rfl], by unfold X12_who X12_who_b0; rw [t2 σ n2, ob_some, if_pos rfl], hI⟩
  rw [t1 σ n1, if_neg (by decide)]
  rcases in_r v2 0 5 (by omega) (by omega) with ⟨w, a1, a2, rfl, a3⟩ | ⟨a3, a4⟩
  rotate_left
  · have a3' : X12_in v2.toInt64 0 5 = 0 := a3
    refine ⟨-1000001, σ, σ, ?_, by unfold X12_who X12_who_b0; rw [t2 σ n2, ob_some, if_neg (by decide), a3', if_pos rfl], hI⟩
    rcases a4 with a4 | a4
    · rw [if_pos (show v2 < 0 from a4)]
    · rw [if_pos (show (5 : Int32) < v2 from a4)]
      split <;> rfl
  have a3' : X12_in (nI w).toInt64 0 5 = 1 := a3
  rw [if_neg (nI_nn (by omega)), if_neg (show ¬ (5 : Int32) < nI w from nI_nlt (a := 5) (by omega) (by omega))]
  rcases h_isRow v3 with ⟨b1, b2⟩ | ⟨row, hrow, rfl, b1, b2⟩
  · exact ⟨-1000001, σ, σ, by rw [b1, if_pos rfl], by unfold X12_who X12_who_b0; rw [t2 σ n2, ob_some, if_neg (by decide), a3', if_neg (by decide), b2, if_pos rfl], hI⟩
  rw [b1, if_neg (by decide), show σ (0 + 22) 0 = _ from n1]
  rcases in_r v5 1 (B 0) (by omega) (by omega) with ⟨u, c1, c2, rfl, c3⟩ | ⟨c3, c4⟩
  rotate_left
  · have c3' : X12_in v5.toInt64 1 (lN (B 0)) = 0 := c3
    refine ⟨-1000001, σ, σ, ?_, by unfold X12_who X12_who_b0; rw [t2 σ n2, ob_some, if_neg (by decide), a3', if_neg (by decide), b2, if_neg (by decide), show σ (251 + 4) (nc 0) = _ from n2, lL (B 0) (by omega), c3', if_pos rfl], hI⟩
    rcases c4 with c4 | c4
    · rw [if_pos (show v5 < 1 from c4)]
    · rw [if_neg (show ¬ v5 ≤ nI (B 0) from fun q => Int32.not_lt.mpr q c4)]
      split <;> rfl
  have c3' : X12_in (nI u).toInt64 1 (lN (B 0)) = 1 := c3
  rw [if_neg (show ¬ nI u < 1 by rw [show (1 : Int32) = nI 1 from rfl, nI_lt_iff (by omega) (by omega)]; omega), if_pos (show nI u ≤ nI (B 0) from nI_le c2 (by omega)), show X8_isMissing (0 + 1) (nI row) σ = _ from missing_s row hrow σ, ob_some]
  -- the model's guards
  have mg : ∀ σ1 : Mem, σ1 255 0 = nI (B 0) → ∀ X : Option (Int32 × Mem), (ob (X12_isPage 251 (nI p) σ1) (fun r1 => if r1 = 0 then some ((-1000001), σ1) else if X12_in (Int32.toInt64 (nI w)) 0 5 = 0 then some ((-1000001), σ1) else if X12_isRow (nI row) = 0 then some ((-1000001), σ1) else if X12_in (Int32.toInt64 (nI u)) 1 (Int32.toInt64 (σ1 (251 + 4) (nc 0))) = 0 then some ((-1000001), σ1) else X)) = X := by
    intro σ1 q X
    rw [t2 σ1 q, ob_some, if_neg (by decide), a3', if_neg (by decide), b2, if_neg (by decide), show σ1 (251 + 4) (nc 0) = _ from q, lL (B 0) (by omega), c3', if_neg (by decide)]
  have f1 : ∀ τ : Mem, ob2 (X12_finding 251 1 (wr τ 251 0 0)) (fun r22 σ23 => some (r22, σ23)) = some ((-1000010) - 1, wr τ 251 0 1) := fun τ => by
    show some ((-1000010) - 1, wr (wr τ 251 0 0) 251 0 1) = _
    rw [wr_wr]
  have f2 : ∀ τ : Mem, X12_who_b90 251 (wr τ 251 0 0) = some ((-1000010) - 2, wr τ 251 0 2) := fun τ => by
    show some ((-1000010) - 2, wr (wr τ 251 0 0) 251 0 2) = _
    rw [wr_wr]
  have hst : ∀ x : Int32, Ref FOK (wr (wr σ 0 11 x) 251 0 x) B m L I := fun x => Ref.st h (fun q y z => by rw [wr_off _ _ _ z, wr_off _ _ _ y]) (fun j hj => by rw [wr_off _ _ _ (by omega), wr_in _ _ hj]) (fun j hj => by rw [wr_in _ _ hj, wr_off _ _ _ (by omega)]) (by rw [wr_at, wr_off _ _ _ (by omega), wr_at])
  rcases h.1 row hrow with ⟨d1, d2⟩ | ⟨l, n, hl2, hn40, d1, d2, d3, d4, d5⟩
  · rw [if_pos d1, if_neg (by decide)]
    refine ⟨(-1000010) - 1, wr σ 0 11 1, wr (wr σ 0 11 1) 251 0 1, rfl, ?_, ⟨B, m, L, I, hst 1⟩⟩
    unfold X12_who X12_who_b0
    rw [mg _ (by rw [wr_off _ _ _ (by omega)]; exact n2), letv_eq, gdx_n hrow (by omega), nc_n (by omega), if_neg, f1]
    rw [wr_off _ _ _ (by omega), wr_off _ _ _ (by omega), show σ (251 + 1) row = _ from d2]
    decide
  rw [if_neg (show ¬ σ 12 row = -1 by
    intro q
    rw [d3] at q
    have := congrArg Int32.toInt q
    rw [nI_toInt (by omega)] at this
    have h2 : (-1 : Int32).toInt = -1 := by decide
    omega), if_pos rfl]
  have hlane : ∀ τ : Mem, τ 252 = σ 252 → (0 : Int32) ≤ wr τ 251 0 0 (251 + 1) (nc (nI row)) := fun τ q => by
    rw [wr_off _ _ _ (by omega), nc_n (by omega), show τ (251 + 1) = _ from q, d2]
    exact nI_ge0 (by omega)
  have hmany : ∀ τ : Mem, τ 253 = σ 253 → wr τ 251 0 0 (251 + 2) (nc (nI row)) = nI n := fun τ q => by
    rw [wr_off _ _ _ (by omega), nc_n (by omega), show τ (251 + 2) = _ from q, d4]
  rcases holds_s row n u hrow hn40 (by omega) v4 σ d3 with ⟨e1, a, rfl, e2⟩ | ⟨e1, e2⟩
  rotate_left
  · rw [show X8_holds (0 + 1) (nI row) v4 (nI u) σ = _ from e1, ob_some, if_pos rfl]
    refine ⟨(-1000010) - 2, wr σ 0 11 2, wr (wr σ 0 11 2) 251 0 2, rfl, ?_, ⟨B, m, L, I, hst 2⟩⟩
    unfold X12_who X12_who_b0
    rw [mg _ (by rw [wr_off _ _ _ (by omega)]; exact n2), letv_eq, gdx_n hrow (by omega), if_pos (hlane (wr σ 0 11 2) (wr_off _ _ _ (by omega))), f2]
    rcases e2 with e2 | ⟨a, e2, rfl, e3⟩
    · rw [if_pos e2]
    · rw [if_neg (nI_nn e2), gdx_n hrow (by omega), hmany (wr σ 0 11 2) (wr_off _ _ _ (by omega)), if_neg]
      intro q
      have := (lcmp_sum a u n e2 (by omega) (by omega)).2.mp q
      omega
  rw [show X8_holds (0 + 1) (nI row) (nI a) (nI u) σ = _ from e1, ob_some, if_neg (by decide), gdx_n hrow (by omega), nc_n (by omega)]
  obtain ⟨σ1, g1, g2, g3, g4⟩ := hear_s row a u hrow (by omega) (by omega) (wr σ 0 11 0)
  rw [show X3_hear (0 + 211) (0 + 1 + 1 + 1 + row) (nI a) (nI u) (wr σ 0 11 0) = some σ1 from g1, ob_some]
  -- what is told
  have k0 : ∀ q, q ≠ 0 → q ≠ 211 → q ≠ 234 → σ1 q = σ q := fun q x y z => by rw [g4 q y z, wr_off _ _ _ x]
  have hA1 : AtB σ1 22 B := AtB.cg r7 (fun q x y => k0 q (by omega) (by omega) (by omega))
  have g3' : ∀ i, i < u → σ1 234 i = σ (3 + row) (a + i) := fun i hi => by rw [g3 i hi, wr_off _ _ _ (by omega)]
  have mo : ∀ τ : Mem, (∀ q, 251 ≤ q → τ q = σ q) → ∀ i, i < u → wr τ 251 0 0 254 (40 * row + a + i) = σ (3 + row) (a + i) := fun τ q i hi => by
    rw [wr_off _ _ _ (by omega), q 254 (by omega), d5 (a + i) (by omega), Nat.add_assoc]
  -- the model, past the guards
  have mm : ∀ σ1 : Mem, (∀ q, 251 ≤ q → σ1 q = σ q) → X12_who_b0 251 (nI p) (nI w) (nI row) (nI a) (nI u) σ1 = (if (2 : Int32) ≤ nI w then (if nI w = 2 then X12_fitting 251 (nI (3 + 4 * p)) 1 5 (nI (40 * row + a)) (nI u) (wr σ1 251 0 0) else X12_fitting 251 (nI (3 + 4 * p) + nI w - 2) 0 30 (nI (40 * row + a)) (nI u) (wr σ1 251 0 0)) else X12_fittingLimits 251 (nI w) (nI (40 * row + a)) (nI u) (wr σ1 251 0 0)) := by
    intro σ1 hq
    unfold X12_who_b0
    rw [mg _ (by rw [hq 255 (by omega)]; exact n2), letv_eq, gdx_n hrow (by omega), if_pos (hlane _ (hq 252 (by omega))), if_neg (nI_nn (by omega)), gdx_n hrow (by omega), hmany _ (hq 253 (by omega)), if_pos ((lcmp_sum a u n (by omega) (by omega) (by omega)).2.mpr e2), letv_eq, letv_eq, show (40 : Int32) * nI row + nI a = nI (40 * row + a) from by rw [show (40 : Int32) = nI 40 from rfl, nI_mul, nI_add], show (3 : Int32) + 4 * nI p = nI (3 + 4 * p) from by rw [show (3 : Int32) = nI 3 from rfl, show (4 : Int32) = nI 4 from rfl, nI_mul, nI_add]]
    have id2 : ∀ x : Option (Int32 × Mem), ob2 x (fun r s => some (r, s)) = x := fun x => by
      cases x with
      | none => rfl
      | some y => rfl
    rw [id2, id2, id2]
  have fin : ∀ (r : Int32) (σ2 τ : Mem), (∀ q, (q < 211 ∨ 237 ≤ q) → σ2 q = σ1 q) → (∀ q, q ≠ 257 → (q < 261 ∨ 266 ≤ q) → τ q = wr σ2 251 0 0 q) → InvF FOK τ := fun r σ2 τ x y => by
    refine ⟨B, m, L, I, Ref.fore (hst 0) (fun q hq => ?_)⟩
    rw [y q (by omega) (by omega)]
    by_cases c : q = 251
    · subst c
      exact wr_cg (by rw [x 251 (by omega), k0 251 (by omega) (by omega) (by omega), wr_off _ _ _ (by omega)]) 0 0
    · rw [wr_off _ _ _ c, wr_off _ _ _ c, x q (by omega), g4 q (by omega) (by omega)]
  have hmod : ∀ σ2 : Mem, (∀ q, (q < 211 ∨ 237 ≤ q) → σ2 q = σ1 q) → (∀ q, 251 ≤ q → σ2 q = σ q) ∧ RwB (wr σ2 251 0 0 255) 0 B := fun σ2 x => by
    have y : ∀ q, 251 ≤ q → σ2 q = σ q := fun q hq => by rw [x q (by omega), k0 q (by omega) (by omega) (by omega)]
    exact ⟨y, by rw [wr_off _ _ _ (by omega), y 255 (by omega)]; exact r8⟩
  by_cases w2 : w = 2
  · subst w2
    rw [if_pos (show nI 2 = 2 from rfl)]
    obtain ⟨σa, h1, h2, h3⟩ := like_s 212 22 (by omega) σ1 B hA1 hn
    obtain ⟨σb, i1, i2, i3, i4⟩ := survey_s 219 212 (by omega) B r6 σa h2
    have hA : AtB σb 212 B := AtB.cg h2 (fun q y z => i3 q (by omega))
    obtain ⟨M, σ2, j1, j2, j3⟩ := kinds_l r6 hp c2 (fun i => σ (3 + row) (a + i)) 5 1 FU 0 (B (3 + 4 * p + 0)) σb (by omega) (by unfold FU; omega) (by omega) (by rw [updB_self]; exact hA) (by rw [updB_self]; exact i2) (by rw [i3 211 (by omega), h3 211 (by omega)]; exact g2) (fun i hi => by rw [i3 234 (by omega), h3 234 (by omega)]; exact g3' i hi)
    have fr : ∀ q, (q < 211 ∨ 237 ≤ q) → σ2 q = σ1 q := fun q hq => by rw [j3 q hq, i3 q (by omega), h3 q (by omega)]
    obtain ⟨y1, y2⟩ := hmod σ2 fr
    obtain ⟨M', τ, l1, l2, l3⟩ := fit_l r6 (c := 0) hp (hi := 5) (fun v x y => okB_upd p 0 v r6 (Or.inl ⟨rfl, y rfl, x⟩)) (by omega) (by omega) c2 (40 * row + a) (by omega) (fun i => σ (3 + row) (a + i)) 5 1 FU 0 (wr σ2 251 0 0) (by omega) (by unfold FU; omega) (fun _ => by omega) y2 (mo σ2 y1)
    obtain rfl : M = M' := bits_eq j2 l2
    refine ⟨nI M, σ2, τ, ?_, ?_, fin (nI M) σ2 τ fr l3⟩
    · unfold X3_kindsOf X3_kindsOf_b0
      rw [show X2_becomeLike (0 + 211 + 1) (0 + 22) σ1 = some σa from h1, ob_some, show X5_survey (0 + 211 + 7 + 1) (0 + 211 + 1) σa = some σb from i1, ob_some, show X3_kindsOf_l27 FU (0 + 211) (nI p) 0 1 σb = _ from j1, ob2_some]
    · unfold X12_who
      rw [mm σ2 y1, if_pos (show (2 : Int32) ≤ nI 2 by decide), if_pos (show nI 2 = 2 from rfl)]
      exact l1
  rw [if_neg (show ¬ nI w = 2 from fun q => w2 ((nI_inj (b := 2) (by omega) (by omega)).mp q))]
  by_cases w3 : w ≤ 2
  · rw [if_pos (show nI w ≤ 2 from nI_le (b := 2) (by omega) (by omega))]
    obtain ⟨σb, i1, i2, i3, i4⟩ := survey_s 219 22 (by omega) B r6 σ1 hA1
    obtain ⟨M, σ2, j1, j2, j3⟩ := lims_l r6 (by omega) c2 (fun i => σ (3 + row) (a + i)) 61 0 FU 0 σb (by omega) (by unfold FU; omega) i2 (by rw [i3 211 (by omega)]; exact g2) (fun i hi => by rw [i3 234 (by omega)]; exact g3' i hi)
    have fr : ∀ q, (q < 211 ∨ 237 ≤ q) → σ2 q = σ1 q := fun q hq => by rw [j3 q hq, i3 q (by omega)]
    obtain ⟨y1, y2⟩ := hmod σ2 fr
    obtain ⟨τ1, z1, z2, z3⟩ := then_s hn y2
    obtain ⟨M', v5', τ, l1, l2, l3, l4, l5⟩ := fl_l r6 (by omega) c2 (40 * row + a) (by omega) (fun i => σ (3 + row) (a + i)) (nI w) 61 0 FU 0 (B 1) (-1000000) τ1 (by omega) (by unfold FU; omega) (by omega) (Or.inl ⟨rfl, rfl⟩) (by rw [updB_self]; exact z2) (fun i hi => by rw [z3 254 (by omega)]; exact mo σ2 y1 i hi)
    obtain rfl : M = M' := bits_eq j2 l3
    have hM63 : M < 2 ^ 63 := by omega
    have hcomp : X3_limitsOf (0 + 211) (0 + 22) σ1 = some (lN M, σ2) := by
      unfold X3_limitsOf X3_limitsOf_b0
      rw [show X5_survey (0 + 211 + 7 + 1) (0 + 22) σ1 = some σb from i1, ob_some]
      exact j1
    have hmodl : X12_fittingLimits 251 (nI w) (nI (40 * row + a)) (nI u) (wr σ2 251 0 0) = some (if nI w = 0 then nI (pc 64 M) else v5', τ) := by
      unfold X12_fittingLimits X12_fittingLimits_b0
      rw [z1, ob_some]
      have p0 : pc 64 0 = 0 := by decide
      rw [p0] at l1
      exact l1
    refine ⟨if nI w = 0 then nI (pc 64 M) else v5', σ2, τ, ?_, ?_, fin 0 σ2 τ fr (fun q x y => by rw [l5 q x y, z3 q x])⟩
    · rw [hcomp, ob2_some]
      by_cases c : nI w = 0
      · rw [if_pos c, if_pos c, bitl_s hM63]
      · rw [if_neg c, if_neg c]
        rcases l2 with ⟨x1, x2⟩ | ⟨j, x1, x2⟩
        · rw [if_pos (show lg_cmp (lN M) 0 = 0 from (lgc (b := 0) hM63 (by omega)).1.mpr x1), x2]
        · rw [if_neg (show ¬ lg_cmp (lN M) 0 = 0 from fun q => by
            have := (lgc (b := 0) hM63 (by omega)).1.mp q
            rw [this] at x1
            have y := x1.1
            rw [Nat.zero_testBit] at y
            exact absurd y (by decide)), ntzl_s x1 hM63, x2]
    · unfold X12_who
      rw [mm σ2 y1, if_neg (show ¬ (2 : Int32) ≤ nI w from nI_ge (b := 2) (by omega) (by omega))]
      exact hmodl
  · rw [if_neg (show ¬ nI w ≤ 2 by rw [show (2 : Int32) = nI 2 from rfl, nI_le_iff (by omega) (by omega)]; omega)]
    obtain ⟨w', rfl⟩ : ∃ w', w = w' + 3 := ⟨w - 3, by omega⟩
    have s1 : nI (w' + 3) - 3 = nI w' := by
      rw [show (3 : Int32) = nI 3 from rfl, nI_sub (by omega), Nat.add_sub_cancel]
    have s2 : nI (3 + 4 * p) + nI (w' + 3) - 2 = nI (3 + 4 * p + (w' + 1)) := by
      rw [nI_add, show (2 : Int32) = nI 2 from rfl, nI_sub (by omega)]
      congr 1
    rw [s1]
    obtain ⟨σa, h1, h2, h3⟩ := like_s 212 22 (by omega) σ1 B hA1 hn
    obtain ⟨σb, i1, i2, i3, i4⟩ := survey_s 219 212 (by omega) B r6 σa h2
    have hA : AtB σb 212 B := AtB.cg h2 (fun q y z => i3 q (by omega))
    obtain ⟨M, σ2, j1, j2, j3⟩ := nums_l r6 hp (w := w') (by omega) c2 (fun i => σ (3 + row) (a + i)) 31 0 FU 0 (B (3 + 4 * p + (w' + 1))) σb (by omega) (by unfold FU; omega) (by rw [updB_self]; exact hA) (by rw [updB_self]; exact i2) (by rw [i3 211 (by omega), h3 211 (by omega)]; exact g2) (fun i hi => by rw [i3 234 (by omega), h3 234 (by omega)]; exact g3' i hi)
    have fr : ∀ q, (q < 211 ∨ 237 ≤ q) → σ2 q = σ1 q := fun q hq => by rw [j3 q hq, i3 q (by omega), h3 q (by omega)]
    obtain ⟨y1, y2⟩ := hmod σ2 fr
    obtain ⟨M', τ, l1, l2, l3⟩ := fit_l r6 (c := w' + 1) hp (hi := 30) (fun v x y => okB_upd p (w' + 1) v r6 (Or.inr ⟨by omega, by omega, x⟩)) (by omega) (by omega) c2 (40 * row + a) (by omega) (fun i => σ (3 + row) (a + i)) 31 0 FU 0 (wr σ2 251 0 0) (by omega) (by unfold FU; omega) (fun q => absurd q (by omega)) y2 (mo σ2 y1)
    obtain rfl : M = M' := bits_eq j2 l2
    refine ⟨nI M, σ2, τ, ?_, ?_, fin (nI M) σ2 τ fr l3⟩
    · unfold X3_numbersOf X3_numbersOf_b0
      rw [show X2_becomeLike (0 + 211 + 1) (0 + 22) σ1 = some σa from h1, ob_some, show X5_survey (0 + 211 + 7 + 1) (0 + 211 + 1) σa = some σb from i1, ob_some, show X3_numbersOf_l28 FU (0 + 211) (nI p) (nI w') 0 0 σb = _ from j1, ob2_some]
    · unfold X12_who
      rw [mm σ2 y1, if_pos (show (2 : Int32) ≤ nI (w' + 3) from nI_le (a := 2) (by omega) (by omega)), if_neg (show ¬ nI (w' + 3) = 2 from fun q => w2 ((nI_inj (b := 2) (by omega) (by omega)).mp q)), s2]
      exact l1
