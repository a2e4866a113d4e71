/-! PURE: hands, as the model lays them. -/
def nrN (g : Nat → Nat → Nat) (n L p : Nat) : Nat := if p < n then nrM g n L p else 2 ^ p
theorem nrN_lt (g : Nat → Nat → Nat) {n L p : Nat} (hn : n ≤ 10) (hp : p < 10) : nrN g n L p < 2 ^ 10 := by
  unfold nrN
  split
  · exact nrM_lt g hn
  · exact pow_lt hp
theorem or_pow_msk {P : Nat → Bool} {p n : Nat} (hp : p < n) (h : P p = true) : 2 ^ p ||| msk P n = msk P n := by
  apply Nat.eq_of_testBit_eq
  intro i
  rw [Nat.testBit_or, Nat.testBit_two_pow, msk_bit]
  by_cases c : p = i
  · subst c
    simp [hp, h]
  · rw [show decide (p = i) = false from decide_eq_false c, Bool.false_or]
theorem nearIn {k1 : Nat} (hk1 : k1 ≠ 261) {B : Nat → Nat} (ho : okB B) (L : Nat) (hL : L < 2 ^ 20) (K2 : Nat → Nat → Int32 → Int32 → Mem → Option Mem) (p : Nat) (hp : p < B 0) : ∀ (d b m : Nat) (σ : Mem), b + d = B 0 → d < m → RwB (σ k1) 0 B → σ 261 p = nI (2 ^ p ||| msk (fun q => decide (far B p q ≤ L)) b) → X12_layNear_l20 K2 m 251 k1 (nI L) (nI p) (nI b) σ = K2 251 k1 (nI L) (nI (p + 1)) (wr σ 261 p (nI (nrM (far B) (B 0) L p))) := by
  have hn := ho.1
  intro d
  induction d with
  | zero =>
    intro b m σ hb hm h h1
    obtain ⟨m, rfl⟩ : ∃ m', m = m' + 1 := ⟨m - 1, by omega⟩
    obtain rfl : b = B 0 := by omega
    have hw : wr σ 261 p (nI (nrM (far B) (B 0) L p)) = σ := by
      funext q i
      by_cases hq : q = 261
      · subst hq
        by_cases hi : i = p
        · subst hi
          rw [wr_at, h1, or_pow_msk hp (by rw [far_self]; simp)]
          rfl
        · rw [wr_in _ _ hi]
      · rw [wr_off _ _ _ hq]
    rw [hw]
    show X12_layNear_b20 K2 _ 251 k1 (nI L) (nI p) (nI (B 0)) σ = _
    unfold X12_layNear_b20 X12_layNear_b75
    rw [show σ k1 (nc 0) = nI (B 0) from h 0 (by omega), if_pos (nI_le (by omega) (by omega)), nI_1]
  | succ d ih =>
    intro b m σ hb hm h h1
    obtain ⟨m, rfl⟩ : ∃ m', m = m' + 1 := ⟨m - 1, by omega⟩
    have hlt : msk (fun q => decide (far B p q ≤ L)) b < 2 ^ 10 := Nat.lt_of_lt_of_le (msk_lt _ b) (Nat.pow_le_pow_right (by omega) (by omega))
    show X12_layNear_b20 K2 _ 251 k1 (nI L) (nI p) (nI b) σ = _
    unfold X12_layNear_b20
    rw [show σ k1 (nc 0) = nI (B 0) from h 0 (by omega), if_neg (show ¬ nI (B 0) ≤ nI b by rw [nI_le_iff (by omega) (by omega)]; omega), if_neg (show ¬ nI (B 0) ≤ nI p by rw [nI_le_iff (by omega) (by omega)]; omega), gdx_n (by omega) (by omega), nc_n (by omega), show σ (251 + 10) p = _ from h1]
    have b67 : ∀ x y : Nat, x = 2 ^ p ||| msk (fun q => decide (far B p q ≤ L)) b ||| y → (2 ^ p ||| msk (fun q => decide (far B p q ≤ L)) (b + 1) = x) → X12_layNear_b67 K2 (X12_layNear_l20 K2 m) 251 k1 (nI L) (nI p) (nI b) (251 + 10) (nI p) (nI (2 ^ p ||| msk (fun q => decide (far B p q ≤ L)) b)) (nI y) σ = K2 251 k1 (nI L) (nI (p + 1)) (wr σ 261 p (nI (nrM (far B) (B 0) L p))) := by
      intro x y hx hxx
      unfold X12_layNear_b67
      rw [gdx_n (by omega) (by omega), nc_n (by omega), nI_or, nI_1, ← hx]
      have e := ih (b + 1) m (wr σ 261 p (nI x)) (by omega) (by omega) (by rw [wr_off _ _ _ hk1]; exact h) (by rw [wr_at, hxx])
      rw [wr_wr] at e
      exact e
    have hmsk : msk (fun q => decide (far B p q ≤ L)) (b + 1) = msk (fun q => decide (far B p q ≤ L)) b ||| (if decide (far B p b ≤ L) then 2 ^ b else 0) := rfl
    by_cases c : b = p
    · rw [if_pos (show nI b = nI p by rw [c])]
      unfold X12_layNear_b66
      refine b67 _ 0 rfl ?_
      rw [hmsk, c, far_self, show decide (0 ≤ L) = true from decide_eq_true (Nat.zero_le L), if_pos rfl, Nat.or_zero]
      apply Nat.eq_of_testBit_eq
      intro i
      rw [Nat.testBit_or, Nat.testBit_or, Nat.testBit_or, Nat.testBit_two_pow]
      cases decide (p = i) <;> simp
    · rw [if_neg (show ¬ nI b = nI p from fun q => c ((nI_inj (by omega) (by omega)).mp q)), farOf_s h ho hp (by omega) (fun q => c q.symm), ob_some]
      have hfl := far_le ho hp (show b < B 0 by omega)
      by_cases c2 : far B p b ≤ L
      · rw [if_neg (show ¬ nI L < nI (far B p b) by rw [nI_lt_iff (by omega) (by omega)]; omega), shl_1 b (by omega)]
        refine b67 _ (2 ^ b) rfl ?_
        rw [hmsk, show decide (far B p b ≤ L) = true from decide_eq_true c2, if_pos rfl, Nat.or_assoc]
      · rw [if_pos (show nI L < nI (far B p b) from nI_lt (by omega) (by omega))]
        unfold X12_layNear_b66
        refine b67 _ 0 rfl ?_
        rw [hmsk, show decide (far B p b ≤ L) = false from decide_eq_false c2, if_neg (by decide), Nat.or_zero, Nat.or_zero]
theorem near_ll {k1 : Nat} (hk1 : k1 ≠ 261) {B : Nat → Nat} (ho : okB B) (L : Nat) (hL : L < 2 ^ 20) : ∀ (d p m : Nat) (σ : Mem), p + d = 10 → d < m → RwB (σ k1) 0 B → ∃ σ', X12_layNear_l2 m 251 k1 (nI L) (nI p) σ = some σ' ∧ (∀ j, p ≤ j → j < 10 → σ' 261 j = nI (nrN (far B) (B 0) L j)) ∧ (∀ j, j < p → σ' 261 j = σ 261 j) ∧ ∀ q, q ≠ 261 → σ' q = σ q := by
  have hn := ho.1
  intro d
  induction d with
  | zero =>
    intro p m σ hp hm h
    obtain ⟨m, rfl⟩ : ∃ m', m = m' + 1 := ⟨m - 1, by omega⟩
    obtain rfl : p = 10 := by omega
    exact ⟨σ, rfl, fun j h1 h2 => by omega, fun j h1 => rfl, fun q hq => rfl⟩
  | succ d ih =>
    intro p m σ hp hm h
    obtain ⟨m, rfl⟩ : ∃ m', m = m' + 1 := ⟨m - 1, by omega⟩
    have unf : X12_layNear_l2 (m + 1) 251 k1 (nI L) (nI p) σ = X12_layNear_l20 (X12_layNear_l2 m) FU 251 k1 (nI L) (nI p) (nI 0) (wr σ 261 p (nI (2 ^ p))) := by
      show X12_layNear_b2 _ 251 k1 (nI L) (nI p) σ = _
      unfold X12_layNear_b2
      rw [if_neg (show ¬ (10 : Int32) ≤ nI p from nI_ge (b := 10) (by omega) (by omega)), gdx_n (by omega) (by omega), nc_n (by omega), shl_1 p (by omega)]
      rfl
    have go : ∀ x : Nat, x = nrN (far B) (B 0) L p → X12_layNear_l20 (X12_layNear_l2 m) FU 251 k1 (nI L) (nI p) (nI 0) (wr σ 261 p (nI (2 ^ p))) = X12_layNear_l2 m 251 k1 (nI L) (nI (p + 1)) (wr σ 261 p (nI x)) → ∃ σ', X12_layNear_l2 (m + 1) 251 k1 (nI L) (nI p) σ = some σ' ∧ (∀ j, p ≤ j → j < 10 → σ' 261 j = nI (nrN (far B) (B 0) L j)) ∧ (∀ j, j < p → σ' 261 j = σ 261 j) ∧ ∀ q, q ≠ 261 → σ' q = σ q := by
      intro x hx he
      obtain ⟨σ', f1, f2, f3, f4⟩ := ih (p + 1) m (wr σ 261 p (nI x)) (by omega) (by omega) (by rw [wr_off _ _ _ hk1]; exact h)
      refine ⟨σ', by rw [unf, he]; exact f1, fun j h1 h2 => ?_, fun j h1 => by rw [f3 j (by omega), wr_in _ _ (by omega)], fun q hq => by rw [f4 q hq, wr_off _ _ _ hq]⟩
      by_cases c : j = p
      · subst c
        rw [f3 j (by omega), wr_at, hx]
      · exact f2 j (by omega) h2
    by_cases c : p < B 0
    · refine go (nrM (far B) (B 0) L p) ?_ ?_
      · unfold nrN
        rw [if_pos c]
      · have e := nearIn hk1 ho L hL (X12_layNear_l2 m) p c (B 0) 0 FU (wr σ 261 p (nI (2 ^ p))) (by omega) (by unfold FU; omega) (by rw [wr_off _ _ _ hk1]; exact h) (by
          rw [wr_at]
          show nI (2 ^ p) = nI (2 ^ p ||| 0)
          rw [Nat.or_zero])
        rw [wr_wr] at e
        exact e
    · refine go (2 ^ p) ?_ ?_
      · unfold nrN
        rw [if_neg c]
      · obtain ⟨m2, hm2⟩ : ∃ m2, FU = m2 + 1 := ⟨999999999, rfl⟩
        rw [hm2]
        show X12_layNear_b20 _ _ 251 k1 (nI L) (nI p) (nI 0) _ = _
        unfold X12_layNear_b20 X12_layNear_b75
        rw [show wr σ 261 p (nI (2 ^ p)) k1 (nc 0) = nI (B 0) from (congrFun (wr_off σ p (nI (2 ^ p)) hk1) 0).trans (h 0 (by omega)), nI_1, if_pos (show nI (B 0) ≤ nI p from nI_le (by omega) (by omega))]
        split <;> rfl
theorem layNear_s {k1 : Nat} (hk1 : k1 ≠ 261) {B : Nat → Nat} (ho : okB B) (L : Nat) (hL : L < 2 ^ 20) (σ : Mem) (h : RwB (σ k1) 0 B) : ∃ σ', X12_layNear 251 k1 (nI L) σ = some σ' ∧ (∀ j, j < 10 → σ' 261 j = nI (nrN (far B) (B 0) L j)) ∧ ∀ q, q ≠ 261 → σ' q = σ q := by
  obtain ⟨σ', f1, f2, f3, f4⟩ := near_ll hk1 ho L hL 10 0 FU σ (by omega) (by unfold FU; omega) h
  exact ⟨σ', f1, fun j hj => f2 j (by omega) hj, f4⟩
theorem Val_nr {nr nr' : Nat → Nat → Prop} {n k : Nat} {h : Nat → Nat} (e : ∀ p q, p < n → q < n → (nr p q ↔ nr' p q)) : Val nr n k h ↔ Val nr' n k h := ⟨fun v => Val_mono v (Nat.le_refl k) (fun p q hp hq x => (e p q hp hq).mp x), fun v => Val_mono v (Nat.le_refl k) (fun p q hp hq x => (e p q hp hq).mpr x)⟩
theorem all_bit (n p : Nat) : (2 ^ n - 1).testBit p = decide (p < n) := Nat.testBit_two_pow_sub_one n p
theorem Cp_all {nr : Nat → Nat → Prop} {n k : Nat} {h : Nat → Nat} : Cp nr k (fun _ => 0) 0 (2 ^ n - 1) h ↔ (∀ p, n ≤ p → h p = 0) ∧ Val nr n k h := by
  constructor
  · rintro ⟨a1, a2, a3, a4⟩
    refine ⟨fun p hp => a1 p (by rw [all_bit]; exact decide_eq_false (by omega)), fun p hp => (a2 p (by rw [all_bit]; exact decide_eq_true hp)).2, fun p q hp hq e => a3 p q (by rw [all_bit]; exact decide_eq_true hp) (by rw [all_bit]; exact decide_eq_true hq) e, fun p hp j hj => ?_⟩
    obtain ⟨q, q1, _, q3⟩ := a4 p (by rw [all_bit]; exact decide_eq_true hp) j (Nat.zero_le j) hj
    exact ⟨q, q1, q3⟩
  · rintro ⟨a0, a1, a2, a3⟩
    refine ⟨fun p hp => a0 p ?_, fun p hp => ⟨Nat.zero_le _, a1 p ?_⟩, fun p q hp hq e => a2 p q ?_ ?_ e, fun p hp j _ hj => ?_⟩
    · rw [all_bit] at hp
      have := of_decide_eq_false hp
      omega
    · rw [all_bit] at hp
      exact of_decide_eq_true hp
    · rw [all_bit] at hp
      exact of_decide_eq_true hp
    · rw [all_bit] at hq
      exact of_decide_eq_true hq
    · rw [all_bit] at hp
      have hp' := of_decide_eq_true hp
      obtain ⟨q, q1, q2⟩ := a3 p hp' j hj
      exact ⟨q, q1, by rw [all_bit]; exact decide_eq_true (by omega), q2⟩
def cutf (h : Nat → Nat) (n : Nat) : Nat → Nat := fun p => if p < n then h p else 0
theorem Told_frst {nr : Nat → Nat → Prop} {σ : Mem} {r : Int32} {n k : Nat} (hn : n ≤ 10) (h : Told σ r (Cp nr k (fun _ => 0) 0 (2 ^ n - 1))) : (r = 0 ∧ ∀ h, ¬ Val nr n k h) ∨ (r = 1 ∧ ∃ t, Frst nr n k t ∧ ∀ p, p < n → σ 264 p = nI (t p)) := by
  have hc : ∀ h, Val nr n k h → Cp nr k (fun _ => 0) 0 (2 ^ n - 1) (cutf h n) := fun h hv => Cp_all.mpr ⟨fun p hp => if_neg (by omega), Val_cg hv (fun p hp => if_pos hp)⟩
  rcases h with ⟨r0, h2⟩ | ⟨r1, t, t1, t2, t3⟩
  · exact Or.inl ⟨r0, fun h hv => h2 _ (hc h hv)⟩
  · refine Or.inr ⟨r1, t, ⟨(Cp_all.mp t1).2, fun h' hv hl => ?_⟩, fun p hp => (t2 p (by omega)).1⟩
    obtain ⟨p, p1, p2, p3⟩ := hl
    refine t3 _ (hc h' hv) ⟨p, by omega, ?_, fun q hq => ?_⟩
    · show (if p < n then h' p else 0) < t p
      rw [if_pos p1]
      exact p2
    · show (if q < n then h' q else 0) = t q
      rw [if_pos (by omega)]
      exact p3 q hq
theorem id_frst {nr : Nat → Nat → Prop} {n : Nat} (hn0 : 0 < n) (hrf : ∀ p, p < n → nr p p) (hno : ∀ k', k' < n → ∀ h, ¬ Val nr n k' h) : HOK nr n n (fun p => p) := by
  refine ⟨⟨Val_id n hrf, fun h' hv hl => ?_⟩, hno⟩
  obtain ⟨p, p1, p2, p3⟩ := hl
  have p2' : h' p < p := p2
  have key : ∀ q, p ≤ q → q < n → h' q < q := by
    intro q
    induction q using Nat.strongRecOn with
    | ind q ihq =>
      intro h1 h2
      by_cases e : q = p
      · rw [e]
        exact p2'
      · rcases Nat.lt_or_ge (h' q) q with c | c
        · exact c
        · obtain ⟨q', a1, a2⟩ := hv.2.2 q h2 (q - 1) (by omega)
          rcases Nat.lt_or_ge q' p with d | d
          · have : h' q' = q' := p3 q' d
            omega
          · have := ihq q' a1 d (by omega)
            omega
  refine hno (n - 1) (by omega) h' ⟨fun q hq => ?_, hv.2.1, hv.2.2⟩
  rcases Nat.lt_or_ge q p with d | d
  · have : h' q = q := p3 q d
    omega
  · have := key q d hq
    omega
theorem idl (k1 : Nat) (hk1 : k1 ≠ 264) (n : Nat) (hn : n ≤ 10) : ∀ (d i m : Nat) (σ : Mem), i + d = 10 → d < m → σ k1 0 = nI n → ∃ f : Nat → Int32, X12_layHands_l38 m 251 k1 (nI n) (nI i) σ = some (nI n, wrF σ 264 f) ∧ ∀ j, f j = if i ≤ j ∧ j < 10 then nI j else σ 264 j := by
  intro d
  induction d with
  | zero =>
    intro i m σ hi hm h0
    obtain ⟨m, rfl⟩ : ∃ m', m = m' + 1 := ⟨m - 1, by omega⟩
    obtain rfl : i = 10 := by omega
    refine ⟨σ 264, ?_, fun j => ?_⟩
    · show X12_layHands_b38 _ 251 k1 (nI n) (nI 10) σ = _
      unfold X12_layHands_b38
      rw [if_pos (by decide), wrF_self]
    · rw [if_neg (by omega)]
  | succ d ih =>
    intro i m σ hi hm h0
    obtain ⟨m, rfl⟩ : ∃ m', m = m' + 1 := ⟨m - 1, by omega⟩
    obtain ⟨f, h1, h2⟩ := ih (i + 1) m (wr σ 264 i (nI i)) (by omega) (by omega) (by rw [wr_off _ _ _ hk1]; exact h0)
    refine ⟨f, ?_, fun j => ?_⟩
    · show X12_layHands_b38 _ 251 k1 (nI n) (nI i) σ = _
      unfold X12_layHands_b38
      rw [if_neg (show ¬ (10 : Int32) ≤ nI i from nI_ge (b := 10) (by omega) (by omega)), nc_0, h0, if_pos rfl, gdx_n (by omega) (by omega), nc_n (by omega), nI_1]
      rw [show X12_layHands_l38 m 251 k1 (nI n) (nI (i + 1)) (wr σ (251 + 13) i (nI i)) = _ from h1, wrF_wr]
    · rw [h2 j]
      by_cases e : j = i
      · subst e
        rw [if_neg (by omega), if_pos (by omega), wr_at]
      · rw [wr_in _ _ e]
        by_cases c : i ≤ j ∧ j < 10
        · rw [if_pos c, if_pos (by omega)]
        · rw [if_neg c, if_neg (by omega)]
theorem allOf_s {σ : Mem} {k1 n : Nat} (hn : n ≤ 10) (h : σ k1 0 = nI n) : X12_allOf k1 σ = some (nI (2 ^ n - 1)) := by
  unfold X12_allOf X12_allOf_b0
  rw [nc_0, h, shl_1 n (by omega), nI_p1 Nat.one_le_two_pow]
theorem hands_l {k1 : Nat} (hk1 : k1 < 261) {B : Nat → Nat} (ho : okB B) (hn0 : 0 < B 0) (L : Nat) : ∀ (d v m : Nat) (σ : Mem), v + d = B 0 → 1 ≤ v → d < m → RwB (σ k1) 0 B → (∀ j, j < 10 → σ 261 j = nI (nrN (far B) (B 0) L j)) → (∀ k', k' < v → ∀ h, ¬ Val (nrT (nrM (far B) (B 0) L)) (B 0) k' h) → ∃ σ' kk h, X12_layHands_l10 m 251 k1 (nI v) σ = some (nI kk, σ') ∧ HOK (nrT (nrM (far B) (B 0) L)) (B 0) kk h ∧ (∀ p, p < B 0 → σ' 264 p = nI (h p)) ∧ ∀ q, (q < 262 ∨ 266 ≤ q) → σ' q = σ q := by
  have hn := ho.1
  have hnr : ∀ p q, p < B 0 → q < B 0 → (nrT (nrN (far B) (B 0) L) p q ↔ nrT (nrM (far B) (B 0) L) p q) := by
    intro p q hp hq
    unfold nrT nrN
    rw [if_pos hp]
  intro d
  induction d with
  | zero =>
    intro v m σ hd hv hm h h1 hlow
    obtain ⟨m, rfl⟩ : ∃ m', m = m' + 1 := ⟨m - 1, by omega⟩
    obtain rfl : v = B 0 := by omega
    obtain ⟨f, g1, g2⟩ := idl k1 (by omega) (B 0) hn 10 0 FU σ (by omega) (by unfold FU; omega) (h 0 (by omega))
    refine ⟨wrF σ 264 f, B 0, fun p => p, ?_, id_frst hn0 (nrM_rf (far_self B)) hlow, fun p hp => by rw [wrF_same, g2, if_pos (by omega)], fun q hq => wrF_ne _ _ (by omega)⟩
    show X12_layHands_b10 _ 251 k1 (nI (B 0)) σ = _
    unfold X12_layHands_b10 X12_layHands_b36
    rw [show σ k1 (nc 0) = nI (B 0) from h 0 (by omega), if_pos (nI_le (by omega) (by omega))]
    exact g1
  | succ d ih =>
    intro v m σ hd hv hm h h1 hlow
    obtain ⟨m, rfl⟩ : ∃ m', m = m' + 1 := ⟨m - 1, by omega⟩
    have h2n : 2 ^ B 0 - 1 < 2 ^ 10 := by
      have : 2 ^ B 0 ≤ 2 ^ 10 := Nat.pow_le_pow_right (by omega) hn
      omega
    have h2n0 : 2 ^ B 0 - 1 ≠ 0 := by
      have : 2 ^ 1 ≤ 2 ^ B 0 := Nat.pow_le_pow_right (by omega) hn0
      omega
    obtain ⟨r, σ1, p1, p2, p3, _⟩ := parts_s (k := v) (a := 1) (by omega) (by omega) (Or.inr rfl) (fun p hp => nrN_lt (far B) hn hp) h2n h2n0 σ h1
    have unf : X12_layHands_l10 (m + 1) 251 k1 (nI v) σ = if r = 0 then X12_layHands_l10 m 251 k1 (nI (v + 1)) σ1 else X12_layHands_b36 251 k1 (nI v) σ1 := by
      show X12_layHands_b10 _ 251 k1 (nI v) σ = _
      unfold X12_layHands_b10
      rw [show σ k1 (nc 0) = nI (B 0) from h 0 (by omega), if_neg (show ¬ nI (B 0) ≤ nI v by rw [nI_le_iff (by omega) (by omega)]; omega), allOf_s hn (h 0 (by omega)), ob_some, p1, ob2_some, nI_1]
    have hR1 : RwB (σ1 k1) 0 B := by rw [p2 k1 (by omega)]; exact h
    rcases Told_frst hn (p3 rfl) with ⟨r0, t1⟩ | ⟨r1, t, t1, t2⟩
    · obtain ⟨σ', kk, hh, q1, q2, q3, q4⟩ := ih (v + 1) m σ1 (by omega) (by omega) (by omega) hR1 (fun j hj => by rw [p2 261 (by omega)]; exact h1 j hj) (fun k' hk' g hg => by
        by_cases c : k' = v
        · rw [c] at hg
          exact t1 g ((Val_nr hnr).mpr hg)
        · exact hlow k' (by omega) g hg)
      exact ⟨σ', kk, hh, by rw [unf, if_pos r0]; exact q1, q2, q3, fun q hq => by rw [q4 q hq, p2 q hq]⟩
    · refine ⟨σ1, v, t, ?_, ⟨⟨(Val_nr hnr).mp t1.1, fun h' hv' => t1.2 h' ((Val_nr hnr).mpr hv')⟩, hlow⟩, t2, p2⟩
      rw [unf, if_neg (by rw [r1]; decide)]
      unfold X12_layHands_b36
      obtain ⟨m2, hm2⟩ : ∃ m2, FU = m2 + 1 := ⟨999999999, rfl⟩
      rw [hm2]
      show X12_layHands_b38 _ 251 k1 (nI v) 0 σ1 = _
      unfold X12_layHands_b38
      rw [if_neg (by decide), show σ1 k1 (nc 0) = nI (B 0) from hR1 0 (by omega), if_neg (show ¬ nI v = nI (B 0) from fun q => by rw [nI_inj (by omega) (by omega)] at q; omega)]
/-- the model's hands of a book that has pages -/
theorem hands_s {k1 : Nat} (hk1 : k1 < 261) {B : Nat → Nat} (ho : okB B) (hn0 : 0 < B 0) (L : Nat) (hL : L < 2 ^ 20) (σ : Mem) (h : RwB (σ k1) 0 B) (hlim : σ k1 1 = nI L) : ∃ σ' kk h, X12_layHands 251 k1 σ = some (nI kk, σ') ∧ HOK (nrT (nrM (far B) (B 0) L)) (B 0) kk h ∧ (∀ p, p < B 0 → σ' 264 p = nI (h p)) ∧ (∀ j, j < 10 → σ' 261 j = nI (nrN (far B) (B 0) L j)) ∧ ∀ q, (q < 261 ∨ 266 ≤ q) → σ' q = σ q := by
  have hn := ho.1
  obtain ⟨σ1, e1, e2, e3⟩ := layNear_s (by omega) ho L hL σ h
  obtain ⟨σ', kk, hh, q1, q2, q3, q4⟩ := hands_l hk1 ho hn0 L (B 0 - 1) 1 FU σ1 (by omega) (by omega) (by unfold FU; omega) (by rw [e3 k1 (by omega)]; exact h) e2 (fun k' hk' g hg => by
    have := hg.1 0 hn0
    omega)
  refine ⟨σ', kk, hh, ?_, q2, q3, fun j hj => by rw [q4 261 (by omega)]; exact e2 j hj, fun q hq => by rw [q4 q (by omega), e3 q (by omega)]⟩
  unfold X12_layHands X12_layHands_b0
  rw [show σ k1 (nc 1) = nI L from hlim, e1, ob_some]
  exact q1
