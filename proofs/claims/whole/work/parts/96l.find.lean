/-! PURE: the fewest hands, on both sides. -/
section
variable {n k : Nat} {M : Nat → Nat}
theorem enough_s {most : Nat} (hn : n ≤ 10) (hmost : most ≤ 10) (hM : ∀ p, p < n → M p < 2 ^ 10) (hsym : ∀ p q, p < n → q < n → nrT M p q → nrT M q p) (hrf : ∀ p, p < n → nrT M p p) (σ : Mem) (h0 : σ (k + 1) 0 = nI n) (h1 : ∀ p, p < n → σ (k + 13) p = nI (M p)) : ∃ r σ', X6_areEnough k (nI most) σ = some (r, σ') ∧ (∀ q, q ≠ k → q ≠ k + 14 → q ≠ k + 15 → σ' q = σ q) ∧ (∀ j, j ≠ 3 → σ' k j = σ k j) ∧ ((r = 0 ∧ ∀ h, ¬ Val (nrT M) n most h) ∨ (r = 1 ∧ ∃ h u, Frst (nrT M) n most h ∧ HSt σ' k n h ∧ σ' k 3 = nI u ∧ u ≤ most ∧ Val (nrT M) n u h)) := by
  obtain ⟨σ1, e1, e2, e3⟩ := fill_s 10 (k + 15) 0 σ (by omega)
  have hs : HSt σ1 k 0 (fun _ => 0) := ⟨fun q hq => by omega, fun j hj => by rw [e3 j, if_pos hj]; rfl⟩
  obtain ⟨r, σ', s1, s2, s3, s4⟩ := settles_s (k := k) hn hmost hM hsym hrf n 0 0 12 (fun _ => 0) σ1 (by omega) (by omega) (by rw [e2 _ (by omega)]; exact h0) (fun p hp => by rw [e2 _ (by omega)]; exact h1 p hp) hs ⟨fun q hq => by omega, fun j hj => by omega, fun p q hp => by omega, fun p hp => by omega⟩ (by omega)
  have hstart : X6_areEnough k (nI most) σ = ob2 (some (r, σ')) (fun r2 σ3 => gdb r2 (some (r2, σ3))) := by
    unfold X6_areEnough X6_areEnough_b0
    rw [e1, ob_some, show X6_settles 12 k 0 0 (nI most) σ1 = _ from s1]
  refine ⟨r, σ', ?_, fun q a b c => by rw [s2 q a b c, e2 q c], fun j hj => by rw [s3 j hj, e2 k (by omega)], ?_⟩
  · rw [hstart, ob2_some]
    rcases s4 with ⟨r0, _⟩ | ⟨r1, _⟩
    · rw [r0, gdb_0]
    · rw [r1, gdb_1]
  · rcases s4 with ⟨r0, _, t2⟩ | ⟨r1, h, t1, t2, t3, ⟨u, t4, t5, t6⟩, t7⟩
    · exact Or.inl ⟨r0, fun h hh => t2 h hh (fun q hq => by omega)⟩
    · exact Or.inr ⟨r1, h, u, ⟨t1, fun h' hh => t7 h' hh (fun q hq => by omega)⟩, t3, t4, t5, t6⟩
/-- pages none of which lies near another -/
def Lone (M : Nat → Nat) (n lone : Nat) : Prop := lone < 2 ^ 10 ∧ ∀ k' h, k' ≤ 10 → Val (nrT M) n k' h → ∃ hm, (∀ j, hm.testBit j = true ↔ ∃ q, q < n ∧ lone.testBit q = true ∧ h q = j) ∧ pc 10 hm = pc 10 lone
theorem Lone_add (hn : n ≤ 10) (hrf : ∀ p, p < n → nrT M p p) {lone p : Nat} (h : Lone M n lone) (hp : p < n) (hz : M p &&& lone = 0) : Lone M n (lone ||| 2 ^ p) := by
  have hno : ∀ q, lone.testBit q = true → ¬ nrT M p q := by
    intro q hq hx
    have : (M p &&& lone).testBit q = true := by rw [Nat.testBit_and, hq, show (M p).testBit q = true from hx]; rfl
    rw [hz, Nat.zero_testBit] at this
    exact absurd this (by decide)
  have hpl : lone.testBit p = false := by
    cases e : lone.testBit p with
    | false => rfl
    | true => exact absurd (hrf p hp) (hno p e)
  refine ⟨or_lt h.1 (pow_lt (by omega)), fun k' g hk' hv => ?_⟩
  obtain ⟨hm, m1, m2⟩ := h.2 k' g hk' hv
  have hg : hm.testBit (g p) = false := by
    cases e : hm.testBit (g p) with
    | false => rfl
    | true =>
      obtain ⟨q, q1, q2, q3⟩ := (m1 (g p)).mp e
      exact absurd (hv.2.1 p q hp q1 q3.symm) (hno q q2)
  refine ⟨hm ||| 2 ^ g p, fun j => ?_, ?_⟩
  · rw [or_bit]
    constructor
    · intro e
      rw [Bool.or_eq_true, decide_eq_true_eq] at e
      rcases e with e | e
      · obtain ⟨q, q1, q2, q3⟩ := (m1 j).mp e
        exact ⟨q, q1, by rw [or_bit, q2]; rfl, q3⟩
      · exact ⟨p, hp, by rw [or_bit]; simp, e⟩
    · rintro ⟨q, q1, q2, q3⟩
      rw [or_bit, Bool.or_eq_true, decide_eq_true_eq] at q2
      rw [Bool.or_eq_true, decide_eq_true_eq]
      rcases q2 with q2 | q2
      · exact Or.inl ((m1 j).mpr ⟨q, q1, q2, q3⟩)
      · exact Or.inr (by rw [q2]; exact q3)
  · have := hv.1 p hp
    rw [pc_or hg, pc_or hpl, m2, if_pos (by omega), if_pos (by omega)]
theorem Lone_one (hn : n ≤ 10) {p : Nat} (hp : p < n) : Lone M n (2 ^ p) := by
  refine ⟨pow_lt (by omega), fun k' g hk' hv => ⟨2 ^ g p, fun j => ?_, ?_⟩⟩
  · rw [Nat.testBit_two_pow, decide_eq_true_eq]
    constructor
    · intro e
      exact ⟨p, hp, by rw [Nat.testBit_two_pow]; simp, e⟩
    · rintro ⟨q, q1, q2, q3⟩
      rw [Nat.testBit_two_pow, decide_eq_true_eq] at q2
      rw [q2]
      exact q3
  · have e1 := pc_or (m := 0) (i := g p) (Nat.zero_testBit _) 10
    have e2 := pc_or (m := 0) (i := p) (Nat.zero_testBit _) 10
    have := hv.1 p hp
    rw [Nat.zero_or] at e1 e2
    rw [e1, e2, if_pos (by omega), if_pos (by omega)]
theorem Lone_le {lone : Nat} (h : Lone M n lone) {k' : Nat} {g : Nat → Nat} (hk' : k' ≤ 10) (hv : Val (nrT M) n k' g) : pc 10 lone ≤ k' := by
  obtain ⟨hm, m1, m2⟩ := h.2 k' g hk' hv
  rw [← m2]
  refine pc_top (fun i hi => ?_) 10
  cases e : hm.testBit i with
  | false => rfl
  | true =>
    obtain ⟨q, q1, q2, q3⟩ := (m1 i).mp e
    have := hv.1 q q1
    omega
theorem wantIn (hn : n ≤ 10) (hM : ∀ p, p < n → M p < 2 ^ 10) (hrf : ∀ p, p < n → nrT M p p) (σ : Mem) (h0 : σ (k + 1) 0 = nI n) (h1 : ∀ p, p < n → σ (k + 13) p = nI (M p)) (K4 : Nat → Int32 → Int32 → Mem → Option Int32) (v first : Nat) (hv : v ≤ 10) (hf : first < 10) : ∀ (d p m lone : Nat), p + d = n → d < m → Lone M n lone → ∃ lone', X6_wantedAtLeast_l22 K4 m k (nI v) (nI first) (nI lone) (nI p) σ = K4 k (nI (max v (pc 10 lone'))) (nI (first + 1)) σ ∧ Lone M n lone' := by
  intro d
  induction d with
  | zero =>
    intro p m lone hp hm hl
    obtain ⟨m, rfl⟩ : ∃ m', m = m' + 1 := ⟨m - 1, by omega⟩
    refine ⟨lone, ?_, hl⟩
    have hle := pc_le lone 10
    show X6_wantedAtLeast_b22 K4 _ k (nI v) (nI first) (nI lone) (nI p) σ = _
    unfold X6_wantedAtLeast_b22
    rw [h0, if_pos (nI_le (by omega) (by omega)), letv_eq, bitc_s lone hl.1, mx_n (by omega) (by omega), nI_1]
  | succ d ih =>
    intro p m lone hp hm hl
    obtain ⟨m, rfl⟩ : ∃ m', m = m' + 1 := ⟨m - 1, by omega⟩
    have hl1 := hl.1
    have hMp := hM p (by omega)
    show ∃ lone', X6_wantedAtLeast_b22 K4 _ k (nI v) (nI first) (nI lone) (nI p) σ = _ ∧ _
    unfold X6_wantedAtLeast_b22 X6_wantedAtLeast_b56
    rw [h0, if_neg (show ¬ nI n ≤ nI p by rw [nI_le_iff (by omega) (by omega)]; omega), gdx_n (by omega) (by omega), nc_n (by omega), show σ (k + 1 + 12) p = _ from h1 p (by omega), nI_and, letv_eq, shl_1 p (by omega), nI_or, nI_1]
    have hal : M p &&& lone < 2 ^ 10 := Nat.lt_of_le_of_lt Nat.and_le_right hl1
    by_cases c : M p &&& lone = 0
    · rw [if_pos (show nI (M p &&& lone) = 0 by rw [c]; rfl)]
      exact ih (p + 1) m (lone ||| 2 ^ p) (by omega) (by omega) (Lone_add hn hrf hl (by omega) c)
    · rw [if_neg (nI_ne0 (by omega) (by omega))]
      exact ih (p + 1) m lone (by omega) (by omega) hl
theorem want_l (hn : n ≤ 10) (hM : ∀ p, p < n → M p < 2 ^ 10) (hrf : ∀ p, p < n → nrT M p p) (σ : Mem) (h0 : σ (k + 1) 0 = nI n) (h1 : ∀ p, p < n → σ (k + 13) p = nI (M p)) : ∀ (d a m v : Nat), a + d = n → d < m → 1 ≤ v → v ≤ 10 → (∀ k' h, k' ≤ 10 → Val (nrT M) n k' h → 0 < n → v ≤ k') → ∃ w, X6_wantedAtLeast_l4 m k (nI v) (nI a) σ = some (nI w) ∧ 1 ≤ w ∧ w ≤ 10 ∧ ∀ k' h, k' ≤ 10 → Val (nrT M) n k' h → 0 < n → w ≤ k' := by
  intro d
  induction d with
  | zero =>
    intro a m v ha hm h1 h2 h3
    obtain ⟨m, rfl⟩ : ∃ m', m = m' + 1 := ⟨m - 1, by omega⟩
    refine ⟨v, ?_, h1, h2, h3⟩
    show X6_wantedAtLeast_b4 _ k (nI v) (nI a) σ = _
    unfold X6_wantedAtLeast_b4
    rw [h0, if_pos (nI_le (by omega) (by omega))]
  | succ d ih =>
    intro a m v ha hm g1 g2 g3
    obtain ⟨m, rfl⟩ : ∃ m', m = m' + 1 := ⟨m - 1, by omega⟩
    obtain ⟨lone, e1, e2⟩ := wantIn hn hM hrf σ h0 h1 (X6_wantedAtLeast_l4 m) v a g2 (by omega) n 0 FU (2 ^ a) (by omega) (by unfold FU; omega) (Lone_one hn (by omega))
    have hle := pc_le lone 10
    obtain ⟨w, q1, q2, q3, q4⟩ := ih (a + 1) m (max v (pc 10 lone)) (by omega) (by omega) (by omega) (by omega) (fun k' h hk hv h0 => by
      have a1 := g3 k' h hk hv h0
      have a2 := Lone_le e2 hk hv
      omega)
    refine ⟨w, ?_, q2, q3, q4⟩
    show X6_wantedAtLeast_b4 _ k (nI v) (nI a) σ = _
    unfold X6_wantedAtLeast_b4
    rw [h0, if_neg (show ¬ nI n ≤ nI a by rw [nI_le_iff (by omega) (by omega)]; omega), letv_eq, shl_1 a (by omega)]
    rw [show X6_wantedAtLeast_l22 (X6_wantedAtLeast_l4 m) FU k (nI v) (nI a) (nI (2 ^ a)) 0 σ = _ from e1]
    exact q1
theorem want_s (hn : n ≤ 10) (hM : ∀ p, p < n → M p < 2 ^ 10) (hrf : ∀ p, p < n → nrT M p p) (σ : Mem) (h0 : σ (k + 1) 0 = nI n) (h1 : ∀ p, p < n → σ (k + 13) p = nI (M p)) : ∃ w, X6_wantedAtLeast k σ = some (nI w) ∧ 1 ≤ w ∧ w ≤ 10 ∧ ∀ k' h, k' ≤ 10 → Val (nrT M) n k' h → 0 < n → w ≤ k' := want_l hn hM hrf σ h0 h1 n 0 FU 1 (by omega) (by unfold FU; omega) (by omega) (by omega) (fun k' h hk hv hp => by have := hv.1 0 hp; omega)
theorem find_l (hn : n ≤ 10) (hn0 : 0 < n) (hM : ∀ p, p < n → M p < 2 ^ 10) (hsym : ∀ p q, p < n → q < n → nrT M p q → nrT M q p) (hrf : ∀ p, p < n → nrT M p p) : ∀ (d most m : Nat) (σ : Mem), most + d = n → d < m → σ (k + 1) 0 = nI n → (∀ p, p < n → σ (k + 13) p = nI (M p)) → (∀ k', k' < most → ∀ h, ¬ Val (nrT M) n k' h) → ∃ σ' kk h, X6_findFor_l18 m k (nI most) σ = some σ' ∧ (∀ q, q ≠ k → q ≠ k + 14 → q ≠ k + 15 → σ' q = σ q) ∧ (∀ j, j ≠ 3 → σ' k j = σ k j) ∧ HOK (nrT M) n kk h ∧ HSt σ' k n h ∧ σ' k 3 = nI kk := by
  intro d
  induction d with
  | zero =>
    intro most m σ hd hm h0 h1 hlow
    obtain ⟨m, rfl⟩ : ∃ m', m = m' + 1 := ⟨m - 1, by omega⟩
    obtain ⟨r, σ', s1, s2, s3, s4⟩ := enough_s (k := k) (most := most) hn (by omega) hM hsym hrf σ h0 h1
    rcases s4 with ⟨r0, t1⟩ | ⟨r1, h, u, t1, t2, t3, t4, t5⟩
    · have e : most = n := by omega
      subst e
      exact absurd (Val_id most hrf) (t1 _)
    · have e : u = most := by
        rcases Nat.lt_or_ge u most with c | c
        · exact absurd t5 (hlow u c h)
        · omega
      refine ⟨σ', most, h, ?_, s2, s3, ⟨t1, hlow⟩, t2, by rw [t3, e]⟩
      show X6_findFor_b18 _ k (nI most) σ = _
      unfold X6_findFor_b18
      rw [h0, if_neg (show ¬ nI n < nI most by rw [nI_lt_iff (by omega) (by omega)]; omega), s1, ob2_some, if_neg (by rw [r1]; decide)]
  | succ d ih =>
    intro most m σ hd hm h0 h1 hlow
    obtain ⟨m, rfl⟩ : ∃ m', m = m' + 1 := ⟨m - 1, by omega⟩
    obtain ⟨r, σ', s1, s2, s3, s4⟩ := enough_s (k := k) (most := most) hn (by omega) hM hsym hrf σ h0 h1
    have unf : X6_findFor_l18 (m + 1) k (nI most) σ = if r = 0 then X6_findFor_l18 m k (nI (most + 1)) σ' else some σ' := by
      show X6_findFor_b18 _ k (nI most) σ = _
      unfold X6_findFor_b18
      rw [h0, if_neg (show ¬ nI n < nI most by rw [nI_lt_iff (by omega) (by omega)]; omega), s1, ob2_some, nI_1]
    rcases s4 with ⟨r0, t1⟩ | ⟨r1, h, u, t1, t2, t3, t4, t5⟩
    · obtain ⟨σ2, kk, h, q1, q2, q3, q4, q5, q6⟩ := ih (most + 1) m σ' (by omega) (by omega) (by rw [s2 (k + 1) (by omega) (by omega) (by omega)]; exact h0) (fun p hp => by rw [s2 (k + 13) (by omega) (by omega) (by omega)]; exact h1 p hp) (fun k' hk' h => by
        by_cases c : k' = most
        · rw [c]
          exact t1 h
        · exact hlow k' (by omega) h)
      exact ⟨σ2, kk, h, by rw [unf, if_pos r0]; exact q1, fun q a b c => by rw [q2 q a b c, s2 q a b c], fun j hj => by rw [q3 j hj, s3 j hj], q4, q5, q6⟩
    · have e : u = most := by
        rcases Nat.lt_or_ge u most with c | c
        · exact absurd t5 (hlow u c h)
        · omega
      exact ⟨σ', most, h, by rw [unf, if_neg (by rw [r1]; decide)], s2, s3, ⟨t1, hlow⟩, t2, by rw [t3, e]⟩
end
theorem nrM_sym {g : Nat → Nat → Nat} {n L : Nat} (hc : ∀ x y, g x y = g y x) (p q : Nat) (hp : p < n) (hq : q < n) (h : nrT (nrM g n L) p q) : nrT (nrM g n L) q p := (nrM_bit g n L q p).mpr ⟨hp, by rw [hc]; exact ((nrM_bit g n L p q).mp h).2⟩
theorem nrM_rf {g : Nat → Nat → Nat} {n L : Nat} (hz : ∀ x, g x x = 0) (p : Nat) (hp : p < n) : nrT (nrM g n L) p p := (nrM_bit g n L p p).mpr ⟨hp, by rw [hz]; exact Nat.zero_le _⟩
/-- what findFor leaves: nobody, or the hands -/
def Fnd (σ : Mem) (k n : Nat) (g : Nat → Nat → Nat) (L : Nat) : Prop := (∀ p, p < n → σ (k + 13) p = nI (nrM g n L p)) ∧ ((n = 0 ∧ σ k 3 = 0) ∨ (0 < n ∧ ∃ kk h, HOK (nrT (nrM g n L)) n kk h ∧ HSt σ k n h ∧ σ k 3 = nI kk))
theorem find_s {k n : Nat} {g : Nat → Nat → Nat} (hn : n ≤ 10) (hg : ∀ x y, x < n → y < n → g x y < 2 ^ 20) (hc : ∀ x y, g x y = g y x) (hz : ∀ x, g x x = 0) (L : Nat) (hL : L < 2 ^ 20) (σ : Mem) (h : Gp σ (k + 1) n g) : ∃ σ', X6_findFor k (nI L) σ = some σ' ∧ Fnd σ' k n g L ∧ (∀ q, q ≠ k → q ≠ k + 13 → q ≠ k + 14 → q ≠ k + 15 → σ' q = σ q) ∧ ∀ j, j ≠ 3 → σ' k j = σ k j := by
  obtain ⟨σ1, e1, e2, e3⟩ := mark_s hn hg L hL σ h
  have h0 : wr σ1 k 3 0 (k + 1) 0 = nI n := by rw [wr_off _ _ _ (by omega), e3 _ (by omega)]; exact h.1
  have h1 : ∀ p, p < n → wr σ1 k 3 0 (k + 13) p = nI (nrM g n L p) := fun p hp => by rw [wr_off _ _ _ (by omega)]; exact e2 p hp
  obtain ⟨w, w1, w2, w3, w4⟩ := want_s (k := k) (M := nrM g n L) hn (fun p _ => nrM_lt g hn) (nrM_rf hz) (wr σ1 k 3 0) h0 h1
  have start : X6_findFor k (nI L) σ = X6_findFor_l18 FU k (nI w) (wr σ1 k 3 0) := by
    unfold X6_findFor X6_findFor_b0
    rw [e1, ob_some, w1, ob_some]
  have fr1 : ∀ q, q ≠ k → q ≠ k + 13 → wr σ1 k 3 0 q = σ q := fun q a b => by rw [wr_off _ _ _ a, e3 q b]
  by_cases c : n = 0
  · refine ⟨wr σ1 k 3 0, ?_, ⟨h1, Or.inl ⟨c, wr_at _ _ _ _⟩⟩, fun q a b _ _ => fr1 q a b, fun j hj => by rw [wr_in _ _ hj, e3 k (by omega)]⟩
    rw [start]
    obtain ⟨m, hm⟩ : ∃ m, FU = m + 1 := ⟨999999999, rfl⟩
    rw [hm]
    show X6_findFor_b18 _ k (nI w) _ = _
    unfold X6_findFor_b18
    rw [h0, if_pos (nI_lt (by omega) (by omega))]
  · have hw : w ≤ n := w4 n _ hn (Val_id n (nrM_rf hz)) (by omega)
    obtain ⟨σ2, kk, hh, q1, q2, q3, q4, q5, q6⟩ := find_l (k := k) (M := nrM g n L) hn (by omega) (fun p _ => nrM_lt g hn) (nrM_sym hc) (nrM_rf hz) (n - w) w FU (wr σ1 k 3 0) (by omega) (by unfold FU; omega) h0 h1 (fun k' hk' h hv => by
      have := w4 k' h (by omega) hv (by omega)
      omega)
    exact ⟨σ2, by rw [start]; exact q1, ⟨fun p hp => by rw [q2 (k + 13) (by omega) (by omega) (by omega)]; exact h1 p hp, Or.inr ⟨by omega, kk, hh, q4, q5, q6⟩⟩, fun q a b c d => by rw [q2 q a c d, fr1 q a b], fun j hj => by rw [q3 j hj, wr_in _ _ hj, e3 k (by omega)]⟩
