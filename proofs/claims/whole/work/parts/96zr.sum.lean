/-! PURE: sums over sets, powers, shared divisors. -/
def su (F : Nat → Nat) : Nat → Nat
  | 0 => 0
  | n + 1 => su F n + F n
theorem su_cg {F G : Nat → Nat} : ∀ n, (∀ i, i < n → F i = G i) → su F n = su G n := by
  intro n
  induction n with
  | zero => exact fun _ => rfl
  | succ n ih =>
    intro h
    show su F n + F n = su G n + G n
    rw [ih (fun i hi => h i (by omega)), h n (by omega)]
theorem su_add (F G : Nat → Nat) : ∀ n, su (fun i => F i + G i) n = su F n + su G n := by
  intro n
  induction n with
  | zero => rfl
  | succ n ih =>
    show su (fun i => F i + G i) n + (F n + G n) = su F n + F n + (su G n + G n)
    rw [ih]
    omega
theorem su_mul (F : Nat → Nat) (c : Nat) : ∀ n, su (fun i => F i * c) n = su F n * c := by
  intro n
  induction n with
  | zero => exact (Nat.zero_mul c).symm
  | succ n ih =>
    show su (fun i => F i * c) n + F n * c = (su F n + F n) * c
    rw [ih, Nat.add_mul]
theorem su_app (F : Nat → Nat) (a : Nat) : ∀ b, su F (a + b) = su F a + su (fun i => F (a + i)) b := by
  intro b
  induction b with
  | zero => rfl
  | succ b ih =>
    show su F (a + b) + F (a + b) = su F a + (su (fun i => F (a + i)) b + F (a + b))
    rw [ih, Nat.add_assoc]
theorem su_le {F G : Nat → Nat} : ∀ n, (∀ i, i < n → F i ≤ G i) → su F n ≤ su G n := by
  intro n
  induction n with
  | zero => exact fun _ => Nat.le_refl 0
  | succ n ih =>
    intro h
    show su F n + F n ≤ su G n + G n
    have := ih (fun i hi => h i (by omega))
    have := h n (by omega)
    omega
theorem su_one (x c : Nat) : ∀ n, su (fun s => if s = x then c else 0) n = if x < n then c else 0 := by
  intro n
  induction n with
  | zero => rfl
  | succ n ih =>
    show su (fun s => if s = x then c else 0) n + (if n = x then c else 0) = _
    rw [ih]
    by_cases e : n = x
    · rw [if_pos e, if_neg (by omega), if_pos (by omega), Nat.zero_add]
    · rw [if_neg e, Nat.add_zero]
      by_cases d : x < n
      · rw [if_pos d, if_pos (by omega)]
      · rw [if_neg d, if_neg (by omega)]
theorem su_zero (n : Nat) : su (fun _ => 0) n = 0 := by
  induction n with
  | zero => rfl
  | succ n ih => exact ih
/-- how likely just this set is left -/
def od (a b : Nat) : Nat → Nat → Nat
  | 0, _ => 1
  | n + 1, V => od a b n V * (if V.testBit n then a else b)
theorem od_pc (a b V : Nat) : ∀ n, od a b n V = a ^ pc n V * b ^ (n - pc n V) := by
  intro n
  induction n with
  | zero => rfl
  | succ n ih =>
    have hp := pc_le V n
    show od a b n V * (if V.testBit n then a else b) = a ^ (pc n V + (if V.testBit n then 1 else 0)) * b ^ (n + 1 - (pc n V + (if V.testBit n then 1 else 0)))
    rw [ih]
    by_cases c : V.testBit n = true
    · rw [if_pos c, if_pos c, Nat.pow_succ, show n + 1 - (pc n V + 1) = n - pc n V by omega, Nat.mul_right_comm]
    · rw [if_neg c, if_neg c, Nat.add_zero, show n + 1 - pc n V = (n - pc n V) + 1 by omega, Nat.pow_succ, Nat.mul_assoc]
theorem od_cg {a b V V' : Nat} : ∀ n, (∀ i, i < n → V.testBit i = V'.testBit i) → od a b n V = od a b n V' := by
  intro n
  induction n with
  | zero => exact fun _ => rfl
  | succ n ih =>
    intro h
    show od a b n V * (if V.testBit n then a else b) = od a b n V' * (if V'.testBit n then a else b)
    rw [ih (fun i hi => h i (by omega)), h n (by omega)]
theorem od_sum (a b : Nat) : ∀ n, su (od a b n) (2 ^ n) = (a + b) ^ n := by
  intro n
  induction n with
  | zero => rfl
  | succ n ih =>
    have e1 : su (od a b (n + 1)) (2 ^ n) = su (fun V => od a b n V * b) (2 ^ n) := by
      apply su_cg
      intro i hi
      show od a b n i * (if i.testBit n then a else b) = _
      rw [if_neg (by rw [Nat.testBit_lt_two_pow hi]; decide)]
    have e2 : su (fun i => od a b (n + 1) (2 ^ n + i)) (2 ^ n) = su (fun V => od a b n V * a) (2 ^ n) := by
      apply su_cg
      intro i hi
      show od a b n (2 ^ n + i) * (if (2 ^ n + i).testBit n then a else b) = _
      rw [if_pos (by rw [Nat.testBit_two_pow_add_eq, Nat.testBit_lt_two_pow hi]; rfl), od_cg n (fun j hj => Nat.testBit_two_pow_add_gt hj i)]
    rw [show 2 ^ (n + 1) = 2 ^ n + 2 ^ n by rw [Nat.pow_succ]; omega, su_app, e1, e2, su_mul, su_mul, ih, Nat.pow_succ, Nat.mul_add]
    exact Nat.add_comm _ _
theorem pc_exb {V n : Nat} (h : V < 2 ^ n) : ∀ d, pc (n + d) V = pc n V := by
  intro d
  induction d with
  | zero => rfl
  | succ d ih =>
    show pc (n + d) V + (if V.testBit (n + d) then 1 else 0) = _
    rw [ih, if_neg (by rw [lt_bits.mp h (n + d) (by omega)]; decide), Nat.add_zero]
def cnt (P : Nat → Bool) : Nat → Nat → Nat
  | 0, _ => 0
  | S + 1, s => cnt P S s + (if P S = true ∧ pc 10 S = s then 1 else 0)
theorem cnt_le (P : Nat → Bool) (s : Nat) : ∀ S, cnt P S s ≤ S := by
  intro S
  induction S with
  | zero => exact Nat.le_refl 0
  | succ S ih =>
    show cnt P S s + (if P S = true ∧ pc 10 S = s then 1 else 0) ≤ S + 1
    split <;> omega
theorem cnt_sum (P : Nat → Bool) (a b n : Nat) : ∀ S, (∀ V, V < S → pc 10 V ≤ n) → su (fun s => cnt P S s * a ^ s * b ^ (n - s)) (n + 1) = su (fun V => if P V then a ^ pc 10 V * b ^ (n - pc 10 V) else 0) S := by
  intro S
  induction S with
  | zero =>
    intro _
    show su (fun s => 0 * a ^ s * b ^ (n - s)) (n + 1) = 0
    rw [su_cg (G := fun _ => 0) (n + 1) (fun i _ => by rw [Nat.zero_mul, Nat.zero_mul]), su_zero]
  | succ S ih =>
    intro h
    show _ = su (fun V => if P V then a ^ pc 10 V * b ^ (n - pc 10 V) else 0) S + (if P S then a ^ pc 10 S * b ^ (n - pc 10 S) else 0)
    rw [← ih (fun V hV => h V (by omega)), su_cg (G := fun s => cnt P S s * a ^ s * b ^ (n - s) + (if s = pc 10 S then (if P S then a ^ pc 10 S * b ^ (n - pc 10 S) else 0) else 0)) (n + 1), su_add, su_one, if_pos (by have := h S (by omega); omega)]
    intro s _
    show (cnt P S s + (if P S = true ∧ pc 10 S = s then 1 else 0)) * a ^ s * b ^ (n - s) = _
    rw [Nat.add_mul, Nat.add_mul]
    congr 1
    by_cases e : s = pc 10 S
    · rw [if_pos e]
      by_cases c : P S = true
      · rw [if_pos ⟨c, e.symm⟩, if_pos c, Nat.one_mul, e]
      · rw [if_neg (fun q => c q.1), if_neg c, Nat.zero_mul, Nat.zero_mul]
    · rw [if_neg e, if_neg (fun q => e q.2.symm), Nat.zero_mul, Nat.zero_mul]
theorem power_l (a v : Nat) (ha : a < 2 ^ 31) (hv : v < 100) : ∀ (d i m : Nat), i + d = v → d < m → X11_power_l5 m (nI a) (nI v) (lN (a ^ i)) (nI i) = some (lN (a ^ v)) := by
  intro d
  induction d with
  | zero =>
    intro i m hi hm
    obtain ⟨m, rfl⟩ : ∃ m', m = m' + 1 := ⟨m - 1, by omega⟩
    obtain rfl : i = v := by omega
    show X11_power_b5 _ (nI a) (nI i) (lN (a ^ i)) (nI i) = _
    unfold X11_power_b5
    rw [if_pos (nI_le (by omega) (by omega))]
  | succ d ih =>
    intro i m hi hm
    obtain ⟨m, rfl⟩ : ∃ m', m = m' + 1 := ⟨m - 1, by omega⟩
    show X11_power_b5 _ (nI a) (nI v) (lN (a ^ i)) (nI i) = _
    unfold X11_power_b5
    rw [if_neg (show ¬ nI v ≤ nI i by rw [nI_le_iff (by omega) (by omega)]; omega), lL a ha, lM, ← Nat.pow_succ, letv_eq, nI_1]
    exact ih (i + 1) m (by omega) (by omega)
theorem power_s (a v : Nat) (ha : a < 2 ^ 31) (hv : v < 100) : X11_power (nI a) (nI v) = some (lN (a ^ v)) := power_l a v ha hv v 0 FU (by omega) (by unfold FU; omega)
theorem gcd_st (x y : Nat) : Nat.gcd x y = Nat.gcd y (x % y) := by
  rw [Nat.gcd_comm x y, Nat.gcd_rec y x, Nat.gcd_comm]
theorem half_r {y r e : Nat} (h0 : 0 < r) (h1 : r < y) (hy : y < 2 ^ (e + 1)) : y % r < 2 ^ e := by
  have a := Nat.mod_lt y h0
  have b := Nat.div_add_mod y r
  have c : 1 ≤ y / r := Nat.div_pos (by omega) h0
  have d : r * 1 ≤ r * (y / r) := Nat.mul_le_mul_left r c
  rw [Nat.pow_succ] at hy
  omega
theorem gcc0 (x c m : Nat) (hx : x < 2 ^ 63) : X11_sharedDivisor_l9 (m + 1) (lN x) (lN 0) (nI c) = some (lN x) := by
  show X11_sharedDivisor_b9 _ (lN x) (lN 0) (nI c) = _
  unfold X11_sharedDivisor_b9
  rw [if_pos (show lg_cmp (lN 0) 0 ≤ 0 from (lgc (b := 0) (by omega) (by omega)).2.1.mpr (Nat.le_refl 0))]
  split <;> rfl
theorem gcc1 (x y c m : Nat) (hx : x < 2 ^ 63) (hy : y < 2 ^ 63) (hy0 : 0 < y) (hc : c < 100) : X11_sharedDivisor_l9 (m + 1) (lN x) (lN y) (nI c) = X11_sharedDivisor_l9 m (lN y) (lN (x % y)) (nI (c + 1)) := by
  show X11_sharedDivisor_b9 _ (lN x) (lN y) (nI c) = _
  unfold X11_sharedDivisor_b9
  rw [if_neg (show ¬ (100 : Int32) ≤ nI c from nI_ge (b := 100) (by omega) (by omega)), if_neg (show ¬ lg_cmp (lN y) 0 ≤ 0 from fun q => by have := (lgc (b := 0) hy (by omega)).2.1.mp q; omega), gdl_n hy0 hy, lR hx hy, letv_eq, nI_1]
theorem gcc : ∀ (e x y c m : Nat), y < 2 ^ e → x < 2 ^ 63 → y < 2 ^ 63 → 2 * e + 1 < m → 2 * e + c ≤ 100 → X11_sharedDivisor_l9 m (lN x) (lN y) (nI c) = some (lN (Nat.gcd x y)) := by
  intro e
  induction e with
  | zero =>
    intro x y c m hy hx hy2 hm hc
    obtain ⟨m, rfl⟩ : ∃ m', m = m' + 1 := ⟨m - 1, by omega⟩
    obtain rfl : y = 0 := by omega
    rw [gcc0 x c m hx, Nat.gcd_zero_right]
  | succ e ih =>
    intro x y c m hy hx hy2 hm hc
    obtain ⟨m, rfl⟩ : ∃ m', m = m' + 2 := ⟨m - 2, by omega⟩
    by_cases z : y = 0
    · subst z
      rw [gcc0 x c (m + 1) hx, Nat.gcd_zero_right]
    · have hr : x % y < y := Nat.mod_lt x (by omega)
      rw [gcc1 x y c (m + 1) hx hy2 (by omega) (by omega), gcd_st]
      by_cases z2 : x % y = 0
      · rw [z2, gcc0 y (c + 1) m hy2, Nat.gcd_zero_right]
      · have h3 := half_r (e := e) (Nat.pos_of_ne_zero z2) hr hy
        rw [gcc1 y (x % y) (c + 1) m hy2 (by omega) (by omega) (by omega), gcd_st]
        have h4 : y % (x % y) < x % y := Nat.mod_lt y (by omega)
        exact ih (x % y) (y % (x % y)) (c + 1 + 1) m h3 (by omega) (by omega) (by omega) (by omega)
theorem gcm0 (v3 : Int32) (A T : Int64) (x m : Nat) (hx : x < 2 ^ 63) (hx0 : 0 < x) (σ : Mem) : X12_lost_l203 (m + 1) v3 A T (lN x) (lN 0) σ = if v3 = 0 then some (A / lN x, σ) else some (T / lN x, σ) := by
  show X12_lost_b203 _ v3 A T (lN x) (lN 0) σ = _
  unfold X12_lost_b203
  rw [if_pos (show lg_cmp (lN 0) 0 = 0 from (lgc (b := 0) (by omega) (by omega)).1.mpr rfl), gdl_n hx0 hx, gdl_n hx0 hx]
theorem gcm1 (v3 : Int32) (A T : Int64) (x y m : Nat) (hx : x < 2 ^ 63) (hy : y < 2 ^ 63) (hy0 : 0 < y) (σ : Mem) : X12_lost_l203 (m + 1) v3 A T (lN x) (lN y) σ = X12_lost_l203 m v3 A T (lN y) (lN (x % y)) σ := by
  show X12_lost_b203 _ v3 A T (lN x) (lN y) σ = _
  unfold X12_lost_b203
  rw [if_neg (show ¬ lg_cmp (lN y) 0 = 0 from fun q => by have := (lgc (b := 0) hy (by omega)).1.mp q; omega), gdl_n hy0 hy, lR hx hy, letv_eq]
theorem gcm (v3 : Int32) (A T : Int64) (σ : Mem) : ∀ (e x y m : Nat), y < 2 ^ e → x < 2 ^ 63 → y < 2 ^ 63 → 0 < Nat.gcd x y → 2 * e + 1 < m → X12_lost_l203 m v3 A T (lN x) (lN y) σ = if v3 = 0 then some (A / lN (Nat.gcd x y), σ) else some (T / lN (Nat.gcd x y), σ) := by
  intro e
  induction e with
  | zero =>
    intro x y m hy hx hy2 hg hm
    obtain ⟨m, rfl⟩ : ∃ m', m = m' + 1 := ⟨m - 1, by omega⟩
    obtain rfl : y = 0 := by omega
    rw [Nat.gcd_zero_right] at hg ⊢
    exact gcm0 v3 A T x m hx hg σ
  | succ e ih =>
    intro x y m hy hx hy2 hg hm
    obtain ⟨m, rfl⟩ : ∃ m', m = m' + 2 := ⟨m - 2, by omega⟩
    by_cases z : y = 0
    · subst z
      rw [Nat.gcd_zero_right] at hg ⊢
      exact gcm0 v3 A T x (m + 1) hx hg σ
    · have hr : x % y < y := Nat.mod_lt x (by omega)
      rw [gcd_st] at hg ⊢
      rw [gcm1 v3 A T x y (m + 1) hx hy2 (by omega) σ]
      by_cases z2 : x % y = 0
      · rw [z2] at hg ⊢
        rw [Nat.gcd_zero_right] at hg ⊢
        exact gcm0 v3 A T y m hy2 hg σ
      · have h3 := half_r (e := e) (Nat.pos_of_ne_zero z2) hr hy
        rw [gcd_st] at hg ⊢
        rw [gcm1 v3 A T y (x % y) m hy2 (by omega) (by omega) σ]
        have h4 : y % (x % y) < x % y := Nat.mod_lt y (by omega)
        exact ih (x % y) (y % (x % y)) m h3 (by omega) (by omega) hg (by omega)
