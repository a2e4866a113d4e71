/-! PURE: the bits of a long number. -/
theorem lN_bv (a : Nat) : (lN a).toBitVec = BitVec.ofNat 64 a := rfl
theorem lN_and (a b : Nat) : lN a &&& lN b = lN (a &&& b) := by
  rw [← Int64.toBitVec_inj, Int64.toBitVec_and, lN_bv, lN_bv, lN_bv]
  apply BitVec.eq_of_getLsbD_eq
  intro i hi
  simp only [BitVec.getLsbD_and, BitVec.getLsbD_ofNat, Nat.testBit_and]
  simp [hi]
theorem lN_or (a b : Nat) : lN a ||| lN b = lN (a ||| b) := by
  rw [← Int64.toBitVec_inj, Int64.toBitVec_or, lN_bv, lN_bv, lN_bv]
  apply BitVec.eq_of_getLsbD_eq
  intro i hi
  simp only [BitVec.getLsbD_or, BitVec.getLsbD_ofNat, Nat.testBit_or]
  simp [hi]
theorem lsh_1 : ∀ l : Nat, l < 62 → lshl 1 (nI l) = lN (2 ^ l) := by decide +kernel
theorem lus_c : ∀ k : Nat, k < 64 → ((nI k).toInt64.toUInt64 &&& Int64.toUInt64 63) = UInt64.ofNat k := by decide +kernel
theorem lus {x k : Nat} (hx : x < 2 ^ 63) (hk : k < 64) : lushr (lN x) (nI k) = lN (x / 2 ^ k) := by
  show ((lN x).toUInt64 >>> ((nI k).toInt64.toUInt64 &&& Int64.toUInt64 63)).toInt64 = _
  rw [lus_c k hk, ← Int64.toBitVec_inj]
  show ((lN x).toUInt64 >>> UInt64.ofNat k).toBitVec = BitVec.ofNat 64 (x / 2 ^ k)
  apply BitVec.eq_of_toNat_eq
  show ((lN x).toUInt64 >>> UInt64.ofNat k).toNat = _
  have e1 : (lN x).toUInt64.toNat = x := by
    show (BitVec.ofNat 64 x).toNat = x
    rw [BitVec.toNat_ofNat, Nat.mod_eq_of_lt (by omega)]
  have := Nat.div_le_self x (2 ^ k)
  rw [UInt64.toNat_shiftRight, e1, UInt64.toNat_ofNat', BitVec.toNat_ofNat, Nat.mod_eq_of_lt (show k < 2 ^ 64 by omega), Nat.mod_eq_of_lt hk, Nat.shiftRight_eq_div_pow, Nat.mod_eq_of_lt (by omega)]
/-- a shift and a mask, byte by byte -/
theorem bsh {y b m c s : Nat} (hb : b < 256) (hs : s ≤ 8) (hc : c < 2 ^ (8 - s)) : ((256 * y + b) / 2 ^ s) &&& (256 * m + c) = 256 * ((y / 2 ^ s) &&& m) + ((b / 2 ^ s) &&& c) := by
  have hc8 : c < 2 ^ 8 := Nat.lt_of_lt_of_le hc (Nat.pow_le_pow_right (by omega) (by omega))
  have hb8 : b < 2 ^ 8 := hb
  have hbc : (b / 2 ^ s) &&& c < 2 ^ 8 := Nat.lt_of_le_of_lt Nat.and_le_right hc8
  apply Nat.eq_of_testBit_eq
  intro i
  rw [Nat.testBit_and, Nat.testBit_div_two_pow, show 256 = 2 ^ 8 from rfl, Nat.testBit_two_pow_mul_add _ hb8, Nat.testBit_two_pow_mul_add _ hc8, Nat.testBit_two_pow_mul_add _ hbc]
  by_cases d : i < 8
  · rw [if_pos d, if_pos d, Nat.testBit_and, Nat.testBit_div_two_pow]
    by_cases e : s + i < 8
    · rw [if_pos (by omega), Nat.add_comm i s]
    · have : c.testBit i = false := Nat.testBit_lt_two_pow (Nat.lt_of_lt_of_le hc (Nat.pow_le_pow_right (by omega) (by omega)))
      rw [this, Bool.and_false, Bool.and_false]
  · rw [if_neg d, if_neg d, if_neg (by omega), Nat.testBit_and, Nat.testBit_div_two_pow]
    congr 2
    omega
def s1 (m x : Nat) : Nat := x - (x / 2 &&& m)
def s2 (m x : Nat) : Nat := (x &&& m) + (x / 4 &&& m)
def s3 (m x : Nat) : Nat := (x + x / 16) &&& m
theorem s1_b {y b m : Nat} (hb : b < 256) : s1 (256 * m + 85) (256 * y + b) = 256 * s1 m y + s1 85 b := by
  unfold s1
  have h := bsh (y := y) (m := m) (c := 85) (s := 1) hb (by omega) (by decide)
  rw [Nat.pow_one] at h
  rw [h]
  have h1 : (y / 2 &&& m) ≤ y := Nat.le_trans Nat.and_le_left (Nat.div_le_self _ _)
  have h2 : (b / 2 &&& 85) ≤ b := Nat.le_trans Nat.and_le_left (Nat.div_le_self _ _)
  omega
theorem s2_b {y b m : Nat} (hb : b < 256) : s2 (256 * m + 51) (256 * y + b) = 256 * s2 m y + s2 51 b := by
  unfold s2
  have h := bsh (y := y) (m := m) (c := 51) (s := 2) hb (by omega) (by decide)
  have h0 := bsh (y := y) (m := m) (c := 51) (s := 0) hb (by omega) (by decide)
  rw [show 2 ^ 2 = 4 from rfl] at h
  rw [Nat.pow_zero, Nat.div_one, Nat.div_one, Nat.div_one] at h0
  rw [h, h0]
  omega
theorem s3_b {y b m : Nat} (hb : b ≤ 68) (hy : y % 16 ≤ 4) : s3 (256 * m + 15) (256 * y + b) = 256 * s3 m y + s3 15 b := by
  unfold s3
  have e : 256 * y + b + (256 * y + b) / 16 = 256 * (y + y / 16) + (b + b / 16 + 16 * (y % 16)) := by omega
  have h0 := bsh (y := y + y / 16) (b := b + b / 16 + 16 * (y % 16)) (m := m) (c := 15) (s := 0) (by omega) (by omega) (by decide)
  rw [Nat.pow_zero, Nat.div_one, Nat.div_one, Nat.div_one] at h0
  rw [e, h0]
  congr 1
  rw [show 15 = 2 ^ 4 - 1 from rfl, Nat.and_two_pow_sub_one_eq_mod, Nat.and_two_pow_sub_one_eq_mod]
  omega
def q8 (b : Nat) : Nat := s2 51 (s1 85 b)
theorem byte_f : ∀ b : Nat, b < 256 → s1 85 b < 256 ∧ q8 b ≤ 68 ∧ q8 b % 16 ≤ 4 ∧ s3 15 (q8 b) = pc 8 b := by decide +kernel
theorem pc_by {n y b : Nat} (hb : b < 256) : pc (8 + n) (256 * y + b) = pc 8 b + pc n y := by
  induction n with
  | zero =>
    rw [Nat.add_zero, show pc 0 y = 0 from rfl, Nat.add_zero]
    refine pc_cg 8 (fun i hi => ?_)
    rw [show 256 = 2 ^ 8 from rfl, Nat.testBit_two_pow_mul_add _ (show b < 2 ^ 8 from hb), if_pos hi]
  | succ n ih =>
    show pc (8 + n) (256 * y + b) + (if (256 * y + b).testBit (8 + n) then 1 else 0) = pc 8 b + (pc n y + (if y.testBit n then 1 else 0))
    have e : (256 * y + b).testBit (8 + n) = y.testBit n := by
      rw [show 256 = 2 ^ 8 from rfl, Nat.testBit_two_pow_mul_add _ (show b < 2 ^ 8 from hb), if_neg (show ¬ 8 + n < 8 by omega), show 8 + n - 8 = n by omega]
    rw [ih, e]
    omega
/-- one byte through all three steps -/
theorem by3 {y b m1 m2 m3 : Nat} (hb : b < 256) (hy : s2 m2 (s1 m1 y) % 16 ≤ 4) : s2 (256 * m2 + 51) (s1 (256 * m1 + 85) (256 * y + b)) = 256 * s2 m2 (s1 m1 y) + q8 b ∧ s3 (256 * m3 + 15) (256 * s2 m2 (s1 m1 y) + q8 b) = 256 * s3 m3 (s2 m2 (s1 m1 y)) + pc 8 b := by
  obtain ⟨f1, f2, f3, f4⟩ := byte_f b hb
  refine ⟨?_, ?_⟩
  · rw [s1_b hb, s2_b f1]
    rfl
  · rw [s3_b f2 hy, f4]
/-- the bits of k bytes, counted byte by byte -/
def mk8 (c : Nat) : Nat → Nat
  | 0 => 0
  | k + 1 => 256 * mk8 c k + c
def cb : Nat → Nat → Nat
  | 0, _ => 0
  | k + 1, x => 256 * cb k (x / 256) + pc 8 (x % 256)
theorem all3 : ∀ (k x : Nat), x < 256 ^ k → s2 (mk8 51 k) (s1 (mk8 85 k) x) % 16 ≤ 4 ∧ s3 (mk8 15 k) (s2 (mk8 51 k) (s1 (mk8 85 k) x)) = cb k x := by
  intro k
  induction k with
  | zero =>
    intro x hx
    have : x = 0 := by
      rw [Nat.pow_zero] at hx
      omega
    subst this
    exact ⟨by decide, by decide⟩
  | succ k ih =>
    intro x hx
    have hb : x % 256 < 256 := Nat.mod_lt _ (by omega)
    have hy : x / 256 < 256 ^ k := by
      rw [Nat.pow_succ] at hx
      exact Nat.div_lt_of_lt_mul (by rw [Nat.mul_comm]; exact hx)
    obtain ⟨i1, i2⟩ := ih (x / 256) hy
    obtain ⟨a1, a2⟩ := by3 (m1 := mk8 85 k) (m2 := mk8 51 k) (m3 := mk8 15 k) hb i1
    have hx' : 256 * (x / 256) + x % 256 = x := Nat.div_add_mod x 256
    rw [hx'] at a1
    obtain ⟨_, f2, f3, _⟩ := byte_f (x % 256) hb
    show s2 (256 * mk8 51 k + 51) (s1 (256 * mk8 85 k + 85) x) % 16 ≤ 4 ∧ s3 (256 * mk8 15 k + 15) (s2 (256 * mk8 51 k + 51) (s1 (256 * mk8 85 k + 85) x)) = 256 * cb k (x / 256) + pc 8 (x % 256)
    rw [a1]
    exact ⟨by omega, by rw [a2, i2]⟩
theorem pc_cb : ∀ (k x : Nat), pc (8 * (k + 1)) x = pc 8 (x % 256) + pc (8 * k) (x / 256) := by
  intro k x
  have := pc_by (n := 8 * k) (y := x / 256) (b := x % 256) (Nat.mod_lt _ (by omega))
  rw [Nat.div_add_mod] at this
  rw [show 8 * (k + 1) = 8 + 8 * k by omega]
  exact this
theorem cb_sum (x : Nat) : ∃ c0 c1 c2 c3 c4 c5 c6 c7 : Nat, c0 ≤ 8 ∧ c1 ≤ 8 ∧ c2 ≤ 8 ∧ c3 ≤ 8 ∧ c4 ≤ 8 ∧ c5 ≤ 8 ∧ c6 ≤ 8 ∧ c7 ≤ 8 ∧ cb 8 x = c0 + 256 * c1 + 65536 * c2 + 16777216 * c3 + 4294967296 * c4 + 1099511627776 * c5 + 281474976710656 * c6 + 72057594037927936 * c7 ∧ pc 64 x = c0 + c1 + c2 + c3 + c4 + c5 + c6 + c7 := by
  refine ⟨_, _, _, _, _, _, _, _, pc_le (x % 256) 8, pc_le (x / 256 % 256) 8, pc_le (x / 256 / 256 % 256) 8, pc_le (x / 256 / 256 / 256 % 256) 8, pc_le (x / 256 / 256 / 256 / 256 % 256) 8, pc_le (x / 256 / 256 / 256 / 256 / 256 % 256) 8, pc_le (x / 256 / 256 / 256 / 256 / 256 / 256 % 256) 8, pc_le (x / 256 / 256 / 256 / 256 / 256 / 256 / 256 % 256) 8, ?_, ?_⟩
  · simp only [cb]
    omega
  · rw [show 64 = 8 * (7 + 1) from rfl, pc_cb, show 8 * 7 = 8 * (6 + 1) from rfl, pc_cb, show 8 * 6 = 8 * (5 + 1) from rfl, pc_cb, show 8 * 5 = 8 * (4 + 1) from rfl, pc_cb, show 8 * 4 = 8 * (3 + 1) from rfl, pc_cb, show 8 * 3 = 8 * (2 + 1) from rfl, pc_cb, show 8 * 2 = 8 * (1 + 1) from rfl, pc_cb, show 8 * 1 = 8 * (0 + 1) from rfl, pc_cb, show pc (8 * 0) _ = 0 from rfl]
    omega
/-- the bytes' counts gathered -/
theorem gat {k P A r : Nat} {K : Int32} (hK : K = nI k) (hP : P = 2 ^ k) (hA : A < P) (h : A + P * r < 2 ^ 63) (hk : k < 63) : lN (A + P * r) + lushr (lN (A + P * r)) K = lN (A + P * r + r) := by
  subst hK
  subst hP
  rw [lus h (by omega), lA, Nat.add_mul_div_left _ _ (Nat.two_pow_pos k), Nat.div_eq_of_lt hA, Nat.zero_add]
theorem gw0 {c0 c1 c2 c3 c4 c5 c6 c7 r1 r2 r3 r4 r5 r6 : Nat} (h1 : r1 = c1 + 256 * r2) (h2 : r2 = c2 + 256 * r3) (h3 : r3 = c3 + 256 * r4) (h4 : r4 = c4 + 256 * r5) (h5 : r5 = c5 + 256 * r6) (h6 : r6 = c6 + 256 * c7) : c0 + 256 * c1 + 65536 * c2 + 16777216 * c3 + 4294967296 * c4 + 1099511627776 * c5 + 281474976710656 * c6 + 72057594037927936 * c7 = c0 + 256 * r1 := by omega
theorem gw1 {c0 c1 c2 r1 r2 r3 : Nat} (h1 : r1 = c1 + 256 * r2) (h2 : r2 = c2 + 256 * r3) : c0 + 256 * r1 + r1 = (c0 + c1 + 256 * (c1 + c2)) + 65536 * (r2 + r3) := by omega
theorem gw2 {A c2 c3 c4 c5 c6 c7 r2 r3 r4 r5 r6 : Nat} (h2 : r2 = c2 + 256 * r3) (h3 : r3 = c3 + 256 * r4) (h4 : r4 = c4 + 256 * r5) (h5 : r5 = c5 + 256 * r6) (h6 : r6 = c6 + 256 * c7) : A + 65536 * (r2 + r3) + (r2 + r3) = (A + (c2 + c3) + 256 * (c3 + c4) + 65536 * (c2 + c3 + c4 + c5) + 16777216 * (c3 + c4 + c5 + c6)) + 4294967296 * (r4 + r5 + r6 + c7) := by omega
theorem gw3 {B c4 c5 c6 c7 r4 r5 r6 : Nat} (h4 : r4 = c4 + 256 * r5) (h5 : r5 = c5 + 256 * r6) (h6 : r6 = c6 + 256 * c7) : B + 4294967296 * (r4 + r5 + r6 + c7) + (r4 + r5 + r6 + c7) = B + (c4 + c5 + c6 + c7) + 128 * (33554432 * (r4 + r5 + r6 + c7) + 2 * (r5 + r6 + c7)) := by omega
theorem gw4 {c0 c1 c2 c3 c4 c5 c6 c7 t : Nat} : (c0 + c1 + 256 * (c1 + c2) + (c2 + c3) + 256 * (c3 + c4) + 65536 * (c2 + c3 + c4 + c5) + 16777216 * (c3 + c4 + c5 + c6)) + (c4 + c5 + c6 + c7) + 128 * t = c0 + c1 + c2 + c3 + c4 + c5 + c6 + c7 + 128 * (2 * (c1 + c2 + c3 + c4) + 512 * (c2 + c3 + c4 + c5) + 131072 * (c3 + c4 + c5 + c6) + t) := by omega
theorem gl6 {c r c' : Nat} (b : c ≤ 8) (l : c' ≤ 8) (h : r = c + 256 * c') : r ≤ 2056 := by omega
theorem gl5 {c r c' : Nat} (b : c ≤ 8) (l : c' ≤ 2056) (h : r = c + 256 * c') : r ≤ 526344 := by omega
theorem gl4 {c r c' : Nat} (b : c ≤ 8) (l : c' ≤ 526344) (h : r = c + 256 * c') : r ≤ 134744072 := by omega
theorem gl3 {c r c' : Nat} (b : c ≤ 8) (l : c' ≤ 134744072) (h : r = c + 256 * c') : r ≤ 34494482440 := by omega
theorem gl2 {c r c' : Nat} (b : c ≤ 8) (l : c' ≤ 34494482440) (h : r = c + 256 * c') : r ≤ 8830587504648 := by omega
theorem gl1 {c r c' : Nat} (b : c ≤ 8) (l : c' ≤ 8830587504648) (h : r = c + 256 * c') : r ≤ 2260630401189896 := by omega
theorem ga1 {c0 r1 : Nat} (b : c0 ≤ 8) (l : r1 ≤ 2260630401189896) : c0 + 256 * r1 < 9223372036854775808 := by omega
theorem ga2 {c0 c1 c2 : Nat} (b0 : c0 ≤ 8) (b1 : c1 ≤ 8) (b2 : c2 ≤ 8) : c0 + c1 + 256 * (c1 + c2) < 65536 := by omega
theorem ga3 {A r2 r3 : Nat} (a : A < 65536) (l2 : r2 ≤ 8830587504648) (l3 : r3 ≤ 34494482440) : A + 65536 * (r2 + r3) < 9223372036854775808 := by omega
theorem ga4 {c0 c1 c2 c3 c4 c5 c6 : Nat} (b0 : c0 ≤ 8) (b1 : c1 ≤ 8) (b2 : c2 ≤ 8) (b3 : c3 ≤ 8) (b4 : c4 ≤ 8) (b5 : c5 ≤ 8) (b6 : c6 ≤ 8) : c0 + c1 + 256 * (c1 + c2) + (c2 + c3) + 256 * (c3 + c4) + 65536 * (c2 + c3 + c4 + c5) + 16777216 * (c3 + c4 + c5 + c6) < 4294967296 := by omega
theorem ga5 {A r4 r5 r6 c7 : Nat} (a : A < 4294967296) (l4 : r4 ≤ 134744072) (l5 : r5 ≤ 526344) (l6 : r6 ≤ 2056) (b : c7 ≤ 8) : A + 4294967296 * (r4 + r5 + r6 + c7) < 9223372036854775808 := by omega
theorem ga6 {c0 c1 c2 c3 c4 c5 c6 c7 : Nat} (b0 : c0 ≤ 8) (b1 : c1 ≤ 8) (b2 : c2 ≤ 8) (b3 : c3 ≤ 8) (b4 : c4 ≤ 8) (b5 : c5 ≤ 8) (b6 : c6 ≤ 8) (b7 : c7 ≤ 8) : c0 + c1 + c2 + c3 + c4 + c5 + c6 + c7 < 128 := by omega
def tl (v : Int64) : Int32 := letv (v + (lushr v 8)) (fun x4 => letv (x4 + (lushr x4 16)) (fun x5 => letv (x5 + (lushr x5 32)) (fun x6 => (Int64.toInt32 x6) &&& 127)))
theorem tl_s {c0 c1 c2 c3 c4 c5 c6 c7 : Nat} (b0 : c0 ≤ 8) (b1 : c1 ≤ 8) (b2 : c2 ≤ 8) (b3 : c3 ≤ 8) (b4 : c4 ≤ 8) (b5 : c5 ≤ 8) (b6 : c6 ≤ 8) (b7 : c7 ≤ 8) : tl (lN (c0 + 256 * c1 + 65536 * c2 + 16777216 * c3 + 4294967296 * c4 + 1099511627776 * c5 + 281474976710656 * c6 + 72057594037927936 * c7)) = nI (c0 + c1 + c2 + c3 + c4 + c5 + c6 + c7) := by
  obtain ⟨r6, h6⟩ : ∃ r, r = c6 + 256 * c7 := ⟨_, rfl⟩
  obtain ⟨r5, h5⟩ : ∃ r, r = c5 + 256 * r6 := ⟨_, rfl⟩
  obtain ⟨r4, h4⟩ : ∃ r, r = c4 + 256 * r5 := ⟨_, rfl⟩
  obtain ⟨r3, h3⟩ : ∃ r, r = c3 + 256 * r4 := ⟨_, rfl⟩
  obtain ⟨r2, h2⟩ : ∃ r, r = c2 + 256 * r3 := ⟨_, rfl⟩
  obtain ⟨r1, h1⟩ : ∃ r, r = c1 + 256 * r2 := ⟨_, rfl⟩
  have l6 : r6 ≤ 2056 := gl6 b6 b7 h6
  have l5 : r5 ≤ 526344 := gl5 b5 l6 h5
  have l4 : r4 ≤ 134744072 := gl4 b4 l5 h4
  have l3 : r3 ≤ 34494482440 := gl3 b3 l4 h3
  have l2 : r2 ≤ 8830587504648 := gl2 b2 l3 h2
  have l1 : r1 ≤ 2260630401189896 := gl1 b1 l2 h1
  rw [gw0 h1 h2 h3 h4 h5 h6]
  have a1 := ga1 b0 l1
  have a2 := ga2 b0 b1 b2
  have a3 := ga3 a2 l2 l3
  have a4 := ga4 b0 b1 b2 b3 b4 b5 b6
  have a5 := ga5 a4 l4 l5 l6 b7
  have a6 := ga6 b0 b1 b2 b3 b4 b5 b6 b7
  unfold tl
  rw [gat (k := 8) (P := 256) (K := 8) rfl rfl (Nat.lt_of_le_of_lt b0 (by decide)) a1 (by decide), letv_eq, gw1 h1 h2, gat (k := 16) (P := 65536) (K := 16) rfl rfl a2 a3 (by decide), letv_eq, gw2 h2 h3 h4 h5 h6, gat (k := 32) (P := 4294967296) (K := 32) rfl (by decide) a4 a5 (by decide), letv_eq, gw3 h4 h5 h6, gw4, lI, show (127 : Int32) = nI 127 from rfl, nI_and]
  generalize 2 * (c1 + c2 + c3 + c4) + 512 * (c2 + c3 + c4 + c5) + 131072 * (c3 + c4 + c5 + c6) + (33554432 * (r4 + r5 + r6 + c7) + 2 * (r5 + r6 + c7)) = T
  generalize c0 + c1 + c2 + c3 + c4 + c5 + c6 + c7 = C at a6
  rw [show 127 = 2 ^ 7 - 1 from rfl, Nat.and_two_pow_sub_one_eq_mod, show 2 ^ 7 = 128 from rfl, Nat.add_mul_mod_self_left, Nat.mod_eq_of_lt a6]
theorem bst1 {x m : Nat} {K : Int32} {M : Int64} (hx : x < 2 ^ 63) (hK : K = nI 1) (hM : M = lN m) : lN x - (lushr (lN x) K &&& M) = lN (s1 m x) ∧ s1 m x < 2 ^ 63 := by
  subst hK
  subst hM
  have hA : (x / 2 &&& m) ≤ x := Nat.le_trans Nat.and_le_left (Nat.div_le_self _ _)
  have u := lus (k := 1) hx (by omega)
  rw [Nat.pow_one] at u
  unfold s1
  rw [u, lN_and, lS hA]
  generalize (x / 2 &&& m) = t at hA
  exact ⟨rfl, by omega⟩
theorem bst2 {y m : Nat} {K : Int32} {M : Int64} (hy : y < 2 ^ 63) (hm : m < 2 ^ 62) (hK : K = nI 2) (hM : M = lN m) : (lN y &&& M) + (lushr (lN y) K &&& M) = lN (s2 m y) ∧ s2 m y < 2 ^ 63 := by
  subst hK
  subst hM
  have m1 : (y &&& m) ≤ m := Nat.and_le_right
  have m2 : (y / 4 &&& m) ≤ m := Nat.and_le_right
  have u := lus (k := 2) hy (by omega)
  rw [show 2 ^ 2 = 4 from rfl] at u
  unfold s2
  rw [u, lN_and, lN_and, lA]
  generalize (y / 4 &&& m) = t at m2
  generalize (y &&& m) = t' at m1
  exact ⟨rfl, by omega⟩
theorem bst3 {z m : Nat} {K : Int32} {M : Int64} (hz : z < 2 ^ 63) (hK : K = nI 4) (hM : M = lN m) : (lN z + lushr (lN z) K) &&& M = lN (s3 m z) := by
  subst hK
  subst hM
  have u := lus (k := 4) hz (by omega)
  rw [show 2 ^ 4 = 16 from rfl] at u
  unfold s3
  rw [u, lA, lN_and]
theorem bitl_s {x : Nat} (hx : x < 2 ^ 63) : J13_bitCount_95d88 (lN x) = nI (pc 64 x) := by
  have h8 : x < 256 ^ 8 := by
    have : (256 : Nat) ^ 8 = 2 ^ 64 := by decide
    omega
  obtain ⟨_, g2⟩ := all3 8 x h8
  obtain ⟨d1, d2⟩ := bst1 (m := mk8 85 8) (K := 1) (M := 6148914691236517205) hx rfl (by decide)
  obtain ⟨d3, d4⟩ := bst2 (m := mk8 51 8) (K := 2) (M := 3689348814741910323) d2 (by decide) rfl (by decide)
  have d5 := bst3 (m := mk8 15 8) (K := 4) (M := 1085102592571150095) d4 rfl (by decide)
  obtain ⟨c0, c1, c2, c3, c4, c5, c6, c7, b0, b1, b2, b3, b4, b5, b6, b7, e1, e2⟩ := cb_sum x
  have un : J13_bitCount_95d88 (lN x) = tl (((lN x - (lushr (lN x) 1 &&& 6148914691236517205) &&& 3689348814741910323) + (lushr (lN x - (lushr (lN x) 1 &&& 6148914691236517205)) 2 &&& 3689348814741910323) + lushr ((lN x - (lushr (lN x) 1 &&& 6148914691236517205) &&& 3689348814741910323) + (lushr (lN x - (lushr (lN x) 1 &&& 6148914691236517205)) 2 &&& 3689348814741910323)) 4) &&& 1085102592571150095) := by
    unfold J13_bitCount_95d88 J13_bitCount_95d88_b0
    rw [letv_eq, letv_eq, letv_eq]
    rfl
  rw [un, d1, d3, d5, g2, e1, e2]
  exact tl_s b0 b1 b2 b3 b4 b5 b6 b7
theorem low_c : ∀ j : Nat, j < 32 → (let x1 := nI (2 ^ j - 1); if 0 < x1 then (if x1 ≤ 65536 then J6_numberOfTrailingZeros_0f7a4_b34 x1 1 else letv (ushr x1 16) (fun x4 => J6_numberOfTrailingZeros_0f7a4_b34 x4 (1 + 16))) else x1 &&& 32) = nI j := by decide +kernel
theorem ntz_s {m j : Nat} (h : isLow m j) (hj : j < 32) : J6_numberOfTrailingZeros_0f7a4 (nI m) = nI j := by
  have hm : 1 ≤ m := by
    rcases Nat.eq_zero_or_pos m with e | e
    · have := h.1
      rw [e, Nat.zero_testBit] at this
      exact absurd this (by decide)
    · exact e
  unfold J6_numberOfTrailingZeros_0f7a4 J6_numberOfTrailingZeros_0f7a4_b0
  have e : (nI m ^^^ (-1)) &&& (nI m - 1) = nI (2 ^ j - 1) := by
    rw [nI_p1 hm, show (nI m ^^^ (-1)) &&& nI (m - 1) = nI (m - 1) &&& (nI m ^^^ (-1)) from Int32.and_comm _ _, nI_andn]
    congr 1
    apply Nat.eq_of_testBit_eq
    intro i
    rw [andn_bit, pred_bit j m h i, Nat.testBit_two_pow_sub_one]
    by_cases d : i < j
    · rw [if_pos d, h.2 i d, decide_eq_true d]
      rfl
    · rw [if_neg d, decide_eq_false d]
      by_cases d2 : i = j
      · rw [if_pos d2]
        rfl
      · rw [if_neg d2]
        cases m.testBit i <;> rfl
  rw [e, letv_eq]
  exact low_c j hj
theorem ntzl_s {m j : Nat} (h : isLow m j) (hm : m < 2 ^ 63) : J13_numberOfTrailingZeros_95d88 (lN m) = nI j := by
  have hj : j < 63 := by
    rcases Nat.lt_or_ge j 63 with e | e
    · exact e
    · have := Nat.testBit_lt_two_pow (Nat.lt_of_lt_of_le hm (Nat.pow_le_pow_right (n := 2) (by omega) e))
      rw [h.1] at this
      exact absurd this (by decide)
  unfold J13_numberOfTrailingZeros_95d88 J13_numberOfTrailingZeros_95d88_b0
  rw [letv_eq, lI]
  by_cases d : j < 32
  · rw [if_neg, ntz_s h d]
    intro q
    have := congrArg (fun v : Int32 => v.toBitVec.getLsbD j) q
    rw [show (nI m).toBitVec.getLsbD j = _ from by rw [nI_bv, BitVec.getLsbD_ofNat, h.1, decide_eq_true d]] at this
    rw [show (0 : Int32).toBitVec.getLsbD j = false from by
      show (BitVec.ofNat 32 0).getLsbD j = false
      rw [BitVec.getLsbD_ofNat, Nat.zero_testBit, Bool.and_false]] at this
    exact absurd this (by decide)
  · have hl : isLow (m / 2 ^ 32) (j - 32) := ⟨by rw [Nat.testBit_div_two_pow, show j - 32 + 32 = j by omega]; exact h.1, fun i hi => by rw [Nat.testBit_div_two_pow]; exact h.2 _ (by omega)⟩
    rw [if_pos, show lushr (lN m) 32 = lN (m / 2 ^ 32) from lus (k := 32) hm (by omega), lI, ntz_s hl (by omega), show (32 : Int32) = nI 32 from rfl, nI_add, show 32 + (j - 32) = j by omega]
    rw [← Int32.toBitVec_inj, nI_bv]
    apply BitVec.eq_of_getLsbD_eq
    intro i hi
    rw [BitVec.getLsbD_ofNat, h.2 i (by omega), Bool.and_false]
    show false = (BitVec.ofNat 32 0).getLsbD i
    rw [BitVec.getLsbD_ofNat, Nat.zero_testBit, Bool.and_false]
