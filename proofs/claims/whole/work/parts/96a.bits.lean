/-! PURE: bits. -/
theorem nI_bv (a : Nat) : (nI a).toBitVec = BitVec.ofNat 32 a := rfl
theorem nI_and (a b : Nat) : nI a &&& nI b = nI (a &&& b) := by
  rw [← Int32.toBitVec_inj, Int32.toBitVec_and, nI_bv, nI_bv, nI_bv]
  apply BitVec.eq_of_getLsbD_eq
  intro i hi
  simp only [BitVec.getLsbD_and, BitVec.getLsbD_ofNat, Nat.testBit_and]
  simp [hi]
theorem nI_or (a b : Nat) : nI a ||| nI b = nI (a ||| b) := by
  rw [← Int32.toBitVec_inj, Int32.toBitVec_or, nI_bv, nI_bv, nI_bv]
  apply BitVec.eq_of_getLsbD_eq
  intro i hi
  simp only [BitVec.getLsbD_or, BitVec.getLsbD_ofNat, Nat.testBit_or]
  simp [hi]
def andn (a b : Nat) : Nat := a ^^^ (a &&& b)
theorem andn_bit (a b i : Nat) : (andn a b).testBit i = (a.testBit i && !b.testBit i) := by
  unfold andn
  rw [Nat.testBit_xor, Nat.testBit_and]
  cases a.testBit i <;> cases b.testBit i <;> rfl
theorem nI_andn (a b : Nat) : nI a &&& (nI b ^^^ (-1)) = nI (andn a b) := by
  rw [← Int32.toBitVec_inj, Int32.toBitVec_and, Int32.toBitVec_xor, nI_bv, nI_bv, nI_bv]
  apply BitVec.eq_of_getLsbD_eq
  intro i hi
  have h1 : (Int32.toBitVec (-1)) = BitVec.allOnes 32 := by decide
  simp only [BitVec.getLsbD_and, BitVec.getLsbD_xor, h1, BitVec.getLsbD_ofNat, andn_bit, BitVec.getLsbD_allOnes]
  simp [hi]
theorem and31 {p : Nat} (h : p < 32) : nI p &&& 31 = nI p := by
  rw [show (31 : Int32) = nI 31 from rfl, nI_and]
  congr 1
  rw [show 31 = 2 ^ 5 - 1 from rfl, Nat.and_two_pow_sub_one_eq_mod]
  omega
theorem shl_1 : ∀ p : Nat, p < 31 → shl 1 (nI p) = nI (2 ^ p) := by decide
theorem shr_n {m p : Nat} (hm : m < 2 ^ 31) (hp : p < 31) : shr (nI m) (nI p) = nI (m / 2 ^ p) := by
  show nI m >>> (nI p &&& 31) = _
  rw [and31 (by omega), ← Int32.toBitVec_inj, Int32.toBitVec_shiftRight, nI_bv, nI_bv, nI_bv]
  have e : BitVec.smod (BitVec.ofNat 32 p) 32 = BitVec.ofNat 32 p := by
    revert hp; revert p; decide
  rw [e]
  show (BitVec.ofNat 32 m).sshiftRight (BitVec.ofNat 32 p).toNat = _
  have hm' : (BitVec.ofNat 32 m).msb = false := by
    rw [BitVec.msb_eq_false_iff_two_mul_lt, BitVec.toNat_ofNat, Nat.mod_eq_of_lt (by omega)]
    omega
  rw [BitVec.sshiftRight_eq_of_msb_false hm']
  apply BitVec.eq_of_toNat_eq
  rw [BitVec.toNat_ushiftRight, BitVec.toNat_ofNat, BitVec.toNat_ofNat, BitVec.toNat_ofNat, Nat.mod_eq_of_lt (show m < 2 ^ 32 by omega), Nat.mod_eq_of_lt (show p < 2 ^ 32 by omega), Nat.shiftRight_eq_div_pow]
  have := Nat.div_le_self m (2 ^ p)
  rw [Nat.mod_eq_of_lt (by omega)]
theorem has_bit {m p : Nat} (hm : m < 2 ^ 31) (hp : p < 31) : (shr (nI m) (nI p) &&& 1) = 1 ↔ m.testBit p = true := by
  rw [shr_n hm hp, show (1 : Int32) = nI 1 from rfl, nI_and, Nat.and_one_is_mod, nI_inj (by omega) (by omega), Nat.testBit_eq_decide_div_mod_eq]
  simp
theorem lt_bits {a n : Nat} : a < 2 ^ n ↔ ∀ i, n ≤ i → a.testBit i = false := by
  constructor
  · intro h i hi
    exact Nat.testBit_lt_two_pow (Nat.lt_of_lt_of_le h (Nat.pow_le_pow_right (by omega) hi))
  · intro h
    exact Nat.lt_pow_two_of_testBit a h
theorem has_n {m p : Nat} (hm : m < 2 ^ 31) (hp : p < 31) : X12_has (nI m) (nI p) = if m.testBit p then 1 else 0 := by
  unfold X12_has X12_has_b0
  cases e : m.testBit p with
  | true => rw [if_pos ((has_bit hm hp).mpr e)]; rfl
  | false =>
    rw [if_neg (fun q => by rw [(has_bit hm hp).mp q] at e; exact absurd e (by decide))]
    rfl
theorem has_1 {m p : Nat} (hm : m < 2 ^ 31) (hp : p < 31) (h : m.testBit p = true) : X12_has (nI m) (nI p) = 1 := by
  rw [has_n hm hp, h]
  rfl
theorem has_0 {m p : Nat} (hm : m < 2 ^ 31) (hp : p < 31) (h : m.testBit p = false) : X12_has (nI m) (nI p) = 0 := by
  rw [has_n hm hp, h]
  rfl
theorem nI_p1 {n : Nat} (h : 1 ≤ n) : nI n - 1 = nI (n - 1) := nI_sub (b := 1) h
theorem andn_lt {a b n : Nat} (h : a < 2 ^ n) : andn a b < 2 ^ n := by
  apply Nat.lt_pow_two_of_testBit
  intro i hi
  rw [andn_bit, lt_bits.mp h i hi]
  rfl
theorem or_lt {a b n : Nat} (h : a < 2 ^ n) (h2 : b < 2 ^ n) : a ||| b < 2 ^ n := Nat.or_lt_two_pow h h2
theorem pow_lt {p n : Nat} (h : p < n) : 2 ^ p < 2 ^ n := Nat.pow_lt_pow_right (by omega) h
