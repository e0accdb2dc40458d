/-! numbers and bits -/
theorem wid {x : Int} (h1 : -2147483648 ≤ x) (h2 : x < 2147483648) : w32 x = x := w32_id ⟨h1, h2⟩
theorem wid64 {x : Int} (h1 : -9223372036854775808 ≤ x) (h2 : x < 9223372036854775808) : w64 x = x := w64_id ⟨h1, h2⟩
theorem bv32 {a : Int} (h : i32 a) : ((Int32.ofInt a).toBitVec.toNat : Int) = a % 4294967296 := by
  have h2 := of32 h
  have h3 : (Int32.ofInt a).toInt = (Int32.ofInt a).toBitVec.toInt := rfl
  rw [h2, BitVec.toInt_eq_toNat_cond] at h3
  have h4 := (Int32.ofInt a).toBitVec.isLt
  split at h3 <;> omega
theorem bv64 {a : Int} (h : i64 a) : ((Int64.ofInt a).toBitVec.toNat : Int) = a % 18446744073709551616 := by
  have h2 := of64 h
  have h3 : (Int64.ofInt a).toInt = (Int64.ofInt a).toBitVec.toInt := rfl
  rw [h2, BitVec.toInt_eq_toNat_cond] at h3
  have h4 := (Int64.ofInt a).toBitVec.isLt
  split at h3 <;> omega
theorem ian1 {a : Int} (h : i32 a) : ian a 1 = a % 2 := by
  unfold ian
  have e : (Int32.ofInt a &&& Int32.ofInt 1) = nI ((Int32.ofInt a).toBitVec.toNat % 2 ^ 1) := pk_and (Int32.ofInt a) (m := Int32.ofInt 1) 1 (by decide)
  rw [e, nI_toInt (by omega)]
  have := bv32 h
  omega
theorem sh_amt : ∀ n, n < 32 → ((Int32.ofInt (n : Nat) &&& 31).toBitVec.smod 32).toNat = n := by decide +kernel
theorem isr_eq {a k : Int} (h : i32 a) (hk : 0 ≤ k ∧ k < 32) : isr a k = a / 2 ^ k.toNat := by
  unfold isr
  have e : ((Int32.ofInt k &&& 31).toBitVec.smod 32).toNat = k.toNat := by
    have := sh_amt k.toNat (by omega)
    rwa [show ((k.toNat : Nat) : Int) = k by omega] at this
  rw [pk_shr _ _ k.toNat e, of32 h, Int.shiftRight_eq_div_pow]
  norm_cast
/-- bit k of a number -/
def bt (s k : Int) : Int := (s / 2 ^ k.toNat) % 2
theorem div_i32 {a : Int} (h : i32 a) (n : Nat) : i32 (a / 2 ^ n) := by
  have hp : (0 : Int) < 2 ^ n := Int.pow_pos (by decide)
  have h1 : (1 : Int) ≤ 2 ^ n := hp
  unfold i32 at *
  constructor
  · rw [Int.le_ediv_iff_mul_le hp]
    have : (-2147483648 : Int) * 2 ^ n ≤ -2147483648 * 1 := Int.mul_le_mul_of_nonpos_left (by decide) h1
    omega
  · rw [Int.ediv_lt_iff_lt_mul hp]
    have : (2147483648 : Int) * 1 ≤ 2147483648 * 2 ^ n := Int.mul_le_mul_of_nonneg_left h1 (by decide)
    omega
theorem bit_eq {a k : Int} (h : i32 a) (hk : 0 ≤ k ∧ k < 32) : ian (isr a k) 1 = bt a k := by
  rw [isr_eq h hk, ian1 (div_i32 h _)]; rfl
theorem bt_01 (a k : Int) : bt a k = 0 ∨ bt a k = 1 := by unfold bt; omega
theorem lan1 {a : Int} (h : i64 a) : lan a 1 = a % 2 := by
  unfold lan
  have e := bv64 h
  have e2 : (Int64.ofInt a &&& Int64.ofInt 1).toBitVec = (Int64.ofInt a).toBitVec &&& 1#64 := rfl
  have e3 : ((Int64.ofInt a &&& Int64.ofInt 1).toBitVec).toNat = (Int64.ofInt a).toBitVec.toNat % 2 := by
    rw [e2, BitVec.toNat_and]; exact Nat.and_one_is_mod _
  have h3 : (Int64.ofInt a &&& Int64.ofInt 1).toInt = (Int64.ofInt a &&& Int64.ofInt 1).toBitVec.toInt := rfl
  rw [h3, BitVec.toInt_eq_toNat_cond, e3]
  split <;> omega
theorem shl_amt : ∀ n, n < 64 → (((Int32.ofInt (n : Nat)).toInt64 &&& 63).toBitVec.smod 64).toNat = n := by decide +kernel
theorem lsr_eq {a k : Int} (h : i64 a) (hk : 0 ≤ k ∧ k < 64) : lsr a k = a / 2 ^ k.toNat := by
  unfold lsr
  have e : (((Int32.ofInt k).toInt64 &&& 63).toBitVec.smod 64).toNat = k.toNat := by
    have := shl_amt k.toNat (by omega)
    rwa [show ((k.toNat : Nat) : Int) = k by omega] at this
  have h1 : (Int64.ofInt a >>> ((Int32.ofInt k).toInt64 &&& 63)).toInt = (Int64.ofInt a).toInt >>> k.toNat := by
    show ((Int64.ofInt a).toBitVec.sshiftRight' (((Int32.ofInt k).toInt64 &&& 63).toBitVec.smod 64)).toInt = _
    rw [BitVec.sshiftRight', e, BitVec.toInt_sshiftRight]; rfl
  rw [h1, of64 h, Int.shiftRight_eq_div_pow]
  norm_cast
theorem div_i64 {a : Int} (h : i64 a) (n : Nat) : i64 (a / 2 ^ n) := by
  have hp : (0 : Int) < 2 ^ n := Int.pow_pos (by decide)
  have h1 : (1 : Int) ≤ 2 ^ n := hp
  unfold i64 at *
  constructor
  · rw [Int.le_ediv_iff_mul_le hp]
    have : (-9223372036854775808 : Int) * 2 ^ n ≤ -9223372036854775808 * 1 := Int.mul_le_mul_of_nonpos_left (by decide) h1
    omega
  · rw [Int.ediv_lt_iff_lt_mul hp]
    have : (9223372036854775808 : Int) * 1 ≤ 9223372036854775808 * 2 ^ n := Int.mul_le_mul_of_nonneg_left h1 (by decide)
    omega
theorem lbit_eq {a k : Int} (h : i64 a) (hk : 0 ≤ k ∧ k < 64) : lan (lsr a k) 1 = bt a k := by
  rw [lsr_eq h hk, lan1 (div_i64 h _)]; rfl
theorem i32_64 {a : Int} (h : i32 a) : i64 a := by unfold i32 at h; unfold i64; omega
theorem p2 : ∀ k, k < 31 → ish 1 (k : Nat) = 2 ^ k := by decide +kernel
theorem ish1 {k : Int} (hk : 0 ≤ k ∧ k < 31) : ish 1 k = 2 ^ k.toNat := by
  have := p2 k.toNat (by omega)
  rwa [show ((k.toNat : Nat) : Int) = k by omega] at this
theorem lcm_lt {a b : Int} : lcm a b < 0 ↔ a < b := by unfold lcm; (repeat' split) <;> omega
theorem lcm_ge {a b : Int} : 0 ≤ lcm a b ↔ b ≤ a := by unfold lcm; (repeat' split) <;> omega
theorem lcm_gt {a b : Int} : 0 < lcm a b ↔ b < a := by unfold lcm; (repeat' split) <;> omega
theorem lcm_le {a b : Int} : lcm a b ≤ 0 ↔ a ≤ b := by unfold lcm; (repeat' split) <;> omega
theorem lcm_eq {a b : Int} : lcm a b = 0 ↔ a = b := by unfold lcm; (repeat' split) <;> omega
theorem lcm_ne {a b : Int} : lcm a b ≠ 0 ↔ a ≠ b := not_congr lcm_eq
theorem ius16 (x : Int) : 0 ≤ ius x 16 ∧ ius x 16 < 65536 := by
  unfold ius
  have e := pk_ushr (Int32.ofInt x) (Int32.ofInt 16) 16 (by decide)
  generalize ((Int32.ofInt x).toUInt32 >>> ((Int32.ofInt 16).toUInt32 &&& Int32.toUInt32 31)).toInt32 = y at e
  have h1 : y.toInt = y.toBitVec.toInt := rfl
  have h2 := (Int32.ofInt x).toBitVec.isLt
  rw [h1, BitVec.toInt_eq_toNat_cond, e]
  split <;> omega
