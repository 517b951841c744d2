/-! PURE 33: longs below 2 to the 63 as Nat; the low word of an int. -/
def qL (a : Nat) : Int64 := Int64.ofNat a
theorem qL_toInt {a : Nat} (h : a < 9223372036854775808) : (qL a).toInt = (a : Int) := by
  unfold qL; rw [Int64.toInt_ofNat_of_lt (by omega)]
theorem qL_add (a b : Nat) : qL a + qL b = qL (a + b) := (Int64.ofNat_add a b).symm
theorem qL_mul (a b : Nat) : qL a * qL b = qL (a * b) := (Int64.ofNat_mul a b).symm
theorem qL_lt {a b : Nat} (ha : a < 9223372036854775808) (hb : b < 9223372036854775808) : (qL a < qL b) = (a < b) := by
  rw [Int64.lt_iff_toInt_lt, qL_toInt ha, qL_toInt hb]; exact propext Int.ofNat_lt
theorem qL_eq {a b : Nat} (ha : a < 9223372036854775808) (hb : b < 9223372036854775808) : (qL a = qL b) = (a = b) := by
  rw [← Int64.toInt_inj, qL_toInt ha, qL_toInt hb]; exact propext Int.ofNat_inj
theorem qL_cmp {a b : Nat} (ha : a < 9223372036854775808) (hb : b < 9223372036854775808) : lg_cmp (qL a) (qL b) = if b < a then 1 else if a = b then 0 else -1 := by
  unfold lg_cmp
  show (if qL b < qL a then (1 : Int32) else if qL a = qL b then 0 else -1) = _
  simp only [qL_lt hb ha, qL_eq ha hb]
theorem qL_toNat (a : Nat) : (qL a).toUInt64.toNat = a % 18446744073709551616 := by
  unfold qL; show (BitVec.ofNat 64 a).toNat = _; simp
theorem qL_of {x : Int64} {a : Nat} (h : x.toUInt64.toNat = a % 18446744073709551616) : x = qL a := by
  have h1 : x.toUInt64.toNat = (qL a).toUInt64.toNat := by rw [h, qL_toNat]
  have h2 := UInt64.toNat_inj.mp h1
  cases x; cases hq : qL a; rw [hq] at h2; congr
theorem qI_toInt64 {a : Nat} (h : a < 2147483648) : (nI a).toInt64 = qL a := by
  apply Int64.toInt_inj.mp
  rw [Int32.toInt_toInt64, qI_toInt h, qL_toInt (by omega)]
/-- the low word, without a sign -/
def ul (x : Int32) : Nat := x.toUInt32.toNat
theorem ul_lt (x : Int32) : ul x < 4294967296 := x.toUInt32.toNat_lt
theorem ul_inj {x y : Int32} : (x = y) = (ul x = ul y) := by
  apply propext
  constructor
  · rintro rfl; rfl
  · intro h
    have h2 : x.toUInt32 = y.toUInt32 := UInt32.toNat_inj.mp h
    cases x; cases y; congr
theorem ul_nI {a : Nat} (h : a < 4294967296) : ul (nI a) = a := by
  unfold ul nI
  show (BitVec.ofNat 32 a).toNat = a
  simp; omega
theorem ul_zero {x : Int32} : (x = 0) = (ul x = 0) := by
  rw [ul_inj]; rfl
theorem ul_mask (x : Int32) : x.toInt64 &&& 4294967295 = qL (ul x) := by
  apply Int64.toBitVec_inj.mp
  show (x.toInt64.toBitVec &&& 4294967295#64) = BitVec.ofNat 64 (x.toBitVec.toNat)
  rw [Int32.toBitVec_toInt64]
  have hm : ∀ i : Fin 64, (4294967295#64).getLsbD i = decide (i.1 < 32) := by decide
  apply BitVec.eq_of_getLsbD_eq
  intro i hi
  rw [BitVec.getLsbD_and, hm ⟨i, hi⟩, BitVec.getLsbD_signExtend]
  rw [BitVec.getLsbD_ofNat]
  by_cases h : i < 32
  · simp [h, hi, BitVec.testBit_toNat]
  · have : x.toBitVec.toNat.testBit i = false := by rw [BitVec.testBit_toNat]; exact BitVec.getLsbD_of_ge _ _ (by omega)
    simp [h, this]
theorem qL_toInt32 (a : Nat) : ul (qL a).toInt32 = a % 4294967296 := by
  show (qL a).toInt32.toBitVec.toNat = _
  rw [Int64.toBitVec_toInt32, BitVec.signExtend_eq_setWidth_of_le _ (by decide)]
  show (BitVec.setWidth 32 (BitVec.ofNat 64 a)).toNat = _
  rw [BitVec.toNat_setWidth, BitVec.toNat_ofNat]; omega
theorem qL_ushr {a : Nat} (h : a < 18446744073709551616) : ((qL a).toUInt64 >>> ((32 : Int32).toInt64.toUInt64 &&& Int64.toUInt64 63)).toInt64 = qL (a / 4294967296) := by
  apply qL_of
  have h1 : ((32 : Int32).toInt64.toUInt64 &&& Int64.toUInt64 63) = (32 : UInt64) := by decide
  rw [h1]
  show ((qL a).toUInt64 >>> (32 : UInt64)).toNat = _
  rw [UInt64.toNat_shiftRight, qL_toNat]
  show (a % 18446744073709551616) >>> 32 = _
  rw [Nat.shiftRight_eq_div_pow]
  omega
