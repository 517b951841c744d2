/-! PURE 37: the own large numbers: the length in bits, the low bits. -/
theorem ushr32 {i k : Nat} {sh : UInt32} (hk : sh.toNat % 32 = k) (hi : i < 2147483648) : ((nI i).toUInt32 >>> sh).toInt32 = nI (i / 2 ^ k) := by
  rw [ul_inj]
  have h1 : i / 2 ^ k < 4294967296 := Nat.lt_of_le_of_lt (Nat.div_le_self _ _) (by omega)
  rw [ul_nI h1]
  show ((nI i).toUInt32 >>> sh).toNat = _
  rw [UInt32.toNat_shiftRight, hk, Nat.shiftRight_eq_div_pow]
  show ul (nI i) / _ = _
  rw [ul_nI (by omega)]
theorem lg_up {i k x : Nat} (h : 2 ^ x ≤ i / 2 ^ k ∧ i / 2 ^ k < 2 ^ (x + 1)) : 2 ^ (x + k) ≤ i ∧ i < 2 ^ (x + k + 1) := by
  have hk : 0 < 2 ^ k := Nat.pow_pos (by omega)
  obtain ⟨h1, h2⟩ := h
  rw [Nat.le_div_iff_mul_le hk, ← Nat.pow_add] at h1
  rw [Nat.div_lt_iff_lt_mul hk, ← Nat.pow_add] at h2
  refine ⟨h1, ?_⟩
  rw [show x + k + 1 = x + 1 + k from by omega]; exact h2
theorem nlz_73 {n i m : Nat} (h1 : 1 ≤ i) (h2 : i < 4) (hm : 1 ≤ m) (hm2 : m ≤ 31) : ∃ r, r ≤ m ∧ f_J6_numberOfLeadingZeros_0f7a4_73 n (nI i) (nI m) = some (nI r) ∧ 2 ^ (m - r) ≤ i ∧ i < 2 ^ (m - r + 1) := by
  refine ⟨m - i / 2, by omega, ?_, ?_⟩
  · unfold f_J6_numberOfLeadingZeros_0f7a4_73
    rw [ushr32 (k := 1) (by decide) (by omega), qI_sub (by omega)]
  · rw [show m - (m - i / 2) = i / 2 from by omega]
    have : i = 1 ∨ i = 2 ∨ i = 3 := by omega
    rcases this with rfl | rfl | rfl <;> decide
theorem nlz_61 {n i m : Nat} (h1 : 1 ≤ i) (h2 : i < 16) (hm : 3 ≤ m) (hm2 : m ≤ 31) : ∃ r, r ≤ m ∧ f_J6_numberOfLeadingZeros_0f7a4_61 n (nI i) (nI m) = some (nI r) ∧ 2 ^ (m - r) ≤ i ∧ i < 2 ^ (m - r + 1) := by
  unfold f_J6_numberOfLeadingZeros_0f7a4_61
  simp (disch := omega) only [gu_t, bd_s, lt_e, qI_add, qI_add_lit, qI_lit_add, qI_lt, qI_le, qI_eq, qI_lt_lit, qI_lit_lt, qI_le_lit, qI_lit_le, qI_eq_lit, qI_lit_eq, qI_ne_neg1, gd_nI, gd_lit, qI_lit_toNat, qI_toNat]
  by_cases h : i < 4
  · rw [if_pos h]; exact nlz_73 h1 h (by omega) hm2
  · rw [if_neg h, ushr32 (k := 2) (by decide) (by omega), show nI m + -2 = nI (m - 2) from by rw [← qI_sub (b := 2) (by omega)]; show nI m + -2 = nI m - 2; grind]
    obtain ⟨r, g1, g2, g3⟩ := nlz_73 (n := n) (i := i / 2 ^ 2) (m := m - 2) (by omega) (by omega) (by omega) (by omega)
    refine ⟨r, by omega, g2, ?_⟩
    have := lg_up g3
    rw [show m - 2 - r + 2 = m - r from by omega] at this
    exact this
theorem nlz_48 {n i m : Nat} (h1 : 1 ≤ i) (h2 : i < 256) (hm : 7 ≤ m) (hm2 : m ≤ 31) : ∃ r, r ≤ m ∧ f_J6_numberOfLeadingZeros_0f7a4_48 n (nI i) (nI m) = some (nI r) ∧ 2 ^ (m - r) ≤ i ∧ i < 2 ^ (m - r + 1) := by
  unfold f_J6_numberOfLeadingZeros_0f7a4_48
  simp (disch := omega) only [gu_t, bd_s, lt_e, qI_add, qI_add_lit, qI_lit_add, qI_lt, qI_le, qI_eq, qI_lt_lit, qI_lit_lt, qI_le_lit, qI_lit_le, qI_eq_lit, qI_lit_eq, qI_ne_neg1, gd_nI, gd_lit, qI_lit_toNat, qI_toNat]
  by_cases h : i < 16
  · rw [if_pos h]; exact nlz_61 h1 h (by omega) hm2
  · rw [if_neg h, ushr32 (k := 4) (by decide) (by omega), show nI m + -4 = nI (m - 4) from by rw [← qI_sub (b := 4) (by omega)]; show nI m + -4 = nI m - 4; grind]
    obtain ⟨r, g1, g2, g3⟩ := nlz_61 (n := n) (i := i / 2 ^ 4) (m := m - 4) (by omega) (by omega) (by omega) (by omega)
    refine ⟨r, by omega, g2, ?_⟩
    have := lg_up g3
    rw [show m - 4 - r + 4 = m - r from by omega] at this
    exact this
theorem nlz_33 {n i m : Nat} (h1 : 1 ≤ i) (h2 : i < 65536) (hm : 15 ≤ m) (hm2 : m ≤ 31) : ∃ r, r ≤ m ∧ f_J6_numberOfLeadingZeros_0f7a4_33 n (nI i) (nI m) = some (nI r) ∧ 2 ^ (m - r) ≤ i ∧ i < 2 ^ (m - r + 1) := by
  unfold f_J6_numberOfLeadingZeros_0f7a4_33
  simp (disch := omega) only [gu_t, bd_s, lt_e, qI_add, qI_add_lit, qI_lit_add, qI_lt, qI_le, qI_eq, qI_lt_lit, qI_lit_lt, qI_le_lit, qI_lit_le, qI_eq_lit, qI_lit_eq, qI_ne_neg1, gd_nI, gd_lit, qI_lit_toNat, qI_toNat]
  by_cases h : i < 256
  · rw [if_pos h]; exact nlz_48 h1 h (by omega) hm2
  · rw [if_neg h, ushr32 (k := 8) (by decide) (by omega), show nI m + -8 = nI (m - 8) from by rw [← qI_sub (b := 8) (by omega)]; show nI m + -8 = nI m - 8; grind]
    obtain ⟨r, g1, g2, g3⟩ := nlz_48 (n := n) (i := i / 2 ^ 8) (m := m - 8) (by omega) (by omega) (by omega) (by omega)
    refine ⟨r, by omega, g2, ?_⟩
    have := lg_up g3
    rw [show m - 8 - r + 8 = m - r from by omega] at this
    exact this
theorem e_nlz {n : Nat} {x : Int32} (hx : x ≠ 0) : ∃ r, r ≤ 31 ∧ f_J6_numberOfLeadingZeros_0f7a4 n x = some (nI r) ∧ 2 ^ (31 - r) ≤ ul x ∧ ul x < 2 ^ (31 - r + 1) := by
  unfold f_J6_numberOfLeadingZeros_0f7a4 f_J6_numberOfLeadingZeros_0f7a4_0
  by_cases h : 0 < x
  · obtain ⟨i, hi, rfl⟩ := qI_of (x := x) (by lia)
    have hi1 : 1 ≤ i := by rw [qI_lit_lt hi (by decide)] at h; exact h
    rw [ul_nI (by omega)]
    simp (disch := omega) only [gu_t, bd_s, lt_e, qI_add, qI_add_lit, qI_lit_add, qI_lt, qI_le, qI_eq, qI_lt_lit, qI_lit_lt, qI_le_lit, qI_lit_le, qI_eq_lit, qI_lit_eq, qI_ne_neg1, gd_nI, gd_lit, qI_lit_toNat, qI_toNat]
    rw [if_pos (by omega)]
    by_cases h2 : i < 65536
    · rw [if_pos h2]; exact nlz_33 (m := 31) hi1 h2 (by omega) (by omega)
    · rw [if_neg h2, ushr32 (k := 16) (by decide) (by omega)]
      obtain ⟨r, g1, g2, g3⟩ := nlz_33 (n := n) (i := i / 2 ^ 16) (m := 15) (by omega) (by omega) (by omega) (by omega)
      refine ⟨r, by omega, g2, ?_⟩
      have := lg_up g3
      rw [show 15 - r + 16 = 31 - r from by omega] at this
      exact this
  · rw [if_neg h, if_neg hx]
    refine ⟨0, by omega, rfl, ?_, ul_lt _⟩
    have h2 : x < 0 := by lia
    have h3 : x.toInt < 0 := by have := Int32.lt_iff_toInt_lt.mp h2; simpa using this
    have h4 : x.toInt = (ul x : Int) - (if 2147483648 ≤ ul x then 4294967296 else 0) := by
      show x.toBitVec.toInt = (x.toBitVec.toNat : Int) - _
      rw [BitVec.toInt_eq_toNat_cond]
      show _ = (x.toBitVec.toNat : Int) - (if 2147483648 ≤ x.toBitVec.toNat then 4294967296 else 0)
      split <;> split <;> omega
    by_cases h5 : 2147483648 ≤ ul x
    · exact h5
    · rw [if_neg h5] at h4; omega
theorem e_bitLength {n v : Nat} {u : Int32} {Bl : Nat → Int32} (h : Bg u Bl v) : ∃ b, f_X0_bitLength n u Bl = some (nI b) ∧ b ≤ 4352 ∧ v < 2 ^ b ∧ (0 < v → 0 < b ∧ 2 ^ (b - 1) ≤ v) ∧ (v = 0 → b = 0) := by
  obtain ⟨k, hk, rfl, h1⟩ := h
  unfold f_X0_bitLength f_X0_bitLength_0
  simp (disch := omega) only [gu_t, bd_s, lt_e, qI_add, qI_add_lit, qI_lit_add, qI_lt, qI_le, qI_eq, qI_lt_lit, qI_lit_lt, qI_le_lit, qI_lit_le, qI_eq_lit, qI_lit_eq, qI_ne_neg1, gd_nI, gd_lit, qI_lit_toNat, qI_toNat]
  by_cases h0 : k = 0
  · have hv : v = 0 := by rw [← Row.zero (by omega) h1]; exact h0
    subst h0; subst hv
    exact ⟨0, rfl, by omega, by omega, fun h => absurd h (by omega), fun _ => rfl⟩
  · rw [if_neg h0]
    obtain ⟨j, rfl⟩ : ∃ j, k = j + 1 := ⟨k - 1, by omega⟩
    have hv0 : v ≠ 0 := by rw [Row.zero (by omega) h1] at h0; exact h0
    simp (disch := omega) only [gu_t, bd_s, lt_e, qI_add, qI_add_lit, qI_lit_add, qI_lt, qI_le, qI_eq, qI_lt_lit, qI_lit_lt, qI_le_lit, qI_lit_le, qI_eq_lit, qI_lit_eq, qI_ne_neg1, gd_nI, gd_lit, qI_lit_toNat, qI_toNat, qI_sub_lit, Nat.add_sub_cancel]
    have htop : Bd Bl j ≠ 0 := by
      intro hz
      have h2 := h1.2.2 (by omega)
      have h3 := h1.1
      unfold vl at h3
      rw [hz, Nat.zero_mul, Nat.add_zero] at h3
      have h4 := vl_lt (B := 4294967296) (d := Bd Bl) j (Bd_lt _ _)
      rw [Nat.add_sub_cancel] at h2
      omega
    obtain ⟨r, g1, g2, g3, g4⟩ := e_nlz (n := n) (x := Bl j) (by intro hz; rw [ul_zero] at hz; exact htop hz)
    rw [g2]
    simp only [bd_s]
    rw [show (32 : Int32) * nI (j + 1) = nI (32 * (j + 1)) from qI_mul 32 (j + 1), qI_sub (by omega)]
    have hB : 4294967296 ^ j = 2 ^ (32 * j) := by rw [show (4294967296 : Nat) = 2 ^ 32 from rfl, ← Nat.pow_mul]
    have hlo := vl_lt (B := 4294967296) (d := Bd Bl) j (Bd_lt _ _)
    have hv := h1.1
    unfold vl at hv
    rw [hB] at hv hlo
    have hge : 2 ^ (32 * (j + 1) - r - 1) ≤ v := by
      have p : 2 ^ (31 - r) * 2 ^ (32 * j) ≤ Bd Bl j * 2 ^ (32 * j) := Nat.mul_le_mul_right _ g3
      rw [← Nat.pow_add, show 31 - r + 32 * j = 32 * (j + 1) - r - 1 from by omega] at p
      omega
    have hlt : v < 2 ^ (32 * (j + 1) - r) := by
      have p : (Bd Bl j + 1) * 2 ^ (32 * j) ≤ 2 ^ (31 - r + 1) * 2 ^ (32 * j) := Nat.mul_le_mul_right _ g4
      rw [← Nat.pow_add, show 31 - r + 1 + 32 * j = 32 * (j + 1) - r from by omega, Nat.add_mul, Nat.one_mul] at p
      omega
    exact ⟨32 * (j + 1) - r, rfl, by omega, hlt, fun _ => ⟨by omega, hge⟩, fun h => absurd h hv0⟩
theorem e_low {n v : Nat} {u : Int32} {Bl : Nat → Int32} (h : Bg u Bl v) : f_X0_low n u Bl = some (qL v) := by
  obtain ⟨k, hk, rfl, h1⟩ := h
  unfold f_X0_low f_X0_low_0 f_X0_low_22 f_X0_low_46
  simp (disch := omega) only [gu_t, bd_s, lt_e, qI_add, qI_add_lit, qI_lit_add, qI_lt, qI_le, qI_eq, qI_lt_lit, qI_lit_lt, qI_le_lit, qI_lit_le, qI_eq_lit, qI_lit_eq, qI_ne_neg1, gd_nI, gd_lit, qI_lit_toNat, qI_toNat, ul_mask]
  have qz : (0 : Int64) = qL 0 := rfl
  have hmod : ∀ a b : Nat, a % 18446744073709551616 = b % 18446744073709551616 → qL a = qL b := fun a b hab => by
    apply qL_of; rw [qL_toNat, hab]
  have b0 := ul_lt (Bl 0)
  have b1 := ul_lt (Bl 1)
  by_cases h0 : k = 0
  · subst h0
    rw [if_pos (by omega), if_pos (by omega), qz, sh_32 (by omega) (by omega)]
    have : v = 0 := by rw [← h1.1]; rfl
    rw [this]
  · rw [if_neg (by omega)]
    by_cases h2 : k = 1
    · subst h2
      rw [if_pos (by omega), qz, sh_32 (by omega) b0]
      have : v = ul (Bl 0) := by rw [← h1.1]; simp [vl, Bd]
      rw [this, Nat.zero_mul, Nat.zero_add]
    · rw [if_neg (by omega), sh_32 b1 b0]
      obtain ⟨m, rfl⟩ : ∃ m, k = 2 + m := ⟨k - 2, by omega⟩
      have : v = ul (Bl 0) + ul (Bl 1) * 4294967296 + 18446744073709551616 * vl 4294967296 (fun j => Bd Bl (2 + j)) m := by
        rw [← h1.1, vl_split]; simp [vl, Bd]
      congr 1
      apply hmod
      rw [this]
      omega
