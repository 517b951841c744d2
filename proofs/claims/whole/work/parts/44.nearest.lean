/-! PURE 44: the reference's search for the nearest. -/
def mt (f b : Nat) : Nat := b % 2 ^ f + if b / 2 ^ f = 0 then 0 else 2 ^ f
def ex (f : Nat) (bias : Int) (b : Nat) : Int := (if b / 2 ^ f = 0 then 1 else ((b / 2 ^ f : Nat) : Int)) - bias
def bs (fl : Int32) : Int := if fl = 0 then 1075 else 150
def gr (fl : Int32) : Nat := if fl = 0 then 9218868437227405311 else 2139095039
theorem e_mantissa11 {n f b : Nat} {t0 : Int32} (ht : t0 = nI f) (hf : f < 60) (hb : b < 9223372036854775808) : f_X10_mantissa_11 n (qL b) t0 = some (qL (mt f b)) := by
  subst ht
  unfold f_X10_mantissa_11 mt
  rw [show (1 : Int64) = qL 1 from rfl, qL_shl (by omega), Nat.one_mul, qL_sub (Nat.pow_pos (by omega)), qL_shr2 hb (by omega)]
  have hp : 2 ^ f < 2 ^ 60 := Nat.pow_lt_pow_right (by omega) hf
  have hk : (qL (2 ^ f - 1)).toBitVec.toNat = 2 ^ f - 1 := by
    have := qL_toNat (2 ^ f - 1)
    rw [Nat.mod_eq_of_lt (by omega)] at this; exact this
  rw [qL_and hk, Nat.mod_eq_of_lt (a := b) (by omega)]
  simp only [lt_e]
  have hd : b / 2 ^ f < 9223372036854775808 := Nat.lt_of_le_of_lt (Nat.div_le_self _ _) hb
  have hz : (lg_cmp (qL (b / 2 ^ f)) 0 = 0) = (b / 2 ^ f = 0) := by
    rw [show (0 : Int64) = qL 0 from rfl, qL_cmp hd (by omega)]
    generalize b / 2 ^ f = d
    by_cases h0 : d = 0
    · simp [h0]
    · simp [h0, show 0 < d from by omega]
  simp only [hz]
  by_cases h0 : b / 2 ^ f = 0
  · rw [if_pos h0, if_pos h0]; rfl
  · rw [if_neg h0, if_neg h0, qL_add]
theorem e_mantissa {n b : Nat} {fl : Int32} (hb : b < 9223372036854775808) : f_X10_mantissa n (qL b) fl = some (qL (mt (pr fl - 1) b)) := by
  unfold f_X10_mantissa f_X10_mantissa_0 pr
  by_cases h : fl = 0
  · rw [if_pos h, if_pos h]; exact e_mantissa11 rfl (by omega) hb
  · rw [if_neg h, if_neg h]; exact e_mantissa11 rfl (by omega) hb
theorem qL_toI {a : Nat} (h : a < 2147483648) : (qL a).toInt32 = nI a := by
  rw [ul_inj, qL_toInt32, ul_nI (by omega)]; omega
theorem e_exponent {n b : Nat} {fl : Int32} (hb : b ≤ gr fl + 1) : ∃ x, f_X10_exponent n (qL b) fl = some x ∧ x.toInt = ex (pr fl - 1) (bs fl) b := by
  unfold f_X10_exponent f_X10_exponent_0 f_X10_exponent_12 f_X10_exponent_24 f_X10_exponent_37 pr bs ex
  unfold gr at hb
  by_cases h : fl = 0
  · rw [if_pos h] at hb
    simp only [h, if_true, lt_e]
    have hs : qL b >>> ((52 : Int32).toInt64 &&& 63) = qL (b / 2 ^ 52) := qL_shr2 (s := 52) (by omega) (by omega)
    simp only [show 53 - 1 = 52 from rfl]
    rw [hs]
    have hd : b / 2 ^ 52 < 2148 := by omega
    rw [qL_toI (by omega)]
    simp (disch := omega) only [gu_t, bd_s, lt_e, qI_add, qI_add_lit, qI_lit_add, qI_lt, qI_le, qI_eq, qI_lt_lit, qI_lit_lt, qI_le_lit, qI_lit_le, qI_eq_lit, qI_lit_eq, qI_ne_neg1, gd_nI, gd_lit, qI_lit_toNat, qI_toNat]
    by_cases h0 : b / 2 ^ 52 = 0
    · rw [if_pos h0, if_pos h0]; exact ⟨_, rfl, by decide⟩
    · rw [if_neg h0, if_neg h0]
      exact ⟨_, rfl, i32_sub_of (qI_toInt (by omega)) (by decide) (by omega) (by omega)⟩
  · rw [if_neg h] at hb
    simp only [h, if_false, lt_e]
    have hs : qL b >>> ((23 : Int32).toInt64 &&& 63) = qL (b / 2 ^ 23) := qL_shr2 (s := 23) (by omega) (by omega)
    simp only [show 24 - 1 = 23 from rfl]
    rw [hs]
    have hd : b / 2 ^ 23 < 2148 := by omega
    rw [qL_toI (by omega)]
    simp (disch := omega) only [gu_t, bd_s, lt_e, qI_add, qI_add_lit, qI_lit_add, qI_lt, qI_le, qI_eq, qI_lt_lit, qI_lit_lt, qI_le_lit, qI_lit_le, qI_eq_lit, qI_lit_eq, qI_ne_neg1, gd_nI, gd_lit, qI_lit_toNat, qI_toNat]
    by_cases h0 : b / 2 ^ 23 = 0
    · rw [if_pos h0, if_pos h0]; exact ⟨_, rfl, by decide⟩
    · rw [if_neg h0, if_neg h0]
      exact ⟨_, rfl, i32_sub_of (qI_toInt (by omega)) (by decide) (by omega) (by omega)⟩
theorem mt_lt {f b : Nat} (hf : f < 60) : mt f b < 2 ^ (f + 1) := by
  unfold mt
  have := Nat.mod_lt b (show 0 < 2 ^ f from Nat.pow_pos (by omega))
  rw [Nat.pow_succ]
  split <;> omega
theorem ex_range {fl : Int32} {b : Nat} (hb : b ≤ gr fl + 1) : -1075 ≤ ex (pr fl - 1) (bs fl) b ∧ ex (pr fl - 1) (bs fl) b ≤ 972 := by
  unfold ex pr bs
  unfold gr at hb
  by_cases h : fl = 0
  · rw [if_pos h] at hb
    simp only [h, if_true]
    have hd : b / 2 ^ 52 ≤ 2047 := by omega
    split <;> omega
  · rw [if_neg h] at hb
    simp only [h, if_false]
    have hd : b / 2 ^ 23 ≤ 255 := by omega
    split <;> omega
/-- the rows have room for every compare of the search -/
def Fit (N D : Nat) (e : Int) : Prop := ∃ an dn : Nat, N < 65536 ^ an ∧ D < 65536 ^ dn ∧ dn ≤ 480 ∧ an + (e + 1076).toNat / 16 ≤ 519 ∧ dn + 4 + (972 - e).toNat / 16 ≤ 519 ∧ -19000 < e ∧ e < 19000
section
variable {V_length V_laid V_gone V_thrown V_were V_none V_beyond V_aMany V_bMany V_fiveMany V_leftMany V_rightMany V_partMany V_twos V_at V_digits V_power V_good : Int32} {Va Vb Vl Vr : Nat → Int32}
theorem e_compare {n N D M : Nat} {e q : Int} {q3 : Int32} (hn : 1000 ≤ n) (hA : Rg V_aMany Va N) (h2 : Rg V_bMany Vb D) (hN : 0 < N) (hD : 0 < D) (hf : Fit N D e) (he : V_twos.toInt = e) (hq : q3.toInt = q) (hM : 0 < M) (hM2 : M < 2 ^ 64) (hM3 : M < 9223372036854775808) (hq1 : -1076 ≤ q) (hq2 : q ≤ 972) :
    ∃ (c lm rm : Int32) (Vl' Vr' : Nat → Int32), f_X10_compare n (qL M) q3 V_length V_laid V_gone V_thrown V_were V_none V_beyond V_aMany V_bMany V_fiveMany V_leftMany V_rightMany V_partMany V_twos V_at V_digits V_power V_good Va Vb Vl Vr = some (c, lm, rm, Vl', Vr') ∧ (c < 0 ↔ N * PW e < M * D * PW q) ∧ (c = 0 ↔ N * PW e = M * D * PW q) := by
  obtain ⟨a, rfl, hA⟩ := hA
  obtain ⟨an, dn, f1, f2, f3, f4, f5, f6, f7⟩ := hf
  have hMD : M * D < 65536 ^ (dn + 4) := by
    have hx : M < 65536 ^ 4 := by omega
    have hy : 0 < 65536 ^ dn := Nat.pow_pos (by omega)
    rw [Nat.add_comm, Nat.pow_add]
    exact Nat.mul_lt_mul'' hx f2
  have hD8 : D < 2 ^ 8000 := by
    rw [show (65536 : Nat) = 2 ^ 16 from rfl, ← Nat.pow_mul] at f2
    exact Nat.lt_of_lt_of_le f2 (Nat.pow_le_pow_right (by omega) (by omega))
  unfold f_X10_compare f_X10_compare_0
  simp only [lt_e]
  have hA' := hA
  have ha : a ≤ an := vl_len (by omega) f1 hA.2.2
  exact e_vcopy (n := n) (N := N) (D := D) (M := M) (an := an) (dn := dn + 4) (e := e) (q := q) (d := V_twos - q3) hn hA h2 hN f1 hD hM hM3 hMD hD8 (by omega) (by omega) (by omega) (by omega) (i32_sub_of he hq (by omega) (by omega)) (by omega) (by omega) a n 0 V_leftMany V_rightMany Vl Vr (by omega) (by omega) (fun j hj => absurd hj (by omega))
end
