/-! PURE 45: the reference's nearest, and that the own rounding is the same. -/
/-- what bits b stand for, times D, in units -/
def Wt (fl : Int32) (D b : Nat) : Nat := mt (pr fl - 1) b * D * PW (ex (pr fl - 1) (bs fl) b)
def Nr (fl : Int32) (N D : Nat) (e : Int) (R : Nat) : Prop := ∃ L, L ≤ gr fl ∧ Wt fl D L ≤ N * PW e ∧ (L = gr fl ∨ N * PW e < Wt fl D (L + 1)) ∧
  R = L + if (2 * mt (pr fl - 1) L + 1) * D * PW (ex (pr fl - 1) (bs fl) L - 1) < N * PW e ∨ (N * PW e = (2 * mt (pr fl - 1) L + 1) * D * PW (ex (pr fl - 1) (bs fl) L - 1) ∧ L % 2 = 1) then 1 else 0
theorem pr_c (fl : Int32) : (pr fl = 53 ∧ lw fl = -1022 ∧ bs fl = 1075 ∧ gr fl = 2047 * 2 ^ 52 - 1) ∨ (pr fl = 24 ∧ lw fl = -126 ∧ bs fl = 150 ∧ gr fl = 255 * 2 ^ 23 - 1) := by
  unfold pr lw bs gr
  by_cases h : fl = 0
  · simp [h]
  · simp [h]
theorem mt_succ {f b : Nat} {bias : Int} (hb : -20000 ≤ bias) (hb2 : bias ≤ 20000) (D : Nat) : mt f (b + 1) * D * PW (ex f bias (b + 1)) = (mt f b + 1) * D * PW (ex f bias b) := by
  have hp : 0 < 2 ^ f := Nat.pow_pos (by omega)
  have h1 := Nat.div_add_mod b (2 ^ f)
  have h2 := Nat.mod_lt b hp
  by_cases hc : b % 2 ^ f + 1 < 2 ^ f
  · have hd : (b + 1) / 2 ^ f = b / 2 ^ f := by
      rw [Nat.div_eq_iff hp]
      have : b / 2 ^ f * 2 ^ f = 2 ^ f * (b / 2 ^ f) := Nat.mul_comm ..
      omega
    have hm : (b + 1) % 2 ^ f = b % 2 ^ f + 1 := by
      have h3 := Nat.div_add_mod (b + 1) (2 ^ f)
      rw [hd] at h3; omega
    have : mt f (b + 1) = mt f b + 1 := by unfold mt; rw [hm, hd]; omega
    rw [this]
    congr 2
    unfold ex; rw [hd]
  · have hd : (b + 1) / 2 ^ f = b / 2 ^ f + 1 := by
      rw [Nat.div_eq_iff hp]
      have : (b / 2 ^ f + 1) * 2 ^ f = 2 ^ f * (b / 2 ^ f) + 2 ^ f := by rw [Nat.add_mul, Nat.one_mul, Nat.mul_comm]
      omega
    have hm : (b + 1) % 2 ^ f = 0 := by
      have h3 := Nat.div_add_mod (b + 1) (2 ^ f)
      rw [hd, Nat.mul_add, Nat.mul_one] at h3; omega
    have hmb : b % 2 ^ f = 2 ^ f - 1 := by omega
    by_cases h0 : b / 2 ^ f = 0
    · have e1 : mt f (b + 1) = 2 ^ f := by unfold mt; rw [hm, hd, if_neg (Nat.succ_ne_zero _), Nat.zero_add]
      have e2 : mt f b + 1 = 2 ^ f := by
        unfold mt; rw [hmb, if_pos h0]
        clear h1 h2 hc hd hm hmb h0 e1
        generalize 2 ^ f = P at *
        omega
      rw [e1, e2]
      congr 2
      unfold ex; rw [hd, h0]; rfl
    · have e1 : mt f (b + 1) = 2 ^ f := by unfold mt; rw [hm, hd, if_neg (Nat.succ_ne_zero _), Nat.zero_add]
      have e2 : mt f b + 1 = 2 ^ f * 2 := by
        unfold mt; rw [hmb, if_neg h0]
        clear h1 h2 hc hd hm hmb h0 e1
        generalize 2 ^ f = P at *
        omega
      have e3 : ex f bias (b + 1) = ex f bias b + (1 : Nat) := by
        unfold ex; rw [hd]
        clear h1 h2 hc hd hm hmb e1 e2
        generalize b / 2 ^ f = q at *
        rw [if_neg (by omega), if_neg h0]; omega
      have e4 : -40000000 ≤ ex f bias b := by
        unfold ex
        clear h1 h2 hc hd hm hmb e1 e2 e3
        generalize b / 2 ^ f = q at *
        split <;> omega
      rw [e1, e2, e3, PW_add 1 e4]
      grind
theorem Wt_succ {fl : Int32} {D b : Nat} : Wt fl D (b + 1) = (mt (pr fl - 1) b + 1) * D * PW (ex (pr fl - 1) (bs fl) b) := by
  unfold Wt
  exact mt_succ (by rcases pr_c fl with h | h <;> omega) (by rcases pr_c fl with h | h <;> omega) D
theorem Wt_lt {fl : Int32} {D b : Nat} (hD : 0 < D) : Wt fl D b < Wt fl D (b + 1) := by
  rw [Wt_succ]
  unfold Wt
  apply Nat.mul_lt_mul_of_pos_right _ (PW_pos _)
  exact Nat.mul_lt_mul_of_pos_right (by omega) hD
theorem Wt_mono {fl : Int32} {D a : Nat} (hD : 0 < D) : ∀ b, a ≤ b → Wt fl D a ≤ Wt fl D b := by
  intro b hab
  obtain ⟨m, rfl⟩ : ∃ m, b = a + m := ⟨b - a, by omega⟩
  clear hab
  induction m with
  | zero => exact Nat.le_refl _
  | succ m ih => exact Nat.le_trans ih (Nat.le_of_lt (Wt_lt hD))
theorem mt_pos {f b : Nat} (h : 0 < b) : 0 < mt f b := by
  unfold mt
  by_cases h0 : b / 2 ^ f = 0
  · rw [if_pos h0]
    have h1 := Nat.div_add_mod b (2 ^ f)
    rw [h0, Nat.mul_zero] at h1; omega
  · rw [if_neg h0]
    have : 0 < 2 ^ f := Nat.pow_pos (by omega)
    omega
section
variable {V_length V_laid V_gone V_thrown V_were V_none V_beyond V_aMany V_bMany V_fiveMany V_partMany V_twos V_at V_digits V_power V_good fl : Int32} {Va Vb : Nat → Int32}
theorem e_near_loop {n N D : Nat} {e : Int} (hn : 1000 ≤ n) (hA : Rg V_aMany Va N) (h2 : Rg V_bMany Vb D) (hN : 0 < N) (hD : 0 < D) (hf : Fit N D e) (he : V_twos.toInt = e) : ∀ (m k i low high : Nat) (V_leftMany V_rightMany : Int32) (Vl Vr : Nat → Int32), i + m = 70 → m < k → low ≤ high → high ≤ gr fl → (high - low) * 2 ^ i < 2 ^ 64 → Wt fl D low ≤ N * PW e → (high = gr fl ∨ N * PW e < Wt fl D (high + 1)) →
    ∃ L V_leftMany' V_rightMany' Vl' Vr', f_X10_nearest_11 n V_length V_laid V_gone V_thrown V_were V_none V_beyond V_aMany V_bMany V_fiveMany V_partMany V_twos V_at V_digits V_power V_good Va Vb k V_leftMany V_rightMany Vl Vr fl (qL low) (qL high) (nI i) = f_X10_nearest_76 n V_length V_laid V_gone V_thrown V_were V_none V_beyond V_aMany V_bMany V_fiveMany V_partMany V_twos V_at V_digits V_power V_good Va Vb V_leftMany' V_rightMany' Vl' Vr' fl (qL L) ∧ L ≤ gr fl ∧ Wt fl D L ≤ N * PW e ∧ (L = gr fl ∨ N * PW e < Wt fl D (L + 1)) := by
  have hG : gr fl < 9223372036854775807 := by rcases pr_c fl with h | h <;> omega
  have hpf : pr fl - 1 < 60 := by rcases pr_c fl with h | h <;> omega
  intro m
  induction m with
  | zero =>
    intro k i low high lm rm Vl Vr hm hk h1 h3 h4 h5 h6
    obtain ⟨k, rfl⟩ : ∃ k', k = k' + 1 := ⟨k - 1, by omega⟩
    have hi : i = 70 := by omega
    subst hi
    have hlh : high = low := by omega
    subst hlh
    refine ⟨high, lm, rm, Vl, Vr, ?_, h3, h5, h6⟩
    unfold f_X10_nearest_11 fb_X10_nearest_11
    rw [if_pos (by decide)]
  | succ m ih =>
    intro k i low high lm rm Vl Vr hm hk h1 h3 h4 h5 h6
    obtain ⟨k, rfl⟩ : ∃ k', k = k' + 1 := ⟨k - 1, by omega⟩
    unfold f_X10_nearest_11 fb_X10_nearest_11 f_X10_nearest_70
    simp (disch := omega) only [gu_t, bd_s, lt_e, qI_add, qI_add_lit, qI_lit_add, qI_lt, qI_le, qI_eq, qI_lt_lit, qI_lit_lt, qI_le_lit, qI_lit_le, qI_eq_lit, qI_lit_eq, qI_ne_neg1, gd_nI, gd_lit, qI_lit_toNat, qI_toNat]
    rw [if_neg (by omega), qL_cmp (by omega) (by omega)]
    by_cases hlh : low = high
    · subst hlh
      rw [show (if low < low then (1 : Int32) else if low = low then 0 else -1) = 0 from by rw [if_neg (by omega), if_pos rfl], if_pos (by decide)]
      exact ⟨low, lm, rm, Vl, Vr, rfl, h3, h5, h6⟩
    · rw [show (if high < low then (1 : Int32) else if low = high then 0 else -1) = -1 from by rw [if_neg (by omega), if_neg hlh], if_neg (by decide)]
      simp only [show gzl 2 = true from by decide, gu_t]
      rw [show (2 : Int64) = qL 2 from rfl, show (1 : Int64) = qL 1 from rfl, qL_sub h1, qL_add, qL_div (by omega) (by omega), qL_add]
      generalize hmid : low + (high - low + 1) / 2 = mid
      have hm1 : low < mid := by omega
      have hm2 : mid ≤ high := by omega
      obtain ⟨x, x1, x2⟩ := e_exponent (n := n) (b := mid) (fl := fl) (by omega)
      rw [e_mantissa (by omega), x1]
      simp only [bd_s]
      have hr := ex_range (fl := fl) (b := mid) (by omega)
      have hml : mt (pr fl - 1) mid < 2 ^ 60 := Nat.lt_of_lt_of_le (mt_lt hpf) (Nat.pow_le_pow_right (by omega) (by omega))
      obtain ⟨c, lm2, rm2, Vl2, Vr2, c1, c2, c3⟩ := e_compare (n := n) (M := mt (pr fl - 1) mid) (V_length := V_length) (V_laid := V_laid) (V_gone := V_gone) (V_thrown := V_thrown) (V_were := V_were) (V_none := V_none) (V_beyond := V_beyond) (V_fiveMany := V_fiveMany) (V_leftMany := lm) (V_rightMany := rm) (V_partMany := V_partMany) (V_at := V_at) (V_digits := V_digits) (V_power := V_power) (V_good := V_good) (Vl := Vl) (Vr := Vr) hn hA h2 hN hD hf he x2 (mt_pos (by omega)) (by omega) (by omega) (by omega) (by omega)
      rw [c1]
      simp only [bd_s, lt_e]
      have hpi : 2 ^ (i + 1) = 2 ^ i * 2 := Nat.pow_succ ..
      have hmul : ∀ a b : Nat, 2 * a ≤ b → a * 2 ^ (i + 1) ≤ b * 2 ^ i := fun a b hab => by
        rw [hpi, Nat.mul_comm (2 ^ i), ← Nat.mul_assoc]; exact Nat.mul_le_mul_right _ (by omega)
      by_cases hc : c < 0
      · rw [if_pos hc, qL_sub (by omega)]
        exact ih k (i + 1) low (mid - 1) lm2 rm2 Vl2 Vr2 (by omega) (by omega) (by omega) (by omega) (Nat.lt_of_le_of_lt (hmul _ _ (by omega)) h4) h5 (Or.inr (by rw [Nat.sub_add_cancel (by omega)]; exact c2.mp hc))
      · rw [if_neg hc]
        exact ih k (i + 1) mid high lm2 rm2 Vl2 Vr2 (by omega) (by omega) (by omega) h3 (Nat.lt_of_le_of_lt (hmul _ _ (by omega)) h4) (by
          apply Nat.le_of_not_lt
          intro h; exact hc (c2.mpr h)) h6
theorem e_nearest {n N D : Nat} {e : Int} {V_leftMany V_rightMany : Int32} {Vl Vr : Nat → Int32} (hn : 1000 ≤ n) (hA : Rg V_aMany Va N) (h2 : Rg V_bMany Vb D) (hN : 0 < N) (hD : 0 < D) (hf : Fit N D e) (he : V_twos.toInt = e) :
    ∃ R lm rm Vl' Vr', f_X10_nearest n fl V_length V_laid V_gone V_thrown V_were V_none V_beyond V_aMany V_bMany V_fiveMany V_leftMany V_rightMany V_partMany V_twos V_at V_digits V_power V_good Va Vb Vl Vr = some (qL R, lm, rm, Vl', Vr') ∧ Nr fl N D e R := by
  have hG : gr fl < 9223372036854775807 := by rcases pr_c fl with h | h <;> omega
  have hpf : pr fl - 1 < 60 := by rcases pr_c fl with h | h <;> omega
  have hg : f_X10_greatest n fl = some (qL (gr fl)) := by
    unfold f_X10_greatest f_X10_greatest_0 gr
    by_cases h : fl = 0
    · rw [if_pos h, if_pos h]; rfl
    · rw [if_neg h, if_neg h]; rfl
  unfold f_X10_nearest f_X10_nearest_0
  rw [hg]
  simp only [bd_s]
  obtain ⟨L, lm, rm, Vl1, Vr1, l1, l2, l3, l4⟩ := e_near_loop (n := n) (V_length := V_length) (V_laid := V_laid) (V_gone := V_gone) (V_thrown := V_thrown) (V_were := V_were) (V_none := V_none) (V_beyond := V_beyond) (V_fiveMany := V_fiveMany) (V_partMany := V_partMany) (V_at := V_at) (V_digits := V_digits) (V_power := V_power) (V_good := V_good) (fl := fl) hn hA h2 hN hD hf he 70 n 0 0 (gr fl) V_leftMany V_rightMany Vl Vr (by omega) (by omega) (by omega) (by omega) (by omega) (by unfold Wt mt; simp) (Or.inl rfl)
  rw [show f_X10_nearest_11 n V_length V_laid V_gone V_thrown V_were V_none V_beyond V_aMany V_bMany V_fiveMany V_partMany V_twos V_at V_digits V_power V_good Va Vb n V_leftMany V_rightMany Vl Vr fl 0 (qL (gr fl)) 0 = _ from l1]
  unfold f_X10_nearest_76 f_X10_nearest_102 f_X10_nearest_108 f_X10_above f_X10_above_0
  obtain ⟨x, x1, x2⟩ := e_exponent (n := n) (b := L) (fl := fl) (by omega)
  rw [e_mantissa (by omega), x1]
  simp only [bd_s, lt_e]
  have hr := ex_range (fl := fl) (b := L) (by omega)
  have hml : mt (pr fl - 1) L < 2 ^ 60 := Nat.lt_of_lt_of_le (mt_lt hpf) (Nat.pow_le_pow_right (by omega) (by omega))
  rw [show (2 : Int64) = qL 2 from rfl, show (1 : Int64) = qL 1 from rfl, qL_mul, qL_add]
  obtain ⟨c, lm2, rm2, Vl2, Vr2, c1, c2, c3⟩ := e_compare (n := n) (M := 2 * mt (pr fl - 1) L + 1) (q3 := x - 1) (q := ex (pr fl - 1) (bs fl) L - 1) (V_length := V_length) (V_laid := V_laid) (V_gone := V_gone) (V_thrown := V_thrown) (V_were := V_were) (V_none := V_none) (V_beyond := V_beyond) (V_fiveMany := V_fiveMany) (V_leftMany := lm) (V_rightMany := rm) (V_partMany := V_partMany) (V_at := V_at) (V_digits := V_digits) (V_power := V_power) (V_good := V_good) (Vl := Vl1) (Vr := Vr1) hn hA h2 hN hD hf he (i32_sub_of x2 rfl (by omega) (by omega)) (by omega) (by omega) (by omega) (by omega) (by omega)
  rw [c1]
  simp only [bd_s, lt_e]
  have hodd : (lg_cmp (qL L &&& qL 1) (qL 1) = 0) = (L % 2 = 1) := by
    rw [qL_and (s := 1) (k := qL 1) (by decide), Nat.mod_eq_of_lt (a := L) (by omega), qL_cmp (by omega) (by omega)]
    by_cases hq : L % 2 = 1
    · simp [hq]
    · have : L % 2 = 0 := by omega
      simp [this]
  simp only [hodd]
  by_cases hc0 : 0 < c
  · rw [if_pos hc0, qL_add]
    refine ⟨L + 1, lm2, rm2, Vl2, Vr2, rfl, L, l2, l3, l4, ?_⟩
    rw [if_pos]
    left
    apply Nat.lt_of_not_le
    intro h
    rcases Nat.lt_or_eq_of_le h with h | h
    · have := c2.mpr h; lia
    · have := c3.mpr h; lia
  · rw [if_neg hc0]
    by_cases hc1 : c = 0
    · rw [if_pos hc1]
      have heq := c3.mp hc1
      by_cases ho : L % 2 = 1
      · rw [if_pos ho, qL_add]
        refine ⟨L + 1, lm2, rm2, Vl2, Vr2, rfl, L, l2, l3, l4, ?_⟩
        rw [if_pos (Or.inr ⟨heq, ho⟩)]
      · rw [if_neg ho]
        refine ⟨L, lm2, rm2, Vl2, Vr2, rfl, L, l2, l3, l4, ?_⟩
        rw [if_neg]; rfl
        rintro (h | h)
        · omega
        · exact ho h.2
    · rw [if_neg hc1]
      refine ⟨L, lm2, rm2, Vl2, Vr2, rfl, L, l2, l3, l4, ?_⟩
      have hlt : N * PW e < (2 * mt (pr fl - 1) L + 1) * D * PW (ex (pr fl - 1) (bs fl) L - 1) := c2.mp (by lia)
      rw [if_neg]; rfl
      rintro (h | h)
      · omega
      · omega
end
