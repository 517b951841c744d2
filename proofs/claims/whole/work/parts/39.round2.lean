/-! PURE 39: the own rounding: the quotient's bits. -/
theorem qL_sub {a b : Nat} (h : b ≤ a) : qL a - qL b = qL (a - b) := by
  have h1 : qL (a - b) + qL b = qL a := by rw [qL_add, Nat.sub_add_cancel h]
  rw [← h1]; grind
theorem qL_div {a b : Nat} (ha : a < 9223372036854775808) (hb : b < 9223372036854775808) : qL a / qL b = qL (a / b) := by
  apply Int64.toInt_inj.mp
  have hd : a / b < 9223372036854775808 := Nat.lt_of_le_of_lt (Nat.div_le_self _ _) ha
  rw [Int64.toInt_div, qL_toInt ha, qL_toInt hb, qL_toInt hd, Int.tdiv_eq_ediv_of_nonneg (by omega), ← Int.natCast_ediv]
  generalize a / b = d at hd ⊢
  rw [Int.bmod_eq_of_le (by omega) (by omega)]
theorem qL_odd {q : Nat} (h : q < 9223372036854775808) : (lg_cmp (qL q - qL q / 2 * 2) 1 = 0) = (q % 2 = 1) := by
  rw [show (2 : Int64) = qL 2 from rfl, show (1 : Int64) = qL 1 from rfl, qL_div h (by omega), qL_mul, qL_sub (by omega), qL_cmp (by omega) (by omega)]
  by_cases hq : q % 2 = 1
  · rw [if_neg (by omega), if_pos (by omega)]; simp [hq]
  · rw [if_neg (by omega), if_neg (by omega)]; simp [hq]
/-- up, where what is left is beyond the half, or the half of an odd one -/
def upq (q r D : Nat) : Nat := if D < r ∨ (r = D ∧ q % 2 = 1) then 1 else 0
theorem e_div_loop {n D l : Nat} {R : Int64} {w : Int32} {El : Nat → Int32} (hn : 1000 ≤ n) (g : Bg w El D) (hD2 : D < 2 ^ 4100) (hl : l ≤ 60) : ∀ (m k i N q : Nat) (u : Int32) (Bl : Nat → Int32), i + m = l → m < k → Bg u Bl N → N < 2 * D → q < 2 ^ i →
    ∃ Q r u' Bl', f_X5_divide_5 n R w El k u Bl (nI l) (qL q) (nI i) = some (qL (Q + upq Q r D), u', Bl') ∧ 2 ^ m * (N + 2 * q * D) = 2 * Q * D + r ∧ r < 2 * D ∧ Q < 2 ^ l := by
  intro m
  induction m with
  | zero =>
    intro k i N q u Bl hm hk h hN hq
    obtain ⟨k, rfl⟩ : ∃ k', k = k' + 1 := ⟨k - 1, by omega⟩
    have hil : i = l := by omega
    subst hil
    have hq60 : q < 2 ^ 60 := Nat.lt_of_lt_of_le hq (Nat.pow_le_pow_right (by omega) hl)
    refine ⟨q, N, u, Bl, ?_, by omega, hN, hq⟩
    unfold f_X5_divide_5 fb_X5_divide_5 f_X5_divide_94 f_X5_divide_98 f_X5_divide_99
    simp (disch := omega) only [gu_t, bd_s, lt_e, qI_add, qI_add_lit, qI_lit_add, qI_lt, qI_le, qI_eq, qI_lt_lit, qI_lit_lt, qI_le_lit, qI_lit_le, qI_eq_lit, qI_lit_eq, qI_ne_neg1, gd_nI, gd_lit, qI_lit_toNat, qI_toNat, Nat.le_refl, if_true]
    rw [e_compareWith hn h g]
    simp only [bd_s, show gzl 2 = true from by decide, gu_t, qL_odd (q := q) (by omega)]
    have e1 : qL q + 1 = qL (q + 1) := qL_add q 1
    unfold upq
    by_cases h1 : N < D
    · simp [h1, show ¬ D < N from by omega, show ¬ N = D from by omega]
    · by_cases h2 : N = D
      · by_cases h3 : q % 2 = 1
        · simp [h2, h3, e1]
        · simp [h2, h3]
      · simp [h1, h2, show D < N from by omega, e1]
  | succ m ih =>
    intro k i N q u Bl hm hk h hN hq
    obtain ⟨k, rfl⟩ : ∃ k', k = k' + 1 := ⟨k - 1, by omega⟩
    unfold f_X5_divide_5 fb_X5_divide_5 f_X5_divide_46
    simp (disch := omega) only [gu_t, bd_s, lt_e, qI_add, qI_add_lit, qI_lit_add, qI_lt, qI_le, qI_eq, qI_lt_lit, qI_lit_lt, qI_le_lit, qI_lit_le, qI_eq_lit, qI_lit_eq, qI_ne_neg1, gd_nI, gd_lit, qI_lit_toNat, qI_toNat]
    rw [if_neg (by omega), e_compareWith hn h g]
    simp only [bd_s]
    have hbig : 4 * 2 ^ 4100 < 2 ^ 4352 := by
      have : (2 : Nat) ^ 4352 = 2 ^ 4100 * 2 ^ 252 := by rw [← Nat.pow_add]
      rw [this]
      have : (4 : Nat) < 2 ^ 252 := by decide
      have h0 : 0 < (2 : Nat) ^ 4100 := Nat.pow_pos (by omega)
      rw [Nat.mul_comm]
      exact Nat.mul_lt_mul_of_pos_left this h0
    have hp : 2 ^ (i + 1) = 2 * 2 ^ i := by rw [Nat.pow_succ, Nat.mul_comm]
    have hpm : 2 ^ (m + 1) = 2 ^ m * 2 := by rw [Nat.pow_succ]
    by_cases h1 : N < D
    · rw [if_pos h1, if_pos (by decide)]
      obtain ⟨u1, B1, s1, s2⟩ := e_timesPlus (n := n) (f := 2) (s := 0) hn h (by omega) (by omega) (by omega) (by omega)
      rw [show f_X0_timesPlus n 2 0 u Bl = some (u1, B1) from s1]
      simp only [bd_s]
      rw [show qL q * 2 = qL (q * 2) from qL_mul q 2]
      obtain ⟨Q, r, u2, B2, t1, t2, t3, t4⟩ := ih k (i + 1) (N * 2 + 0) (q * 2) u1 B1 (by omega) (by omega) s2 (by omega) (by omega)
      refine ⟨Q, r, u2, B2, t1, ?_, t3, t4⟩
      rw [← t2, hpm, Nat.mul_assoc]; congr 1; grind
    · rw [if_neg h1, if_neg (by split <;> decide)]
      obtain ⟨u0, B0, r1, r2⟩ := e_subtract hn h g (by omega)
      rw [r1]
      simp only [bd_s]
      obtain ⟨u1, B1, s1, s2⟩ := e_timesPlus (n := n) (f := 2) (s := 0) hn r2 (by omega) (by omega) (by omega) (by omega)
      rw [show f_X0_timesPlus n 2 0 u0 B0 = some (u1, B1) from s1]
      simp only [bd_s]
      rw [show qL q * 2 = qL (q * 2) from qL_mul q 2, show (1 : Int64) = qL 1 from rfl, qL_add]
      obtain ⟨Q, r, u2, B2, t1, t2, t3, t4⟩ := ih k (i + 1) ((N - D) * 2 + 0) (q * 2 + 1) u1 B1 (by omega) (by omega) s2 (by omega) (by omega)
      refine ⟨Q, r, u2, B2, t1, ?_, t3, t4⟩
      rw [← t2, hpm, Nat.mul_assoc]; congr 1
      obtain ⟨M, rfl⟩ : ∃ M, N = M + D := ⟨N - D, by omega⟩
      rw [Nat.add_sub_cancel]; grind
theorem e_divide {n D l N : Nat} {R : Int64} {u w : Int32} {Bl El : Nat → Int32} (hn : 1000 ≤ n) (h : Bg u Bl N) (g : Bg w El D) (hD2 : D < 2 ^ 4100) (hl : l ≤ 60) (hN : N < 2 * D) :
    ∃ Q r u' Bl', f_X5_divide n (nI l) R u Bl w El = some (qL (Q + upq Q r D), u', Bl') ∧ 2 ^ l * N = 2 * Q * D + r ∧ r < 2 * D ∧ Q < 2 ^ l := by
  obtain ⟨Q, r, u', B', h1, h2, h3, h4⟩ := e_div_loop (n := n) (R := R) hn g hD2 hl l n 0 N 0 u Bl (by omega) (by omega) h hN (by omega)
  exact ⟨Q, r, u', B', h1, by simpa using h2, h3, h4⟩
