/-! PURE 38: the own rounding. -/
def PW (e : Int) : Nat := 2 ^ (e + 40000000).toNat
theorem PW_add {e : Int} (j : Nat) (h : -40000000 ≤ e) : PW (e + j) = PW e * 2 ^ j := by
  unfold PW; rw [← Nat.pow_add]; congr 1; omega
theorem PW_pos (e : Int) : 0 < PW e := Nat.pow_pos (by omega)
theorem i32_neg {x : Int32} {a : Int} (h : x.toInt = a) (h1 : -2147483647 ≤ a) : (-x).toInt = -a := by
  rw [Int32.toInt_neg, h, Int.bmod_eq_of_le (by have := x.toInt_lt; omega) (by have := x.toInt_lt; omega)]
theorem i32_of {x : Int32} {a : Nat} (h : x.toInt = a) : x = nI a := by
  have := x.toInt_lt
  apply Int32.toInt_inj.mp; rw [h, qI_toInt (by omega)]
theorem i32_lt0 {x : Int32} {a : Int} (h : x.toInt = a) : (x < 0) = (a < 0) := by
  rw [Int32.lt_iff_toInt_lt, h]; rfl
theorem e_align {n N D : Nat} {R : Int64} {u w : Int32} {Bl El : Nat → Int32} (hn : 1000 ≤ n) (h : Bg u Bl N) (g : Bg w El D) (hN : 0 < N) (hD : 0 < D) (hN2 : N < 2 ^ 4100) (hD2 : D < 2 ^ 4100) :
    ∃ sh u' Bl' w' El', ∃ a b : Nat, f_X5_align n R u Bl w El = some (sh, u', Bl', w', El') ∧ sh.toInt = (a : Int) - b ∧ a ≤ 5000 ∧ b ≤ 5000 ∧ Bg u' Bl' (N * 2 ^ a) ∧ Bg w' El' (D * 2 ^ b) ∧ D * 2 ^ b ≤ N * 2 ^ a ∧ N * 2 ^ a < 2 * (D * 2 ^ b) ∧ D * 2 ^ b < 2 ^ 4100 := by
  obtain ⟨bD, d1, d2, d3, d4, d5⟩ := e_bitLength (n := n) g
  obtain ⟨bN, c1, c2, c3, c4, c5⟩ := e_bitLength (n := n) h
  obtain ⟨d6, d7⟩ := d4 hD
  obtain ⟨c6, c7⟩ := c4 hN
  have hbD : bD ≤ 4100 := by
    by_cases hx : bD ≤ 4100
    · exact hx
    · have : (2 : Nat) ^ 4100 ≤ 2 ^ (bD - 1) := Nat.pow_le_pow_right (by omega) (by omega)
      omega
  have hbN : bN ≤ 4100 := by
    by_cases hx : bN ≤ 4100
    · exact hx
    · have : (2 : Nat) ^ 4100 ≤ 2 ^ (bN - 1) := Nat.pow_le_pow_right (by omega) (by omega)
      omega
  have hsh : (nI bD - nI bN).toInt = (bD : Int) - bN := by
    rw [Int32.toInt_sub, qI_toInt (by omega), qI_toInt (by omega), Int.bmod_eq_of_le (by omega) (by omega)]
  have hsn : (-(nI bD - nI bN)).toInt = (bN : Int) - bD := by
    rw [i32_neg hsh (by omega)]; omega
  have ha : (if nI bD - nI bN < 0 then (0 : Int32) else nI bD - nI bN) = nI (bD - bN) := by
    simp only [i32_lt0 hsh]
    by_cases hx : (bD : Int) - bN < 0
    · rw [if_pos hx, show bD - bN = 0 from by omega]; rfl
    · rw [if_neg hx]; exact i32_of (by rw [hsh]; omega)
  have hb : (if -(nI bD - nI bN) < 0 then (0 : Int32) else -(nI bD - nI bN)) = nI (bN - bD) := by
    simp only [i32_lt0 hsn]
    by_cases hx : (bN : Int) - bD < 0
    · rw [if_pos hx, show bN - bD = 0 from by omega]; rfl
    · rw [if_neg hx]; exact i32_of (by rw [hsn]; omega)
  -- both have max bD bN bits
  generalize hL : max bD bN = L
  have hL1 : L ≤ 4100 := by omega
  have hL0 : 0 < L := by omega
  have hNL : N * 2 ^ (bD - bN) < 2 ^ L ∧ 2 ^ (L - 1) ≤ N * 2 ^ (bD - bN) := by
    have q1 : N * 2 ^ (bD - bN) < 2 ^ bN * 2 ^ (bD - bN) := Nat.mul_lt_mul_of_pos_right c3 (Nat.pow_pos (by omega))
    have q2 : 2 ^ (bN - 1) * 2 ^ (bD - bN) ≤ N * 2 ^ (bD - bN) := Nat.mul_le_mul_right _ c7
    rw [← Nat.pow_add] at q1 q2
    rw [show bN + (bD - bN) = L from by omega] at q1
    rw [show bN - 1 + (bD - bN) = L - 1 from by omega] at q2
    exact ⟨q1, q2⟩
  have hDL : D * 2 ^ (bN - bD) < 2 ^ L ∧ 2 ^ (L - 1) ≤ D * 2 ^ (bN - bD) := by
    have q1 : D * 2 ^ (bN - bD) < 2 ^ bD * 2 ^ (bN - bD) := Nat.mul_lt_mul_of_pos_right d3 (Nat.pow_pos (by omega))
    have q2 : 2 ^ (bD - 1) * 2 ^ (bN - bD) ≤ D * 2 ^ (bN - bD) := Nat.mul_le_mul_right _ d7
    rw [← Nat.pow_add] at q1 q2
    rw [show bD + (bN - bD) = L from by omega] at q1
    rw [show bD - 1 + (bN - bD) = L - 1 from by omega] at q2
    exact ⟨q1, q2⟩
  have hLL : 2 ^ L = 2 * 2 ^ (L - 1) := by
    rw [show L = (L - 1) + 1 from by omega, Nat.pow_succ, Nat.mul_comm, Nat.add_sub_cancel]
  have hLb : 2 ^ L ≤ 2 ^ 4100 := Nat.pow_le_pow_right (by omega) hL1
  have hbig : 4 * 2 ^ 4100 < 2 ^ 4352 := by
    have : (2 : Nat) ^ 4352 = 2 ^ 4100 * 2 ^ 252 := by rw [← Nat.pow_add]
    rw [this]
    have : (4 : Nat) < 2 ^ 252 := by decide
    have h0 : 0 < (2 : Nat) ^ 4100 := Nat.pow_pos (by omega)
    rw [Nat.mul_comm]
    exact Nat.mul_lt_mul_of_pos_left this h0
  obtain ⟨u1, B1, s1, s2⟩ := e_shiftLeft (c := bD - bN) hn h (by omega) hN (by omega)
  obtain ⟨w1, E1, t1, t2⟩ := e_shiftLeft (c := bN - bD) hn g (by omega) hD (by omega)
  unfold f_X5_align f_X5_align_0
  rw [d1, c1]
  simp only [bd_s, lt_e]
  rw [ha, hb, s1, t1]
  simp only [bd_s]
  rw [e_compareWith hn s2 t2]
  simp only [bd_s]
  by_cases hlt : N * 2 ^ (bD - bN) < D * 2 ^ (bN - bD)
  · rw [if_pos hlt, if_neg (by decide)]
    obtain ⟨u2, B2, r1, r2⟩ := e_shiftLeft (c := 1) hn s2 (by omega) (Nat.mul_pos hN (Nat.pow_pos (by omega))) (by omega)
    rw [show f_X0_shiftLeft n 1 u1 B1 = some (u2, B2) from r1]
    simp only [bd_s]
    have hsh1 : (nI bD - nI bN + 1).toInt = ((bD - bN + 1 : Nat) : Int) - (bN - bD : Nat) := by
      rw [Int32.toInt_add, hsh, show (1 : Int32).toInt = 1 from rfl, Int.bmod_eq_of_le (by omega) (by omega)]
      omega
    refine ⟨_, u2, B2, w1, E1, bD - bN + 1, bN - bD, rfl, hsh1, by omega, by omega, ?_, t2, ?_, ?_, by omega⟩
    · rw [Nat.pow_succ, ← Nat.mul_assoc]; exact r2
    · rw [Nat.pow_succ, ← Nat.mul_assoc]; omega
    · rw [Nat.pow_succ, ← Nat.mul_assoc]; omega
  · rw [if_neg hlt]
    have hge : (0 : Int32) ≤ (if N * 2 ^ (bD - bN) = D * 2 ^ (bN - bD) then 0 else 1) := by split <;> decide
    rw [if_pos hge]
    exact ⟨_, u1, B1, w1, E1, bD - bN, bN - bD, rfl, by rw [hsh]; omega, by omega, by omega, s2, t2, by omega, by omega, by omega⟩
