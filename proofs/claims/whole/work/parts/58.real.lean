/-! PURE 58: real numbers: both sides come to the same. -/
theorem PW_eq {a b : Int} (h : a = b) : PW a = PW b := by rw [h]
theorem Rnd_hi {p : Nat} {lo e : Int} {N D : Nat} {g : Int32} {bits : Int64} (hD : 0 < D) (h : Rnd p lo N D e g bits) (hA : D * PW (2 - lo) ≤ N * PW e) : g = 0 := by
  obtain ⟨E, E1, E2, E3, E4, E5, _⟩ := h
  apply E5
  left
  apply Int.lt_of_not_ge
  intro hc
  have h1 : PW (E + 1) ≤ PW (2 - lo) := PW_le (by omega)
  have := Nat.mul_le_mul_left D h1
  omega
theorem Rnd_lo {p : Nat} {lo e : Int} {N D : Nat} {g : Int32} {bits : Int64} (hD : 0 < D) (h : Rnd p lo N D e g bits) (hA : N * PW e < D * PW (lo - p)) : g = 0 := by
  obtain ⟨E, E1, E2, E3, E4, E5, _⟩ := h
  apply E5
  right
  apply Int.lt_of_not_ge
  intro hc
  have h1 : PW (lo - p) ≤ PW E := PW_le (by omega)
  have := Nat.mul_le_mul_left D h1
  omega
theorem Nr_hi {fl : Int32} {N D R : Nat} {e : Int} (hD : 0 < D) (h : Nr fl N D e R) (hA : D * PW (2 - lw fl) ≤ N * PW e) : gr fl < R := by
  obtain ⟨L, L1, L2, L3, L4⟩ := h
  obtain ⟨t1, t2⟩ := Wt_top fl D hD
  have hLG : L = gr fl := by
    rcases L3 with h | h
    · exact h
    · by_cases hx : L = gr fl
      · exact hx
      · have := Wt_mono (fl := fl) (a := L + 1) hD (gr fl) (by omega)
        omega
  rw [hLG, if_pos (Or.inl (by omega))] at L4
  omega
theorem up_top (fl : Int32) (D : Nat) : D * PW (2 - lw fl) ≤ D * PW 1024 := Nat.mul_le_mul_left _ (PW_le (by rcases pr_c fl with h | h <;> omega))
theorem lo_top (fl : Int32) (D : Nat) : D * PW (-1075) ≤ D * PW (lw fl - pr fl) := Nat.mul_le_mul_left _ (PW_le (by rcases pr_c fl with h | h <;> omega))
theorem ten_hi {N d : Nat} {P : Int} (h1 : 10 ^ (d - 1) ≤ N) (hd : 1 ≤ d) (hP : -30000 ≤ P) (hP2 : P ≤ 30000) (h : 310 ≤ P + d) : de 0 P * PW 1024 ≤ nu 0 N P * PW P := by
  have hten : (2 : Nat) ^ 1024 ≤ 10 ^ 309 := by
    have a1 : (2 : Nat) ^ 1024 ≤ 2 ^ 1026 := Nat.pow_le_pow_right (by omega) (by omega)
    have a2 : (2 : Nat) ^ 1026 = 1024 ^ 102 * 64 := by rw [show (1024 : Nat) = 2 ^ 10 from rfl, show (64 : Nat) = 2 ^ 6 from rfl, ← Nat.pow_mul, ← Nat.pow_add]
    have a3 : (10 : Nat) ^ 309 = 1000 ^ 103 := by rw [show (1000 : Nat) = 10 ^ 3 from rfl, ← Nat.pow_mul]
    rw [a3]
    refine Nat.le_trans a1 ?_
    rw [a2]
    decide +kernel
  have e0 : PW 1024 = PW 0 * 2 ^ 1024 := by rw [← PW_add (e := 0) 1024 (by omega)]; exact PW_eq (by omega)
  have h0 : 0 < PW 0 := PW_pos 0
  unfold nu de
  simp only [if_true]
  by_cases hp : 0 ≤ P
  · rw [show (-P).toNat = 0 from by omega, Nat.pow_zero, Nat.one_mul]
    have e1 : PW P = PW 0 * 2 ^ P.toNat := by rw [← PW_add (e := 0) P.toNat (by omega)]; exact PW_eq (by omega)
    rw [e1, e0]
    have e2 : N * 5 ^ P.toNat * (PW 0 * 2 ^ P.toNat) = PW 0 * (N * 10 ^ P.toNat) := by
      rw [show (10 : Nat) = 5 * 2 from rfl, Nat.mul_pow]; grind
    rw [e2]
    apply Nat.mul_le_mul_left
    have a1 : 10 ^ (d - 1) * 10 ^ P.toNat ≤ N * 10 ^ P.toNat := Nat.mul_le_mul_right _ h1
    rw [← Nat.pow_add] at a1
    have a2 : (10 : Nat) ^ 309 ≤ 10 ^ (d - 1 + P.toNat) := Nat.pow_le_pow_right (by omega) (by omega)
    omega
  · rw [show P.toNat = 0 from by omega, Nat.pow_zero, Nat.mul_one]
    have e1 : PW 0 = PW P * 2 ^ (-P).toNat := by rw [← PW_add (e := P) (-P).toNat (by omega)]; exact PW_eq (by omega)
    rw [e0, e1]
    have e2 : 5 ^ (-P).toNat * (PW P * 2 ^ (-P).toNat * 2 ^ 1024) = (10 ^ (-P).toNat * 2 ^ 1024) * PW P := by
      rw [show (10 : Nat) = 5 * 2 from rfl, Nat.mul_pow]; grind
    rw [e2]
    apply Nat.mul_le_mul_right
    have a1 : 10 ^ (-P).toNat * 2 ^ 1024 ≤ 10 ^ (-P).toNat * 10 ^ 309 := Nat.mul_le_mul_left _ hten
    rw [← Nat.pow_add] at a1
    have a2 : (10 : Nat) ^ ((-P).toNat + 309) ≤ 10 ^ (d - 1) := Nat.pow_le_pow_right (by omega) (by omega)
    omega
theorem ten_lo {N d : Nat} {P : Int} (h1 : N < 10 ^ d) (hP : -30000 ≤ P) (h : P + d ≤ -400) : nu 0 N P * PW P < de 0 P * PW (-1075) := by
  have hten : (2 : Nat) ^ 1075 ≤ 10 ^ 400 := by
    have a1 : (2 : Nat) ^ 1075 ≤ 2 ^ 1200 := Nat.pow_le_pow_right (by omega) (by omega)
    have a2 : (2 : Nat) ^ 1200 = 8 ^ 400 := by rw [show (8 : Nat) = 2 ^ 3 from rfl, ← Nat.pow_mul]
    have a3 : (8 : Nat) ^ 400 ≤ 10 ^ 400 := Nat.pow_le_pow_left (by omega) _
    omega
  unfold nu de
  simp only [if_true]
  rw [show P.toNat = 0 from by omega, Nat.pow_zero, Nat.mul_one]
  -- times 2 ^ (1075 - P)
  have e1 : PW P * 2 ^ (1075 - P).toNat = PW 0 * 2 ^ 1075 := by
    rw [← PW_add (e := P) _ (by omega), ← PW_add (e := 0) 1075 (by omega)]; exact PW_eq (by omega)
  have e2 : PW (-1075) * 2 ^ (1075 - P).toNat = PW 0 * 2 ^ (-P).toNat := by
    rw [← PW_add (e := -1075) _ (by omega), ← PW_add (e := 0) _ (by omega)]; exact PW_eq (by omega)
  apply Nat.lt_of_mul_lt_mul_right (a := 2 ^ (1075 - P).toNat)
  rw [Nat.mul_assoc, e1, Nat.mul_assoc, e2]
  have e3 : 5 ^ (-P).toNat * (PW 0 * 2 ^ (-P).toNat) = 10 ^ (-P).toNat * PW 0 := by
    rw [show (10 : Nat) = 5 * 2 from rfl, Nat.mul_pow]; grind
  have e4 : N * (PW 0 * 2 ^ 1075) = N * 2 ^ 1075 * PW 0 := by grind
  rw [e3, e4]
  apply Nat.mul_lt_mul_of_pos_right _ (PW_pos 0)
  have a1 : N * 2 ^ 1075 < 10 ^ d * 2 ^ 1075 := Nat.mul_lt_mul_of_pos_right h1 (Nat.pow_pos (by omega))
  have a2 : 10 ^ d * 2 ^ 1075 ≤ 10 ^ d * 10 ^ 400 := Nat.mul_le_mul_left _ hten
  rw [← Nat.pow_add] at a2
  have a3 : (10 : Nat) ^ (d + 400) ≤ 10 ^ (-P).toNat := Nat.pow_le_pow_right (by omega) (by omega)
  omega
theorem six_hi {hx : Int32} {N d : Nat} {P : Int} (hh : hx ≠ 0) (h1 : 16 ^ (d - 1) ≤ N) (hd : 1 ≤ d) (hP : -30000000 ≤ P) (h : 1028 ≤ P + 4 * d) : de hx P * PW 1024 ≤ nu hx N P * PW P := by
  unfold nu de
  rw [if_neg hh, if_neg hh, Nat.pow_zero, Nat.one_mul, Nat.mul_one]
  have e1 : PW (P + (4 * (d - 1) : Nat)) = PW P * 2 ^ (4 * (d - 1)) := PW_add _ (by omega)
  have a1 : PW 1024 ≤ PW (P + (4 * (d - 1) : Nat)) := PW_le (by omega)
  rw [e1, Nat.pow_mul, show (2 : Nat) ^ 4 = 16 from rfl, Nat.mul_comm] at a1
  exact Nat.le_trans a1 (Nat.mul_le_mul_right _ h1)
theorem six_lo {hx : Int32} {N d : Nat} {P : Int} (hh : hx ≠ 0) (h1 : N < 16 ^ d) (hP : -30000000 ≤ P) (h : P + 4 * d ≤ -1075) : nu hx N P * PW P < de hx P * PW (-1075) := by
  unfold nu de
  rw [if_neg hh, if_neg hh, Nat.pow_zero, Nat.one_mul, Nat.mul_one]
  have e1 : PW (P + (4 * d : Nat)) = PW P * 2 ^ (4 * d) := PW_add _ (by omega)
  have a1 : PW (P + (4 * d : Nat)) ≤ PW (-1075) := PW_le (by omega)
  rw [e1, Nat.pow_mul, show (2 : Nat) ^ 4 = 16 from rfl, Nat.mul_comm] at a1
  have a2 : N * PW P < 16 ^ d * PW P := Nat.mul_lt_mul_of_pos_right h1 (PW_pos _)
  omega
def cl (P : Int) : Int := if -1400 < (if 309 < P then 309 else P) then (if 309 < P then 309 else P) else -1400
theorem real_agree {fl hx g : Int32} {N d : Nat} {P Q : Int} {bits val : Int64} (hg : g = 0 ∨ g = 1) (hD : Dn (hb hx) N d) (hd : d ≤ 1000) (h0 : N = 0 → g = 1 ∧ bits = qL 0) (hR : 0 < N → Rnd (pr fl) (lw fl) (nu hx N (if hx = 0 then cl Q else Q)) (de hx (if hx = 0 then cl Q else Q)) (if hx = 0 then cl Q else Q) g bits)
    (hO : Ro fl hx N P d val) (hQb : -20000000 ≤ Q) (hrel : (Q = P) ∨ (100000 ≤ Q ∧ 100000 ≤ P) ∨ (Q ≤ -100000 ∧ P ≤ -100000)) : (g = 1 ∧ val = bits ∧ 0 ≤ val) ∨ (g = 0 ∧ val = -1) := by
  have hgr : gr fl < 9223372036854775807 := by rcases pr_c fl with h | h <;> omega
  have hval : ∀ R, Nr fl (nu hx N P) (de hx P) P R → val = (if R = 0 ∨ gr fl < R then -1 else qL R) → gr fl < R → val = -1 := by
    intro R _ h h2; rw [h, if_pos (Or.inr h2)]
  by_cases hN : N = 0
  · left
    obtain ⟨k1, k2⟩ := h0 hN
    rcases hO with ⟨_, h⟩ | ⟨h, _⟩ | ⟨h, _⟩
    · exact ⟨k1, by rw [h, k2], by rw [h]; decide⟩
    · omega
    · omega
  · have hNp : 0 < N := by omega
    have hRnd := hR hNp
    obtain ⟨hd1, hd2⟩ := hD.2.1 hNp
    rcases hO with ⟨h, _⟩ | ⟨_, hfar, hv⟩ | ⟨_, hin1, hin2, R, hNr, hv⟩
    · omega
    · -- the reference says: too far
      right
      refine ⟨?_, hv⟩
      by_cases hh : hx = 0
      · subst hh
        simp only [if_true] at hRnd hfar
        have hD1 : N < 10 ^ d := hD.1
        have hD2 : 10 ^ (d - 1) ≤ N := hd2
        rcases hfar with hf | hf
        · -- too large
          have hcl : 310 ≤ cl Q + d ∧ -1400 ≤ cl Q ∧ cl Q ≤ 309 := by
            unfold cl
            rcases hrel with h | h | h <;> (split <;> split <;> omega)
          exact Rnd_hi (de_pos _ _) hRnd (Nat.le_trans (up_top fl _) (ten_hi hD2 (by omega) (by omega) (by omega) hcl.1))
        · have hcl : cl Q + d ≤ -400 ∧ -1400 ≤ cl Q := by
            unfold cl
            rcases hrel with h | h | h <;> (split <;> split <;> omega)
          exact Rnd_lo (de_pos _ _) hRnd (Nat.lt_of_lt_of_le (ten_lo hD1 (by omega) hcl.1) (lo_top fl _))
      · simp only [if_neg hh] at hRnd hfar
        have hb16 : hb hx = 16 := by unfold hb; rw [if_neg hh]
        have hD1 := hD.1
        rw [hb16] at hD1 hd2
        rcases hfar with hf | hf
        · exact Rnd_hi (de_pos _ _) hRnd (Nat.le_trans (up_top fl _) (six_hi hh hd2 (by omega) (by omega) (by omega)))
        · exact Rnd_lo (de_pos _ _) hRnd (Nat.lt_of_lt_of_le (six_lo hh hD1 (by omega) (by omega)) (lo_top fl _))
    · have hQP : Q = P := by
        rcases hrel with h | h | h
        · exact h
        · exfalso; by_cases hh : hx = 0
          · simp only [hh, if_true] at hin1; omega
          · simp only [if_neg hh] at hin1; omega
        · exfalso; by_cases hh : hx = 0
          · simp only [hh, if_true] at hin2; omega
          · simp only [if_neg hh] at hin2; omega
      subst hQP
      by_cases hh : hx = 0
      · subst hh
        simp only [if_true] at hRnd hin1 hin2
        have hD2 : 10 ^ (d - 1) ≤ N := hd2
        by_cases hbig : 309 < Q
        · -- held back at 309: both too large
          right
          have hclq : cl Q = 309 := by unfold cl; rw [if_pos hbig, if_pos (by omega)]
          rw [hclq] at hRnd
          refine ⟨Rnd_hi (de_pos _ _) hRnd (Nat.le_trans (up_top fl _) (ten_hi hD2 (by omega) (by omega) (by omega) (by omega))), ?_⟩
          exact hval R hNr hv (Nr_hi (de_pos _ _) hNr (Nat.le_trans (up_top fl _) (ten_hi hD2 (by omega) (by omega) (by omega) (by omega))))
        · have hclq : cl Q = Q := by
            unfold cl; rw [if_neg hbig]
            split
            · rfl
            · omega
          rw [hclq] at hRnd
          obtain ⟨q1, q2⟩ := agree (de_pos _ _) hg hRnd hNr
          rcases hg with hg0 | hg1
          · right
            refine ⟨hg0, ?_⟩
            rw [hv, if_pos]
            have : ¬ g = 1 := by rw [hg0]; decide
            have hno : ¬ (R ≠ 0 ∧ R ≤ gr fl) := fun h => this (q1.mpr h)
            omega
          · left
            have hgood := q1.mp hg1
            have hvR : val = qL R := by rw [hv, if_neg (by omega)]
            refine ⟨hg1, by rw [hvR, q2 hg1], ?_⟩
            rw [hvR, Int64.le_iff_toInt_le, qL_toInt (by omega)]
            exact Int.natCast_nonneg _
      · simp only [if_neg hh] at hRnd
        obtain ⟨q1, q2⟩ := agree (de_pos _ _) hg hRnd hNr
        rcases hg with hg0 | hg1
        · right
          refine ⟨hg0, ?_⟩
          rw [hv, if_pos]
          have : ¬ g = 1 := by rw [hg0]; decide
          have hno : ¬ (R ≠ 0 ∧ R ≤ gr fl) := fun h => this (q1.mpr h)
          omega
        · left
          have hgood := q1.mp hg1
          have hvR : val = qL R := by rw [hv, if_neg (by omega)]
          refine ⟨hg1, by rw [hvR, q2 hg1], ?_⟩
          rw [hvR, Int64.le_iff_toInt_le, qL_toInt (by omega)]
          exact Int.natCast_nonneg _
