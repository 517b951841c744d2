/-! PURE 55: the reference's reading of a real number. -/
def nu (hx : Int32) (N : Nat) (P : Int) : Nat := N * 5 ^ (if hx = 0 then P.toNat else 0)
def de (hx : Int32) (P : Int) : Nat := 5 ^ (if hx = 0 then (-P).toNat else 0)
theorem de_pos (hx : Int32) (P : Int) : 0 < de hx P := Nat.pow_pos (by omega)
/-- how the reference's reading ends -/
def Ro (fl hx : Int32) (N : Nat) (P : Int) (d : Nat) (val : Int64) : Prop :=
  (N = 0 ∧ val = qL 0) ∨ (0 < N ∧ ((if hx = 0 then 400 else 1100) < P + (if hx = 0 then 1 else 4) * (d : Int) ∨ P + (if hx = 0 then 1 else 4) * (d : Int) < (if hx = 0 then -400 else -1200)) ∧ val = -1) ∨
  (0 < N ∧ P + (if hx = 0 then 1 else 4) * (d : Int) ≤ (if hx = 0 then 400 else 1100) ∧ (if hx = 0 then -400 else -1200) ≤ P + (if hx = 0 then 1 else 4) * (d : Int) ∧ ∃ R, Nr fl (nu hx N P) (de hx P) P R ∧ val = if R = 0 ∨ gr fl < R then -1 else qL R)
theorem fit_of {hx : Int32} {N d : Nat} {P : Int} (hD : Dn (hb hx) N d) (hd : d ≤ 1200) (h1 : P + (if hx = 0 then 1 else 4) * (d : Int) ≤ (if hx = 0 then 400 else 1100)) (h2 : (if hx = 0 then -400 else -1200) ≤ P + (if hx = 0 then 1 else 4) * (d : Int)) :
    Fit (nu hx N P) (de hx P) P ∧ N < 2 ^ 8000 ∧ nu hx N P < 2 ^ 8000 ∧ de hx P < 2 ^ 8000 := by
  have hN16 : N < 65536 ^ 300 := by
    have a1 := hD.1
    have a2 : hb hx ^ d ≤ 16 ^ d := Nat.pow_le_pow_left (hb_c hx).2 _
    have a3 : (16 : Nat) ^ d ≤ 16 ^ 1200 := Nat.pow_le_pow_right (by omega) hd
    have a4 : (16 : Nat) ^ 1200 = 65536 ^ 300 := by rw [show (65536 : Nat) = 16 ^ 4 from rfl, ← Nat.pow_mul]
    omega
  have to8 : ∀ x a : Nat, x < 65536 ^ a → a ≤ 500 → x < 2 ^ 8000 := by
    intro x a hx ha
    rw [show (65536 : Nat) = 2 ^ 16 from rfl, ← Nat.pow_mul] at hx
    exact Nat.lt_of_lt_of_le hx (Nat.pow_le_pow_right (by omega) (by omega))
  have hN8 := to8 _ _ hN16 (by omega)
  unfold nu de
  by_cases hh : hx = 0
  · simp only [hh, if_true] at h1 h2 ⊢
    have hb10 : hb hx = 10 := by unfold hb; rw [if_pos hh]
    have hD1 := hD.1
    rw [hb10] at hD1
    by_cases hP : 0 < P
    · rw [show (-P).toNat = 0 from by omega]
      have hNu : N * 5 ^ P.toNat < 65536 ^ 100 := by
        have a1 : N * 5 ^ P.toNat < 10 ^ d * 5 ^ P.toNat := Nat.mul_lt_mul_of_pos_right hD1 (Nat.pow_pos (by omega))
        have a2 : 10 ^ d * 5 ^ P.toNat ≤ 10 ^ d * 10 ^ P.toNat := Nat.mul_le_mul_left _ (Nat.pow_le_pow_left (by omega) _)
        rw [← Nat.pow_add] at a2
        have a3 : 10 ^ (d + P.toNat) ≤ 16 ^ (d + P.toNat) := Nat.pow_le_pow_left (by omega) _
        have a4 : (16 : Nat) ^ (d + P.toNat) ≤ 16 ^ 400 := Nat.pow_le_pow_right (by omega) (by omega)
        have a5 : (16 : Nat) ^ 400 = 65536 ^ 100 := by rw [show (65536 : Nat) = 16 ^ 4 from rfl, ← Nat.pow_mul]
        omega
      have h51 : (5 : Nat) ^ 0 < 65536 ^ 1 := by decide
      exact ⟨⟨100, 1, hNu, h51, by omega, by omega, by omega, by omega, by omega⟩, hN8, to8 _ _ hNu (by omega), to8 _ _ h51 (by omega)⟩
    · rw [show P.toNat = 0 from by omega]
      have hDe : 5 ^ (-P).toNat < 65536 ^ 300 := by
        have a1 : 5 ^ (-P).toNat ≤ 5 ^ 1600 := Nat.pow_le_pow_right (by omega) (by omega)
        have a2 : (5 : Nat) ^ 1600 < 8 ^ 1600 := Nat.pow_lt_pow_left (by omega) (by omega)
        have a3 : (8 : Nat) ^ 1600 = 65536 ^ 300 := by rw [show (65536 : Nat) = 2 ^ 16 from rfl, show (8 : Nat) = 2 ^ 3 from rfl, ← Nat.pow_mul, ← Nat.pow_mul]
        omega
      have hNu : N * 5 ^ 0 < 65536 ^ 300 := by simpa using hN16
      exact ⟨⟨300, 300, hNu, hDe, by omega, by omega, by omega, by omega, by omega⟩, hN8, to8 _ _ hNu (by omega), to8 _ _ hDe (by omega)⟩
  · simp only [hh, if_false] at h1 h2 ⊢
    have h51 : (5 : Nat) ^ 0 < 65536 ^ 1 := by decide
    have hNu : N * 5 ^ 0 < 65536 ^ 300 := by simpa using hN16
    exact ⟨⟨300, 1, hNu, h51, by omega, by omega, by omega, by omega, by omega⟩, hN8, to8 _ _ hNu (by omega), to8 _ _ h51 (by omega)⟩
section
variable {V_length V_laid V_gone V_thrown V_were V_none V_beyond V_bMany V_fiveMany V_leftMany V_rightMany V_partMany V_twos V_at V_digits V_good : Int32} {Vt Vb Vl Vr : Nat → Int32}
theorem e_found {n N d : Nat} {P : Int} {fl hx a pw : Int32} {Va : Nat → Int32} (hn : 100000 ≤ n) (hR : Rg a Va N) (hN : 0 < N) (hD : Dn (hb hx) N d) (hd : d ≤ 1200) (hP : pw.toInt = P) (h1 : P + (if hx = 0 then 1 else 4) * (d : Int) ≤ (if hx = 0 then 400 else 1100)) (h2 : (if hx = 0 then -400 else -1200) ≤ P + (if hx = 0 then 1 else 4) * (d : Int)) :
    ∃ R q, f_X10_found n hx fl V_length V_laid V_gone V_thrown V_were V_none V_beyond a V_bMany V_fiveMany V_leftMany V_rightMany V_partMany V_twos V_at V_digits pw V_good Va Vb Vl Vr = some (qL R, q) ∧ Nr fl (nu hx N P) (de hx P) P R := by
  obtain ⟨hfit, hN8, hnu8, hde8⟩ := fit_of hD hd h1 h2
  have hnu0 : 0 < nu hx N P := Nat.mul_pos hN (Nat.pow_pos (by omega))
  obtain ⟨b1, B1, s1, s2⟩ := e_vset (n := n) (Ax := Vb) (by omega)
  unfold f_X10_found f_X10_found_0 f_X10_found_50 f_X10_found_81
  rw [s1]
  simp only [bd_s, lt_e]
  have h0 : (0 : Int32).toInt = 0 := rfl
  simp only [i32_le hP h0, i32_le h0 hP]
  have near : ∀ (a2 b2 : Int32) (A2 B2 : Nat → Int32), Rg a2 A2 (nu hx N P) → Rg b2 B2 (de hx P) → ∃ R q, (bd (f_X10_nearest n fl V_length V_laid V_gone V_thrown V_were V_none V_beyond a2 b2 V_fiveMany V_leftMany V_rightMany V_partMany pw V_at V_digits pw V_good A2 B2 Vl Vr) fun qu3 => some (qu3.1, a2, b2, qu3.2.1, qu3.2.2.1, pw, A2, B2, qu3.2.2.2.1, qu3.2.2.2.2)) = some (qL R, q) ∧ Nr fl (nu hx N P) (de hx P) P R := by
    intro a2 b2 A2 B2 ha hb
    obtain ⟨R, lm, rm, L2, R2, q1, q2⟩ := e_nearest (n := n) (V_length := V_length) (V_laid := V_laid) (V_gone := V_gone) (V_thrown := V_thrown) (V_were := V_were) (V_none := V_none) (V_beyond := V_beyond) (V_fiveMany := V_fiveMany) (V_partMany := V_partMany) (V_at := V_at) (V_digits := V_digits) (V_power := pw) (V_good := V_good) (fl := fl) (V_leftMany := V_leftMany) (V_rightMany := V_rightMany) (Vl := Vl) (Vr := Vr) (by omega) ha hb hnu0 (de_pos hx P) hfit hP
    rw [q1]
    exact ⟨R, _, rfl, q2⟩
  by_cases hh : hx = 0
  · have hrange : -1700 < P ∧ P ≤ 400 := by
      simp only [hh, if_true] at h1 h2; omega
    simp only [if_pos hh]
    by_cases hP0 : P ≤ 0
    · rw [if_pos hP0]
      have hnu : nu hx N P = N := by unfold nu; rw [if_pos hh, show P.toNat = 0 from by omega]; simp
      by_cases hP1 : 0 ≤ P
      · rw [if_pos hP1]
        have hP2 : P = 0 := by omega
        have hde : de hx P = 1 := by unfold de; rw [if_pos hh, hP2]; rfl
        exact near a b1 Va B1 (by rw [hnu]; exact hR) (by rw [hde]; exact s2)
      · rw [if_neg hP1]
        have hneg : (-pw).toInt = ((-P).toNat : Int) := by rw [i32_neg hP (by omega)]; omega
        have hde : de hx P = 1 * 5 ^ (-P).toNat := by unfold de; rw [if_pos hh, Nat.one_mul]
        obtain ⟨b2, B2, t1, t2⟩ := e_fives (n := n) (c := (-P).toNat) (by omega) (by omega) s2 (by rw [← hde]; exact hde8)
        rw [i32_of hneg, t1]
        simp only [bd_s, lt_e]
        exact near a b2 Va B2 (by rw [hnu]; exact hR) (by rw [hde]; exact t2)
    · rw [if_neg hP0]
      have hpn : pw = nI P.toNat := i32_of (by rw [hP]; omega)
      have hnu : nu hx N P = N * 5 ^ P.toNat := by unfold nu; rw [if_pos hh]
      have hde : de hx P = 1 := by unfold de; rw [if_pos hh, show (-P).toNat = 0 from by omega]
      obtain ⟨a2, A2, t1, t2⟩ := e_fives (n := n) (c := P.toNat) (by omega) (by omega) hR (by rw [← hnu]; exact hnu8)
      rw [show f_X10_fives n a pw Va = f_X10_fives n a (nI P.toNat) Va from by rw [← hpn], t1]
      simp only [bd_s, lt_e]
      rw [if_pos (by omega)]
      exact near a2 b1 A2 B1 (by rw [hnu]; exact t2) (by rw [hde]; exact s2)
  · simp only [if_neg hh]
    have hnu : nu hx N P = N := by unfold nu; rw [if_neg hh]; simp
    have hde : de hx P = 1 := by unfold de; rw [if_neg hh]
    exact near a b1 Va B1 (by rw [hnu]; exact hR) (by rw [hde]; exact s2)
theorem Nr_le {fl : Int32} {N D R : Nat} {e : Int} (h : Nr fl N D e R) : R < 9223372036854775808 := by
  obtain ⟨L, h1, _, _, h4⟩ := h
  have hG : gr fl < 9223372036854775807 := by rcases pr_c fl with h | h <;> omega
  rw [h4]; split <;> omega
theorem e_read131 {n R : Nat} {fl V_power V_aMany : Int32} {Va : Nat → Int32} (hR : R < 9223372036854775808) : ∃ x thr l q, f_X10_read_131 n V_laid V_gone V_fiveMany V_partMany Vt V_length V_thrown V_were V_none V_beyond V_aMany V_bMany V_leftMany V_rightMany V_twos V_at V_digits V_power V_good Va Vb Vl Vr fl (qL R) = some (x, l, thr, q) ∧ ((thr = 0 ∧ x = qL R ∧ ¬ (R = 0 ∨ gr fl < R)) ∨ (thr ≠ 0 ∧ (R = 0 ∨ gr fl < R))) := by
  have hG : gr fl < 9223372036854775807 := by rcases pr_c fl with h | h <;> omega
  have hg : f_X10_greatest n fl = some (qL (gr fl)) := by
    unfold f_X10_greatest f_X10_greatest_0 gr
    by_cases h : fl = 0
    · rw [if_pos h, if_pos h]; rfl
    · rw [if_neg h, if_neg h]; rfl
  unfold f_X10_read_131 f_X10_read_150 f_X10_read_167 f_X10_fail f_X10_fail_0
  rw [hg]
  simp only [bd_s, lt_e]
  have hz : (lg_cmp (qL R) 0 = 0) = (R = 0) := by
    rw [show (0 : Int64) = qL 0 from rfl, qL_cmp hR (by omega)]
    by_cases h0 : R = 0
    · simp [h0]
    · simp [h0, show 0 < R from by omega]
  have hle : (lg_cmp (qL R) (qL (gr fl)) ≤ 0) = (R ≤ gr fl) := by
    rw [qL_cmp hR (by omega)]
    by_cases h1 : gr fl < R
    · rw [if_pos h1]; apply propext; constructor
      · intro h; exact absurd h (by decide)
      · intro h; omega
    · rw [if_neg h1]; apply propext; constructor
      · intro _; omega
      · intro _; split <;> decide
  simp only [hz, hle]
  by_cases h0 : R = 0
  · rw [if_pos h0]
    exact ⟨_, _, _, _, rfl, Or.inr ⟨by decide, Or.inl h0⟩⟩
  · rw [if_neg h0]
    by_cases h1 : R ≤ gr fl
    · rw [if_pos h1]
      exact ⟨_, _, _, _, rfl, Or.inl ⟨rfl, rfl, by omega⟩⟩
    · rw [if_neg h1]
      exact ⟨_, _, _, _, rfl, Or.inr ⟨by decide, Or.inr (by omega)⟩⟩
end
