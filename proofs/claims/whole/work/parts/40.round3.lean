/-! PURE 40: the own rounding: the whole of it. -/
theorem qL_shl {k s : Nat} (hs : s < 64) : qL k <<< ((nI s).toInt64 &&& 63) = qL (k * 2 ^ s) := by
  apply qL_of
  show (qL k <<< ((nI s).toInt64 &&& 63)).toBitVec.toNat = _
  rw [Int64.toBitVec_shiftLeft]
  have h : ∀ x : Fin 64, BitVec.smod ((nI x.1).toInt64 &&& 63).toBitVec 64 = BitVec.ofNat 64 x.1 := by decide
  rw [h ⟨s, hs⟩]
  show ((qL k).toBitVec <<< (BitVec.ofNat 64 s).toNat).toNat = _
  rw [BitVec.toNat_shiftLeft]
  have h3 : (qL k).toBitVec.toNat = k % 18446744073709551616 := qL_toNat k
  rw [h3, BitVec.toNat_ofNat, Nat.mod_eq_of_lt (show s < 2 ^ 64 by omega), Nat.shiftLeft_eq]
  show (k % 18446744073709551616 * 2 ^ s) % 18446744073709551616 = _
  rw [Nat.mod_mul_mod]
theorem qL_shr2 {b s : Nat} (hb : b < 9223372036854775808) (hs : s < 64) : qL b >>> ((nI s).toInt64 &&& 63) = qL (b / 2 ^ s) := by
  apply Int64.toInt_inj.mp
  have hd : b / 2 ^ s < 9223372036854775808 := Nat.lt_of_le_of_lt (Nat.div_le_self _ _) hb
  rw [qL_toInt hd]
  show (BitVec.sshiftRight' (qL b).toBitVec _).toInt = _
  rw [BitVec.toInt_sshiftRight']
  have h : ∀ x : Fin 64, (BitVec.smod ((nI x.1).toInt64 &&& 63).toBitVec 64).toNat = x.1 := by decide
  rw [h ⟨s, hs⟩]
  show (qL b).toInt >>> s = _
  rw [qL_toInt hb, Int.shiftRight_eq_div_pow]
  simp
theorem up_scale {Q r D c : Nat} (hc : 0 < c) : upq Q (r * c) (D * c) = upq Q r D := by
  unfold upq
  have h1 : (D * c < r * c) = (D < r) := propext (Nat.mul_lt_mul_right hc)
  have h2 : (r * c = D * c) = (r = D) := propext (Nat.mul_right_cancel_iff hc)
  simp only [h1, h2]
theorem i32_sub_of {x y : Int32} {a b : Int} (hx : x.toInt = a) (hy : y.toInt = b) (h1 : -2147483648 ≤ a - b) (h2 : a - b < 2147483648) : (x - y).toInt = a - b := by
  rw [Int32.toInt_sub, hx, hy, Int.bmod_eq_of_le (by omega) (by omega)]
theorem i32_add_of {x y : Int32} {a b : Int} (hx : x.toInt = a) (hy : y.toInt = b) (h1 : -2147483648 ≤ a + b) (h2 : a + b < 2147483648) : (x + y).toInt = a + b := by
  rw [Int32.toInt_add, hx, hy, Int.bmod_eq_of_le (by omega) (by omega)]
theorem i32_lt {x y : Int32} {a b : Int} (hx : x.toInt = a) (hy : y.toInt = b) : (x < y) = (a < b) := by
  rw [Int32.lt_iff_toInt_lt, hx, hy]
theorem i32_le {x y : Int32} {a b : Int} (hx : x.toInt = a) (hy : y.toInt = b) : (x ≤ y) = (a ≤ b) := by
  rw [Int32.le_iff_toInt_le, hx, hy]
theorem i32_max {x : Int32} {a : Int} (hx : x.toInt = a) : (if x < 0 then (0 : Int32) else x) = nI a.toNat := by
  simp only [i32_lt0 hx]
  by_cases h : a < 0
  · rw [if_pos h, show a.toNat = 0 from by omega]; rfl
  · rw [if_neg h]; exact i32_of (by rw [hx]; omega)
/-- what the own rounding answers of N / D * 2 ^ e -/
def Rnd (p : Nat) (lo : Int) (N D : Nat) (e : Int) (g : Int32) (bits : Int64) : Prop := ∃ E : Int, -30000000 ≤ E ∧ E ≤ 30000000 ∧ D * PW E ≤ N * PW e ∧ N * PW e < D * PW (E + 1) ∧
  ((1 - lo < E ∨ E < lo - p) → g = 0) ∧
  (E ≤ 1 - lo → lo - p ≤ E → ∃ Q r : Nat, N * PW e = Q * (2 * (D * PW (E - (p - (lo - E).toNat : Nat)))) + r ∧ r < 2 * (D * PW (E - (p - (lo - E).toNat : Nat))) ∧ Q < 2 ^ (p - (lo - E).toNat) ∧
    bits = qL (Q + upq Q r (D * PW (E - (p - (lo - E).toNat : Nat))) + (E - lo).toNat * 2 ^ (p - 1)) ∧
    g = if Q + upq Q r (D * PW (E - (p - (lo - E).toNat : Nat))) + (E - lo).toNat * 2 ^ (p - 1) = 0 ∨ (3 - 2 * lo).toNat * 2 ^ (p - 1) ≤ Q + upq Q r (D * PW (E - (p - (lo - E).toNat : Nat))) + (E - lo).toNat * 2 ^ (p - 1) then 0 else 1)
theorem e_round41 {n N D p : Nat} {lo e : Int} {R : Int64} {u w x1 t0 : Int32} {Bl El : Nat → Int32} (hn : 1000 ≤ n) (h : Bg u Bl N) (g : Bg w El D) (hN : 0 < N) (hD : 0 < D) (hN2 : N < 2 ^ 4100) (hD2 : D < 2 ^ 4100)
    (hx : x1.toInt = e) (he1 : -20000000 ≤ e) (he2 : e ≤ 20000000) (ht : t0.toInt = lo) (hlo : -1022 ≤ lo) (hlo2 : lo ≤ -126) (hp : 24 ≤ p) (hp2 : p ≤ 53) (hbig : (3 - 2 * lo).toNat * 2 ^ (p - 1) < 9223372036854775808) :
    ∃ go bits u' Bl' w' El', f_X5_round_41 n R u Bl w El x1 (nI p) t0 = some (go, bits, u', Bl', w', El') ∧ (go = 0 ∨ go = 1) ∧ Rnd p lo N D e go bits := by
  obtain ⟨sh, u1, B1, w1, E1, a, b, a1, a2, a3, a4, a5, a6, a7, a8, a9⟩ := e_align (R := R) hn h g hN hD hN2 hD2
  unfold f_X5_round_41
  rw [a1]
  simp only [bd_s, lt_e]
  have hE : (x1 - sh).toInt = e - ((a : Int) - b) := i32_sub_of hx a2 (by omega) (by omega)
  generalize hEE : e - ((a : Int) - b) = E at hE
  have hhi : ((1 : Int32) - t0).toInt = 1 - lo := i32_sub_of rfl ht (by omega) (by omega)
  have hle : (t0 - (x1 - sh)).toInt = lo - E := i32_sub_of ht hE (by omega) (by omega)
  have hel : (x1 - sh - t0).toInt = E - lo := i32_sub_of hE ht (by omega) (by omega)
  rw [i32_max hle, i32_max hel]
  have hl : (nI p - nI (lo - E).toNat).toInt = (p : Int) - (lo - E).toNat := i32_sub_of (qI_toInt (by omega)) (qI_toInt (by omega)) (by omega) (by omega)
  have pw1 : N * 2 ^ a * PW (e - a) = N * PW e := by
    rw [Nat.mul_assoc, Nat.mul_comm (2 ^ a), ← PW_add a (by omega), show e - (a : Int) + a = e from by omega]
  have pw2 : D * 2 ^ b * PW (e - a) = D * PW E := by
    rw [Nat.mul_assoc, Nat.mul_comm (2 ^ b), ← PW_add b (by omega), show e - (a : Int) + b = E from by omega]
  have hlow : D * PW E ≤ N * PW e := by rw [← pw1, ← pw2]; exact Nat.mul_le_mul_right _ a7
  have hhigh : N * PW e < D * PW (E + 1) := by
    have q := PW_add (e := E) 1 (by omega)
    have q2 : N * 2 ^ a * PW (e - a) < 2 * (D * 2 ^ b) * PW (e - a) := Nat.mul_lt_mul_of_pos_right a8 (PW_pos _)
    rw [pw1, Nat.mul_assoc, pw2] at q2
    rw [show (E + 1) = E + ((1 : Nat) : Int) from rfl, q, Nat.pow_one, Nat.mul_comm (PW E), Nat.mul_left_comm]
    exact q2
  simp only [i32_lt hhi hE, i32_le (show (0 : Int32).toInt = 0 from rfl) hl]
  by_cases hb1 : 1 - lo < E
  · rw [if_pos hb1]
    exact ⟨0, R, u1, B1, w1, E1, rfl, Or.inl rfl, E, by omega, by omega, hlow, hhigh, fun _ => rfl, fun h => absurd h (by omega)⟩
  · rw [if_neg hb1]
    by_cases hb2 : (0 : Int) ≤ (p : Int) - (lo - E).toNat
    · rw [if_pos hb2]
      generalize hll : p - (lo - E).toNat = l
      have hl2 : nI p - nI (lo - E).toNat = nI l := by rw [qI_sub (by omega), hll]
      rw [hl2]
      obtain ⟨Q, r, u2, B2, d1, d2, d3, d4⟩ := e_divide (n := n) (R := R) (l := l) hn a5 a6 a9 (by omega) a8
      rw [d1]
      simp only [bd_s, lt_e]
      have pm1 : nI p - 1 = nI (p - 1) := qI_sub (b := 1) (by omega)
      rw [pm1, qI_toInt64 (a := (E - lo).toNat) (by omega), qL_shl (by omega), qL_add]
      have hc0 : 0 < PW (e - a - l) := PW_pos _
      have sc1 : N * 2 ^ a * 2 ^ l * PW (e - a - l) = N * PW e := by
        rw [Nat.mul_assoc, Nat.mul_comm (2 ^ l), ← PW_add l (by omega), show e - (a : Int) - l + l = e - a from by omega, pw1]
      have sc2 : D * 2 ^ b * PW (e - a - l) = D * PW (E - l) := by
        rw [Nat.mul_assoc, Nat.mul_comm (2 ^ b), ← PW_add b (by omega), show e - (a : Int) - l + b = E - l from by omega]
      have hup : upq Q r (D * 2 ^ b) = upq Q (r * PW (e - a - l)) (D * PW (E - l)) := by
        rw [← sc2, up_scale hc0]
      rw [hup]
      have hul : upq Q (r * PW (e - a - l)) (D * PW (E - l)) ≤ 1 := by unfold upq; split <;> omega
      have hQp : Q < 2 ^ p := Nat.lt_of_lt_of_le d4 (Nat.pow_le_pow_right (by omega) (by omega))
      have hpp : 2 ^ p = 2 * 2 ^ (p - 1) := by rw [show p = (p - 1) + 1 from by omega, Nat.pow_succ, Nat.mul_comm, Nat.add_sub_cancel]
      have hEl : (E - lo).toNat * 2 ^ (p - 1) + 2 * 2 ^ (p - 1) ≤ (3 - 2 * lo).toNat * 2 ^ (p - 1) := by
        rw [← Nat.add_mul]; exact Nat.mul_le_mul_right _ (by omega)
      generalize hT : Q + upq Q (r * PW (e - a - l)) (D * PW (E - l)) + (E - lo).toNat * 2 ^ (p - 1) = T
      have hTb : T < 9223372036854775808 := by omega
      have hz : (lg_cmp (qL T) 0 = 0) = (T = 0) := by
        rw [show (0 : Int64) = qL 0 from rfl, qL_cmp hTb (by omega)]
        by_cases h0 : T = 0
        · simp [h0]
        · simp [h0, show 0 < T from by omega]
      have hhl : ((1 : Int32) - t0 - t0 + 2).toInt = ((3 - 2 * lo).toNat : Int) := by
        rw [i32_add_of (i32_sub_of hhi ht (by omega) (by omega)) (show (2 : Int32).toInt = 2 from rfl) (by omega) (by omega)]; omega
      rw [i32_of hhl, qI_toInt64 (a := (3 - 2 * lo).toNat) (by omega), qL_shr2 hTb (by omega)]
      have hTd : T / 2 ^ (p - 1) < 9223372036854775808 := Nat.lt_of_le_of_lt (Nat.div_le_self _ _) hTb
      have hge : (0 ≤ lg_cmp (qL (T / 2 ^ (p - 1))) (qL (3 - 2 * lo).toNat)) = ((3 - 2 * lo).toNat * 2 ^ (p - 1) ≤ T) := by
        rw [qL_cmp hTd (by omega), ← Nat.le_div_iff_mul_le (Nat.pow_pos (by omega))]
        generalize T / 2 ^ (p - 1) = d
        by_cases h1 : (3 - 2 * lo).toNat < d
        · rw [if_pos h1]; simp; omega
        · rw [if_neg h1]
          by_cases h2 : d = (3 - 2 * lo).toNat
          · rw [if_pos h2]; simp; omega
          · rw [if_neg h2]; simp; omega
      simp only [hz, hge]
      have hR : ∀ go, (go = if T = 0 ∨ (3 - 2 * lo).toNat * 2 ^ (p - 1) ≤ T then 0 else 1) → Rnd p lo N D e go (qL T) := by
        intro go hgo
        refine ⟨E, by omega, by omega, hlow, hhigh, fun h => absurd h (by omega), fun _ _ => ⟨Q, r * PW (e - a - l), ?_⟩⟩
        rw [hll, hT]
        refine ⟨?_, ?_, d4, rfl, hgo⟩
        · rw [← sc1, Nat.mul_comm (N * 2 ^ a), d2, ← sc2]; grind
        · rw [← sc2, ← Nat.mul_assoc]; exact Nat.mul_lt_mul_of_pos_right d3 hc0
      by_cases c1 : T = 0
      · rw [if_pos c1]
        exact ⟨0, _, u2, B2, w1, E1, rfl, Or.inl rfl, hR 0 (by rw [if_pos (Or.inl c1)])⟩
      · rw [if_neg c1]
        by_cases c2 : (3 - 2 * lo).toNat * 2 ^ (p - 1) ≤ T
        · rw [if_pos c2]
          exact ⟨0, _, u2, B2, w1, E1, rfl, Or.inl rfl, hR 0 (by rw [if_pos (Or.inr c2)])⟩
        · rw [if_neg c2]
          exact ⟨1, _, u2, B2, w1, E1, rfl, Or.inr rfl, hR 1 (by rw [if_neg (by omega)])⟩
    · rw [if_neg hb2]
      exact ⟨0, R, u1, B1, w1, E1, rfl, Or.inl rfl, E, by omega, by omega, hlow, hhigh, fun _ => rfl, fun _ h => absurd h (by omega)⟩
/-- a number's form: 24 or 53 bits, and the lowest exponent -/
def pr (fl : Int32) : Nat := if fl = 0 then 53 else 24
def lw (fl : Int32) : Int := if fl = 0 then -1022 else -126
theorem e_round {n N D : Nat} {e : Int} {R : Int64} {u w x1 fl : Int32} {Bl El : Nat → Int32} (hn : 1000 ≤ n) (h : Bg u Bl N) (g : Bg w El D) (hD : 0 < D) (hN2 : N < 2 ^ 4100) (hD2 : D < 2 ^ 4100)
    (hx : x1.toInt = e) (he1 : -20000000 ≤ e) (he2 : e ≤ 20000000) :
    ∃ go bits u' Bl' w' El', f_X5_round n x1 fl R u Bl w El = some (go, bits, u', Bl', w', El') ∧ (go = 0 ∨ go = 1) ∧ (N = 0 → go = 1 ∧ bits = qL 0) ∧ (0 < N → Rnd (pr fl) (lw fl) N D e go bits) := by
  unfold f_X5_round f_X5_round_0 f_X5_round_28
  rw [e_isZero h]
  simp only [bd_s]
  by_cases h0 : N = 0
  · rw [if_pos h0, if_neg (by decide)]
    exact ⟨1, 0, u, Bl, w, El, rfl, Or.inr rfl, fun _ => ⟨rfl, rfl⟩, fun h => absurd h0 (by omega)⟩
  · rw [if_neg h0, if_pos rfl]
    unfold pr lw
    by_cases hf : fl = 0
    · simp only [hf, if_true]
      obtain ⟨a1, a2, a3, a4, a5, a6, a7, a8, a9⟩ := e_round41 (n := n) (R := 0) (p := 53) (lo := -1022) (t0 := -1022) hn h g (by omega) hD hN2 hD2 hx he1 he2 (by decide) (by omega) (by omega) (by omega) (by omega) (by decide)
      exact ⟨a1, a2, a3, a4, a5, a6, a7, a8, fun h => absurd h h0, fun _ => a9⟩
    · simp only [hf, if_false]
      obtain ⟨a1, a2, a3, a4, a5, a6, a7, a8, a9⟩ := e_round41 (n := n) (R := 0) (p := 24) (lo := -126) (t0 := -126) hn h g (by omega) hD hN2 hD2 hx he1 he2 (by decide) (by omega) (by omega) (by omega) (by omega) (by decide)
      exact ⟨a1, a2, a3, a4, a5, a6, a7, a8, fun h => absurd h h0, fun _ => a9⟩
