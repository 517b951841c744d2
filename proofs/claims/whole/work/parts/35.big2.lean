/-! PURE 35: the own large numbers: subtract, powers of five, shift, length, low bits. -/
theorem qL_shr {a : Int} (h1 : -9223372036854775808 ≤ a) (h2 : a < 9223372036854775808) : (Int64.ofInt a >>> ((32 : Int32).toInt64 &&& 63)) = Int64.ofInt (a / 4294967296) := by
  have h3 : ((32 : Int32).toInt64 &&& 63) = (32 : Int64) := by decide
  rw [h3]
  apply Int64.toInt_inj.mp
  have h4 : (Int64.ofInt a).toInt = a := Int64.toInt_ofInt_of_le (by omega) (by omega)
  have h5 : (Int64.ofInt (a / 4294967296)).toInt = a / 4294967296 := Int64.toInt_ofInt_of_le (by omega) (by omega)
  rw [h5]
  show (BitVec.sshiftRight' (Int64.ofInt a).toBitVec _).toInt = _
  rw [BitVec.toInt_sshiftRight']
  show (Int64.ofInt a).toInt >>> _ = _
  rw [h4, Int.shiftRight_eq_div_pow]
  rfl
theorem qL_ofInt (a : Nat) : qL a = Int64.ofInt (a : Int) := by
  unfold qL; rfl
theorem ofInt_toInt32 (a : Int) : ul (Int64.ofInt a).toInt32 = (a % 4294967296).toNat := by
  show (Int64.ofInt a).toInt32.toBitVec.toNat = _
  rw [Int64.toBitVec_toInt32, BitVec.signExtend_eq_setWidth_of_le _ (by decide)]
  show (BitVec.setWidth 32 (BitVec.ofInt 64 a)).toNat = _
  rw [BitVec.toNat_setWidth, BitVec.toNat_ofInt]
  omega
theorem vl_stepI {B : Int} {b x y q r P X Y : Int} (h : x - y + b = q * B + r) : P * (b + (x + B * X) - (y + B * Y)) = P * r + P * B * (q + X - Y) := by
  have h1 : b + (x + B * X) - (y + B * Y) = r + B * (q + X - Y) := by grind
  rw [h1]; grind
theorem e_sub_loop {n e : Nat} {El : Nat → Int32} (he : e ≤ 136) (hn : 1000 ≤ n) : ∀ (m k u i : Nat) (Bl : Nat → Int32) (b : Int), i + m = u → m < k → u ≤ 136 → (b = 0 ∨ b = -1) →
    ∀ v : Nat, ((v : Int) = (vl 4294967296 (Bd Bl) i : Int) + 4294967296 ^ i * (b + (vl 4294967296 (fun j => Bd Bl (i + j)) m : Int) - (vl 4294967296 (fun j => if i + j < e then Bd El (i + j) else 0) m : Int))) →
    ∃ w Bl', f_X0_subtract_5 n (nI e) El k (nI u) Bl (Int64.ofInt b) (nI i) = some (w, Bl') ∧ Bg w Bl' v := by
  intro m
  induction m with
  | zero =>
    intro k u i Bl b hm hk hu hb v hv
    obtain ⟨k, rfl⟩ : ∃ k', k = k' + 1 := ⟨k - 1, by omega⟩
    have hiu : i = u := by omega
    subst hiu
    unfold f_X0_subtract_5 fb_X0_subtract_5
    simp (disch := omega) only [gu_t, bd_s, lt_e, qI_add, qI_add_lit, qI_lit_add, qI_lt, qI_le, qI_eq, qI_lt_lit, qI_lit_lt, qI_le_lit, qI_lit_le, qI_eq_lit, qI_lit_eq, qI_ne_neg1, gd_nI, gd_lit, qI_lit_toNat, qI_toNat, Nat.le_refl, if_true]
    have hlt := vl_lt (B := 4294967296) (d := Bd Bl) i (Bd_lt _ _)
    have hb0 : b = 0 := by
      rcases hb with hb | hb
      · exact hb
      · exfalso
        simp only [vl] at hv
        rw [hb] at hv
        have : (4294967296 : Int) ^ i = ((4294967296 ^ i : Nat) : Int) := by simp
        rw [this] at hv
        omega
    have hv2 : vl 4294967296 (Bd Bl) i = v := by
      simp only [vl] at hv
      rw [hb0] at hv
      simp at hv
      omega
    obtain ⟨w, h1, h2⟩ := e_dropZeros hn hu hv2
    exact ⟨w, Bl, by rw [h1]; rfl, h2⟩
  | succ m ih =>
    intro k u i Bl b hm hk hu hb v hv
    obtain ⟨k, rfl⟩ : ∃ k', k = k' + 1 := ⟨k - 1, by omega⟩
    unfold f_X0_subtract_5 fb_X0_subtract_5 f_X0_subtract_51
    simp (disch := omega) only [gu_t, bd_s, lt_e, qI_add, qI_add_lit, qI_lit_add, qI_lt, qI_le, qI_eq, qI_lt_lit, qI_lit_lt, qI_le_lit, qI_lit_le, qI_eq_lit, qI_lit_eq, qI_ne_neg1, gd_nI, gd_lit, qI_lit_toNat, qI_toNat, ul_mask]
    rw [if_neg (by omega)]
    have hx : ul (Bl i) < 4294967296 := ul_lt _
    have key : ∀ y : Nat, y < 4294967296 → (if i < e then Bd El i else 0) = y → 
        ∃ w Bl', f_X0_subtract_5 n (nI e) El k (nI u) (upd Bl i (qL (ul (Bl i)) - qL y + Int64.ofInt b).toInt32) ((qL (ul (Bl i)) - qL y + Int64.ofInt b) >>> ((32 : Int32).toInt64 &&& 63)) (nI (i + 1)) = some (w, Bl') ∧ Bg w Bl' v := by
      intro y hy hye
      have hd : qL (ul (Bl i)) - qL y + Int64.ofInt b = Int64.ofInt ((ul (Bl i) : Int) - y + b) := by
        rw [qL_ofInt, qL_ofInt, ← Int64.ofInt_sub, ← Int64.ofInt_add]
      rw [hd, qL_shr (by omega) (by omega)]
      have hnew : (Bd (upd Bl i (Int64.ofInt ((ul (Bl i) : Int) - y + b)).toInt32) i : Int) = ((ul (Bl i) : Int) - y + b) % 4294967296 := by
        unfold Bd; rw [upd_same, ofInt_toInt32]; omega
      have hdm : (ul (Bl i) : Int) - y + b = ((ul (Bl i) : Int) - y + b) / 4294967296 * 4294967296 + ((ul (Bl i) : Int) - y + b) % 4294967296 := by omega
      apply ih k u (i + 1) _ _ (by omega) (by omega) hu (by omega) v
      have hlow : (vl 4294967296 (Bd (upd Bl i (Int64.ofInt ((ul (Bl i) : Int) - y + b)).toInt32)) (i + 1) : Int) = (vl 4294967296 (Bd Bl) i : Int) + 4294967296 ^ i * (((ul (Bl i) : Int) - y + b) % 4294967296) := by
        show ((vl _ _ i + _ * _ : Nat) : Int) = _
        rw [Int.natCast_add, Int.natCast_mul, hnew, Int.mul_comm _ (((4294967296 ^ i : Nat) : Int))]
        rw [vl_congr i (fun j hj => show Bd (upd Bl i _) j = Bd Bl j by unfold Bd; rw [upd_ne _ _ (by omega)])]
        simp
      have hrest : vl 4294967296 (fun j => Bd (upd Bl i (Int64.ofInt ((ul (Bl i) : Int) - y + b)).toInt32) (i + 1 + j)) m = vl 4294967296 (fun j => Bd Bl (i + (j + 1))) m := by
        apply vl_congr
        intro j hj
        unfold Bd; rw [upd_ne _ _ (by omega)]; congr 2; omega
      have hrestE : vl 4294967296 (fun j => if i + 1 + j < e then Bd El (i + 1 + j) else 0) m = vl 4294967296 (fun j => if i + (j + 1) < e then Bd El (i + (j + 1)) else 0) m := by
        apply vl_congr
        intro j hj
        rw [show i + 1 + j = i + (j + 1) from by omega]
      rw [hlow, hrest, hrestE, hv, vl_head, vl_head (d := fun j => if i + j < e then Bd El (i + j) else 0)]
      have hs := vl_stepI (P := 4294967296 ^ i) (X := (vl 4294967296 (fun j => Bd Bl (i + (j + 1))) m : Int)) (Y := (vl 4294967296 (fun j => if i + (j + 1) < e then Bd El (i + (j + 1)) else 0) m : Int)) hdm
      simp only [Nat.add_zero, hye]
      rw [show Bd Bl i = ul (Bl i) from rfl]
      simp only [Int.natCast_add, Int.natCast_mul, show ((4294967296 : Nat) : Int) = 4294967296 from rfl]
      rw [hs, Int.pow_succ]
      omega
    by_cases hie : e ≤ i
    · rw [if_pos hie]
      exact key 0 (by omega) (by rw [if_neg (by omega)])
    · rw [if_neg hie]
      exact key (ul (El i)) (ul_lt _) (by rw [if_pos (by omega)]; rfl)
theorem e_subtract {n v x : Nat} {u e : Int32} {Bl El : Nat → Int32} (hn : 1000 ≤ n) (h : Bg u Bl v) (g : Bg e El x) (hx : x ≤ v) : ∃ u' Bl', f_X0_subtract n u Bl e El = some (u', Bl') ∧ Bg u' Bl' (v - x) := by
  obtain ⟨k, hk, rfl, h1⟩ := h
  obtain ⟨l, hl, rfl, g1⟩ := g
  have hlk := Row.len (by omega) h1 g1 hx
  unfold f_X0_subtract f_X0_subtract_0
  apply e_sub_loop hl hn k n k 0 Bl 0 (by omega) (by omega) hk (Or.inl rfl)
  have hz : vl 4294967296 (fun j => Bd Bl (0 + j)) k = v := by rw [← h1.1]; exact vl_congr k (fun j _ => by rw [Nat.zero_add])
  have hy : vl 4294967296 (fun j => if 0 + j < l then Bd El (0 + j) else 0) k = x := by
    rw [vl_cut (w := l) k hlk (fun j h1 h2 => by rw [if_neg (by omega)])]
    rw [← g1.1]
    exact vl_congr l (fun j hj => by rw [if_pos (by omega), Nat.zero_add])
  rw [hz, hy]
  simp [vl]
  omega
theorem e_p5_loop {n : Nat} (hn : 1000 ≤ n) : ∀ (p k v : Nat) (u : Int32) (Bl : Nat → Int32), p < k → p < 100 → Bg u Bl v → v * 5 ^ p < 2 ^ 4352 → ∃ u' Bl', f_X0_timesPowerOfFive_21 n k u Bl (nI p) = some (u', Bl') ∧ Bg u' Bl' (v * 5 ^ p) := by
  intro p
  induction p with
  | zero =>
    intro k v u Bl hk _ h _
    obtain ⟨k, rfl⟩ : ∃ k', k = k' + 1 := ⟨k - 1, by omega⟩
    exact ⟨u, Bl, rfl, by simpa using h⟩
  | succ p ih =>
    intro k v u Bl hk hp h hfit
    obtain ⟨k, rfl⟩ : ∃ k', k = k' + 1 := ⟨k - 1, by omega⟩
    unfold f_X0_timesPowerOfFive_21 fb_X0_timesPowerOfFive_21
    simp (disch := omega) only [gu_t, bd_s, lt_e, qI_add, qI_add_lit, qI_lit_add, qI_lt, qI_le, qI_eq, qI_lt_lit, qI_lit_lt, qI_le_lit, qI_lit_le, qI_eq_lit, qI_lit_eq, qI_ne_neg1, gd_nI, gd_lit, qI_lit_toNat, qI_toNat, qI_add_neg1, Nat.add_sub_cancel]
    rw [if_neg (by omega)]
    have e1 : v * 5 ^ (p + 1) = v * 5 * 5 ^ p := by rw [Nat.pow_succ, Nat.mul_assoc, Nat.mul_comm 5]
    have h5 : v * 5 * 1 ≤ v * 5 * 5 ^ p := Nat.mul_le_mul_left _ (Nat.pow_pos (by omega))
    rw [e1] at hfit
    obtain ⟨u1, B1, g1, g2⟩ := e_timesPlus (n := n) (f := 5) (s := 0) hn h (by omega) (by omega) (by omega) (by omega)
    have g1' : f_X0_timesPlus n 5 0 u Bl = some (u1, B1) := g1
    rw [g1']
    simp only [bd_s]
    obtain ⟨u2, B2, k1, k2⟩ := ih k (v * 5) u1 B1 (by omega) (by omega) (by simpa using g2) hfit
    exact ⟨u2, B2, k1, by rw [e1]; exact k2⟩
theorem e_p13_loop {n : Nat} (hn : 1000 ≤ n) : ∀ (m k p v : Nat) (u : Int32) (Bl : Nat → Int32), p ≤ m → m < k → p < 2000 → Bg u Bl v → v * 5 ^ p < 2 ^ 4352 → ∃ u' Bl', f_X0_timesPowerOfFive_2 n k u Bl (nI p) = some (u', Bl') ∧ Bg u' Bl' (v * 5 ^ p) := by
  intro m
  induction m with
  | zero =>
    intro k p v u Bl hp hk h2 h hfit
    obtain ⟨k, rfl⟩ : ∃ k', k = k' + 1 := ⟨k - 1, by omega⟩
    unfold f_X0_timesPowerOfFive_2 fb_X0_timesPowerOfFive_2
    simp (disch := omega) only [gu_t, bd_s, lt_e, qI_add, qI_add_lit, qI_lit_add, qI_lt, qI_le, qI_eq, qI_lt_lit, qI_lit_lt, qI_le_lit, qI_lit_le, qI_eq_lit, qI_lit_eq, qI_ne_neg1, gd_nI, gd_lit, qI_lit_toNat, qI_toNat]
    rw [if_pos (by omega)]
    exact e_p5_loop hn p n v u Bl (by omega) (by omega) h hfit
  | succ m ih =>
    intro k p v u Bl hp hk h2 h hfit
    obtain ⟨k, rfl⟩ : ∃ k', k = k' + 1 := ⟨k - 1, by omega⟩
    unfold f_X0_timesPowerOfFive_2 fb_X0_timesPowerOfFive_2
    simp (disch := omega) only [gu_t, bd_s, lt_e, qI_add, qI_add_lit, qI_lit_add, qI_lt, qI_le, qI_eq, qI_lt_lit, qI_lit_lt, qI_le_lit, qI_lit_le, qI_eq_lit, qI_lit_eq, qI_ne_neg1, gd_nI, gd_lit, qI_lit_toNat, qI_toNat]
    by_cases hp13 : p < 13
    · rw [if_pos hp13]
      exact e_p5_loop hn p n v u Bl (by omega) (by omega) h hfit
    · rw [if_neg hp13]
      have e0 : nI p + (-13 : Int32) = nI (p - 13) := by
        rw [← qI_sub (b := 13) (by omega)]; show nI p + -13 = nI p - 13; grind
      have e1 : v * 5 ^ p = v * 1220703125 * 5 ^ (p - 13) := by
        rw [show p = 13 + (p - 13) from by omega, Nat.pow_add, ← Nat.mul_assoc, show 13 + (p - 13) - 13 = p - 13 from by omega]
      have h5 : v * 1220703125 * 1 ≤ v * 1220703125 * 5 ^ (p - 13) := Nat.mul_le_mul_left _ (Nat.pow_pos (by omega))
      rw [e1] at hfit
      obtain ⟨u1, B1, g1, g2⟩ := e_timesPlus (n := n) (f := 1220703125) (s := 0) hn h (by omega) (by omega) (by omega) (by omega)
      have g1' : f_X0_timesPlus n 1220703125 0 u Bl = some (u1, B1) := g1
      rw [g1', e0]
      simp only [bd_s]
      obtain ⟨u2, B2, k1, k2⟩ := ih k (p - 13) (v * 1220703125) u1 B1 (by omega) (by omega) (by omega) (by simpa using g2) hfit
      exact ⟨u2, B2, k1, by rw [e1]; exact k2⟩
theorem e_timesPowerOfFive {n p v : Nat} {u : Int32} {Bl : Nat → Int32} (hn : 3000 ≤ n) (hp : p < 2000) (h : Bg u Bl v) (hfit : v * 5 ^ p < 2 ^ 4352) : ∃ u' Bl', f_X0_timesPowerOfFive n (nI p) u Bl = some (u', Bl') ∧ Bg u' Bl' (v * 5 ^ p) :=
  e_p13_loop (by omega) p n p v u Bl (by omega) (by omega) hp h hfit
theorem e_isZero {n v : Nat} {u : Int32} {Bl : Nat → Int32} (h : Bg u Bl v) : f_X0_isZero n u = some (if v = 0 then 1 else 0) := by
  obtain ⟨k, hk, rfl, h1⟩ := h
  unfold f_X0_isZero f_X0_isZero_0
  simp (disch := omega) only [gu_t, bd_s, lt_e, qI_add, qI_add_lit, qI_lit_add, qI_lt, qI_le, qI_eq, qI_lt_lit, qI_lit_lt, qI_le_lit, qI_lit_le, qI_eq_lit, qI_lit_eq, qI_ne_neg1, gd_nI, gd_lit, qI_lit_toNat, qI_toNat, Row.zero (by omega) h1]
  split <;> rfl
