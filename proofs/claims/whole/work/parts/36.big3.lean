/-! PURE 36: the own large numbers: shift, length, low bits. -/
/-- what a shift makes of the row d -/
def shd (d : Nat → Nat) (far s t : Nat) (j : Nat) : Nat := if j < far then 0 else (d (j - far) * s + (if far < j then d (j - far - 1) / t else 0)) % 4294967296
theorem shd_sum {d : Nat → Nat} {far s t : Nat} (hst : s * t = 4294967296) (hd : ∀ j, d j < 4294967296) : ∀ (j : Nat), vl 4294967296 (shd d far s t) (far + j) + 4294967296 ^ (far + j) * (if 0 < j then d (j - 1) / t else 0) = 4294967296 ^ far * s * vl 4294967296 d j
  | 0 => by
    rw [vl_zero (far + 0) (fun j hj => by unfold shd; rw [if_pos (by omega)])]
    simp [vl]
  | j + 1 => by
    have ih := shd_sum (far := far) hst hd j
    have hs : 0 < s := Nat.pos_of_ne_zero (by rintro rfl; simp at hst)
    have ht : 0 < t := Nat.pos_of_ne_zero (by rintro rfl; simp at hst)
    have hc : ∀ x, x < 4294967296 → x / t < s := fun x hx => by
      rw [Nat.div_lt_iff_lt_mul ht, hst]; exact hx
    have hcs : (if 0 < j then d (j - 1) / t else 0) < s := by
      split
      · exact hc _ (hd _)
      · exact hs
    have he : shd d far s t (far + j) = (d j * s + (if 0 < j then d (j - 1) / t else 0)) % 4294967296 := by
      unfold shd
      rw [if_neg (by omega), show far + j - far = j from by omega]
      by_cases h : 0 < j
      · rw [if_pos (by omega), if_pos h]
      · rw [if_neg (by omega), if_neg h]
    have hq : (d j * s + (if 0 < j then d (j - 1) / t else 0)) / 4294967296 = d j / t := by
      rw [← hst, ← Nat.div_div_eq_div_mul, Nat.mul_comm (d j), Nat.mul_add_div hs, Nat.div_eq_of_lt hcs, Nat.add_zero]
    have hdm := Nat.div_add_mod (d j * s + (if 0 < j then d (j - 1) / t else 0)) 4294967296
    rw [hq, ← he] at hdm
    show vl 4294967296 (shd d far s t) (far + j) + shd d far s t (far + j) * 4294967296 ^ (far + j) + 4294967296 ^ (far + j + 1) * _ = 4294967296 ^ far * s * (vl 4294967296 d j + d j * 4294967296 ^ j)
    rw [if_pos (by omega), Nat.add_sub_cancel, pow_step, Nat.mul_add, ← ih]
    have h1 : 4294967296 ^ far * s * (d j * 4294967296 ^ j) = 4294967296 ^ (far + j) * (d j * s) := by
      rw [Nat.pow_add]; grind
    have h2 : 4294967296 ^ (far + j) * 4294967296 * (d j / t) + shd d far s t (far + j) * 4294967296 ^ (far + j) = 4294967296 ^ (far + j) * (4294967296 * (d j / t) + shd d far s t (far + j)) := by grind
    have h3 : 4294967296 ^ (far + j) * (4294967296 * (d j / t) + shd d far s t (far + j)) = 4294967296 ^ (far + j) * (d j * s) + 4294967296 ^ (far + j) * (if 0 < j then d (j - 1) / t else 0) := by
      rw [hdm, Nat.mul_add]
    omega
theorem sh_32 {a b : Nat} (ha : a < 4294967296) (hb : b < 4294967296) : ((qL a <<< ((32 : Int32).toInt64 &&& 63)) ||| qL b) = qL (a * 4294967296 + b) := by
  apply qL_of
  have h0 : ((32 : Int32).toInt64 &&& 63) = (32 : Int64) := by decide
  rw [h0]
  show ((qL a <<< (32 : Int64)) ||| qL b).toBitVec.toNat = _
  rw [Int64.toBitVec_or, BitVec.toNat_or, Int64.toBitVec_shiftLeft]
  have h2 : BitVec.smod (32 : Int64).toBitVec 64 = 32#64 := by decide
  rw [h2]
  show ((qL a).toBitVec <<< (32#64).toNat).toNat ||| (qL b).toBitVec.toNat = _
  rw [BitVec.toNat_shiftLeft]
  have h3 : (qL a).toBitVec.toNat = a := by have := qL_toNat a; rw [Nat.mod_eq_of_lt (by omega)] at this; exact this
  have h4 : (qL b).toBitVec.toNat = b := by have := qL_toNat b; rw [Nat.mod_eq_of_lt (by omega)] at this; exact this
  rw [h3, h4]
  show a <<< 32 % 2 ^ 64 ||| b = _
  have h5 : a <<< 32 = a * 4294967296 := by rw [Nat.shiftLeft_eq]
  rw [Nat.mod_eq_of_lt (by rw [h5]; omega), ← Nat.shiftLeft_add_eq_or_of_lt (show b < 2 ^ 32 by omega), h5]
  omega
theorem sh_word {a b near : Nat} (ha : a < 4294967296) (hb : b < 4294967296) (hn : near < 32) : ul (((((qL a <<< ((32 : Int32).toInt64 &&& 63)) ||| qL b).toUInt64 >>> (((32 : Int32) - nI near).toInt64.toUInt64 &&& Int64.toUInt64 63)).toInt64).toInt32) = (a * 2 ^ near + b / 2 ^ (32 - near)) % 4294967296 := by
  rw [sh_32 ha hb]
  have h2 : ∀ x : Fin 32, ((((32 : Int32) - nI x.1).toInt64.toUInt64 &&& Int64.toUInt64 63)).toNat % 64 = 32 - x.1 := by decide
  have h3 : ((qL (a * 4294967296 + b)).toUInt64 >>> (((32 : Int32) - nI near).toInt64.toUInt64 &&& Int64.toUInt64 63)).toInt64 = qL ((a * 4294967296 + b) / 2 ^ (32 - near)) := by
    apply qL_of
    show ((qL (a * 4294967296 + b)).toUInt64 >>> (((32 : Int32) - nI near).toInt64.toUInt64 &&& Int64.toUInt64 63)).toNat = _
    rw [UInt64.toNat_shiftRight, qL_toNat, h2 ⟨near, hn⟩, Nat.shiftRight_eq_div_pow, Nat.mod_eq_of_lt (by omega)]
    rw [Nat.mod_eq_of_lt]
    exact Nat.lt_of_le_of_lt (Nat.div_le_self _ _) (by omega)
  rw [h3, qL_toInt32]
  congr 1
  have h4 : a * 4294967296 = 2 ^ (32 - near) * (a * 2 ^ near) := by
    rw [show (4294967296 : Nat) = 2 ^ (32 - near) * 2 ^ near from by rw [← Nat.pow_add, show 32 - near + near = 32 from by omega]]
    grind
  rw [h4, Nat.mul_add_div (Nat.pow_pos (by omega))]
theorem qI_sub_neg {a b : Nat} (h : a < b) (hb : b < 1000000000) : nI a - nI b < 0 ∧ nI a - nI b - 1 < 0 := by
  have h1 : (nI a - nI b).toInt = (a : Int) - b := by
    rw [Int32.toInt_sub, qI_toInt (by omega), qI_toInt (by omega), Int.bmod_eq_of_le (by omega) (by omega)]
  have e1 : (1 : Int32).toInt = 1 := rfl
  have h2 : (nI a - nI b - 1).toInt = (a : Int) - b - 1 := by
    rw [Int32.toInt_sub, h1, e1, Int.bmod_eq_of_le (by omega) (by omega)]
  have e0 : (0 : Int32).toInt = 0 := rfl
  constructor
  · rw [Int32.lt_iff_toInt_lt, h1, e0]; omega
  · rw [Int32.lt_iff_toInt_lt, h2, e0]; omega
theorem e_limb_neg {n : Nat} {x u : Int32} {Bl : Nat → Int32} (h : x < 0) : f_X0_limbOrZero n x u Bl = some (qL 0) := by
  unfold f_X0_limbOrZero f_X0_limbOrZero_0; rw [if_pos h]; rfl
theorem e_limb {n a u : Nat} {Bl : Nat → Int32} (ha : a < 2147483648) (hu : u ≤ 136) : f_X0_limbOrZero n (nI a) (nI u) Bl = some (qL (if a < u then Bd Bl a else 0)) := by
  unfold f_X0_limbOrZero f_X0_limbOrZero_0
  rw [if_neg (by rw [qI_lt_lit ha (by decide)]; omega)]
  simp only [qI_le (show u < 2147483648 by omega) ha]
  by_cases h : a < u
  · rw [if_neg (by omega), if_pos h, gd_nI (by omega) (by omega), gu_t, qI_toNat (by omega), ul_mask]; rfl
  · rw [if_pos (by omega), if_neg h]; rfl
theorem e_sh_loop {n u far near top : Nat} {O : Nat → Int32} (hu : u ≤ 136) (hfar : far < 1000) (hnear : near < 32) (ht : top ≤ 136) : ∀ (m k : Nat) (X : Nat → Int32), m < k → m ≤ top → (∀ j, j < m → X j = O j) →
    (∀ j, m ≤ j → j < top → Bd X j = shd (fun j => if j < u then Bd O j else 0) far (2 ^ near) (2 ^ (32 - near)) j) →
    ∃ Bl', f_X0_shiftLeft_32 n k (nI u) X (nI far) (nI near) (nI top) (nI m + -1) = (bd (f_X0_dropZeros n (nI top) Bl') fun u4 => some (u4, Bl')) ∧ ∀ j, j < top → Bd Bl' j = shd (fun j => if j < u then Bd O j else 0) far (2 ^ near) (2 ^ (32 - near)) j := by
  intro m
  induction m with
  | zero =>
    intro k X hk hm hO hN
    obtain ⟨k, rfl⟩ : ∃ k', k = k' + 1 := ⟨k - 1, by omega⟩
    refine ⟨X, ?_, fun j hj => hN j (by omega) hj⟩
    unfold f_X0_shiftLeft_32 fb_X0_shiftLeft_32
    rw [if_pos (by decide)]
  | succ m ih =>
    intro k X hk hm hO hN
    obtain ⟨k, rfl⟩ : ∃ k', k = k' + 1 := ⟨k - 1, by omega⟩
    unfold f_X0_shiftLeft_32 fb_X0_shiftLeft_32
    rw [qI_add_neg1 (by omega), Nat.add_sub_cancel, if_neg (by rw [qI_lt_lit (by omega) (by decide)]; omega)]
    have hdd : ∀ a, a ≤ m → (if a < u then Bd X a else 0) = (if a < u then Bd O a else 0) := fun a ha => by
      unfold Bd; rw [hO a (by omega)]
    have h5 : f_X0_limbOrZero n (nI m - nI far) (nI u) X = some (qL (if m < far then 0 else (if m - far < u then Bd O (m - far) else 0))) := by
      by_cases h : m < far
      · rw [if_pos h, e_limb_neg (qI_sub_neg h (by omega)).1]
      · rw [if_neg h, qI_sub (by omega), e_limb (by omega) hu, hdd _ (by omega)]
    have h6 : f_X0_limbOrZero n (nI m - nI far - 1) (nI u) X = some (qL (if far < m then (if m - far - 1 < u then Bd O (m - far - 1) else 0) else 0)) := by
      by_cases h : far < m
      · rw [if_pos h, qI_sub (by omega), show nI (m - far) - 1 = nI (m - far - 1) from qI_sub (b := 1) (by omega), e_limb (by omega) hu, hdd _ (by omega)]
      · rw [if_neg h]
        by_cases h2 : m = far
        · subst h2
          rw [qI_sub (Nat.le_refl _), Nat.sub_self]
          exact e_limb_neg (by decide)
        · rw [e_limb_neg (qI_sub_neg (by omega) (by omega)).2]
    rw [h5, h6]
    simp only [bd_s, lt_e]
    rw [gd_nI (by omega) (by omega), gu_t, qI_toNat (by omega)]
    have b1 : (if m < far then 0 else (if m - far < u then Bd O (m - far) else 0)) < 4294967296 := by
      split; omega; split; exact ul_lt _; omega
    have b2 : (if far < m then (if m - far - 1 < u then Bd O (m - far - 1) else 0) else 0) < 4294967296 := by
      split; split; exact ul_lt _; omega; omega
    have hw := sh_word b1 b2 hnear
    have hsh : shd (fun j => if j < u then Bd O j else 0) far (2 ^ near) (2 ^ (32 - near)) m = ((if m < far then 0 else (if m - far < u then Bd O (m - far) else 0)) * 2 ^ near + (if far < m then (if m - far - 1 < u then Bd O (m - far - 1) else 0) else 0) / 2 ^ (32 - near)) % 4294967296 := by
      unfold shd
      by_cases h : m < far
      · rw [if_pos h, if_pos h, if_neg (by omega)]; simp
      · rw [if_neg h, if_neg h]
        by_cases h2 : far < m
        · rw [if_pos h2, if_pos h2]
        · rw [if_neg h2, if_neg h2, Nat.zero_div]
    apply ih k _ (by omega) (by omega)
    · intro j hj
      rw [upd_ne _ _ (by omega)]; exact hO j (by omega)
    · intro j hj hj2
      by_cases hjm : j = m
      · subst hjm
        rw [hsh, ← hw]; unfold Bd; rw [upd_same]
      · unfold Bd at *; rw [upd_ne _ _ hjm]; exact hN j (by omega) hj2
theorem div32 {c : Nat} (h : c < 2147483648) : nI c / 32 = nI (c / 32) ∧ nI c - nI c / 32 * 32 = nI (c % 32) := by
  have h1 : nI c / 32 = nI (c / 32) := by
    apply Int32.toInt_inj.mp
    rw [Int32.toInt_div, qI_toInt h, qI_toInt (by omega)]
    have e : (32 : Int32).toInt = 32 := rfl
    rw [e, Int.bmod_eq_of_le (by rw [Int.tdiv_eq_ediv_of_nonneg (by omega)]; omega) (by rw [Int.tdiv_eq_ediv_of_nonneg (by omega)]; omega), Int.tdiv_eq_ediv_of_nonneg (by omega)]
    omega
  refine ⟨h1, ?_⟩
  rw [h1, show (32 : Int32) = nI 32 from rfl, qI_mul, qI_sub (by omega)]
  congr 1; omega
theorem e_shiftLeft {n c v : Nat} {u : Int32} {Bl : Nat → Int32} (hn : 1000 ≤ n) (h : Bg u Bl v) (hc : c < 30000) (hv : 0 < v) (hfit : v * 2 ^ c < 2 ^ 4352) : ∃ u' Bl', f_X0_shiftLeft n (nI c) u Bl = some (u', Bl') ∧ Bg u' Bl' (v * 2 ^ c) := by
  obtain ⟨k, hk, rfl, h1⟩ := h
  unfold f_X0_shiftLeft f_X0_shiftLeft_0
  have hz : gz 32 = true := by decide
  rw [hz]
  simp only [gu_t, lt_e]
  obtain ⟨hd1, hd2⟩ := div32 (c := c) (by omega)
  rw [hd2, hd1]
  have hpow : 2 ^ c = 4294967296 ^ (c / 32) * 2 ^ (c % 32) := by
    rw [show (4294967296 : Nat) = 2 ^ 32 from rfl, ← Nat.pow_mul, ← Nat.pow_add]; congr 1; omega
  simp (disch := omega) only [gu_t, bd_s, lt_e, qI_add, qI_add_lit, qI_lit_add, qI_lt, qI_le, qI_eq, qI_lt_lit, qI_lit_lt, qI_le_lit, qI_lit_le, qI_eq_lit, qI_lit_eq, qI_ne_neg1, gd_nI, gd_lit, qI_lit_toNat, qI_toNat]
  have htop : (if 136 < k + c / 32 + 1 then (136 : Int32) else nI (k + c / 32 + 1)) = nI (if 136 < k + c / 32 + 1 then 136 else k + c / 32 + 1) := by
    split <;> rfl
  rw [htop]
  have hst : 2 ^ (c % 32) * 2 ^ (32 - c % 32) = 4294967296 := by rw [← Nat.pow_add, show c % 32 + (32 - c % 32) = 32 from by omega]
  have hk0 : 0 < k := by
    apply Nat.pos_of_ne_zero
    intro h0
    rw [Row.zero (by omega) h1] at h0
    omega
  · generalize htp : (if 136 < k + c / 32 + 1 then 136 else k + c / 32 + 1) = top
    have ht1 : top ≤ 136 := by rw [← htp]; split <;> omega
    have ht0 : 1 ≤ top := by rw [← htp]; split <;> omega
    have hm1 : nI top - 1 = nI top + -1 := by grind
    rw [hm1]
    obtain ⟨B1, g1, g2⟩ := e_sh_loop (n := n) (u := k) (far := c / 32) (near := c % 32) (top := top) (O := Bl) hk (by omega) (by omega) ht1 top n Bl (by omega) (Nat.le_refl _) (fun _ _ => rfl) (fun j h1 h2 => absurd h1 (by omega))
    rw [g1]
    have hdl : ∀ j, (fun j => if j < k then Bd Bl j else 0) j < 4294967296 := fun j => by
      show (if j < k then Bd Bl j else 0) < _
      split; exact ul_lt _; omega
    have hvk : ∀ j, k ≤ j → vl 4294967296 (fun j => if j < k then Bd Bl j else 0) j = v := fun j hj => by
      rw [vl_cut (w := k) j hj (fun i h1 h2 => by rw [if_neg (by omega)]), ← h1.1]
      exact vl_congr k (fun i hi => by rw [if_pos hi])
    have hval : vl 4294967296 (Bd B1) top = v * 2 ^ c := by
      rw [vl_congr top g2]
      by_cases hb : 136 < k + c / 32 + 1
      · rw [if_pos hb] at htp
        subst htp
        have hle : c / 32 + k ≤ 136 := by
          by_cases hx : c / 32 + k ≤ 136
          · exact hx
          · exfalso
            have p1 : 4294967296 ^ 136 ≤ 4294967296 ^ (k - 1 + c / 32) := Nat.pow_le_pow_right (by omega) (by omega)
            have p2 := h1.2.2 hk0
            have p3 : 4294967296 ^ (k - 1) * (4294967296 ^ (c / 32) * 1) ≤ v * (4294967296 ^ (c / 32) * 2 ^ (c % 32)) := Nat.mul_le_mul p2 (Nat.mul_le_mul_left _ (Nat.pow_pos (by omega)))
            rw [Nat.mul_one, ← Nat.pow_add, ← hpow] at p3
            rw [← pow_4352] at hfit
            omega
        have hs := shd_sum (d := fun j => if j < k then Bd Bl j else 0) (far := c / 32) hst hdl k
        rw [hvk k (Nat.le_refl _), show c / 32 + k = 136 from by omega] at hs
        have hs2 : 4294967296 ^ (c / 32) * 2 ^ (c % 32) * v = v * 2 ^ c := by rw [hpow]; grind
        rw [hs2] at hs
        rw [← pow_4352] at hfit
        have hz : (if 0 < k then (if k - 1 < k then Bd Bl (k - 1) else 0) / 2 ^ (32 - c % 32) else 0) = 0 := by
          by_cases hq : (if 0 < k then (if k - 1 < k then Bd Bl (k - 1) else 0) / 2 ^ (32 - c % 32) else 0) = 0
          · exact hq
          · exfalso
            have : 4294967296 ^ 136 * 1 ≤ 4294967296 ^ 136 * (if 0 < k then (if k - 1 < k then Bd Bl (k - 1) else 0) / 2 ^ (32 - c % 32) else 0) := Nat.mul_le_mul_left _ (by omega)
            generalize 4294967296 ^ 136 = W at *
            omega
        rw [hz, Nat.mul_zero, Nat.add_zero] at hs
        exact hs
      · rw [if_neg hb] at htp
        subst htp
        have hs := shd_sum (d := fun j => if j < k then Bd Bl j else 0) (far := c / 32) hst hdl (k + 1)
        rw [hvk (k + 1) (by omega), if_pos (by omega), Nat.add_sub_cancel] at hs
        simp only [Nat.lt_irrefl, if_false, Nat.zero_div, Nat.mul_zero, Nat.add_zero] at hs
        rw [show k + c / 32 + 1 = c / 32 + (k + 1) from by omega, hs, hpow]
        grind
    obtain ⟨u2, q1, q2⟩ := e_dropZeros hn ht1 hval
    rw [q1]
    exact ⟨u2, B1, rfl, q2⟩
