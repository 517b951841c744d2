/-! PURE 41: the reference's large numbers: 16 bits a place. -/
theorem qL_and {a s : Nat} {k : Int64} (hk : k.toBitVec.toNat = 2 ^ s - 1) : qL a &&& k = qL (a % 18446744073709551616 % 2 ^ s) := by
  apply qL_of
  show (qL a &&& k).toBitVec.toNat = _
  rw [Int64.toBitVec_and, BitVec.toNat_and, hk]
  have h3 : (qL a).toBitVec.toNat = a % 18446744073709551616 := qL_toNat a
  rw [h3, Nat.and_two_pow_sub_one_eq_mod]
  symm
  apply Nat.mod_eq_of_lt
  exact Nat.lt_of_le_of_lt (Nat.mod_le _ _) (Nat.mod_lt _ (by omega))
theorem qL_and16 {a : Nat} (ha : a < 18446744073709551616) : qL a &&& 65535 = qL (a % 65536) := by
  rw [qL_and (s := 16) (k := 65535) (by decide), Nat.mod_eq_of_lt ha]
theorem qL_shr16 {a : Nat} (ha : a < 9223372036854775808) : qL a >>> ((16 : Int32).toInt64 &&& 63) = qL (a / 65536) :=
  qL_shr2 (s := 16) ha (by omega)
theorem nI_ul {x : Int32} (h : ul x < 2147483648) : x = nI (ul x) := by
  rw [ul_inj, ul_nI (by omega)]
def Rg (m : Int32) (x : Nat → Int32) (v : Nat) : Prop := ∃ k, m = nI k ∧ Row 65536 (Bd x) k v
theorem Rg.bound {m : Int32} {x : Nat → Int32} {v k : Nat} (h : Row 65536 (Bd x) k v) (hv : v < 2 ^ 8000) : k ≤ 500 := by
  have h2 : v < 65536 ^ 500 := by rw [show (65536 : Nat) = 2 ^ 16 from rfl, ← Nat.pow_mul]; exact hv
  exact vl_len (by omega) h2 h.2.2
theorem e_trim_loop {n : Nat} {Ax : Nat → Int32} : ∀ (m k : Nat), m < k → m ≤ 520 → ∃ w, f_X10_trimmed_2 n Ax k (nI m) = some (nI w) ∧ w ≤ m ∧ (∀ j, w ≤ j → j < m → Bd Ax j = 0) ∧ (0 < w → Bd Ax (w - 1) ≠ 0) := by
  intro m
  induction m with
  | zero =>
    intro k hk hm
    obtain ⟨k, rfl⟩ : ∃ k', k = k' + 1 := ⟨k - 1, by omega⟩
    refine ⟨0, ?_, by omega, fun j _ hj => absurd hj (by omega), fun h => absurd h (by omega)⟩
    unfold f_X10_trimmed_2 fb_X10_trimmed_2
    simp (disch := omega) only [gu_t, bd_s, lt_e, qI_add, qI_add_lit, qI_lit_add, qI_lt, qI_le, qI_eq, qI_lt_lit, qI_lit_lt, qI_le_lit, qI_lit_le, qI_eq_lit, qI_lit_eq, qI_ne_neg1, gd_nI, gd_lit, qI_lit_toNat, qI_toNat, Nat.le_refl, if_true]
  | succ m ih =>
    intro k hk hm
    obtain ⟨k, rfl⟩ : ∃ k', k = k' + 1 := ⟨k - 1, by omega⟩
    unfold f_X10_trimmed_2 fb_X10_trimmed_2
    simp (disch := omega) only [gu_t, bd_s, lt_e, qI_add, qI_add_lit, qI_lit_add, qI_lt, qI_le, qI_eq, qI_lt_lit, qI_lit_lt, qI_le_lit, qI_lit_le, qI_eq_lit, qI_lit_eq, qI_ne_neg1, gd_nI, gd_lit, qI_lit_toNat, qI_toNat, qI_sub_lit, qI_add_neg1, Nat.add_sub_cancel]
    rw [if_neg (by omega)]
    by_cases h0 : Ax m = 0
    · rw [if_pos h0]
      obtain ⟨w, h1, h2, h3, h4⟩ := ih k (by omega) (by omega)
      refine ⟨w, h1, by omega, fun j hj hj2 => ?_, h4⟩
      by_cases hjm : j = m
      · subst hjm; unfold Bd; rw [h0]; rfl
      · exact h3 j hj (by omega)
    · rw [if_neg h0]
      refine ⟨m + 1, rfl, Nat.le_refl _, fun j _ hj => absurd hj (by omega), fun _ => ?_⟩
      intro h
      apply h0
      rw [ul_zero]; exact h
theorem e_trimmed {n k v : Nat} {Ax : Nat → Int32} (hn : 1000 ≤ n) (hk : k ≤ 520) (h : vl 65536 (Bd Ax) k = v) (hd : ∀ j, j < k → Bd Ax j < 65536) : ∃ m', f_X10_trimmed n (nI k) Ax = some m' ∧ Rg m' Ax v := by
  obtain ⟨w, h1, h2, h3, h4⟩ := e_trim_loop (n := n) (Ax := Ax) k n (by omega) hk
  refine ⟨nI w, h1, w, rfl, ?_, fun j hj => hd j (by omega), fun h0 => ?_⟩
  · rw [← h]; exact (vl_cut k h2 h3).symm
  · rw [← h, vl_cut k h2 h3]
    obtain ⟨x, rfl⟩ : ∃ x, w = x + 1 := ⟨w - 1, by omega⟩
    exact vl_top (k := x) (h4 (by omega))
theorem e_grow_loop {n f : Nat} (hn : 1000 ≤ n) (hf : f ≤ 65536) : ∀ (m k u i : Nat) (Ax : Nat → Int32) (c : Nat), i + m = u → m < k → u ≤ 519 → c < 65536 → (∀ j, j < u → Bd Ax j < 65536) →
    ∃ w Ax', f_X10_grow_7 n k Ax (nI u) (nI f) (qL c) (nI i) = some (w, Ax') ∧ Rg w Ax' (vl 65536 (Bd Ax) i + 65536 ^ i * (c + f * vl 65536 (fun j => Bd Ax (i + j)) m)) := by
  intro m
  induction m with
  | zero =>
    intro k u i Ax c hm hk hu hc hd
    obtain ⟨k, rfl⟩ : ∃ k', k = k' + 1 := ⟨k - 1, by omega⟩
    have hiu : i = u := by omega
    subst hiu
    unfold f_X10_grow_7 fb_X10_grow_7
    simp (disch := omega) only [gu_t, bd_s, lt_e, qI_add, qI_add_lit, qI_lit_add, qI_lt, qI_le, qI_eq, qI_lt_lit, qI_lit_lt, qI_le_lit, qI_lit_le, qI_eq_lit, qI_lit_eq, qI_ne_neg1, gd_nI, gd_lit, qI_lit_toNat, qI_toNat, Nat.le_refl, if_true]
    have hnew : Bd (upd Ax i (qL c).toInt32) i = c := by
      unfold Bd; rw [upd_same, qL_toInt32]; omega
    have hval : vl 65536 (Bd (upd Ax i (qL c).toInt32)) (i + 1) = vl 65536 (Bd Ax) i + 65536 ^ i * (c + f * vl 65536 (fun j => Bd Ax (i + j)) 0) := by
      show vl _ _ i + _ * _ = _
      rw [hnew, Nat.mul_comm c]
      rw [vl_congr i (fun j hj => show Bd (upd Ax i (qL c).toInt32) j = Bd Ax j by unfold Bd; rw [upd_ne _ _ (by omega)])]
      simp [vl]
    obtain ⟨m', t1, t2⟩ := e_trimmed (n := n) hn (by omega) hval (by
      intro j hj
      by_cases hji : j = i
      · subst hji; rw [hnew]; exact hc
      · unfold Bd; rw [upd_ne _ _ hji]; exact hd j (by omega))
    rw [t1]
    exact ⟨m', _, rfl, t2⟩
  | succ m ih =>
    intro k u i Ax c hm hk hu hc hd
    obtain ⟨k, rfl⟩ : ∃ k', k = k' + 1 := ⟨k - 1, by omega⟩
    unfold f_X10_grow_7 fb_X10_grow_7
    have hx : Bd Ax i < 65536 := hd i (by omega)
    have hxe : Ax i = nI (Bd Ax i) := nI_ul (by unfold Bd at hx; omega)
    simp (disch := omega) only [gu_t, bd_s, lt_e, qI_add, qI_add_lit, qI_lit_add, qI_lt, qI_le, qI_eq, qI_lt_lit, qI_lit_lt, qI_le_lit, qI_lit_le, qI_eq_lit, qI_lit_eq, qI_ne_neg1, gd_nI, gd_lit, qI_lit_toNat, qI_toNat]
    rw [if_neg (by omega)]
    rw [hxe, qI_toInt64 (by omega), qI_toInt64 (by omega), qL_mul, qL_add]
    have hp : Bd Ax i * f ≤ 65535 * 65536 := Nat.mul_le_mul (by omega) (by omega)
    rw [qL_and16 (by omega), qL_shr16 (by omega)]
    have hq : (Bd Ax i * f + c) / 65536 < 65536 := by omega
    have hdm : c + f * Bd Ax i = (Bd Ax i * f + c) / 65536 * 65536 + (Bd Ax i * f + c) % 65536 := by
      rw [Nat.mul_comm f]; omega
    have hnew : Bd (upd Ax i (qL ((Bd Ax i * f + c) % 65536)).toInt32) i = (Bd Ax i * f + c) % 65536 := by
      show ul _ = _
      rw [upd_same, qL_toInt32]; omega
    have hoth : ∀ j, j ≠ i → Bd (upd Ax i (qL ((Bd Ax i * f + c) % 65536)).toInt32) j = Bd Ax j := fun j hj => by
      show ul _ = ul _
      rw [upd_ne _ _ hj]
    have hlow : vl 65536 (Bd (upd Ax i (qL ((Bd Ax i * f + c) % 65536)).toInt32)) (i + 1) = vl 65536 (Bd Ax) i + 65536 ^ i * ((Bd Ax i * f + c) % 65536) := by
      show vl _ _ i + _ * _ = _
      rw [hnew, Nat.mul_comm _ (65536 ^ i), vl_congr i (fun j hj => hoth j (by omega))]
    have hrest : vl 65536 (fun j => Bd (upd Ax i (qL ((Bd Ax i * f + c) % 65536)).toInt32) (i + 1 + j)) m = vl 65536 (fun j => Bd Ax (i + (j + 1))) m := by
      apply vl_congr
      intro j hj
      rw [hoth _ (by omega)]; congr 1; omega
    have hst := vl_step (P := 65536 ^ i) (rest := vl 65536 (fun j => Bd Ax (i + (j + 1))) m) hdm
    have hhead : vl 65536 (fun j => Bd Ax (i + j)) (m + 1) = Bd Ax i + 65536 * vl 65536 (fun j => Bd Ax (i + (j + 1))) m := by
      rw [vl_head]; rfl
    have heq : vl 65536 (Bd (upd Ax i (qL ((Bd Ax i * f + c) % 65536)).toInt32)) (i + 1) + 65536 ^ (i + 1) * ((Bd Ax i * f + c) / 65536 + f * vl 65536 (fun j => Bd (upd Ax i (qL ((Bd Ax i * f + c) % 65536)).toInt32) (i + 1 + j)) m) = vl 65536 (Bd Ax) i + 65536 ^ i * (c + f * vl 65536 (fun j => Bd Ax (i + j)) (m + 1)) := by
      rw [hlow, hrest, hhead, hst, pow_step]; omega
    obtain ⟨w, A', h1, h2⟩ := ih k u (i + 1) (upd Ax i (qL ((Bd Ax i * f + c) % 65536)).toInt32) ((Bd Ax i * f + c) / 65536) (by omega) (by omega) hu hq (by
      intro j hj
      by_cases hji : j = i
      · subst hji; rw [hnew]; exact Nat.mod_lt _ (by omega)
      · rw [hoth j hji]; exact hd j hj)
    exact ⟨w, A', h1, by rw [← heq]; exact h2⟩
theorem e_grow0 {n f s u : Nat} {Ax : Nat → Int32} (hn : 1000 ≤ n) (hf : f ≤ 65536) (hs : s < 65536) (hu : u ≤ 519) (hd : ∀ j, j < u → Bd Ax j < 65536) :
    ∃ m' Ax', f_X10_grow n (nI u) (nI f) (nI s) Ax = some (m', Ax') ∧ Rg m' Ax' (vl 65536 (Bd Ax) u * f + s) := by
  unfold f_X10_grow f_X10_grow_0
  rw [qI_toInt64 (by omega), show (0 : Int32) = nI 0 from rfl]
  obtain ⟨w, A', h1, h2⟩ := e_grow_loop (n := n) hn hf u n u 0 Ax s (by omega) (by omega) hu hs hd
  refine ⟨w, A', h1, ?_⟩
  have hz : vl 65536 (fun j => Bd Ax (0 + j)) u = vl 65536 (Bd Ax) u := vl_congr u (fun j _ => by rw [Nat.zero_add])
  rw [hz] at h2
  simp only [vl, Nat.pow_zero, Nat.one_mul, Nat.zero_add] at h2
  rw [Nat.mul_comm, Nat.add_comm]; exact h2
theorem e_grow {n f s v : Nat} {m : Int32} {Ax : Nat → Int32} (hn : 1000 ≤ n) (h : Rg m Ax v) (hv : v < 2 ^ 8000) (hf : f ≤ 65536) (hs : s < 65536) :
    ∃ m' Ax', f_X10_grow n m (nI f) (nI s) Ax = some (m', Ax') ∧ Rg m' Ax' (v * f + s) := by
  obtain ⟨k, rfl, h1⟩ := h
  have hk := Rg.bound (m := 0) h1 hv
  obtain ⟨m', A', h2, h3⟩ := e_grow0 (n := n) (s := s) hn hf hs (show k ≤ 519 by omega) h1.2.1
  rw [h1.1] at h3
  exact ⟨m', A', h2, h3⟩
theorem e_fives_loop {n c : Nat} (hn : 1000 ≤ n) (hc : c < 100000) : ∀ (m k i v : Nat) (x : Int32) (Ax : Nat → Int32), i + m = c → m < k → Rg x Ax v → v * 5 ^ m < 2 ^ 8000 → ∃ x' Ax', f_X10_fives_5 n k Ax (nI c) x (nI i) = some (x', Ax') ∧ Rg x' Ax' (v * 5 ^ m) := by
  intro m
  induction m with
  | zero =>
    intro k i v x Ax hm hk h _
    obtain ⟨k, rfl⟩ : ∃ k', k = k' + 1 := ⟨k - 1, by omega⟩
    unfold f_X10_fives_5 fb_X10_fives_5
    simp (disch := omega) only [gu_t, bd_s, lt_e, qI_add, qI_add_lit, qI_lit_add, qI_lt, qI_le, qI_eq, qI_lt_lit, qI_lit_lt, qI_le_lit, qI_lit_le, qI_eq_lit, qI_lit_eq, qI_ne_neg1, gd_nI, gd_lit, qI_lit_toNat, qI_toNat]
    rw [if_pos (by omega)]
    exact ⟨x, Ax, rfl, by simpa using h⟩
  | succ m ih =>
    intro k i v x Ax hm hk h hfit
    obtain ⟨k, rfl⟩ : ∃ k', k = k' + 1 := ⟨k - 1, by omega⟩
    unfold f_X10_fives_5 fb_X10_fives_5
    simp (disch := omega) only [gu_t, bd_s, lt_e, qI_add, qI_add_lit, qI_lit_add, qI_lt, qI_le, qI_eq, qI_lt_lit, qI_lit_lt, qI_le_lit, qI_lit_le, qI_eq_lit, qI_lit_eq, qI_ne_neg1, gd_nI, gd_lit, qI_lit_toNat, qI_toNat]
    rw [if_neg (by omega)]
    have e1 : v * 5 ^ (m + 1) = v * 5 * 5 ^ m := by rw [Nat.pow_succ, Nat.mul_assoc, Nat.mul_comm 5]
    have h5 : v * 5 * 1 ≤ v * 5 * 5 ^ m := Nat.mul_le_mul_left _ (Nat.pow_pos (by omega))
    rw [e1] at hfit
    obtain ⟨m1, A1, g1, g2⟩ := e_grow (n := n) (f := 5) (s := 0) hn h (by omega) (by omega) (by omega)
    rw [show f_X10_grow n x 5 0 Ax = some (m1, A1) from g1]
    simp only [bd_s, lt_e]
    obtain ⟨x2, A2, k1, k2⟩ := ih k (i + 1) (v * 5) m1 A1 (by omega) (by omega) g2 hfit
    exact ⟨x2, A2, k1, by rw [e1]; exact k2⟩
theorem e_fives {n c v : Nat} {x : Int32} {Ax : Nat → Int32} (hn : 3000 ≤ n) (hc : c < 2000) (h : Rg x Ax v) (hfit : v * 5 ^ c < 2 ^ 8000) : ∃ x' Ax', f_X10_fives n x (nI c) Ax = some (x', Ax') ∧ Rg x' Ax' (v * 5 ^ c) :=
  e_fives_loop (by omega) (by omega) c n 0 v x Ax (by omega) (by omega) h hfit
theorem e_vset {n : Nat} {Ax : Nat → Int32} (hn : 1000 ≤ n) : ∃ x' Ax', f_X10_set n 1 Ax = some (x', Ax') ∧ Rg x' Ax' 1 := by
  obtain ⟨n, rfl⟩ : ∃ n', n = n' + 10 := ⟨n - 10, by omega⟩
  refine ⟨nI 1, upd (upd (upd (upd Ax 0 1) 1 0) 2 0) 3 0, ?_, 1, rfl, ?_, ?_, ?_⟩
  · rfl
  · simp [vl, Bd, upd]; rfl
  · intro j hj
    have : j = 0 := by omega
    subst this
    simp [Bd, upd]; decide
  · intro _; simp
