/-! PURE 42: the reference's large numbers: shift, times, compare. -/
theorem div16 {c : Nat} (h : c < 2147483648) : nI c / 16 = nI (c / 16) ∧ nI c - 16 * nI (c / 16) = nI (c % 16) := by
  have h1 : nI c / 16 = nI (c / 16) := by
    apply Int32.toInt_inj.mp
    rw [Int32.toInt_div, qI_toInt h, qI_toInt (by omega)]
    have e : (16 : Int32).toInt = 16 := rfl
    rw [e, Int.bmod_eq_of_le (by rw [Int.tdiv_eq_ediv_of_nonneg (by omega)]; omega) (by rw [Int.tdiv_eq_ediv_of_nonneg (by omega)]; omega), Int.tdiv_eq_ediv_of_nonneg (by omega)]
    omega
  refine ⟨h1, ?_⟩
  rw [show (16 : Int32) = nI 16 from rfl, qI_mul, qI_sub (by omega)]
  congr 1; omega
theorem shl1 {s : Nat} (hs : s < 16) : (1 : Int32) <<< (nI s &&& 31) = nI (2 ^ s) := by
  have h : ∀ x : Fin 16, (1 : Int32) <<< (nI x.1 &&& 31) = nI (2 ^ x.1) := by decide
  exact h ⟨s, hs⟩
theorem e_shz_loop {n u wh bits : Nat} (hn : 1000 ≤ n) (hb : bits < 16) (hu : u + wh ≤ 519) : ∀ (m k i : Nat) (Ax : Nat → Int32), i + m = wh → m < k → (∀ j, j < i → Bd Ax j = 0) → (∀ j, wh ≤ j → j < u + wh → Bd Ax j < 65536) →
    ∃ w Ax', f_X10_shifted_42 n k Ax (nI u) (nI wh) (nI bits) (nI i) = some (w, Ax') ∧ Rg w Ax' (65536 ^ wh * vl 65536 (fun j => Bd Ax (wh + j)) u * 2 ^ bits) := by
  intro m
  induction m with
  | zero =>
    intro k i Ax hm hk hz hd
    obtain ⟨k, rfl⟩ : ∃ k', k = k' + 1 := ⟨k - 1, by omega⟩
    unfold f_X10_shifted_42 fb_X10_shifted_42
    simp (disch := omega) only [gu_t, bd_s, lt_e, qI_add, qI_add_lit, qI_lit_add, qI_lt, qI_le, qI_eq, qI_lt_lit, qI_lit_lt, qI_le_lit, qI_lit_le, qI_eq_lit, qI_lit_eq, qI_ne_neg1, gd_nI, gd_lit, qI_lit_toNat, qI_toNat]
    rw [if_pos (by omega), shl1 hb]
    have hb2 : 2 ^ bits ≤ 65536 := by
      have : 2 ^ bits ≤ 2 ^ 16 := Nat.pow_le_pow_right (by omega) (by omega)
      exact this
    obtain ⟨w, A', g1, g2⟩ := e_grow0 (n := n) (f := 2 ^ bits) (s := 0) (u := u + wh) (Ax := Ax) hn hb2 (by omega) (by omega) (by
      intro j hj
      by_cases h : wh ≤ j
      · exact hd j h hj
      · rw [hz j (by omega)]; omega)
    rw [show f_X10_grow n (nI (u + wh)) (nI (2 ^ bits)) 0 Ax = some (w, A') from g1]
    refine ⟨w, A', rfl, ?_⟩
    have hv : vl 65536 (Bd Ax) (u + wh) = 65536 ^ wh * vl 65536 (fun j => Bd Ax (wh + j)) u := by
      rw [Nat.add_comm u wh, vl_split, vl_zero wh (fun j hj => hz j (by omega)), Nat.zero_add]
    rw [hv] at g2
    exact g2
  | succ m ih =>
    intro k i Ax hm hk hz hd
    obtain ⟨k, rfl⟩ : ∃ k', k = k' + 1 := ⟨k - 1, by omega⟩
    unfold f_X10_shifted_42 fb_X10_shifted_42
    simp (disch := omega) only [gu_t, bd_s, lt_e, qI_add, qI_add_lit, qI_lit_add, qI_lt, qI_le, qI_eq, qI_lt_lit, qI_lit_lt, qI_le_lit, qI_lit_le, qI_eq_lit, qI_lit_eq, qI_ne_neg1, gd_nI, gd_lit, qI_lit_toNat, qI_toNat]
    rw [if_neg (by omega)]
    obtain ⟨w, A', g1, g2⟩ := ih k (i + 1) (upd Ax i 0) (by omega) (by omega) (by
      intro j hj
      by_cases h : j = i
      · subst h; unfold Bd; rw [upd_same]; rfl
      · unfold Bd; rw [upd_ne _ _ h]; exact hz j (by omega)) (by
      intro j h1 h2
      unfold Bd; rw [upd_ne _ _ (by omega)]; exact hd j h1 h2)
    refine ⟨w, A', g1, ?_⟩
    have : vl 65536 (fun j => Bd (upd Ax i 0) (wh + j)) u = vl 65536 (fun j => Bd Ax (wh + j)) u := vl_congr u (fun j _ => by unfold Bd; rw [upd_ne _ _ (by omega)])
    rw [this] at g2
    exact g2
theorem e_shm_loop {n u wh bits : Nat} {O : Nat → Int32} (hn : 1000 ≤ n) (hb : bits < 16) (hu : u + wh ≤ 519) (hO : ∀ j, j < u → Bd O j < 65536) : ∀ (m k : Nat) (Ax : Nat → Int32), m < k → m ≤ u → (∀ j, j < m → Ax j = O j) → (∀ j, m ≤ j → j < u → Ax (j + wh) = O j) →
    ∃ w Ax', f_X10_shifted_18 n k Ax (nI u) (nI wh) (nI bits) (nI m + -1) = some (w, Ax') ∧ Rg w Ax' (65536 ^ wh * vl 65536 (Bd O) u * 2 ^ bits) := by
  intro m
  induction m with
  | zero =>
    intro k Ax hk hm h1 h2
    obtain ⟨k, rfl⟩ : ∃ k', k = k' + 1 := ⟨k - 1, by omega⟩
    unfold f_X10_shifted_18 fb_X10_shifted_18
    rw [if_pos (by decide)]
    have hB : ∀ j, j < u → Bd Ax (wh + j) = Bd O j := fun j hj => by
      unfold Bd; rw [Nat.add_comm, h2 j (by omega) hj]
    obtain ⟨w, A', g1, g2⟩ := e_shz_loop (n := n) hn hb hu wh n 0 Ax (by omega) (by omega) (fun j hj => absurd hj (by omega)) (by
      intro j h3 h4
      have := hB (j - wh) (by omega)
      rw [show wh + (j - wh) = j from by omega] at this
      rw [this]; exact hO _ (by omega))
    refine ⟨w, A', g1, ?_⟩
    rw [vl_congr u hB] at g2
    exact g2
  | succ m ih =>
    intro k Ax hk hm h1 h2
    obtain ⟨k, rfl⟩ : ∃ k', k = k' + 1 := ⟨k - 1, by omega⟩
    unfold f_X10_shifted_18 fb_X10_shifted_18
    rw [qI_add_neg1 (by omega), Nat.add_sub_cancel, if_neg (by rw [qI_lt_lit (by omega) (by decide)]; omega)]
    simp (disch := omega) only [gu_t, bd_s, lt_e, qI_add, qI_add_lit, qI_lit_add, qI_lt, qI_le, qI_eq, qI_lt_lit, qI_lit_lt, qI_le_lit, qI_lit_le, qI_eq_lit, qI_lit_eq, qI_ne_neg1, gd_nI, gd_lit, qI_lit_toNat, qI_toNat]
    apply ih k _ (by omega) (by omega)
    · intro j hj
      by_cases h : j = m + wh
      · omega
      · rw [upd_ne _ _ h]; exact h1 j (by omega)
    · intro j hj hj2
      by_cases h : j = m
      · subst h; rw [upd_same, h1 j (by omega)]
      · rw [upd_ne _ _ (by omega)]; exact h2 j (by omega) hj2
theorem e_shifted {n c v a : Nat} {x : Int32} {Ax : Nat → Int32} (hn : 1000 ≤ n) (h : Rg x Ax v) (hv : v < 65536 ^ a) (hc : a + c / 16 ≤ 519) : ∃ x' Ax', f_X10_shifted n x (nI c) Ax = some (x', Ax') ∧ Rg x' Ax' (v * 2 ^ c) := by
  obtain ⟨k, rfl, h1⟩ := h
  have hk : k ≤ a := vl_len (by omega) hv h1.2.2
  unfold f_X10_shifted f_X10_shifted_0
  have hz : gz 16 = true := by decide
  rw [hz]
  simp only [gu_t, lt_e]
  obtain ⟨hd1, hd2⟩ := div16 (c := c) (by omega)
  rw [hd1, hd2, show nI k - 1 = nI k + -1 from by grind]
  obtain ⟨w, A', g1, g2⟩ := e_shm_loop (n := n) (u := k) (wh := c / 16) (bits := c % 16) (O := Ax) hn (by omega) (by omega) h1.2.1 k n Ax (by omega) (Nat.le_refl _) (fun _ _ => rfl) (fun j h1 h2 => absurd h1 (by omega))
  refine ⟨w, A', g1, ?_⟩
  rw [h1.1] at g2
  have : v * 2 ^ c = 65536 ^ (c / 16) * v * 2 ^ (c % 16) := by
    have : 2 ^ c = 65536 ^ (c / 16) * 2 ^ (c % 16) := by
      rw [show (65536 : Nat) = 2 ^ 16 from rfl, ← Nat.pow_mul, ← Nat.pow_add]; congr 1; omega
    rw [this]; grind
  rw [this]; exact g2
theorem vl_upd {B : Nat} {T : Nat → Int32} {i L : Nat} {y : Int32} (hi : i < L) : vl B (Bd (upd T i y)) L + Bd T i * B ^ i = vl B (Bd T) L + ul y * B ^ i := by
  obtain ⟨m, rfl⟩ : ∃ m, L = (i + 1) + m := ⟨L - (i + 1), by omega⟩
  rw [vl_split, vl_split (d := Bd T)]
  have h1 : vl B (fun j => Bd (upd T i y) (i + 1 + j)) m = vl B (fun j => Bd T (i + 1 + j)) m := vl_congr m (fun j _ => by unfold Bd; rw [upd_ne _ _ (by omega)])
  have h2 : vl B (Bd (upd T i y)) i = vl B (Bd T) i := vl_congr i (fun j hj => by unfold Bd; rw [upd_ne _ _ (by omega)])
  have h3 : Bd (upd T i y) i = ul y := by unfold Bd; rw [upd_same]
  rw [h1]
  show vl B (Bd (upd T i y)) i + Bd (upd T i y) i * B ^ i + _ + _ = vl B (Bd T) i + Bd T i * B ^ i + _ + _
  rw [h2, h3]; omega
/-- the row of the times' inner loop -/
theorem e_tm_inner {n u c y : Nat} {Ax : Nat → Int32} {m3 : Int64} (hu : u ≤ 500) (hc : c < 4) (hy : y < 65536) (hA : ∀ j, j < u → Bd Ax j < 65536)
    (r26 : (Nat → Int32) → Int32 → Int64 → Int32 → Option (Int32 × (Nat → Int32))) : ∀ (m k i b : Nat) (T : Nat → Int32), i + m = u → m + 1 < k → b < 65536 → (∀ j, j < u + 5 → Bd T j < 65536) → (∀ j, u + c ≤ j → j < u + 5 → Bd T j = 0) →
    ∃ T', f_X10_times_51 n r26 Ax k T (nI u) m3 (nI c) (qL y) (qL b) (nI i) = r26 T' (nI u) m3 (nI (c + 1)) ∧ (∀ j, j < u + 5 → Bd T' j < 65536) ∧ (∀ j, u + c + 1 ≤ j → j < u + 5 → Bd T' j = 0) ∧
      vl 65536 (Bd T') (u + 5) = vl 65536 (Bd T) (u + 5) + 65536 ^ (i + c) * (b + y * vl 65536 (fun j => Bd Ax (i + j)) m) := by
  intro m
  induction m with
  | zero =>
    intro k i b T hm hk hb hT hz
    obtain ⟨k, rfl⟩ : ∃ k', k = k' + 2 := ⟨k - 2, by omega⟩
    have hiu : i = u := by omega
    subst hiu
    have hT0 : Bd T (i + c) = 0 := hz (i + c) (by omega) (by omega)
    have hTe : T (i + c) = nI 0 := by rw [ul_inj]; exact hT0
    refine ⟨upd T (i + c) (qL (b % 65536)).toInt32, ?_, ?_, ?_, ?_⟩
    · unfold f_X10_times_51 fb_X10_times_51 f_X10_times_87
      simp (disch := omega) only [gu_t, bd_s, lt_e, qI_add, qI_add_lit, qI_lit_add, qI_lt, qI_le, qI_eq, qI_lt_lit, qI_lit_lt, qI_le_lit, qI_lit_le, qI_eq_lit, qI_lit_eq, qI_ne_neg1, gd_nI, gd_lit, qI_lit_toNat, qI_toNat, Nat.le_refl, if_true]
      rw [if_neg (by omega), hTe, qI_toInt64 (by omega), qL_add, show (0 : Int64) = qL 0 from rfl, qL_add]
      simp only [Nat.zero_add, Nat.add_zero]
      rw [qL_and16 (by omega), qL_shr16 (by omega)]
      unfold f_X10_times_51 fb_X10_times_51
      simp (disch := omega) only [gu_t, bd_s, lt_e, qI_add, qI_add_lit, qI_lit_add, qI_lt, qI_le, qI_eq, qI_lt_lit, qI_lit_lt, qI_le_lit, qI_lit_le, qI_eq_lit, qI_lit_eq, qI_ne_neg1, gd_nI, gd_lit, qI_lit_toNat, qI_toNat]
      rw [if_pos (by omega)]
    · intro j hj
      by_cases h : j = i + c
      · subst h; unfold Bd; rw [upd_same, qL_toInt32]; omega
      · unfold Bd; rw [upd_ne _ _ h]; exact hT j hj
    · intro j h1 h2
      unfold Bd; rw [upd_ne _ _ (by omega)]; exact hz j (by omega) h2
    · have := vl_upd (B := 65536) (T := T) (i := i + c) (L := i + 5) (y := (qL (b % 65536)).toInt32) (by omega)
      rw [hT0, qL_toInt32] at this
      rw [show b % 65536 % 4294967296 = b from by omega] at this
      rw [show vl 65536 (fun j => Bd Ax (i + j)) 0 = 0 from rfl, Nat.mul_zero, Nat.add_zero]
      rw [Nat.mul_comm b, Nat.zero_mul, Nat.add_zero] at this
      exact this
  | succ m ih =>
    intro k i b T hm hk hb hT hz
    obtain ⟨k, rfl⟩ : ∃ k', k = k' + 1 := ⟨k - 1, by omega⟩
    have hx : Bd Ax i < 65536 := hA i (by omega)
    have hxe : Ax i = nI (Bd Ax i) := nI_ul (by unfold Bd at hx; omega)
    have ht : Bd T (i + c) < 65536 := hT _ (by omega)
    have hte : T (i + c) = nI (Bd T (i + c)) := nI_ul (by unfold Bd at ht; omega)
    have hp : Bd Ax i * y ≤ 65535 * 65535 := Nat.mul_le_mul (by omega) (by omega)
    unfold f_X10_times_51 fb_X10_times_51 f_X10_times_87
    simp (disch := omega) only [gu_t, bd_s, lt_e, qI_add, qI_add_lit, qI_lit_add, qI_lt, qI_le, qI_eq, qI_lt_lit, qI_lit_lt, qI_le_lit, qI_lit_le, qI_eq_lit, qI_lit_eq, qI_ne_neg1, gd_nI, gd_lit, qI_lit_toNat, qI_toNat]
    rw [if_neg (by omega), if_neg (by omega), hte, qI_toInt64 (by omega), hxe, qI_toInt64 (by omega), qL_add, qL_mul, qL_add, qL_and16 (by omega), qL_shr16 (by omega)]
    generalize hw : Bd T (i + c) + b + Bd Ax i * y = W
    have hW : W / 65536 < 65536 := by omega
    obtain ⟨T', g1, g2, g3, g4⟩ := ih k (i + 1) (W / 65536) (upd T (i + c) (qL (W % 65536)).toInt32) (by omega) (by omega) hW (by
      intro j hj
      by_cases h : j = i + c
      · subst h; show ul _ < _; rw [upd_same, qL_toInt32]; omega
      · show ul _ < _; rw [upd_ne _ _ h]; exact hT j hj) (by
      intro j h1 h2
      show ul _ = _; rw [upd_ne _ _ (by omega)]; exact hz j h1 h2)
    refine ⟨T', g1, g2, g3, ?_⟩
    have hu2 := vl_upd (B := 65536) (T := T) (i := i + c) (L := u + 5) (y := (qL (W % 65536)).toInt32) (by omega)
    rw [qL_toInt32, show W % 65536 % 4294967296 = W % 65536 from by omega] at hu2
    have hhead : vl 65536 (fun j => Bd Ax (i + j)) (m + 1) = Bd Ax i + 65536 * vl 65536 (fun j => Bd Ax (i + (j + 1))) m := by
      rw [vl_head]; rfl
    have hrest : vl 65536 (fun j => Bd Ax (i + 1 + j)) m = vl 65536 (fun j => Bd Ax (i + (j + 1))) m := vl_congr m (fun j _ => by congr 1; omega)
    rw [g4, hhead, hrest]
    have hpw : 65536 ^ (i + 1 + c) = 65536 ^ (i + c) * 65536 := by rw [show i + 1 + c = i + c + 1 from by omega, Nat.pow_succ]
    rw [hpw]
    have hdm : b + y * Bd Ax i + Bd T (i + c) = W / 65536 * 65536 + W % 65536 := by
      rw [Nat.mul_comm y]; omega
    generalize vl 65536 (fun j => Bd Ax (i + (j + 1))) m = X at *
    generalize 65536 ^ (i + c) = P at *
    generalize vl 65536 (Bd T) (u + 5) = V at *
    generalize vl 65536 (Bd (upd T (i + c) (qL (W % 65536)).toInt32)) (u + 5) = V' at *
    generalize Bd T (i + c) = t at *
    generalize Bd Ax i = a at *
    have e1 : P * 65536 * (W / 65536 + y * X) = P * (W / 65536 * 65536) + P * (y * (65536 * X)) := by grind
    have e2 : P * (b + y * (a + 65536 * X)) = P * (b + y * a) + P * (y * (65536 * X)) := by grind
    have e3 : P * (b + y * a) + t * P = P * (W / 65536 * 65536) + W % 65536 * P := by
      have : P * (b + y * a + t) = P * (W / 65536 * 65536 + W % 65536) := by rw [hdm]
      grind
    omega
theorem e_tm_outer {n u M : Nat} {Ax : Nat → Int32} (hn : 1000 ≤ n) (hu : u ≤ 500) (hM : M < 18446744073709551616) (hM2 : M < 9223372036854775808) (hA : ∀ j, j < u → Bd Ax j < 65536) : ∀ (m k c : Nat) (T : Nat → Int32), c + m = 4 → m < k → (∀ j, j < u + 5 → Bd T j < 65536) → (∀ j, u + c ≤ j → j < u + 5 → Bd T j = 0) →
    ∃ x' T', f_X10_times_26 n Ax k T (nI u) (qL M) (nI c) = some (x', T') ∧ Rg x' T' (vl 65536 (Bd T) (u + 5) + 65536 ^ c * (M / 65536 ^ c) * vl 65536 (Bd Ax) u) := by
  intro m
  induction m with
  | zero =>
    intro k c T hm hk hT hz
    obtain ⟨k, rfl⟩ : ∃ k', k = k' + 1 := ⟨k - 1, by omega⟩
    have hc4 : c = 4 := by omega
    subst hc4
    unfold f_X10_times_26 fb_X10_times_26
    simp (disch := omega) only [gu_t, bd_s, lt_e, qI_add, qI_add_lit, qI_lit_add, qI_lt, qI_le, qI_eq, qI_lt_lit, qI_lit_lt, qI_le_lit, qI_lit_le, qI_eq_lit, qI_lit_eq, qI_ne_neg1, gd_nI, gd_lit, qI_lit_toNat, qI_toNat]
    rw [if_pos (by decide)]
    obtain ⟨x', t1, t2⟩ := e_trimmed (n := n) (Ax := T) hn (show u + 5 ≤ 520 by omega) rfl hT
    rw [t1]
    refine ⟨x', T, rfl, ?_⟩
    rw [show M / 65536 ^ 4 = 0 from by omega]
    simpa using t2
  | succ m ih =>
    intro k c T hm hk hT hz
    obtain ⟨k, rfl⟩ : ∃ k', k = k' + 1 := ⟨k - 1, by omega⟩
    have h16 : (16 : Int32) * nI c = nI (16 * c) := qI_mul 16 c
    unfold f_X10_times_26 fb_X10_times_26
    simp (disch := omega) only [gu_t, bd_s, lt_e, qI_add, qI_add_lit, qI_lit_add, qI_lt, qI_le, qI_eq, qI_lt_lit, qI_lit_lt, qI_le_lit, qI_lit_le, qI_eq_lit, qI_lit_eq, qI_ne_neg1, gd_nI, gd_lit, qI_lit_toNat, qI_toNat]
    rw [if_neg (by omega), h16, qL_shr2 hM2 (by omega)]
    have hMd : M / 2 ^ (16 * c) < 18446744073709551616 := Nat.lt_of_le_of_lt (Nat.div_le_self _ _) hM
    have hpc : 2 ^ (16 * c) = 65536 ^ c := by rw [Nat.pow_mul]
    rw [qL_and16 hMd, hpc]
    obtain ⟨T', g1, g2, g3, g4⟩ := e_tm_inner (n := n) (u := u) (c := c) (y := M / 65536 ^ c % 65536) (Ax := Ax) (m3 := qL M) hu (by omega) (Nat.mod_lt _ (by omega)) hA (f_X10_times_26 n Ax k) u n 0 0 T (by omega) (by omega) (by omega) hT hz
    rw [show f_X10_times_51 n (f_X10_times_26 n Ax k) Ax n T (nI u) (qL M) (nI c) (qL (M / 65536 ^ c % 65536)) 0 0 = _ from g1]
    obtain ⟨x', T2, q1, q2⟩ := ih k (c + 1) T' (by omega) (by omega) g2 (fun j h1 h2 => g3 j (by omega) h2)
    refine ⟨x', T2, q1, ?_⟩
    have hz0 : vl 65536 (fun j => Bd Ax (0 + j)) u = vl 65536 (Bd Ax) u := vl_congr u (fun j _ => by rw [Nat.zero_add])
    rw [g4, hz0] at q2
    have hdm : M / 65536 ^ c = 65536 * (M / 65536 ^ (c + 1)) + M / 65536 ^ c % 65536 := by
      rw [Nat.pow_succ, ← Nat.div_div_eq_div_mul]; omega
    have : vl 65536 (Bd T) (u + 5) + 65536 ^ (0 + c) * (0 + M / 65536 ^ c % 65536 * vl 65536 (Bd Ax) u) + 65536 ^ (c + 1) * (M / 65536 ^ (c + 1)) * vl 65536 (Bd Ax) u = vl 65536 (Bd T) (u + 5) + 65536 ^ c * (M / 65536 ^ c) * vl 65536 (Bd Ax) u := by
      rw [pow_step] at *
      generalize vl 65536 (Bd Ax) u = X at *
      generalize M / 65536 ^ c = Y at *
      generalize M / (65536 ^ c * 65536) = Z at *
      generalize Y % 65536 = W at *
      subst hdm
      rw [Nat.zero_add, Nat.zero_add]
      generalize 65536 ^ c = P at *
      grind
    rw [← this]; exact q2
theorem e_tz_loop {n u M : Nat} {Ax : Nat → Int32} (hn : 1000 ≤ n) (hu : u ≤ 500) (hM2 : M < 9223372036854775808) (hA : ∀ j, j < u → Bd Ax j < 65536) : ∀ (m k i : Nat) (T : Nat → Int32), i + m = u + 5 → m < k → (∀ j, j < i → Bd T j = 0) →
    ∃ x' T', f_X10_times_3 n Ax k T (nI u) (qL M) (nI i) = some (x', T') ∧ Rg x' T' (M * vl 65536 (Bd Ax) u) := by
  intro m
  induction m with
  | zero =>
    intro k i T hm hk hz
    obtain ⟨k, rfl⟩ : ∃ k', k = k' + 1 := ⟨k - 1, by omega⟩
    unfold f_X10_times_3 fb_X10_times_3
    simp (disch := omega) only [gu_t, bd_s, lt_e, qI_add, qI_add_lit, qI_lit_add, qI_lt, qI_le, qI_eq, qI_lt_lit, qI_lit_lt, qI_le_lit, qI_lit_le, qI_eq_lit, qI_lit_eq, qI_ne_neg1, gd_nI, gd_lit, qI_lit_toNat, qI_toNat]
    rw [if_pos (by omega)]
    obtain ⟨x', T', g1, g2⟩ := e_tm_outer (n := n) (u := u) (M := M) (Ax := Ax) hn hu (by omega) hM2 hA 4 n 0 T (by omega) (by omega) (fun j hj => by rw [hz j (by omega)]; omega) (fun j h1 h2 => hz j (by omega))
    refine ⟨x', T', g1, ?_⟩
    rw [vl_zero (u + 5) (fun j hj => hz j (by omega))] at g2
    simpa using g2
  | succ m ih =>
    intro k i T hm hk hz
    obtain ⟨k, rfl⟩ : ∃ k', k = k' + 1 := ⟨k - 1, by omega⟩
    unfold f_X10_times_3 fb_X10_times_3
    simp (disch := omega) only [gu_t, bd_s, lt_e, qI_add, qI_add_lit, qI_lit_add, qI_lt, qI_le, qI_eq, qI_lt_lit, qI_lit_lt, qI_le_lit, qI_lit_le, qI_eq_lit, qI_lit_eq, qI_ne_neg1, gd_nI, gd_lit, qI_lit_toNat, qI_toNat]
    rw [if_neg (by omega)]
    apply ih k (i + 1) _ (by omega) (by omega)
    intro j hj
    by_cases h : j = i
    · subst h; unfold Bd; rw [upd_same]; rfl
    · unfold Bd; rw [upd_ne _ _ h]; exact hz j (by omega)
theorem e_times {n M v : Nat} {x : Int32} {Ax T : Nat → Int32} (hn : 1000 ≤ n) (h : Rg x Ax v) (hv : v < 2 ^ 8000) (hM : M < 9223372036854775808) : ∃ x' T', f_X10_times n x (qL M) Ax T = some (x', T') ∧ Rg x' T' (M * v) := by
  obtain ⟨k, rfl, h1⟩ := h
  have hk := Rg.bound (m := 0) h1 hv
  obtain ⟨x', T', g1, g2⟩ := e_tz_loop (n := n) (M := M) hn hk hM h1.2.1 (k + 5) n 0 T (by omega) (by omega) (fun j hj => absurd hj (by omega))
  rw [h1.1] at g2
  exact ⟨x', T', g1, g2⟩
