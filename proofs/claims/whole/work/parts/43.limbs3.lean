/-! PURE 43: the reference's compare, and the parts of a number's bits. -/
section
variable {V_length V_laid V_gone V_thrown V_were V_none V_beyond V_aMany V_bMany V_fiveMany V_leftMany V_rightMany V_partMany V_twos V_at V_digits V_power V_good : Int32} {Va Vb Vl Vr : Nat → Int32}
theorem e_vcmp_loop {n : Nat} : ∀ (m k : Nat), m < k → m ≤ 520 → (∀ j, j < m → Bd Vl j < 65536) → (∀ j, j < m → Bd Vr j < 65536) →
    ∃ c : Int32, f_X10_compare_156 n V_length V_laid V_gone V_thrown V_were V_none V_beyond V_aMany V_bMany V_fiveMany V_partMany V_twos V_at V_digits V_power V_good Va Vb k V_leftMany V_rightMany Vl Vr (nI m + -1) = some (c, V_leftMany, V_rightMany, Vl, Vr) ∧
      (c < 0 ↔ vl 65536 (Bd Vl) m < vl 65536 (Bd Vr) m) ∧ (c = 0 ↔ vl 65536 (Bd Vl) m = vl 65536 (Bd Vr) m) := by
  intro m
  induction m with
  | zero =>
    intro k hk hm _ _
    obtain ⟨k, rfl⟩ : ∃ k', k = k' + 1 := ⟨k - 1, by omega⟩
    refine ⟨0, ?_, by simp [vl], by simp [vl]⟩
    unfold f_X10_compare_156 fb_X10_compare_156
    rw [if_pos (by decide)]
  | succ m ih =>
    intro k hk hm hl hr
    obtain ⟨k, rfl⟩ : ∃ k', k = k' + 1 := ⟨k - 1, by omega⟩
    unfold f_X10_compare_156 fb_X10_compare_156
    rw [qI_add_neg1 (by omega), Nat.add_sub_cancel, if_neg (by rw [qI_lt_lit (by omega) (by decide)]; omega)]
    simp (disch := omega) only [gu_t, bd_s, lt_e, qI_add, qI_add_lit, qI_lit_add, qI_lt, qI_le, qI_eq, qI_lt_lit, qI_lit_lt, qI_le_lit, qI_lit_le, qI_eq_lit, qI_lit_eq, qI_ne_neg1, gd_nI, gd_lit, qI_lit_toNat, qI_toNat]
    by_cases h0 : Vl m = Vr m
    · rw [if_pos h0]
      obtain ⟨c, g1, g2, g3⟩ := ih k (by omega) (by omega) (fun j hj => hl j (by omega)) (fun j hj => hr j (by omega))
      refine ⟨c, g1, ?_, ?_⟩
      · rw [g2]; show _ ↔ vl _ _ m + _ * _ < vl _ _ m + _ * _
        rw [show Bd Vl m = Bd Vr m from by unfold Bd; rw [h0]]; omega
      · rw [g3]; show _ ↔ vl _ _ m + _ * _ = vl _ _ m + _ * _
        rw [show Bd Vl m = Bd Vr m from by unfold Bd; rw [h0]]; omega
    · rw [if_neg h0]
      have b1 := hl m (by omega)
      have b2 := hr m (by omega)
      have e1 : Vl m = nI (Bd Vl m) := nI_ul (by unfold Bd at b1; omega)
      have e2 : Vr m = nI (Bd Vr m) := nI_ul (by unfold Bd at b2; omega)
      have hne : Bd Vl m ≠ Bd Vr m := by intro h; apply h0; rw [e1, e2, h]
      have hc : (Vl m - Vr m).toInt = (Bd Vl m : Int) - Bd Vr m := i32_sub_of (by rw [e1, qI_toInt (by omega)]) (by rw [e2, qI_toInt (by omega)]) (by omega) (by omega)
      refine ⟨Vl m - Vr m, rfl, ?_, ?_⟩
      · rw [i32_lt0 hc]
        by_cases h : Bd Vl m < Bd Vr m
        · have := vl_cmp (B := 65536) (d := Bd Vl) (e := Bd Vr) (i := m) (k := m + 1) (by omega) hl (fun j h1 h2 => absurd h2 (by omega)) h
          omega
        · have := vl_cmp (B := 65536) (d := Bd Vr) (e := Bd Vl) (i := m) (k := m + 1) (by omega) hr (fun j h1 h2 => absurd h2 (by omega)) (by omega)
          omega
      · have hz : (Vl m - Vr m = 0) ↔ ((Bd Vl m : Int) - Bd Vr m = 0) := by
          rw [← Int32.toInt_inj, hc]; rfl
        rw [hz]
        by_cases h : Bd Vl m < Bd Vr m
        · have := vl_cmp (B := 65536) (d := Bd Vl) (e := Bd Vr) (i := m) (k := m + 1) (by omega) hl (fun j h1 h2 => absurd h2 (by omega)) h
          omega
        · have := vl_cmp (B := 65536) (d := Bd Vr) (e := Bd Vl) (i := m) (k := m + 1) (by omega) hr (fun j h1 h2 => absurd h2 (by omega)) (by omega)
          omega
theorem e_vcmp {n A B : Nat} (hn : 1000 ≤ n) (h : Rg V_leftMany Vl A) (g : Rg V_rightMany Vr B) (hA : A < 65536 ^ 520) (hB : B < 65536 ^ 520) :
    ∃ c : Int32, f_X10_compare_127 n V_length V_laid V_gone V_thrown V_were V_none V_beyond V_aMany V_bMany V_fiveMany V_partMany V_twos V_at V_digits V_power V_good Va Vb V_leftMany V_rightMany Vl Vr = some (c, V_leftMany, V_rightMany, Vl, Vr) ∧ (c < 0 ↔ A < B) ∧ (c = 0 ↔ A = B) := by
  obtain ⟨k, rfl, h1⟩ := h
  obtain ⟨l, rfl, g1⟩ := g
  have hk : k ≤ 520 := vl_len (by omega) hA h1.2.2
  have hl : l ≤ 520 := vl_len (by omega) hB g1.2.2
  unfold f_X10_compare_127
  simp (disch := omega) only [gu_t, bd_s, lt_e, qI_add, qI_add_lit, qI_lit_add, qI_lt, qI_le, qI_eq, qI_lt_lit, qI_lit_lt, qI_le_lit, qI_lit_le, qI_eq_lit, qI_lit_eq, qI_ne_neg1, gd_nI, gd_lit, qI_lit_toNat, qI_toNat]
  by_cases hkl : k = l
  · subst hkl
    rw [if_pos rfl, show nI k - 1 = nI k + -1 from by grind]
    obtain ⟨c, q1, q2, q3⟩ := e_vcmp_loop (n := n) (Vl := Vl) (Vr := Vr) k n (by omega) (by omega) h1.2.1 g1.2.1
    rw [h1.1, g1.1] at q2 q3
    exact ⟨c, q1, q2, q3⟩
  · rw [if_neg hkl]
    have hc : (nI k - nI l).toInt = (k : Int) - l := i32_sub_of (qI_toInt (by omega)) (qI_toInt (by omega)) (by omega) (by omega)
    refine ⟨_, rfl, ?_, ?_⟩
    · rw [i32_lt0 hc]
      constructor
      · intro h
        apply Nat.lt_of_not_le
        intro h2
        have := Row.len (by omega) h1 g1 h2
        omega
      · intro h
        have := Row.len (by omega) g1 h1 (Nat.le_of_lt h)
        omega
    · have hz : (nI k - nI l = 0) ↔ ((k : Int) - l = 0) := by
        rw [← Int32.toInt_inj, hc]; rfl
      rw [hz]
      constructor
      · intro h; omega
      · intro h
        have h2 := Row.len (by omega) g1 h1 (Nat.le_of_eq h)
        have h3 := Row.len (by omega) h1 g1 (Nat.le_of_eq h.symm)
        omega
end
section
variable {V_length V_laid V_gone V_thrown V_were V_none V_beyond V_fiveMany V_partMany V_at V_digits V_power V_good : Int32}
theorem PW_shift {a : Nat} {e q : Int} (h : e ≤ q) (he : -40000000 ≤ e) : a * PW q = a * 2 ^ (q - e).toNat * PW e := by
  have h1 := PW_add (e := e) (q - e).toNat he
  rw [show e + ((q - e).toNat : Int) = q from by omega] at h1
  rw [h1]; grind
theorem pow_520 {A a x : Nat} (h : A < 65536 ^ a) (hx : a + x / 16 ≤ 519) : A * 2 ^ x < 65536 ^ 520 := by
  have h1 : A * 2 ^ x < 65536 ^ a * 2 ^ x := Nat.mul_lt_mul_of_pos_right h (Nat.pow_pos (by omega))
  rw [show (65536 : Nat) = 2 ^ 16 from rfl, ← Nat.pow_mul, ← Nat.pow_add] at h1
  rw [show (65536 : Nat) = 2 ^ 16 from rfl, ← Nat.pow_mul]
  exact Nat.lt_of_lt_of_le h1 (Nat.pow_le_pow_right (by omega) (by omega))
theorem pow_520' {A a : Nat} (h : A < 65536 ^ a) (ha : a ≤ 519) : A < 65536 ^ 520 := by
  have := pow_520 (x := 0) h (by omega)
  simpa using this
theorem e_vcopy {n N D M a an dn : Nat} {e q : Int} {V_bMany V_twos d : Int32} {Va Vb : Nat → Int32} (hn : 1000 ≤ n) (hA : Row 65536 (Bd Va) a N) (h2 : Rg V_bMany Vb D) (hN : 0 < N) (hN2 : N < 65536 ^ an) (hD : 0 < D) (hM : 0 < M) (hM2 : M < 9223372036854775808) (hDM : M * D < 65536 ^ dn) (hD2 : D < 2 ^ 8000) (hf1 : an + (e - q).toNat / 16 ≤ 519) (hf2 : dn + (q - e).toNat / 16 ≤ 519)
    (he : -20000 ≤ e) (hq : -20000 ≤ q) (hd : d.toInt = e - q) (hd1 : e - q < 20000) (hd2 : -20000 < e - q) : ∀ (m k i : Nat) (V_leftMany V_rightMany : Int32) (Vl Vr : Nat → Int32), i + m = a → m < k → (∀ j, j < i → Vl j = Va j) →
    ∃ (c lm rm : Int32) (Vl' Vr' : Nat → Int32), f_X10_compare_11 n V_length V_laid V_gone V_thrown V_were V_none V_beyond (nI a) V_bMany V_fiveMany V_partMany V_twos V_at V_digits V_power V_good Va Vb k V_leftMany V_rightMany Vl Vr (qL M) d (nI i) = some (c, lm, rm, Vl', Vr') ∧ (c < 0 ↔ N * PW e < M * D * PW q) ∧ (c = 0 ↔ N * PW e = M * D * PW q) := by
  have ha : a ≤ an := vl_len (by omega) hN2 hA.2.2
  have ha0 : 0 < a := by
    apply Nat.pos_of_ne_zero
    intro h0
    rw [Row.zero (by omega) hA] at h0
    omega
  intro m
  induction m with
  | zero =>
    intro k i V_leftMany V_rightMany Vl Vr hm hk hc
    obtain ⟨k, rfl⟩ : ∃ k', k = k' + 1 := ⟨k - 1, by omega⟩
    have hia : i = a := by omega
    subst hia
    have hL : Rg (nI i) Vl N := ⟨i, rfl, hA.congr (fun j hj => by unfold Bd; rw [hc j hj])⟩
    unfold f_X10_compare_11 fb_X10_compare_11 f_X10_compare_69 f_X10_compare_73
    obtain ⟨rm, Vr1, t1, t2⟩ := e_times (n := n) (T := Vr) hn h2 hD2 hM2
    rw [t1]
    simp only [bd_s, lt_e]
    have hrm : ¬ rm ≤ 0 := by
      obtain ⟨r, rfl, r2⟩ := t2
      have hr : r ≤ dn := vl_len (by omega) hDM r2.2.2
      rw [qI_le_lit (by omega) (by decide)]
      intro h0
      have h0' : r = 0 := Nat.le_zero.mp h0
      rw [Row.zero (by omega) r2] at h0'
      have := Nat.mul_pos hM hD
      omega
    simp (disch := omega) only [gu_t, bd_s, lt_e, qI_add, qI_add_lit, qI_lit_add, qI_lt, qI_le, qI_eq, qI_lt_lit, qI_lit_lt, qI_le_lit, qI_lit_le, qI_eq_lit, qI_lit_eq, qI_ne_neg1, gd_nI, gd_lit, qI_lit_toNat, qI_toNat, Nat.le_refl, if_true, i32_le hd (show (0 : Int32).toInt = 0 from rfl), i32_le (show (0 : Int32).toInt = 0 from rfl) hd, hrm, if_false]
    by_cases hd0 : e - q ≤ 0
    · rw [if_pos hd0]
      by_cases hd3 : 0 ≤ e - q
      · rw [if_pos hd3]
        obtain ⟨c, q1, q2, q3⟩ := e_vcmp (n := n) (V_aMany := nI i) (V_bMany := V_bMany) (V_length := V_length) (V_laid := V_laid) (V_gone := V_gone) (V_thrown := V_thrown) (V_were := V_were) (V_none := V_none) (V_beyond := V_beyond) (V_fiveMany := V_fiveMany) (V_partMany := V_partMany) (V_twos := V_twos) (V_at := V_at) (V_digits := V_digits) (V_power := V_power) (V_good := V_good) (Va := Va) (Vb := Vb) hn hL t2 (pow_520' hN2 (by omega)) (pow_520' hDM (by omega))
        refine ⟨c, _, _, _, _, q1, ?_, ?_⟩
        · rw [q2, show e = q from by omega]
          exact (Nat.mul_lt_mul_right (PW_pos q)).symm
        · rw [q3, show e = q from by omega]
          exact (Nat.mul_right_cancel_iff (PW_pos q)).symm
      · rw [if_neg hd3]
        have hng : (-d).toInt = ((q - e).toNat : Int) := by rw [i32_neg hd (by omega)]; omega
        rw [i32_of hng]
        obtain ⟨rm2, Vr2, s1, s2⟩ := e_shifted (n := n) (c := (q - e).toNat) hn t2 hDM (by omega)
        rw [s1]
        simp only [bd_s, lt_e]
        obtain ⟨c, q1, q2, q3⟩ := e_vcmp (n := n) (V_aMany := nI i) (V_bMany := V_bMany) (V_length := V_length) (V_laid := V_laid) (V_gone := V_gone) (V_thrown := V_thrown) (V_were := V_were) (V_none := V_none) (V_beyond := V_beyond) (V_fiveMany := V_fiveMany) (V_partMany := V_partMany) (V_twos := V_twos) (V_at := V_at) (V_digits := V_digits) (V_power := V_power) (V_good := V_good) (Va := Va) (Vb := Vb) hn hL s2 (pow_520' hN2 (by omega)) (pow_520 hDM (by omega))
        have hpw : M * D * PW q = M * D * 2 ^ (q - e).toNat * PW e := PW_shift (by omega) (by omega)
        refine ⟨c, _, _, _, _, q1, ?_, ?_⟩
        · rw [q2, hpw]
          exact (Nat.mul_lt_mul_right (PW_pos e)).symm
        · rw [q3, hpw]
          exact (Nat.mul_right_cancel_iff (PW_pos e)).symm
    · rw [if_neg hd0, if_neg (by omega)]
      have hdd : d = nI (e - q).toNat := i32_of (by rw [hd]; omega)
      obtain ⟨lm2, Vl2, s1, s2⟩ := e_shifted (n := n) (c := (e - q).toNat) hn hL hN2 (by omega)
      rw [hdd, s1]
      simp only [bd_s, lt_e]
      rw [if_pos (by omega)]
      obtain ⟨c, q1, q2, q3⟩ := e_vcmp (n := n) (V_aMany := nI i) (V_bMany := V_bMany) (V_length := V_length) (V_laid := V_laid) (V_gone := V_gone) (V_thrown := V_thrown) (V_were := V_were) (V_none := V_none) (V_beyond := V_beyond) (V_fiveMany := V_fiveMany) (V_partMany := V_partMany) (V_twos := V_twos) (V_at := V_at) (V_digits := V_digits) (V_power := V_power) (V_good := V_good) (Va := Va) (Vb := Vb) hn s2 t2 (pow_520 hN2 (by omega)) (pow_520' hDM (by omega))
      have hpw : N * PW e = N * 2 ^ (e - q).toNat * PW q := PW_shift (by omega) (by omega)
      refine ⟨c, _, _, _, _, q1, ?_, ?_⟩
      · rw [q2, hpw]
        exact (Nat.mul_lt_mul_right (PW_pos q)).symm
      · rw [q3, hpw]
        exact (Nat.mul_right_cancel_iff (PW_pos q)).symm
  | succ m ih =>
    intro k i V_leftMany V_rightMany Vl Vr hm hk hc
    obtain ⟨k, rfl⟩ : ∃ k', k = k' + 1 := ⟨k - 1, by omega⟩
    unfold f_X10_compare_11 fb_X10_compare_11
    simp (disch := omega) only [gu_t, bd_s, lt_e, qI_add, qI_add_lit, qI_lit_add, qI_lt, qI_le, qI_eq, qI_lt_lit, qI_lit_lt, qI_le_lit, qI_lit_le, qI_eq_lit, qI_lit_eq, qI_ne_neg1, gd_nI, gd_lit, qI_lit_toNat, qI_toNat]
    rw [if_neg (by omega)]
    apply ih k (i + 1) _ _ _ _ (by omega) (by omega)
    intro j hj
    by_cases h : j = i
    · subst h; rw [upd_same]
    · rw [upd_ne _ _ h]; exact hc j (by omega)
end
