/-! PURE 34: the own large numbers. -/
def Bd (Bl : Nat → Int32) : Nat → Nat := fun j => ul (Bl j)
def Bg (u : Int32) (Bl : Nat → Int32) (v : Nat) : Prop := ∃ k, k ≤ 136 ∧ u = nI k ∧ Row 4294967296 (Bd Bl) k v
theorem Bd_lt (Bl : Nat → Int32) (k : Nat) : ∀ j, j < k → Bd Bl j < 4294967296 := fun j _ => ul_lt _
theorem e_set0 {n : Nat} {u : Int32} {Bl : Nat → Int32} : ∃ u' Bl', f_X0_set n 0 u Bl = some (u', Bl') ∧ Bg u' Bl' 0 :=
  ⟨0, _, rfl, 0, by omega, rfl, rfl, fun j hj => absurd hj (by omega), fun h => absurd h (by omega)⟩
theorem e_set1 {n : Nat} {u : Int32} {Bl : Nat → Int32} : ∃ u' Bl', f_X0_set n 1 u Bl = some (u', Bl') ∧ Bg u' Bl' 1 :=
  ⟨1, upd Bl 0 1, rfl, 1, by omega, rfl, by simp [vl, Bd, upd_same]; rfl, Bd_lt _ _, fun h => by simp⟩
theorem e_tp_loop {n f : Nat} (hf : f < 2147483648) : ∀ (m k u i : Nat) (Bl : Nat → Int32) (c : Nat), i + m = u → m < k → u ≤ 136 → c < 4294967296 →
    (u = 136 → vl 4294967296 (Bd Bl) i + 4294967296 ^ i * (c + f * vl 4294967296 (fun j => Bd Bl (i + j)) m) < 4294967296 ^ u) →
    ∃ w Bl', f_X0_timesPlus_6 n k (nI u) Bl (nI f) (qL c) (nI i) = some (nI w, Bl') ∧ u ≤ w ∧ w ≤ 136 ∧ (u < w → 4294967296 ^ (w - 1) ≤ vl 4294967296 (Bd Bl') w) ∧
      vl 4294967296 (Bd Bl') w = vl 4294967296 (Bd Bl) i + 4294967296 ^ i * (c + f * vl 4294967296 (fun j => Bd Bl (i + j)) m) := by
  intro m
  induction m with
  | zero =>
    intro k u i Bl c hm hk hu hc hfit
    obtain ⟨k, rfl⟩ : ∃ k', k = k' + 1 := ⟨k - 1, by omega⟩
    have hiu : i = u := by omega
    subst hiu
    unfold f_X0_timesPlus_6 fb_X0_timesPlus_6
    have hc0 : (lg_cmp (qL c) 0 = 0) = (c = 0) := by
      have := qL_cmp (a := c) (b := 0) (by omega) (by omega)
      rw [show (0 : Int64) = qL 0 from rfl, this]
      by_cases h : c = 0
      · simp [h]
      · simp [h, show 0 < c from by omega]
    simp (disch := omega) only [gu_t, bd_s, lt_e, qI_add, qI_add_lit, qI_lit_add, qI_lt, qI_le, qI_eq, qI_lt_lit, qI_lit_lt, qI_le_lit, qI_lit_le, qI_eq_lit, qI_lit_eq, qI_ne_neg1, gd_nI, gd_lit, qI_lit_toNat, qI_toNat, hc0, Nat.le_refl, if_true]
    by_cases h0 : c = 0
    · rw [if_pos h0]
      exact ⟨i, Bl, rfl, Nat.le_refl _, hu, fun h => absurd h (by omega), by simp [h0, vl]⟩
    · rw [if_neg h0]
      have h136 : ¬ 136 ≤ i := by
        intro h
        have h1 := hfit (by omega)
        simp only [vl, Nat.mul_zero, Nat.add_zero] at h1
        have h3 : 4294967296 ^ i * 1 ≤ 4294967296 ^ i * c := Nat.mul_le_mul_left _ (by omega)
        omega
      rw [if_neg h136, gd_nI (by omega) (by omega), gu_t]
      have hnew : Bd (upd Bl i (qL c).toInt32) i = c := by
        unfold Bd; rw [upd_same, qL_toInt32]; omega
      have hval : vl 4294967296 (Bd (upd Bl i (qL c).toInt32)) (i + 1) = vl 4294967296 (Bd Bl) i + 4294967296 ^ i * c := by
        show vl _ _ i + _ * _ = _
        rw [hnew, Nat.mul_comm c]
        rw [vl_congr i (fun j hj => show Bd (upd Bl i (qL c).toInt32) j = Bd Bl j by unfold Bd; rw [upd_ne _ _ (by omega)])]
      refine ⟨i + 1, upd Bl i (qL c).toInt32, rfl, by omega, by omega, fun _ => ?_, ?_⟩
      · exact vl_top (k := i) (by rw [hnew]; exact h0)
      · rw [hval]; simp [vl]
  | succ m ih =>
    intro k u i Bl c hm hk hu hc hfit
    obtain ⟨k, rfl⟩ : ∃ k', k = k' + 1 := ⟨k - 1, by omega⟩
    unfold f_X0_timesPlus_6 fb_X0_timesPlus_6
    simp (disch := omega) only [gu_t, bd_s, lt_e, qI_add, qI_add_lit, qI_lit_add, qI_lt, qI_le, qI_eq, qI_lt_lit, qI_lit_lt, qI_le_lit, qI_lit_le, qI_eq_lit, qI_lit_eq, qI_ne_neg1, gd_nI, gd_lit, qI_lit_toNat, qI_toNat, ul_mask, qI_toInt64, qL_mul, qL_add]
    rw [if_neg (by omega)]
    have hx : ul (Bl i) < 4294967296 := ul_lt _
    have hp : ul (Bl i) * f ≤ 4294967295 * 2147483647 := Nat.mul_le_mul (by omega) (by omega)
    rw [qL_ushr (by omega)]
    have hq : (c + ul (Bl i) * f) / 4294967296 < 4294967296 := by omega
    have hdm : c + f * ul (Bl i) = (c + ul (Bl i) * f) / 4294967296 * 4294967296 + (c + ul (Bl i) * f) % 4294967296 := by
      rw [Nat.mul_comm f]; omega
    have hnew : Bd (upd Bl i (qL (c + ul (Bl i) * f)).toInt32) i = (c + ul (Bl i) * f) % 4294967296 := by
      unfold Bd; rw [upd_same, qL_toInt32]
    have hlow : vl 4294967296 (Bd (upd Bl i (qL (c + ul (Bl i) * f)).toInt32)) (i + 1) = vl 4294967296 (Bd Bl) i + 4294967296 ^ i * ((c + ul (Bl i) * f) % 4294967296) := by
      show vl _ _ i + _ * _ = _
      rw [hnew, Nat.mul_comm _ (4294967296 ^ i)]
      rw [vl_congr i (fun j hj => show Bd (upd Bl i _) j = Bd Bl j by unfold Bd; rw [upd_ne _ _ (by omega)])]
    have hrest : vl 4294967296 (fun j => Bd (upd Bl i (qL (c + ul (Bl i) * f)).toInt32) (i + 1 + j)) m = vl 4294967296 (fun j => Bd Bl (i + (j + 1))) m := by
      apply vl_congr
      intro j hj
      unfold Bd; rw [upd_ne _ _ (by omega)]; congr 2; omega
    have hst := vl_step (P := 4294967296 ^ i) (rest := vl 4294967296 (fun j => Bd Bl (i + (j + 1))) m) hdm
    have hhead : vl 4294967296 (fun j => Bd Bl (i + j)) (m + 1) = ul (Bl i) + 4294967296 * vl 4294967296 (fun j => Bd Bl (i + (j + 1))) m := by
      rw [vl_head]; rfl
    have heq : vl 4294967296 (Bd (upd Bl i (qL (c + ul (Bl i) * f)).toInt32)) (i + 1) + 4294967296 ^ (i + 1) * ((c + ul (Bl i) * f) / 4294967296 + f * vl 4294967296 (fun j => Bd (upd Bl i (qL (c + ul (Bl i) * f)).toInt32) (i + 1 + j)) m) = vl 4294967296 (Bd Bl) i + 4294967296 ^ i * (c + f * vl 4294967296 (fun j => Bd Bl (i + j)) (m + 1)) := by
      rw [hlow, hrest, hhead, hst, pow_step]; omega
    obtain ⟨w, Bl', h1, h2, h3, h4, h5⟩ := ih k u (i + 1) (upd Bl i (qL (c + ul (Bl i) * f)).toInt32) ((c + ul (Bl i) * f) / 4294967296) (by omega) (by omega) hu hq (by rw [heq]; exact hfit)
    exact ⟨w, Bl', h1, h2, h3, h4, by rw [h5, heq]⟩
theorem pow_4352 : 4294967296 ^ 136 = 2 ^ 4352 := by
  rw [show (4294967296 : Nat) = 2 ^ 32 from rfl, ← Nat.pow_mul]
theorem e_timesPlus {n f s v : Nat} {u : Int32} {Bl : Nat → Int32} (hn : 1000 ≤ n) (h : Bg u Bl v) (hf : f < 2147483648) (hf1 : 1 ≤ f) (hs : s < 2147483648) (hfit : v * f + s < 2 ^ 4352) :
    ∃ u' Bl', f_X0_timesPlus n (nI f) (nI s) u Bl = some (u', Bl') ∧ Bg u' Bl' (v * f + s) := by
  obtain ⟨k, hk, rfl, h1, h2, h3⟩ := h
  unfold f_X0_timesPlus f_X0_timesPlus_0
  rw [qI_toInt64 hs, show (0 : Int32) = nI 0 from rfl]
  have hz : vl 4294967296 (fun j => Bd Bl (0 + j)) k = v := by rw [← h1]; exact vl_congr k (fun j _ => by rw [Nat.zero_add])
  have hV : vl 4294967296 (Bd Bl) 0 + 4294967296 ^ 0 * (s + f * vl 4294967296 (fun j => Bd Bl (0 + j)) k) = v * f + s := by
    rw [hz, Nat.mul_comm f]; simp [vl]; omega
  obtain ⟨w, Bl', g1, g2, g3, g4, g5⟩ := e_tp_loop (n := n) hf k n k 0 Bl s (by omega) (by omega) hk (by omega) (by intro hk; rw [hV, hk, pow_4352]; exact hfit)
  rw [hV] at g5
  refine ⟨_, _, g1, w, g3, rfl, g5, Bd_lt _ _, fun h0 => ?_⟩
  by_cases hw : k < w
  · rw [← g5]; exact g4 hw
  · have hkw : w = k := by omega
    subst hkw
    have h6 : v * 1 ≤ v * f := Nat.mul_le_mul_left _ hf1
    have := h3 h0
    omega
theorem e_dropZeros_loop {n : Nat} {Bl : Nat → Int32} : ∀ (m k : Nat), m < k → m ≤ 136 → ∃ w, f_X0_dropZeros_0 n Bl k (nI m) = some (nI w) ∧ w ≤ m ∧ (∀ j, w ≤ j → j < m → Bd Bl j = 0) ∧ (0 < w → Bd Bl (w - 1) ≠ 0) := by
  intro m
  induction m with
  | zero =>
    intro k hk hm
    obtain ⟨k, rfl⟩ : ∃ k', k = k' + 1 := ⟨k - 1, by omega⟩
    refine ⟨0, ?_, by omega, fun j _ hj => absurd hj (by omega), fun h => absurd h (by omega)⟩
    unfold f_X0_dropZeros_0 fb_X0_dropZeros_0
    simp (disch := omega) only [gu_t, bd_s, lt_e, qI_add, qI_add_lit, qI_lit_add, qI_lt, qI_le, qI_eq, qI_lt_lit, qI_lit_lt, qI_le_lit, qI_lit_le, qI_eq_lit, qI_lit_eq, qI_ne_neg1, gd_nI, gd_lit, qI_lit_toNat, qI_toNat, Nat.le_refl, if_true]
  | succ m ih =>
    intro k hk hm
    obtain ⟨k, rfl⟩ : ∃ k', k = k' + 1 := ⟨k - 1, by omega⟩
    unfold f_X0_dropZeros_0 fb_X0_dropZeros_0
    simp (disch := omega) only [gu_t, bd_s, lt_e, qI_add, qI_add_lit, qI_lit_add, qI_lt, qI_le, qI_eq, qI_lt_lit, qI_lit_lt, qI_le_lit, qI_lit_le, qI_eq_lit, qI_lit_eq, qI_ne_neg1, gd_nI, gd_lit, qI_lit_toNat, qI_toNat, qI_sub_lit, Nat.add_sub_cancel]
    rw [if_neg (by omega)]
    by_cases h0 : Bl m = 0
    · rw [if_pos h0]
      obtain ⟨w, h1, h2, h3, h4⟩ := ih k (by omega) (by omega)
      refine ⟨w, h1, by omega, fun j hj hj2 => ?_, h4⟩
      by_cases hjm : j = m
      · subst hjm; unfold Bd; rw [h0]; rfl
      · exact h3 j hj (by omega)
    · rw [if_neg h0]
      refine ⟨m + 1, rfl, Nat.le_refl _, fun j _ hj => absurd hj (by omega), fun _ => ?_⟩
      intro h
      apply h0
      rw [ul_zero]; exact h
theorem vl_cut {B : Nat} {d : Nat → Nat} {w : Nat} : ∀ (k : Nat), w ≤ k → (∀ j, w ≤ j → j < k → d j = 0) → vl B d k = vl B d w := by
  intro k hk h
  obtain ⟨m, rfl⟩ : ∃ m, k = w + m := ⟨k - w, by omega⟩
  rw [vl_split, vl_zero m (fun j hj => h _ (by omega) (by omega)), Nat.mul_zero, Nat.add_zero]
theorem e_dropZeros {n k v : Nat} {Bl : Nat → Int32} (hn : 1000 ≤ n) (hk : k ≤ 136) (h : vl 4294967296 (Bd Bl) k = v) : ∃ u', f_X0_dropZeros n (nI k) Bl = some u' ∧ Bg u' Bl v := by
  obtain ⟨w, h1, h2, h3, h4⟩ := e_dropZeros_loop (n := n) (Bl := Bl) k n (by omega) hk
  refine ⟨nI w, h1, w, by omega, rfl, ?_, Bd_lt _ _, fun h0 => ?_⟩
  · rw [← h]; exact (vl_cut k h2 h3).symm
  · rw [← h, vl_cut k h2 h3]
    obtain ⟨x, rfl⟩ : ∃ x, w = x + 1 := ⟨w - 1, by omega⟩
    exact vl_top (h4 (by omega))
theorem e_cmp_loop {n : Nat} {u e : Int32} {Bl El : Nat → Int32} : ∀ (m k : Nat), m < k → m ≤ 136 →
    f_X0_compareWith_35 n u Bl e El k (nI m + -1) = some (if vl 4294967296 (Bd Bl) m < vl 4294967296 (Bd El) m then -1 else if vl 4294967296 (Bd Bl) m = vl 4294967296 (Bd El) m then 0 else 1) := by
  intro m
  induction m with
  | zero =>
    intro k hk hm
    obtain ⟨k, rfl⟩ : ∃ k', k = k' + 1 := ⟨k - 1, by omega⟩
    unfold f_X0_compareWith_35 fb_X0_compareWith_35
    rw [if_pos (by decide)]; simp [vl]
  | succ m ih =>
    intro k hk hm
    obtain ⟨k, rfl⟩ : ∃ k', k = k' + 1 := ⟨k - 1, by omega⟩
    unfold f_X0_compareWith_35 fb_X0_compareWith_35
    rw [qI_add_neg1 (by omega)]
    simp (disch := omega) only [gu_t, bd_s, lt_e, qI_add, qI_add_lit, qI_lit_add, qI_lt, qI_le, qI_eq, qI_lt_lit, qI_lit_lt, qI_le_lit, qI_lit_le, qI_eq_lit, qI_lit_eq, qI_ne_neg1, gd_nI, gd_lit, qI_lit_toNat, qI_toNat, Nat.add_sub_cancel, ul_mask]
    rw [if_neg (by omega)]
    by_cases h0 : Bl m = El m
    · rw [if_pos h0, ih k (by omega) (by omega)]
      have h1 : Bd Bl m = Bd El m := by unfold Bd; rw [h0]
      congr 1
      simp only [vl, h1]
      have e1 : ∀ a b c : Nat, (a + c < b + c) = (a < b) := fun a b c => by apply propext; omega
      have e2 : ∀ a b c : Nat, (a + c = b + c) = (a = b) := fun a b c => by apply propext; omega
      simp only [e1, e2]
    · rw [if_neg h0]
      have h1 : ul (Bl m) ≠ ul (El m) := by intro h; exact h0 (by rw [ul_inj]; exact h)
      have b1 := ul_lt (Bl m)
      have b2 := ul_lt (El m)
      rw [qL_cmp (by omega) (by omega)]
      by_cases h2 : ul (El m) < ul (Bl m)
      · rw [if_pos h2, if_pos (by decide)]
        have := vl_cmp (B := 4294967296) (d := Bd El) (e := Bd Bl) (i := m) (k := m + 1) (by omega) (Bd_lt _ _) (fun j h1 h2 => absurd h2 (by omega)) h2
        rw [if_neg (by omega), if_neg (by omega)]
      · rw [if_neg h2, if_neg h1, if_neg (by decide)]
        have := vl_cmp (B := 4294967296) (d := Bd Bl) (e := Bd El) (i := m) (k := m + 1) (by omega) (Bd_lt _ _) (fun j h1 h2 => absurd h2 (by omega)) (show ul (Bl m) < ul (El m) by omega)
        rw [if_pos (by omega)]
theorem e_compareWith {n v x : Nat} {u e : Int32} {Bl El : Nat → Int32} (hn : 1000 ≤ n) (h : Bg u Bl v) (g : Bg e El x) : f_X0_compareWith n u Bl e El = some (if v < x then -1 else if v = x then 0 else 1) := by
  obtain ⟨k, hk, rfl, h1⟩ := h
  obtain ⟨l, hl, rfl, g1⟩ := g
  unfold f_X0_compareWith f_X0_compareWith_0
  simp (disch := omega) only [gu_t, bd_s, lt_e, qI_add, qI_add_lit, qI_lit_add, qI_lt, qI_le, qI_eq, qI_lt_lit, qI_lit_lt, qI_le_lit, qI_lit_le, qI_eq_lit, qI_lit_eq, qI_ne_neg1, gd_nI, gd_lit, qI_lit_toNat, qI_toNat]
  by_cases hkl : k = l
  · subst hkl
    rw [if_pos rfl]
    have : nI k - 1 = nI k + -1 := by grind
    rw [this, e_cmp_loop k n (by omega) hk, h1.1, g1.1]
  · rw [if_neg hkl]
    by_cases h2 : l ≤ k
    · rw [if_pos h2]
      have h3 : ¬ v ≤ x := fun h => hkl (Nat.le_antisymm (Row.len (by omega) g1 h1 h) h2)
      rw [if_neg (by omega), if_neg (by omega)]
    · rw [if_neg h2]
      have h3 : ¬ x ≤ v := fun h => h2 (Row.len (by omega) h1 g1 h)
      rw [if_pos (by omega)]
