/-! PURE 63: whole numbers: the reference. -/
theorem qL_and32 (a : Nat) : qL a &&& 4294967295 = qL (a % 4294967296) := by
  apply qL_of
  rw [Int64.toUInt64_and, UInt64.toNat_and, qL_toNat]
  show (a % 18446744073709551616) &&& 4294967295 = _
  rw [show (4294967295 : Nat) = 2 ^ 32 - 1 from rfl, Nat.and_two_pow_sub_one_eq_mod]
  show (a % 18446744073709551616) % 4294967296 = _
  omega
def Wd (g : Int32) (hi lo : Int64) (v : Nat) : Prop := (g = 1 ∧ ∃ H W : Nat, hi = qL H ∧ lo = qL W ∧ H < 4294967296 ∧ W < 4294967296 ∧ v = H * 4294967296 + W) ∨ (g = 0 ∧ 18446744073709551616 ≤ v)
section
variable {M_came M_size M_at M_laid M_tokens M_looked M_thrown M_wrong M_kind : Int32} {M_value : Int64} {Sc Ms : Nat → Int32}
theorem e_wl_loop {n b c len r i0 : Nat} {x4 : Int32} (hS : See i0 c len Sc Ms) (hb1 : 2 ≤ b) (hb2 : b ≤ 16) (hr : r ≤ c) : ∀ (m k i v : Nat) (g : Int32) (hi lo : Int64), i + m = r → i0 ≤ i → m < k → (∀ j, i ≤ j → j < r → dv (lk c Sc j) < b ∨ lk c Sc j = 95) → Wd g hi lo v →
    ∃ g' hi' lo', f_X11_whole_68 n M_came M_size (nI len) M_laid M_tokens M_looked M_thrown M_wrong Ms k M_at M_kind M_value g (nI r) (nI b) x4 hi lo (nI i) = (if (lg_cmp hi' (0 : Int64)) = 0 then f_X11_whole_173 n M_came M_size (nI len) M_laid M_tokens M_looked M_thrown M_wrong Ms M_at M_kind M_value g' (nI b) x4 hi' lo' 1 else f_X11_whole_173 n M_came M_size (nI len) M_laid M_tokens M_looked M_thrown M_wrong Ms M_at M_kind M_value g' (nI b) x4 hi' lo' 0) ∧ Wd g' hi' lo' (sm (lk c Sc) b m i v) := by
  have hc := hS.1
  have hl := hS.2.1
  have hcl := hS.2.2.1
  intro m
  induction m with
  | zero =>
    intro k i v g hi lo hm hi0 hk hd hw
    obtain ⟨k, rfl⟩ : ∃ k', k = k' + 1 := ⟨k - 1, by omega⟩
    refine ⟨g, hi, lo, ?_, hw⟩
    unfold f_X11_whole_68 fb_X11_whole_68
    rw [if_pos (by rw [qI_le (by omega) (by omega)]; omega)]
  | succ m ih =>
    intro k i v g hi lo hm hi0 hk hd hw
    obtain ⟨k, rfl⟩ : ∃ k', k = k' + 1 := ⟨k - 1, by omega⟩
    have hMs : Ms i = lk c Sc i := by rw [lk_in (by omega)]; exact hS.2.2.2.2 i hi0 (by omega)
    have hgd : gd (nI i) 81924 = true := gd_nI (by omega) (by omega)
    have hle : ¬ nI r ≤ nI i := by rw [qI_le (by omega) (by omega)]; omega
    have hin := hd i (Nat.le_refl _) (by omega)
    unfold f_X11_whole_68 fb_X11_whole_68 f_X11_whole_152 f_X11_whole_155
    rw [if_neg hle, hgd, gu_t, qI_toNat (by omega), hMs, show nI i + 1 = nI (i + 1) from qI_add i 1]
    simp only [lt_e]
    unfold sm
    have nxt : ∀ g hi lo v, Wd g hi lo v → ∃ g' hi' lo', f_X11_whole_68 n M_came M_size (nI len) M_laid M_tokens M_looked M_thrown M_wrong Ms k M_at M_kind M_value g (nI r) (nI b) x4 hi lo (nI (i + 1)) = (if (lg_cmp hi' (0 : Int64)) = 0 then f_X11_whole_173 n M_came M_size (nI len) M_laid M_tokens M_looked M_thrown M_wrong Ms M_at M_kind M_value g' (nI b) x4 hi' lo' 1 else f_X11_whole_173 n M_came M_size (nI len) M_laid M_tokens M_looked M_thrown M_wrong Ms M_at M_kind M_value g' (nI b) x4 hi' lo' 0) ∧ Wd g' hi' lo' (sm (lk c Sc) b m (i + 1) v) :=
      fun g hi lo v hw => ih k (i + 1) v g hi lo (by omega) (by omega) (by omega) (fun j h1 h2 => hd j (by omega) h2) hw
    by_cases c1 : lk c Sc i = 95
    · rw [if_pos c1, if_pos (Or.inr c1)]
      exact nxt g hi lo v hw
    · rw [if_neg c1]
      have hdv : dv (lk c Sc i) < b := by rcases hin with h | h; exact h; exact absurd h c1
      have c2 : ¬ (lk c Sc i = 46 ∨ lk c Sc i = 95) := by
        rintro (h | h)
        · rw [h] at hdv; have : dv (46 : Int32) = 16 := by decide
          omega
        · exact c1 h
      rw [if_neg c2]
      rcases hw with ⟨hg, H, W, h1, h2, h3, h4, h5⟩ | ⟨hg, hv⟩
      · rw [if_neg (by rw [hg]; decide), gu_t, e_digit _ hb2, if_pos hdv, bd_s, h1, h2]
        rw [qI_toInt64 (by omega), qI_toInt64 (by omega), qL_mul, qL_mul, qL_add]
        generalize hdd : dv (lk c Sc i) = d at *
        have hwb : W * b ≤ 4294967295 * 16 := Nat.mul_le_mul (by omega) hb2
        have hhb : H * b ≤ 4294967295 * 16 := Nat.mul_le_mul (by omega) hb2
        rw [show qL (W * b + d) >>> ((32 : Int32).toInt64 &&& 63) = qL ((W * b + d) / 4294967296) from qL_shr2 (s := 32) (by omega) (by decide), qL_add, qL_and32]
        rw [show (4294967295 : Int64) = qL 4294967295 from rfl, qL_cmp (by omega) (by omega)]
        have hvv : v * b + d = (H * b + (W * b + d) / 4294967296) * 4294967296 + (W * b + d) % 4294967296 := by
          have e1 : v * b = H * b * 4294967296 + W * b := by rw [h5, Nat.add_mul]; simp only [Nat.mul_assoc, Nat.mul_comm 4294967296 b]
          rw [e1]
          generalize H * b = Hb
          generalize W * b = Wb
          omega
        by_cases c3 : 4294967295 < H * b + (W * b + d) / 4294967296
        · rw [if_pos c3, if_pos (by decide), zb_0, gu_t]
          apply nxt
          right
          refine ⟨rfl, ?_⟩
          rw [hvv]
          generalize H * b + (W * b + d) / 4294967296 = X at *
          omega
        · rw [if_neg c3, if_neg (by split <;> decide), zb_1, gu_t]
          apply nxt
          left
          exact ⟨rfl, _, _, rfl, rfl, by omega, Nat.mod_lt _ (by decide), hvv⟩
      · rw [if_pos hg]
        apply nxt
        right
        refine ⟨hg, Nat.le_trans hv ?_⟩
        exact Nat.le_trans (Nat.le_mul_of_pos_right v (by omega)) (Nat.le_add_right _ _)
theorem e_whole_173 {n b v len : Nat} {g lg : Int32} {hi lo : Int64} (hb2 : b ≤ 16) (hlg : lg = 0 ∨ lg = 1) (hw : Wd g hi lo v) : ∃ (g' kd : Int32) (val : Int64), (if (lg_cmp hi (0 : Int64)) = 0 then f_X11_whole_173 n M_came M_size (nI len) M_laid M_tokens M_looked M_thrown M_wrong Ms M_at M_kind M_value g (nI b) lg hi lo 1 else f_X11_whole_173 n M_came M_size (nI len) M_laid M_tokens M_looked M_thrown M_wrong Ms M_at M_kind M_value g (nI b) lg hi lo 0) = some (M_at, kd, val, g') ∧ (g' = 0 ∨ g' = 1) ∧ (g' = 1 ↔ wok b v lg) ∧ (g' = 1 → kd = (if lg = 0 then 61 else 62) ∧ val = wvl v lg) := by
  have hb10 : (nI b = 10) = (b = 10) := qI_eq_lit (by omega) (by decide)
  have yes : f_X11_whole_270 n M_came M_size (nI len) M_laid M_tokens M_looked M_thrown M_wrong Ms M_at M_kind M_value g lg hi lo 1 = f_X11_whole_241 n M_came M_size (nI len) M_laid M_tokens M_looked M_thrown M_wrong Ms M_at M_kind M_value g lg hi lo 1 := rfl
  have no : f_X11_whole_270 n M_came M_size (nI len) M_laid M_tokens M_looked M_thrown M_wrong Ms M_at M_kind M_value g lg hi lo 0 = f_X11_whole_241 n M_came M_size (nI len) M_laid M_tokens M_looked M_thrown M_wrong Ms M_at M_kind M_value g lg hi lo 0 := rfl
  have h241 : ∀ t : Int32, t = 0 ∨ t = 1 → ∃ (kd : Int32) (val : Int64), f_X11_whole_241 n M_came M_size (nI len) M_laid M_tokens M_looked M_thrown M_wrong Ms M_at M_kind M_value g lg hi lo t = some (M_at, kd, val, t) ∧ kd = (if lg = 0 then 61 else 62) ∧ val = (if lg = 0 then lo.toInt32.toInt64 else (hi <<< ((32 : Int32).toInt64 &&& 63)) ||| lo) := by
    intro t ht
    unfold f_X11_whole_241 f_X11_whole_273 f_X11_whole_286 f_X11_whole_310
    have : zb t = true := by rcases ht with h | h <;> rw [h] <;> rfl
    rw [this, gu_t]
    rcases hlg with h | h
    · rw [if_pos h, if_pos h]; exact ⟨_, _, rfl, by rw [if_pos h], by rw [if_pos h]⟩
    · have hz : ¬ lg = 0 := by rw [h]; decide
      rw [if_neg hz, if_neg hz]; exact ⟨_, _, rfl, by rw [if_neg hz], by rw [if_neg hz]⟩
  obtain ⟨kd0, val0, n1, n2, n3⟩ := h241 0 (Or.inl rfl)
  obtain ⟨kd1, val1, y1, y2, y3⟩ := h241 1 (Or.inr rfl)
  have pick : ∀ (X : Option (Int32 × Int32 × Int64 × Int32)) (P : Prop), (P → X = f_X11_whole_241 n M_came M_size (nI len) M_laid M_tokens M_looked M_thrown M_wrong Ms M_at M_kind M_value g lg hi lo 1) → (¬ P → X = f_X11_whole_241 n M_came M_size (nI len) M_laid M_tokens M_looked M_thrown M_wrong Ms M_at M_kind M_value g lg hi lo 0) → (P ↔ wok b v lg) → (P → (if lg = 0 then lo.toInt32.toInt64 else (hi <<< ((32 : Int32).toInt64 &&& 63)) ||| lo) = wvl v lg) → ∃ (g' kd : Int32) (val : Int64), X = some (M_at, kd, val, g') ∧ (g' = 0 ∨ g' = 1) ∧ (g' = 1 ↔ wok b v lg) ∧ (g' = 1 → kd = (if lg = 0 then 61 else 62) ∧ val = wvl v lg) := by
    intro X P h1 h2 h3 h4
    by_cases hP : P
    · exact ⟨1, kd1, val1, by rw [h1 hP, y1], Or.inr rfl, ⟨fun _ => h3.mp hP, fun _ => rfl⟩, fun _ => ⟨y2, by rw [y3, h4 hP]⟩⟩
    · exact ⟨0, kd0, val0, by rw [h2 hP, n1], Or.inl rfl, ⟨fun h => absurd h (by decide), fun h => absurd (h3.mpr h) hP⟩, fun h => absurd h (by decide)⟩
  unfold f_X11_whole_173 f_X11_whole_240 f_X11_whole_236 f_X11_whole_269 f_X11_whole_265
  rw [yes, no]
  rcases hw with ⟨hg, H, W, h1, h2, h3, h4, h5⟩ | ⟨hg, hv⟩
  · have hg0 : ¬ g = 0 := by rw [hg]; decide
    have hH0 : (lg_cmp hi 0 = 0) = (H = 0) := by
      rw [h1, show (0 : Int64) = qL 0 from rfl, qL_cmp (by omega) (by decide)]
      by_cases h : H = 0
      · rw [if_neg (by omega), if_pos h]; simp [h]
      · rw [if_pos (by omega)]; simp [h]
    have hval : wok b v lg → (if lg = 0 then lo.toInt32.toInt64 else (hi <<< ((32 : Int32).toInt64 &&& 63)) ||| lo) = wvl v lg := by
      intro hk
      unfold wvl
      rcases hlg with h | h
      · rw [if_pos h, if_pos h, h2]
        have : v = W := by
          unfold wok at hk
          rw [if_pos h, if_pos h] at hk
          split at hk <;> omega
        rw [this]
      · have hz : ¬ lg = 0 := by rw [h]; decide
        rw [if_neg hz, if_neg hz, h1, h2, sh_32 h3 h4, h5]
    apply pick _ (wok b v lg) _ _ Iff.rfl hval
    · intro hk
      unfold wok at hk
      simp only [if_neg hg0]
      by_cases c1 : b = 10
      · simp only [if_pos (show nI b = 10 by rw [hb10]; exact c1)]
        rw [if_pos c1] at hk
        rcases hlg with h | h
        · simp only [if_pos h]
          rw [if_pos h] at hk
          rw [if_pos (by rw [hH0]; omega), if_neg (by decide), if_neg]
          rw [h2, show (2147483648 : Int64) = qL 2147483648 from rfl, qL_cmp (by omega) (by decide), if_neg (by omega)]
          split <;> decide
        · have hz : ¬ lg = 0 := by rw [h]; decide
          simp only [if_neg hz]
          rw [if_neg hz] at hk
          rw [ite_self]
          rw [h1, h2, show (2147483648 : Int64) = qL 2147483648 from rfl, qL_cmp (by omega) (by decide), show (0 : Int64) = qL 0 from rfl, qL_cmp (by omega) (by decide)]
          by_cases c2 : H < 2147483648
          · rw [if_pos]
            rw [if_neg (by omega), if_neg (by omega)]; decide
          · have e1 : H = 2147483648 := by omega
            have e2 : W = 0 := by omega
            rw [e1, e2]; rfl
      · simp only [if_neg (show ¬ nI b = 10 by rw [hb10]; exact c1)]
        rw [if_neg c1] at hk
        rcases hlg with h | h
        · simp only [if_pos h]
          rw [if_pos h] at hk
          rw [if_pos (by rw [hH0]; omega), if_neg (by decide)]
        · have hz : ¬ lg = 0 := by rw [h]; decide
          simp only [if_neg hz]
          rw [ite_self]
    · intro hk
      unfold wok at hk
      simp only [if_neg hg0]
      by_cases c1 : b = 10
      · simp only [if_pos (show nI b = 10 by rw [hb10]; exact c1)]
        rw [if_pos c1] at hk
        rcases hlg with h | h
        · simp only [if_pos h]
          rw [if_pos h] at hk
          by_cases c2 : H = 0
          · rw [if_pos (by rw [hH0]; exact c2), if_neg (by decide), if_pos]
            rw [h2, show (2147483648 : Int64) = qL 2147483648 from rfl, qL_cmp (by omega) (by decide), if_pos (by omega)]
            decide
          · rw [if_neg (by rw [hH0]; exact c2), if_pos trivial]
        · have hz : ¬ lg = 0 := by rw [h]; decide
          simp only [if_neg hz]
          rw [if_neg hz] at hk
          rw [ite_self]
          have k0 : lg_cmp hi 2147483648 = if 2147483648 < H then 1 else if H = 2147483648 then 0 else -1 := by rw [h1]; exact qL_cmp (b := 2147483648) (by omega) (by decide)
          have k3 : lg_cmp lo 0 = if 0 < W then 1 else if W = 0 then 0 else -1 := by rw [h2]; exact qL_cmp (b := 0) (by omega) (by decide)
          by_cases c2 : H = 2147483648
          · rw [if_neg (by omega), if_pos c2] at k0
            rw [if_pos (by omega)] at k3
            rw [if_neg (by rw [k0]; decide), if_pos k0, if_neg (by rw [k3]; decide)]
          · rw [if_pos (by omega)] at k0
            rw [if_neg (by rw [k0]; decide), if_neg (by rw [k0]; decide)]
      · simp only [if_neg (show ¬ nI b = 10 by rw [hb10]; exact c1)]
        rw [if_neg c1] at hk
        rcases hlg with h | h
        · simp only [if_pos h]
          rw [if_pos h] at hk
          rw [if_neg (by rw [hH0]; omega), if_pos trivial]
        · have hz : ¬ lg = 0 := by rw [h]; decide
          rw [if_neg hz] at hk
          exact absurd (by omega) hk
  · have hno : ¬ wok b v lg := by
      unfold wok
      intro h
      split at h <;> split at h <;> omega
    apply pick _ (wok b v lg) _ _ Iff.rfl (fun h => absurd h hno)
    · intro h; exact absurd h hno
    · intro _
      simp only [if_pos hg]
      rw [ite_self, ite_self]
theorem e_whole {n b c len fr f0 e : Nat} (hn : 100000 ≤ n) (hS : See fr c len Sc Ms) (hfr : fr ≤ f0) (hb1 : 2 ≤ b) (hb2 : b ≤ 16) (hfe : f0 ≤ e) (he : e ≤ c) (hd : ∀ j, f0 ≤ j → j < e → dv (lk c Sc j) < b ∨ lk c Sc j = 95) (hf0 : (b = 16 ∨ b = 2) ∧ f0 = fr + 2 ∨ ¬ (b = 16 ∨ b = 2) ∧ f0 = fr) :
    ∃ (g kd : Int32) (val : Int64), f_X11_whole n (nI fr) (nI e) (nI b) M_came M_size (nI len) (nI e) M_laid M_tokens M_looked M_thrown M_wrong M_kind M_value 1 Ms = some (nI (wbh (lk c Sc) e), kd, val, g) ∧ (g = 0 ∨ g = 1) ∧ (g = 1 ↔ wok b (sm (lk c Sc) b (e - f0) f0 0) (wlo (lk c Sc) e)) ∧ (g = 1 → kd = (if wlo (lk c Sc) e = 0 then 61 else 62) ∧ val = wvl (sm (lk c Sc) b (e - f0) f0 0) (wlo (lk c Sc) e)) := by
  have hc := hS.1
  have hl := hS.2.1
  have hcl := hS.2.2.1
  have hlo := wlo_c (lk c Sc) e
  have hwb := wbh_le (Sc := Sc) he
  unfold f_X11_whole f_X11_whole_0 f_X11_whole_20
  rw [e_see (by omega) (by omega), bd_s, bd_s]
  have core : ∃ (g kd : Int32) (val : Int64), f_X11_whole_42 n M_came M_size (nI len) M_laid M_tokens M_looked M_thrown M_wrong Ms (nI (wbh (lk c Sc) e)) M_kind M_value 1 (nI fr) (nI e) (nI b) (wlo (lk c Sc) e) = some (nI (wbh (lk c Sc) e), kd, val, g) ∧ (g = 0 ∨ g = 1) ∧ (g = 1 ↔ wok b (sm (lk c Sc) b (e - f0) f0 0) (wlo (lk c Sc) e)) ∧ (g = 1 → kd = (if wlo (lk c Sc) e = 0 then 61 else 62) ∧ val = wvl (sm (lk c Sc) b (e - f0) f0 0) (wlo (lk c Sc) e)) := by
    generalize wlo (lk c Sc) e = lo at *
    generalize wbh (lk c Sc) e = bh at *
    have h66 : ∃ (g kd : Int32) (val : Int64), f_X11_whole_66 n M_came M_size (nI len) M_laid M_tokens M_looked M_thrown M_wrong Ms (nI bh) M_kind M_value 1 (nI e) (nI b) lo 0 0 (nI f0) = some (nI bh, kd, val, g) ∧ (g = 0 ∨ g = 1) ∧ (g = 1 ↔ wok b (sm (lk c Sc) b (e - f0) f0 0) lo) ∧ (g = 1 → kd = (if lo = 0 then 61 else 62) ∧ val = wvl (sm (lk c Sc) b (e - f0) f0 0) lo) := by
      unfold f_X11_whole_66
      obtain ⟨g', hi', lo', l1, l2⟩ := e_wl_loop (M_came := M_came) (M_size := M_size) (M_at := nI bh) (M_laid := M_laid) (M_tokens := M_tokens) (M_looked := M_looked) (M_thrown := M_thrown) (M_wrong := M_wrong) (M_kind := M_kind) (M_value := M_value) (n := n) (x4 := lo) hS hb1 hb2 he (e - f0) n f0 0 1 0 0 (by omega) hfr (by omega) hd (Or.inl ⟨rfl, 0, 0, rfl, rfl, by decide, by decide, rfl⟩)
      rw [l1]
      exact e_whole_173 hb2 hlo l2
    unfold f_X11_whole_42 f_X11_whole_59
    rw [show nI fr + 2 = nI (fr + 2) from qI_add fr 2]
    have e16 : (nI b = 16) = (b = 16) := qI_eq_lit (by omega) (by decide)
    have e2 : (nI b = 2) = (b = 2) := qI_eq_lit (by omega) (by decide)
    rcases hf0 with ⟨h1, h2⟩ | ⟨h1, h2⟩
    · rw [← h2]
      rcases h1 with h | h
      · rw [if_pos (by rw [e16]; exact h)]; exact h66
      · rw [if_pos (show nI b = 2 by rw [e2]; exact h), ite_self]; exact h66
    · rw [if_neg (by rw [e16]; exact fun h => h1 (Or.inl h)), if_neg (by rw [e2]; exact fun h => h1 (Or.inr h)), ← h2]; exact h66
  have q1 : (lk len Ms e = 108) = (lk c Sc e = 108) := hS.eq (by omega) (by decide)
  have q2 : (lk len Ms e = 76) = (lk c Sc e = 76) := hS.eq (by omega) (by decide)
  unfold f_X11_whole_25
  rw [show nI e + 1 = nI (e + 1) from qI_add e 1]
  simp only [lt_e, q1, q2]
  rw [if_neg (show ¬ (1 : Int32) = 0 by decide), if_pos trivial]
  by_cases c1 : lk c Sc e = 108 ∨ lk c Sc e = 76
  · have a1 : wlo (lk c Sc) e = 1 := by unfold wlo; rw [if_pos c1]
    have a2 : wbh (lk c Sc) e = e + 1 := by unfold wbh; rw [if_pos c1]
    rw [a1, a2] at core
    rw [a1, a2]
    by_cases c2 : lk c Sc e = 108
    · rw [if_pos c2]; exact core
    · rw [if_neg c2, if_pos (by rcases c1 with h | h; exact absurd h c2; exact h)]; exact core
  · have a1 : wlo (lk c Sc) e = 0 := by unfold wlo; rw [if_neg c1]
    have a2 : wbh (lk c Sc) e = e := by unfold wbh; rw [if_neg c1]
    rw [a1, a2] at core
    rw [a1, a2]
    rw [if_neg (fun h => c1 (Or.inl h)), if_neg (fun h => c1 (Or.inr h))]
    exact core
end
