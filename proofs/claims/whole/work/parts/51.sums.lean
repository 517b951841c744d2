/-! PURE 51: what rows of digits come to; the own sums. -/
def sm (L : Nat → Int32) (b : Nat) : Nat → Nat → Nat → Nat
  | 0, _, v => v
  | m + 1, i, v => sm L b m (i + 1) (if L i = 46 ∨ L i = 95 then v else v * b + dv (L i))
/-- how many digits stand there -/
def cn (L : Nat → Int32) : Nat → Nat → Nat
  | 0, _ => 0
  | m + 1, i => (if L i = 46 ∨ L i = 95 then 0 else 1) + cn L m (i + 1)
/-- how many behind a dot -/
def pc (L : Nat → Int32) : Nat → Nat → Nat → Bool → Nat
  | 0, _, p, _ => p
  | m + 1, i, p, d => if L i = 46 then pc L m (i + 1) p true else if L i = 95 then pc L m (i + 1) p d else pc L m (i + 1) (p + if d then 1 else 0) d
theorem cn_le {L : Nat → Int32} : ∀ (m i : Nat), cn L m i ≤ m
  | 0, _ => Nat.le_refl _
  | m + 1, i => by
    have := cn_le (L := L) m (i + 1)
    unfold cn; split <;> omega
theorem sm_lt {L : Nat → Int32} {b : Nat} (hb : 1 ≤ b) : ∀ (m i v x : Nat), (∀ j, i ≤ j → j < i + m → dv (L j) < b ∨ L j = 95 ∨ L j = 46) → v < b ^ x → sm L b m i v < b ^ (x + cn L m i)
  | 0, i, v, x, _, hv => hv
  | m + 1, i, v, x, h, hv => by
    have ih := sm_lt (L := L) hb m (i + 1)
    unfold sm cn
    by_cases hc : L i = 46 ∨ L i = 95
    · rw [if_pos hc, if_pos hc, Nat.zero_add]
      exact ih v x (fun j a d => h j (by omega) (by omega)) hv
    · rw [if_neg hc, if_neg hc, ← Nat.add_assoc]
      apply ih _ (x + 1) (fun j a d => h j (by omega) (by omega))
      have hd : dv (L i) < b := by
        rcases h i (Nat.le_refl _) (by omega) with h | h | h
        · exact h
        · exact absurd (Or.inr h) hc
        · exact absurd (Or.inl h) hc
      have : (v + 1) * b ≤ b ^ x * b := Nat.mul_le_mul_right _ hv
      rw [Nat.pow_succ]
      rw [Nat.add_mul, Nat.one_mul] at this
      omega
theorem sm_add {L : Nat → Int32} {b : Nat} : ∀ (m k i v : Nat), sm L b (m + k) i v = sm L b k (i + m) (sm L b m i v)
  | 0, k, i, v => by simp [sm]
  | m + 1, k, i, v => by
    rw [show m + 1 + k = (m + k) + 1 from by omega]
    show sm L b (m + k) (i + 1) _ = sm L b k (i + (m + 1)) (sm L b m (i + 1) _)
    rw [sm_add m k (i + 1), show i + (m + 1) = i + 1 + m from by omega]
theorem cn_add {L : Nat → Int32} : ∀ (m k i : Nat), cn L (m + k) i = cn L m i + cn L k (i + m)
  | 0, k, i => by simp [cn]
  | m + 1, k, i => by
    rw [show m + 1 + k = (m + k) + 1 from by omega]
    show (if L i = 46 ∨ L i = 95 then 0 else 1) + cn L (m + k) (i + 1) = (if L i = 46 ∨ L i = 95 then 0 else 1) + cn L m (i + 1) + cn L k (i + (m + 1))
    rw [cn_add m k (i + 1), show i + (m + 1) = i + 1 + m from by omega]
    omega
theorem pc_add {L : Nat → Int32} : ∀ (m k i p : Nat) (d : Bool), (∀ j, i ≤ j → j < i + m → L j ≠ 46) → pc L (m + k) i p d = pc L k (i + m) (p + if d then cn L m i else 0) d
  | 0, k, i, p, d, _ => by cases d <;> simp [cn]
  | m + 1, k, i, p, d, h => by
    rw [show m + 1 + k = (m + k) + 1 from by omega]
    have hi := h i (Nat.le_refl _) (by omega)
    have ih := fun p => pc_add (L := L) m k (i + 1) p d (fun j a b => h j (by omega) (by omega))
    rw [pc.eq_def, cn]
    simp only []
    rw [if_neg hi]
    by_cases h2 : L i = 95
    · rw [if_pos h2, ih, if_pos (Or.inr h2), show i + (m + 1) = i + 1 + m from by omega, Nat.zero_add]
    · have hno : ¬ (L i = 46 ∨ L i = 95) := by
        intro h; rcases h with h | h
        · exact hi h
        · exact h2 h
      rw [if_neg h2, ih, if_neg hno, show i + (m + 1) = i + 1 + m from by omega]
      cases d
      · simp
      · simp only [if_true]; congr 1; omega
theorem pc_dot {L : Nat → Int32} {m k i : Nat} (h1 : ∀ j, i ≤ j → j < i + m → L j ≠ 46) (h2 : L (i + m) = 46) (h3 : ∀ j, i + m < j → j < i + m + 1 + k → L j ≠ 46) : pc L (m + (k + 1)) i 0 false = cn L k (i + m + 1) := by
  rw [pc_add m (k + 1) i 0 false h1]
  rw [pc.eq_def]
  simp only []
  rw [if_pos h2]
  have := pc_add (L := L) k 0 (i + m + 1) 0 true (fun j a b => h3 j (by omega) (by omega))
  rw [Nat.add_zero] at this
  simp only [if_true, Nat.zero_add] at this
  simp only [Bool.false_eq_true, if_false, Nat.add_zero]
  rw [this]; rfl
theorem pc_none {L : Nat → Int32} {m i : Nat} (h1 : ∀ j, i ≤ j → j < i + m → L j ≠ 46) : pc L m i 0 false = 0 := by
  have := pc_add (L := L) m 0 i 0 false h1
  rw [Nat.add_zero] at this
  rw [this]; rfl
theorem pc_le {L : Nat → Int32} : ∀ (m i p : Nat) (d : Bool), pc L m i p d ≤ p + m
  | 0, _, p, _ => Nat.le_refl _
  | m + 1, i, p, d => by
    rw [pc.eq_def]; simp only []
    have h1 := pc_le (L := L) m (i + 1)
    split
    · exact Nat.le_trans (h1 p true) (by omega)
    · split
      · exact Nat.le_trans (h1 p d) (by omega)
      · have := h1 (p + if d then 1 else 0) d
        cases d <;> simp at this ⊢ <;> omega
section
variable {N_first N_significandEnd N_exponentEnd S_cutShort : Int32} {Sc : Nat → Int32}
theorem e_sum_loop {n b c r : Nat} (hn : 100000 ≤ n) (hc : c ≤ 81920) (hb : b ≤ 16) (hb1 : 2 ≤ b) (hr : r ≤ c) : ∀ (m k i v x p : Nat) (d : Bool) (u : Int32) (Bl : Nat → Int32), i + m = r → m < k → x + m ≤ 1000 → p ≤ 2000 - m → v < b ^ x → Bg u Bl v → (∀ j, i ≤ j → j < i + m → dv (lk c Sc j) < b ∨ lk c Sc j = 95 ∨ lk c Sc j = 46) →
    ∃ u' Bl', f_X2_sumUp_16 n (nI b) N_first N_significandEnd N_exponentEnd (nI c) S_cutShort Sc k u Bl (nI r) (nI p) (if d then 1 else 0) (nI i) = some (nI (pc (lk c Sc) m i p d), u', Bl') ∧ Bg u' Bl' (sm (lk c Sc) b m i v) := by
  intro m
  induction m with
  | zero =>
    intro k i v x p d u Bl hm hk hx hp hv h hd
    obtain ⟨k, rfl⟩ : ∃ k', k = k' + 1 := ⟨k - 1, by omega⟩
    unfold f_X2_sumUp_16 fb_X2_sumUp_16
    simp (disch := omega) only [gu_t, bd_s, lt_e, qI_add, qI_add_lit, qI_lit_add, qI_lt, qI_le, qI_eq, qI_lt_lit, qI_lit_lt, qI_le_lit, qI_lit_le, qI_eq_lit, qI_lit_eq, qI_ne_neg1, gd_nI, gd_lit, qI_lit_toNat, qI_toNat]
    rw [if_pos (by omega)]
    exact ⟨u, Bl, rfl, h⟩
  | succ m ih =>
    intro k i v x p d u Bl hm hk hx hp hv h hd
    obtain ⟨k, rfl⟩ : ∃ k', k = k' + 1 := ⟨k - 1, by omega⟩
    unfold f_X2_sumUp_16 fb_X2_sumUp_16 f_X2_sumUp_80 f_X2_sumUp_82 sm
    rw [e_look hc (by omega), pc.eq_def]
    simp (disch := omega) only [gu_t, bd_s, lt_e, qI_add, qI_add_lit, qI_lit_add, qI_lt, qI_le, qI_eq, qI_lt_lit, qI_lit_lt, qI_le_lit, qI_lit_le, qI_eq_lit, qI_lit_eq, qI_ne_neg1, gd_nI, gd_lit, qI_lit_toNat, qI_toNat]
    rw [if_neg (by omega)]
    have hd2 : ∀ j, i + 1 ≤ j → j < i + 1 + m → dv (lk c Sc j) < b ∨ lk c Sc j = 95 ∨ lk c Sc j = 46 := fun j a d => hd j (by omega) (by omega)
    by_cases c1 : lk c Sc i = 46
    · rw [if_pos c1, if_pos (Or.inl c1), if_pos c1]
      exact ih k (i + 1) v x p true u Bl (by omega) (by omega) (by omega) (by omega) hv h hd2
    · rw [if_neg c1, if_neg c1]
      by_cases c2 : lk c Sc i = 95
      · rw [if_pos c2, if_pos (Or.inr c2), if_pos c2]
        exact ih k (i + 1) v x p d u Bl (by omega) (by omega) (by omega) (by omega) hv h hd2
      · have hno : ¬ (lk c Sc i = 46 ∨ lk c Sc i = 95) := by
          intro h; rcases h with h | h
          · exact c1 h
          · exact c2 h
        rw [if_neg c2, if_neg c2, if_neg hno]
        have hdv : dv (lk c Sc i) < b := by
          rcases hd i (Nat.le_refl _) (by omega) with h | h | h
          · exact h
          · exact absurd h c2
          · exact absurd h c1
        have hv2 : v * b + dv (lk c Sc i) < b ^ (x + 1) := by
          have : (v + 1) * b ≤ b ^ x * b := Nat.mul_le_mul_right _ hv
          rw [Nat.pow_succ]
          rw [Nat.add_mul, Nat.one_mul] at this
          omega
        have hfit : v * b + dv (lk c Sc i) < 2 ^ 4352 := by
          have p1 : b ^ (x + 1) ≤ 16 ^ (x + 1) := Nat.pow_le_pow_left hb _
          have p2 : 16 ^ (x + 1) ≤ 2 ^ 4352 := by
            rw [show (16 : Nat) = 2 ^ 4 from rfl, ← Nat.pow_mul]; exact Nat.pow_le_pow_right (by omega) (by omega)
          omega
        rw [e_digitOf]
        simp only [bd_s]
        obtain ⟨u1, B1, t1, t2⟩ := e_timesPlus (n := n) (f := b) (s := dv (lk c Sc i)) (by omega) h (by omega) (by omega) (by omega) hfit
        rw [t1]
        simp only [bd_s]
        cases d
        · simp only [Bool.false_eq_true, if_false, if_true, Nat.add_zero]
          exact ih k (i + 1) _ (x + 1) p false u1 B1 (by omega) (by omega) (by omega) (by omega) hv2 t2 hd2
        · simp only [if_true, show ¬ (1 : Int32) = 0 from by decide, if_false]
          exact ih k (i + 1) _ (x + 1) (p + 1) true u1 B1 (by omega) (by omega) (by omega) (by omega) hv2 t2 hd2
theorem e_sumUp {n b c i r : Nat} {u : Int32} {Bl : Nat → Int32} (hn : 100000 ≤ n) (hc : c ≤ 81920) (hb : b ≤ 16) (hb1 : 2 ≤ b) (hr : r ≤ c) (hir : i ≤ r) (hl : r - i ≤ 1000) (hd : ∀ j, i ≤ j → j < r → dv (lk c Sc j) < b ∨ lk c Sc j = 95 ∨ lk c Sc j = 46) :
    ∃ u' Bl', f_X2_sumUp n (nI i) (nI r) (nI b) N_first N_significandEnd N_exponentEnd (nI c) S_cutShort Sc u Bl = some (nI (pc (lk c Sc) (r - i) i 0 false), u', Bl') ∧ Bg u' Bl' (sm (lk c Sc) b (r - i) i 0) := by
  obtain ⟨u1, B1, t1, t2⟩ := e_set0 (n := n) (u := u) (Bl := Bl)
  unfold f_X2_sumUp f_X2_sumUp_0
  rw [t1]
  simp only [bd_s]
  exact e_sum_loop hn hc hb hb1 hr (r - i) n i 0 0 0 false u1 B1 (by omega) (by omega) (by omega) (by omega) (by simp) t2 (fun j a d => hd j a (by omega))
end
