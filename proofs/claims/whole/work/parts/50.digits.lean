/-! PURE 50: rows of digits in the text. -/
def dg (L : Nat → Int32) (b fr : Nat) : Nat → Nat → Nat → Nat
  | 0, _, e => e
  | m + 1, i, e => if dv (L i) < b then dg L b fr m (i + 1) (i + 1) else if L i = 95 ∧ i ≠ fr then dg L b fr m (i + 1) e else e
def DG (L : Nat → Int32) (b c fr : Nat) : Nat := dg L b fr (c - fr) fr fr
/-- digits from i to r, with _ between them -/
def Seg (L : Nat → Int32) (b i r : Nat) : Prop := i < r ∧ (∀ j, i ≤ j → j < r → dv (L j) < b ∨ L j = 95) ∧ dv (L i) < b ∧ dv (L (r - 1)) < b
theorem dg_spec {L : Nat → Int32} {b fr : Nat} : ∀ (m i e : Nat), fr < e → e ≤ i → dv (L fr) < b → dv (L (e - 1)) < b → (∀ j, fr ≤ j → j < i → dv (L j) < b ∨ L j = 95) →
    e ≤ dg L b fr m i e ∧ dg L b fr m i e ≤ max e (i + m) ∧ Seg L b fr (dg L b fr m i e)
  | 0, i, e, h0, h1, h2, h3, h4 => ⟨Nat.le_refl _, by show e ≤ max e (i + 0); omega, h0, fun j a b => h4 j a (by show j < i; have : j < e := b; omega), h2, h3⟩
  | m + 1, i, e, h0, h1, h2, h3, h4 => by
    unfold dg
    by_cases c1 : dv (L i) < b
    · rw [if_pos c1]
      have := dg_spec m (i + 1) (i + 1) (by omega) (by omega) h2 (by rw [Nat.add_sub_cancel]; exact c1) (by
        intro j a d
        by_cases hj : j = i
        · subst hj; exact Or.inl c1
        · exact h4 j a (by omega))
      refine ⟨by omega, by omega, this.2.2⟩
    · rw [if_neg c1]
      by_cases c2 : L i = 95 ∧ i ≠ fr
      · rw [if_pos c2]
        have := dg_spec m (i + 1) e h0 (by omega) h2 h3 (by
          intro j a d
          by_cases hj : j = i
          · subst hj; exact Or.inr c2.1
          · exact h4 j a (by omega))
        refine ⟨by omega, by omega, this.2.2⟩
      · rw [if_neg c2]
        exact ⟨Nat.le_refl _, by omega, h0, fun j a d => h4 j a (by omega), h2, h3⟩
theorem DG_spec {L : Nat → Int32} {b c fr : Nat} : (fr < c ∧ dv (L fr) < b ∧ fr < DG L b c fr ∧ DG L b c fr ≤ c ∧ Seg L b fr (DG L b c fr)) ∨ ((c ≤ fr ∨ ¬ dv (L fr) < b) ∧ DG L b c fr = fr) := by
  unfold DG
  by_cases h : fr < c
  · obtain ⟨m, hm⟩ : ∃ m, c - fr = m + 1 := ⟨c - fr - 1, by omega⟩
    rw [hm]
    unfold dg
    by_cases h2 : dv (L fr) < b
    · left
      rw [if_pos h2]
      have := dg_spec (L := L) (b := b) (fr := fr) m (fr + 1) (fr + 1) (by omega) (by omega) h2 (by rw [Nat.add_sub_cancel]; exact h2) (by
        intro j a d
        have : j = fr := by omega
        subst this; exact Or.inl h2)
      exact ⟨h, h2, by omega, by omega, this.2.2⟩
    · right
      rw [if_neg h2, if_neg (by intro hh; exact hh.2 rfl)]
      exact ⟨Or.inr h2, rfl⟩
  · right
    rw [show c - fr = 0 from by omega]
    exact ⟨Or.inl (by omega), rfl⟩
theorem DG_ge {L : Nat → Int32} {b c fr : Nat} : fr ≤ DG L b c fr := by
  rcases DG_spec (L := L) (b := b) (c := c) (fr := fr) with h | h <;> omega
theorem DG_le {L : Nat → Int32} {b c fr : Nat} (h : fr ≤ c) : DG L b c fr ≤ c := by
  rcases DG_spec (L := L) (b := b) (c := c) (fr := fr) with h | h <;> omega
section
variable {N_base N_first N_significandEnd N_exponentEnd S_cutShort : Int32} {Sc : Nat → Int32}
theorem e_bdig_loop {n b c fr : Nat} (hc : c ≤ 81920) (hb : b ≤ 16) (hfr : fr ≤ c) : ∀ (m k i e : Nat), i + m = c → m < k → fr ≤ i → e ≤ c →
    f_X2_behindDigits_5 n N_base N_first N_significandEnd N_exponentEnd (nI c) S_cutShort Sc k (nI fr) (nI b) (nI e) (nI i) = some (nI (dg (lk c Sc) b fr m i e)) := by
  intro m
  induction m with
  | zero =>
    intro k i e hm hk h1 h2
    obtain ⟨k, rfl⟩ : ∃ k', k = k' + 1 := ⟨k - 1, by omega⟩
    unfold f_X2_behindDigits_5 fb_X2_behindDigits_5
    rw [e_count]
    simp (disch := omega) only [gu_t, bd_s, lt_e, qI_add, qI_add_lit, qI_lit_add, qI_lt, qI_le, qI_eq, qI_lt_lit, qI_lit_lt, qI_le_lit, qI_lit_le, qI_eq_lit, qI_lit_eq, qI_ne_neg1, gd_nI, gd_lit, qI_lit_toNat, qI_toNat]
    rw [if_pos (by omega)]; rfl
  | succ m ih =>
    intro k i e hm hk h1 h2
    obtain ⟨k, rfl⟩ : ∃ k', k = k' + 1 := ⟨k - 1, by omega⟩
    unfold f_X2_behindDigits_5 fb_X2_behindDigits_5 f_X2_behindDigits_63 dg
    have hd := dv_le (lk c Sc i)
    rw [e_count, e_look hc (by omega)]
    simp only [bd_s]
    rw [e_digitOf]
    simp (disch := omega) only [gu_t, bd_s, lt_e, qI_add, qI_add_lit, qI_lit_add, qI_lt, qI_le, qI_eq, qI_lt_lit, qI_lit_lt, qI_le_lit, qI_lit_le, qI_eq_lit, qI_lit_eq, qI_ne_neg1, gd_nI, gd_lit, qI_lit_toNat, qI_toNat]
    rw [if_neg (by omega)]
    by_cases c1 : dv (lk c Sc i) < b
    · rw [if_neg (by omega), if_pos c1]
      exact ih k (i + 1) (i + 1) (by omega) (by omega) (by omega) (by omega)
    · rw [if_pos (by omega), if_neg c1]
      by_cases c2 : lk c Sc i = 95
      · rw [if_pos c2]
        by_cases c3 : i = fr
        · rw [if_pos c3, if_neg (by intro h; exact h.2 c3)]
        · rw [if_neg c3, if_pos ⟨c2, c3⟩]
          exact ih k (i + 1) e (by omega) (by omega) (by omega) h2
      · rw [if_neg c2, if_neg (by intro h; exact c2 h.1)]
theorem e_behindDigits {n b c fr : Nat} (hn : 100000 ≤ n) (hc : c ≤ 81920) (hb : b ≤ 16) (hfr : fr ≤ c) : f_X2_behindDigits n (nI fr) (nI b) N_base N_first N_significandEnd N_exponentEnd (nI c) S_cutShort Sc = some (nI (DG (lk c Sc) b c fr)) :=
  e_bdig_loop hc hb hfr (c - fr) n fr fr (by omega) (by omega) (Nat.le_refl _) hfr
end
/-- what both sides see from place p on -/
def See (p c len : Nat) (Sc Ms : Nat → Int32) : Prop := c ≤ 81920 ∧ len ≤ 81921 ∧ c ≤ len ∧ (∀ i, p ≤ i → nz (lk len Ms i) = lk c Sc i) ∧ ∀ i, p ≤ i → i < c → Ms i = Sc i
theorem See.up {p q c len : Nat} {Sc Ms : Nat → Int32} (h : See p c len Sc Ms) (hq : p ≤ q) : See q c len Sc Ms := ⟨h.1, h.2.1, h.2.2.1, fun i hi => h.2.2.2.1 i (by omega), fun i hi hc => h.2.2.2.2 i (by omega) hc⟩
theorem See.eq {p c len i : Nat} {Sc Ms : Nat → Int32} {a : Int32} (h : See p c len Sc Ms) (hi : p ≤ i) (ha : 0 ≤ a) : (lk len Ms i = a) = (lk c Sc i = a) := by
  rw [nz_eq ha, h.2.2.2.1 i hi]
theorem See.dv {p c len i : Nat} {Sc Ms : Nat → Int32} (h : See p c len Sc Ms) (hi : p ≤ i) : dv (lk len Ms i) = dv (lk c Sc i) := by
  rw [← dv_nz, h.2.2.2.1 i hi]
theorem lk_out {c i : Nat} {S : Nat → Int32} (h : c ≤ i) : lk c S i = -1 := by unfold lk; rw [if_neg (by omega)]
theorem lk_in {c i : Nat} {S : Nat → Int32} (h : i < c) : lk c S i = S i := by unfold lk; rw [if_pos h]
theorem lk_lt {c i : Nat} {S : Nat → Int32} (h : 0 ≤ lk c S i) : i < c := by
  by_cases hx : i < c
  · exact hx
  · rw [lk_out (by omega)] at h; exact absurd h (by decide)
theorem dv_out {c i : Nat} {S : Nat → Int32} (h : c ≤ i) : dv (lk c S i) = 16 := by rw [lk_out h]; rfl
section
variable {M_came M_size M_at M_laid M_tokens M_looked M_thrown M_wrong M_kind M_good : Int32} {M_value : Int64} {Sc Ms : Nat → Int32}
theorem e_rdig_loop {n b c len fr : Nat} (hS : See fr c len Sc Ms) (hb : b ≤ 16) (hfr : fr ≤ c) : ∀ (m k i e : Nat), i + m = c → m < k → fr ≤ i → e ≤ c →
    f_X11_digits_5 n M_came M_size (nI len) M_at M_laid M_tokens M_looked M_thrown M_wrong M_kind M_value M_good Ms k (nI fr) (nI b) (nI e) (nI i) = some (nI (dg (lk c Sc) b fr m i e)) := by
  have hc := hS.1
  have hl := hS.2.1
  intro m
  induction m with
  | zero =>
    intro k i e hm hk h1 h2
    obtain ⟨k, rfl⟩ : ∃ k', k = k' + 1 := ⟨k - 1, by omega⟩
    unfold f_X11_digits_5 fb_X11_digits_5
    rw [e_see (by omega) (by omega)]
    simp only [bd_s]
    rw [e_digit _ hb, hS.dv h1, dv_out (by omega)]
    simp only [bd_s]
    rw [if_neg (show ¬ (16 < b) by omega), if_neg (by decide)]
    simp only [hS.eq h1 (show (0 : Int32) ≤ 95 by decide), lk_out (c := c) (i := i) (S := Sc) (by omega)]
    rw [if_neg (by decide)]; rfl
  | succ m ih =>
    intro k i e hm hk h1 h2
    obtain ⟨k, rfl⟩ : ∃ k', k = k' + 1 := ⟨k - 1, by omega⟩
    unfold f_X11_digits_5 fb_X11_digits_5 f_X11_digits_35 f_X11_digits_51 dg
    have hd := dv_le (lk c Sc i)
    rw [e_see (by omega) (by omega)]
    simp only [bd_s]
    rw [e_digit _ hb, hS.dv h1]
    simp only [bd_s, hS.eq h1 (show (0 : Int32) ≤ 95 by decide)]
    by_cases c1 : dv (lk c Sc i) < b
    · rw [if_pos c1, if_pos c1, if_pos (by rw [qI_lit_le (by omega) (by decide)]; exact Nat.zero_le _)]
      have c2 : ¬ lk c Sc i = 95 := by
        intro h; rw [h] at c1
        have : dv 95 = 16 := by decide
        omega
      rw [if_neg c2]
      simp (disch := omega) only [gu_t, bd_s, lt_e, qI_add, qI_add_lit, qI_lit_add, qI_lt, qI_le, qI_eq, qI_lt_lit, qI_lit_lt, qI_le_lit, qI_lit_le, qI_eq_lit, qI_lit_eq, qI_ne_neg1, gd_nI, gd_lit, qI_lit_toNat, qI_toNat]
      exact ih k (i + 1) (i + 1) (by omega) (by omega) (by omega) (by omega)
    · rw [if_neg c1, if_neg c1, if_neg (by decide)]
      simp (disch := omega) only [gu_t, bd_s, lt_e, qI_add, qI_add_lit, qI_lit_add, qI_lt, qI_le, qI_eq, qI_lt_lit, qI_lit_lt, qI_le_lit, qI_lit_le, qI_eq_lit, qI_lit_eq, qI_ne_neg1, gd_nI, gd_lit, qI_lit_toNat, qI_toNat]
      by_cases c2 : lk c Sc i = 95
      · rw [if_pos c2]
        by_cases c3 : i = fr
        · rw [if_pos (by omega), if_neg (by intro h; exact h.2 c3)]
        · rw [if_neg (by omega), if_pos c2, if_pos ⟨c2, c3⟩]
          exact ih k (i + 1) e (by omega) (by omega) (by omega) h2
      · rw [if_neg c2, if_neg (by intro h; exact c2 h.1)]
theorem e_digits {n b c len fr : Nat} (hn : 100000 ≤ n) (hS : See fr c len Sc Ms) (hb : b ≤ 16) (hfr : fr ≤ c) : f_X11_digits n (nI fr) (nI b) M_came M_size (nI len) M_at M_laid M_tokens M_looked M_thrown M_wrong M_kind M_value M_good Ms = some (nI (DG (lk c Sc) b c fr)) := by
  have hc := hS.1
  exact e_rdig_loop hS hb hfr (c - fr) n fr fr (by omega) (by omega) (Nat.le_refl _) hfr
end
