/-! PURE 53: exponents, as both sides read them. -/
def ev (L : Nat → Int32) : Nat → Nat → Nat → Nat
  | 0, _, T => T
  | m + 1, i, T => ev L m (i + 1) (if dv (L i) < 10 then T * 10 + dv (L i) else T)
def I6 (x T : Nat) : Prop := (x = T ∧ T < 10000000) ∨ (1000000 ≤ x ∧ x < 10000000 ∧ 1000000 ≤ T)
def I8 (v T : Nat) : Prop := v ≤ 100000009 ∧ (v = T ∨ (1000000 ≤ v ∧ 1000000 ≤ T))
section
variable {N_base N_first N_significandEnd S_cutShort : Int32} {Sc : Nat → Int32}
theorem e_rex_loop {n c r s : Nat} (hc : c ≤ 81920) (hr : r ≤ c) (hs : s ≤ c) : ∀ (m k i x T : Nat), i + m = r → m < k → I6 x T →
    ∃ x', f_X2_readExponent_9 n N_base N_first (nI s) (nI r) (nI c) S_cutShort Sc k (nI x) (nI i) = some (if lk c Sc (s + 1) = 45 then -nI x' else nI x') ∧ I6 x' (ev (lk c Sc) m i T) := by
  intro m
  induction m with
  | zero =>
    intro k i x T hm hk h
    obtain ⟨k, rfl⟩ : ∃ k', k = k' + 1 := ⟨k - 1, by omega⟩
    refine ⟨x, ?_, h⟩
    unfold f_X2_readExponent_9 fb_X2_readExponent_9
    simp (disch := omega) only [gu_t, bd_s, lt_e, qI_add, qI_add_lit, qI_lit_add, qI_lt, qI_le, qI_eq, qI_lt_lit, qI_lit_lt, qI_le_lit, qI_lit_le, qI_eq_lit, qI_lit_eq, qI_ne_neg1, gd_nI, gd_lit, qI_lit_toNat, qI_toNat]
    rw [if_pos (by omega), e_look hc (by omega)]
    simp only [bd_s]
    split <;> rfl
  | succ m ih =>
    intro k i x T hm hk h
    obtain ⟨k, rfl⟩ : ∃ k', k = k' + 1 := ⟨k - 1, by omega⟩
    have hx : x < 10000000 := by rcases h with h | h <;> omega
    unfold f_X2_readExponent_9 fb_X2_readExponent_9 f_X2_readExponent_54 ev
    simp (disch := omega) only [gu_t, bd_s, lt_e, qI_add, qI_add_lit, qI_lit_add, qI_lt, qI_le, qI_eq, qI_lt_lit, qI_lit_lt, qI_le_lit, qI_lit_le, qI_eq_lit, qI_lit_eq, qI_ne_neg1, gd_nI, gd_lit, qI_lit_toNat, qI_toNat]
    rw [if_neg (by omega), e_look hc (by omega)]
    simp only [bd_s]
    rw [e_isDecimal]
    simp only [bd_s]
    by_cases c1 : dv (lk c Sc i) < 10
    · rw [if_pos c1, if_neg (by decide), if_pos c1, e_digitOf]
      simp (disch := omega) only [gu_t, bd_s, lt_e, qI_add, qI_add_lit, qI_lit_add, qI_lt, qI_le, qI_eq, qI_lt_lit, qI_lit_lt, qI_le_lit, qI_lit_le, qI_eq_lit, qI_lit_eq, qI_ne_neg1, gd_nI, gd_lit, qI_lit_toNat, qI_toNat]
      by_cases c2 : 1000000 ≤ x
      · rw [if_pos c2]
        exact ih k (i + 1) x _ (by omega) (by omega) (by
          right
          refine ⟨c2, hx, ?_⟩
          rcases h with h | h <;> omega)
      · rw [if_neg c2, show nI x * 10 = nI (x * 10) from qI_mul x 10, qI_add]
        exact ih k (i + 1) (x * 10 + dv (lk c Sc i)) _ (by omega) (by omega) (by
          left
          rcases h with h | h
          · obtain ⟨rfl, h⟩ := h
            exact ⟨rfl, by omega⟩
          · omega)
    · rw [if_neg c1, if_pos rfl, if_neg c1]
      exact ih k (i + 1) x T (by omega) (by omega) h
theorem e_readExponent {n c r s : Nat} (hn : 100000 ≤ n) (hc : c ≤ 81920) (hr : r ≤ c) (hs : s ≤ c) :
    ∃ x, f_X2_readExponent n N_base N_first (nI s) (nI r) (nI c) S_cutShort Sc = some (if lk c Sc (s + 1) = 45 then -nI x else nI x) ∧ I6 x (ev (lk c Sc) (r - (s + 1)) (s + 1) 0) := by
  unfold f_X2_readExponent f_X2_readExponent_0
  simp (disch := omega) only [gu_t, bd_s, lt_e, qI_add, qI_add_lit, qI_lit_add, qI_lt, qI_le, qI_eq, qI_lt_lit, qI_lit_lt, qI_le_lit, qI_lit_le, qI_eq_lit, qI_lit_eq, qI_ne_neg1, gd_nI, gd_lit, qI_lit_toNat, qI_toNat]
  by_cases h : s + 1 ≤ r
  · exact e_rex_loop hc hr hs (r - (s + 1)) n (s + 1) 0 0 (by omega) (by omega) (Or.inl ⟨rfl, by omega⟩)
  · refine ⟨0, ?_, ?_⟩
    · obtain ⟨n', hn'⟩ : ∃ n', n = n' + 1 := ⟨n - 1, by omega⟩
      rw [show f_X2_readExponent_9 n N_base N_first (nI s) (nI r) (nI c) S_cutShort Sc n 0 (nI (s + 1)) = f_X2_readExponent_9 n N_base N_first (nI s) (nI r) (nI c) S_cutShort Sc (n' + 1) 0 (nI (s + 1)) from by rw [← hn']]
      unfold f_X2_readExponent_9 fb_X2_readExponent_9
      simp (disch := omega) only [gu_t, bd_s, lt_e, qI_add, qI_add_lit, qI_lit_add, qI_lt, qI_le, qI_eq, qI_lt_lit, qI_lit_lt, qI_le_lit, qI_lit_le, qI_eq_lit, qI_lit_eq, qI_ne_neg1, gd_nI, gd_lit, qI_lit_toNat, qI_toNat]
      rw [if_pos (by omega), e_look hc (by omega)]
      simp only [bd_s]
      split <;> rfl
    · rw [show r - (s + 1) = 0 from by omega]
      exact Or.inl ⟨rfl, by show 0 < 10000000; omega⟩
end
section
variable {V_laid V_gone V_thrown V_were V_none V_beyond V_aMany V_bMany V_fiveMany V_leftMany V_rightMany V_partMany V_twos V_digits V_power V_good : Int32} {Vt : Nat → Int32}
theorem e_er_loop {n len : Nat} {mn : Int32} (hl : len ≤ 1200) : ∀ (m k i v T cnt : Nat) (last : Int32), i + m = len → m < k → I8 v T → cnt ≤ i → (∀ j, i ≤ j → j < len → dv (l0 len Vt j) < 10 ∨ l0 len Vt j = 95) → (cnt = 0 → 0 < m ∧ dv (l0 len Vt i) < 10) → (0 < m → dv (l0 len Vt (len - 1)) < 10) → (m = 0 → last = 1) →
    ∃ v', f_X10_exponentRow_55 n (nI len) V_laid V_gone V_thrown V_were V_none V_beyond V_aMany V_bMany V_fiveMany V_leftMany V_rightMany V_partMany V_twos V_digits Vt k (nI i) V_power V_good mn (nI cnt) (nI v) last = some (nI len, V_power + (if mn = 0 then nI v' else -nI v'), V_good) ∧ I8 v' (ev (l0 len Vt) m i T) := by
  intro m
  induction m with
  | zero =>
    intro k i v T cnt last hm hk h hci hseg hf hlast hl1
    obtain ⟨k, rfl⟩ : ∃ k', k = k' + 1 := ⟨k - 1, by omega⟩
    have hir : i = len := by omega
    subst hir
    have hcnt : cnt ≠ 0 := by intro h0; have := hf h0; omega
    have hlook : l0 i Vt i = 0 := by unfold l0; rw [if_neg (by omega)]
    refine ⟨v, ?_, h⟩
    unfold f_X10_exponentRow_55 fb_X10_exponentRow_55 f_X10_exponentRow_141 f_X10_exponentRow_155 f_X10_exponentRow_170
    rw [e_vlook hl (by omega)]
    simp only [bd_s]
    rw [e_vdigit, hlook]
    simp only [bd_s]
    rw [if_neg (show ¬ dv 0 < hb 0 by decide), if_neg (by decide)]
    simp (disch := omega) only [gu_t, bd_s, lt_e, qI_add, qI_add_lit, qI_lit_add, qI_lt, qI_le, qI_eq, qI_lt_lit, qI_lit_lt, qI_le_lit, qI_lit_le, qI_eq_lit, qI_lit_eq, qI_ne_neg1, gd_nI, gd_lit, qI_lit_toNat, qI_toNat]
    rw [if_neg (by omega), if_neg (by decide), if_neg hcnt, hl1 rfl, if_neg (by decide)]
    split <;> rfl
  | succ m ih =>
    intro k i v T cnt last hm hk h hci hseg hf hlast hl1
    obtain ⟨k, rfl⟩ : ∃ k', k = k' + 1 := ⟨k - 1, by omega⟩
    obtain ⟨hv, hvT⟩ := h
    unfold f_X10_exponentRow_55 fb_X10_exponentRow_55 f_X10_exponentRow_79 f_X10_exponentRow_93 f_X10_exponentRow_124 f_X10_exponentRow_128 ev
    simp only [e_vlook hl (show i < 2147483648 by omega), bd_s, e_vdigit, show hb 0 = 10 from rfl]
    have hseg2 : ∀ j, i + 1 ≤ j → j < len → dv (l0 len Vt j) < 10 ∨ l0 len Vt j = 95 := fun j a b => hseg j (by omega) b
    by_cases c1 : dv (l0 len Vt i) < 10
    · have h95 : ¬ l0 len Vt i = 95 := by
        intro h; rw [h] at c1
        have : dv 95 = 16 := by decide
        omega
      rw [if_pos c1, if_pos c1, if_pos (by rw [qI_lit_le (by omega) (by decide)]; exact Nat.zero_le _), if_neg h95, if_neg (by decide)]
      simp (disch := omega) only [gu_t, bd_s, lt_e, qI_add, qI_add_lit, qI_lit_add, qI_lt, qI_le, qI_eq, qI_lt_lit, qI_lit_lt, qI_le_lit, qI_lit_le, qI_eq_lit, qI_lit_eq, qI_ne_neg1, gd_nI, gd_lit, qI_lit_toNat, qI_toNat]
      by_cases c2 : v ≤ 10000000
      · rw [if_pos c2, show (10 : Int32) * nI v = nI (10 * v) from qI_mul 10 v, qI_add]
        exact ih k (i + 1) (10 * v + dv (l0 len Vt i)) _ (cnt + 1) 1 (by omega) (by omega) (by
          refine ⟨by omega, ?_⟩
          rcases hvT with h | h
          · left; omega
          · right; omega) (by omega) hseg2 (fun h => absurd h (by omega)) (fun _ => hlast (by omega)) (fun _ => rfl)
      · rw [if_neg c2]
        exact ih k (i + 1) 100000000 _ (cnt + 1) 1 (by omega) (by omega) (by
          refine ⟨by omega, ?_⟩
          right
          rcases hvT with h | h <;> omega) (by omega) hseg2 (fun h => absurd h (by omega)) (fun _ => hlast (by omega)) (fun _ => rfl)
    · have h95 : l0 len Vt i = 95 := by
        rcases hseg i (Nat.le_refl _) (by omega) with h | h
        · exact absurd h c1
        · exact h
      have hcnt : cnt ≠ 0 := by intro h0; exact c1 (hf h0).2
      have hm1 : 0 < m := by
        apply Nat.pos_of_ne_zero
        intro h0
        have := hlast (by omega)
        rw [show len - 1 = i from by omega] at this
        exact c1 this
      rw [if_neg c1, if_neg c1, if_neg (by decide)]
      have hc0 : ¬ nI cnt ≤ 0 := by rw [qI_le_lit (by omega) (by decide)]; omega
      simp (disch := omega) only [gu_t, bd_s, lt_e, qI_add, qI_add_lit, qI_lit_add, qI_lt, qI_le, qI_eq, qI_lt_lit, qI_lit_lt, qI_le_lit, qI_lit_le, qI_eq_lit, qI_lit_eq, qI_ne_neg1, gd_nI, gd_lit, qI_lit_toNat, qI_toNat, hc0, h95, if_true, if_false]
      exact ih k (i + 1) v T cnt 0 (by omega) (by omega) ⟨hv, hvT⟩ (by omega) hseg2 (fun h => absurd h hcnt) (fun _ => hlast (by omega)) (fun h => absurd h (by omega))
theorem e_exponentRow {n len i st : Nat} (hn : 100000 ≤ n) (hl : len ≤ 1200) (hst : st = if l0 len Vt (i + 1) = 45 ∨ l0 len Vt (i + 1) = 43 then i + 2 else i + 1) (hseg : Seg (l0 len Vt) 10 st len) :
    ∃ v, f_X10_exponentRow n (nI len) V_laid V_gone V_thrown V_were V_none V_beyond V_aMany V_bMany V_fiveMany V_leftMany V_rightMany V_partMany V_twos (nI i) V_digits V_power V_good Vt = some (nI len, V_power + (if l0 len Vt (i + 1) = 45 then -nI v else nI v), V_good) ∧ I8 v (ev (l0 len Vt) (len - (i + 1)) (i + 1) 0) := by
  obtain ⟨s1, s2, s3, s4⟩ := hseg
  have hil : i + 1 < len := by rw [hst] at s1; split at s1 <;> omega
  have hskip : ∀ a, (a = 45 ∨ a = 43) → l0 len Vt (i + 1) = a → ev (l0 len Vt) (len - (i + 1)) (i + 1) 0 = ev (l0 len Vt) (len - (i + 2)) (i + 2) 0 := by
    intro a ha h
    rw [show len - (i + 1) = (len - (i + 2)) + 1 from by omega]
    show ev (l0 len Vt) (len - (i + 2)) (i + 1 + 1) (if dv (l0 len Vt (i + 1)) < 10 then _ else 0) = _
    rw [h, if_neg (by rcases ha with rfl | rfl <;> decide)]
  unfold f_X10_exponentRow f_X10_exponentRow_0 f_X10_exponentRow_24 f_X10_exponentRow_38 f_X10_exponentRow_48
  simp (disch := omega) only [gu_t, bd_s, lt_e, qI_add, qI_add_lit, qI_lit_add, qI_lt, qI_le, qI_eq, qI_lt_lit, qI_lit_lt, qI_le_lit, qI_lit_le, qI_eq_lit, qI_lit_eq, qI_ne_neg1, gd_nI, gd_lit, qI_lit_toNat, qI_toNat]
  rw [e_vlook hl (by omega)]
  simp only [bd_s]
  by_cases h45 : l0 len Vt (i + 1) = 45
  · rw [if_pos (Or.inl h45)] at hst
    subst hst
    rw [if_pos h45, if_neg (by decide), hskip 45 (Or.inl rfl) h45]
    obtain ⟨v, q1, q2⟩ := e_er_loop (n := n) (mn := 1) (V_laid := V_laid) (V_gone := V_gone) (V_thrown := V_thrown) (V_were := V_were) (V_none := V_none) (V_beyond := V_beyond) (V_aMany := V_aMany) (V_bMany := V_bMany) (V_fiveMany := V_fiveMany) (V_leftMany := V_leftMany) (V_rightMany := V_rightMany) (V_partMany := V_partMany) (V_twos := V_twos) (V_digits := V_digits) (V_power := V_power) (V_good := V_good) hl (len - (i + 2)) n (i + 2) 0 0 0 0 (by omega) (by omega) ⟨by omega, Or.inl rfl⟩ (by omega) s2 (fun _ => ⟨by omega, s3⟩) (fun _ => s4) (fun h => absurd h (by omega))
    exact ⟨v, by rw [if_pos h45]; exact q1, q2⟩
  · rw [if_neg h45, if_pos trivial]
    by_cases h43 : l0 len Vt (i + 1) = 43
    · rw [if_pos (Or.inr h43)] at hst
      subst hst
      rw [if_pos h43, hskip 43 (Or.inr rfl) h43]
      obtain ⟨v, q1, q2⟩ := e_er_loop (n := n) (mn := 0) (V_laid := V_laid) (V_gone := V_gone) (V_thrown := V_thrown) (V_were := V_were) (V_none := V_none) (V_beyond := V_beyond) (V_aMany := V_aMany) (V_bMany := V_bMany) (V_fiveMany := V_fiveMany) (V_leftMany := V_leftMany) (V_rightMany := V_rightMany) (V_partMany := V_partMany) (V_twos := V_twos) (V_digits := V_digits) (V_power := V_power) (V_good := V_good) hl (len - (i + 2)) n (i + 2) 0 0 0 0 (by omega) (by omega) ⟨by omega, Or.inl rfl⟩ (by omega) s2 (fun _ => ⟨by omega, s3⟩) (fun _ => s4) (fun h => absurd h (by omega))
      exact ⟨v, by rw [if_neg h45]; exact q1, q2⟩
    · rw [if_neg (by rintro (h | h); exact h45 h; exact h43 h)] at hst
      subst hst
      rw [if_neg h43]
      obtain ⟨v, q1, q2⟩ := e_er_loop (n := n) (mn := 0) (V_laid := V_laid) (V_gone := V_gone) (V_thrown := V_thrown) (V_were := V_were) (V_none := V_none) (V_beyond := V_beyond) (V_aMany := V_aMany) (V_bMany := V_bMany) (V_fiveMany := V_fiveMany) (V_leftMany := V_leftMany) (V_rightMany := V_rightMany) (V_partMany := V_partMany) (V_twos := V_twos) (V_digits := V_digits) (V_power := V_power) (V_good := V_good) hl (len - (i + 1)) n (i + 1) 0 0 0 0 (by omega) (by omega) ⟨by omega, Or.inl rfl⟩ (by omega) s2 (fun _ => ⟨by omega, s3⟩) (fun _ => s4) (fun h => absurd h (by omega))
      exact ⟨v, by rw [if_neg h45]; exact q1, q2⟩
end
