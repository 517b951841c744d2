/-! PURE 59: where a real number's parts end. -/
def hxF (L : Nat → Int32) (fr : Nat) : Int32 := if L fr = 48 ∧ (L (fr + 1) = 120 ∨ L (fr + 1) = 88) then 1 else 0
def f0F (L : Nat → Int32) (fr : Nat) : Nat := if hxF L fr = 0 then fr else fr + 2
def aF (L : Nat → Int32) (c fr : Nat) : Nat := DG L (hb (hxF L fr)) c (f0F L fr)
def b2F (L : Nat → Int32) (c fr : Nat) : Nat := if L (aF L c fr) = 46 then DG L (hb (hxF L fr)) c (aF L c fr + 1) else aF L c fr
def EXs (L : Nat → Int32) (b : Nat) : Nat := if L (b + 1) = 45 ∨ L (b + 1) = 43 then b + 2 else b + 1
abbrev isE (hx ch : Int32) : Prop := (hx = 0 ∧ (ch = 101 ∨ ch = 69)) ∨ (hx ≠ 0 ∧ (ch = 112 ∨ ch = 80))
def eF (L : Nat → Int32) (c fr : Nat) : Nat := if (isE (hxF L fr) (L (b2F L c fr)) ∧ EXs L (b2F L c fr) < DG L 10 c (EXs L (b2F L c fr))) then DG L 10 c (EXs L (b2F L c fr)) else b2F L c fr
/-- some digit stands there -/
def sdF (L : Nat → Int32) (c fr : Nat) : Prop := f0F L fr < aF L c fr ∨ (L (aF L c fr) = 46 ∧ aF L c fr + 1 < b2F L c fr)
def brF (L : Nat → Int32) (c fr : Nat) : Prop := (hxF L fr = 0 ∧ (L (aF L c fr) = 46 ∨ b2F L c fr < eF L c fr ∨ L (eF L c fr) = 102 ∨ L (eF L c fr) = 70 ∨ L (eF L c fr) = 100 ∨ L (eF L c fr) = 68)) ∨ (hxF L fr ≠ 0 ∧ sdF L c fr ∧ b2F L c fr < eF L c fr)
theorem hxF_c (L : Nat → Int32) (fr : Nat) : hxF L fr = 0 ∨ hxF L fr = 1 := by unfold hxF; split <;> simp
section
variable {c fr : Nat} {Sc : Nat → Int32}
theorem pos_of {i : Nat} {k : Int32} (h : lk c Sc i = k) (hk : 0 ≤ k) : i < c := lk_lt (by rw [h]; exact hk)
theorem f0_le (hf : fr ≤ c) : fr ≤ f0F (lk c Sc) fr ∧ f0F (lk c Sc) fr ≤ c := by
  unfold f0F hxF
  by_cases h : lk c Sc fr = 48 ∧ (lk c Sc (fr + 1) = 120 ∨ lk c Sc (fr + 1) = 88)
  · rw [if_pos h, if_neg (by decide)]
    have : fr + 1 < c := by
      rcases h.2 with h | h
      · exact pos_of h (by decide)
      · exact pos_of h (by decide)
    omega
  · rw [if_neg h, if_pos rfl]; omega
theorem a_le (hf : fr ≤ c) : f0F (lk c Sc) fr ≤ aF (lk c Sc) c fr ∧ aF (lk c Sc) c fr ≤ c := ⟨DG_ge, DG_le (f0_le hf).2⟩
theorem b2_le (hf : fr ≤ c) : aF (lk c Sc) c fr ≤ b2F (lk c Sc) c fr ∧ b2F (lk c Sc) c fr ≤ c ∧ (lk c Sc (aF (lk c Sc) c fr) = 46 → aF (lk c Sc) c fr + 1 ≤ b2F (lk c Sc) c fr) := by
  have h1 := a_le (Sc := Sc) hf
  unfold b2F
  by_cases h : lk c Sc (aF (lk c Sc) c fr) = 46
  · rw [if_pos h]
    have h2 := pos_of h (by decide)
    have h3 := DG_ge (L := lk c Sc) (b := hb (hxF (lk c Sc) fr)) (c := c) (fr := aF (lk c Sc) c fr + 1)
    exact ⟨by omega, DG_le (by omega), fun _ => h3⟩
  · rw [if_neg h]; exact ⟨by omega, h1.2, fun h2 => absurd h2 h⟩
theorem EXs_le {b : Nat} {k : Int32} (h : lk c Sc b = k) (hk : 0 ≤ k) : b + 1 ≤ EXs (lk c Sc) b ∧ EXs (lk c Sc) b ≤ c := by
  have h1 := pos_of h hk
  unfold EXs
  by_cases h2 : lk c Sc (b + 1) = 45 ∨ lk c Sc (b + 1) = 43
  · rw [if_pos h2]
    have : b + 1 < c := by
      rcases h2 with h | h
      · exact pos_of h (by decide)
      · exact pos_of h (by decide)
    omega
  · rw [if_neg h2]; omega
theorem isE_in {b : Nat} {hx : Int32} (h : isE hx (lk c Sc b)) : b < c := by
  unfold isE at h
  rcases h with ⟨_, h | h⟩ | ⟨_, h | h⟩ <;> exact pos_of h (by decide)
theorem isE_le {b : Nat} {hx : Int32} (h : isE hx (lk c Sc b)) : b + 1 ≤ EXs (lk c Sc) b ∧ EXs (lk c Sc) b ≤ c := by
  unfold isE at h
  rcases h with ⟨_, h | h⟩ | ⟨_, h | h⟩ <;> exact EXs_le h (by decide)
theorem e_le (hf : fr ≤ c) : b2F (lk c Sc) c fr ≤ eF (lk c Sc) c fr ∧ eF (lk c Sc) c fr ≤ c := by
  have h1 := b2_le (Sc := Sc) hf
  unfold eF
  by_cases h : isE (hxF (lk c Sc) fr) (lk c Sc (b2F (lk c Sc) c fr)) ∧ EXs (lk c Sc) (b2F (lk c Sc) c fr) < DG (lk c Sc) 10 c (EXs (lk c Sc) (b2F (lk c Sc) c fr))
  · rw [if_pos h]
    have h2 := isE_le h.1
    have h3 := DG_le (L := lk c Sc) (b := 10) h2.2
    omega
  · rw [if_neg h]; omega
variable {N_base N_first N_significandEnd N_exponentEnd S_cutShort : Int32}
theorem e_isEither {n i : Nat} {x y : Int32} (hc : c ≤ 81920) (hi : i < 2147483648) : f_X2_isEither n (nI i) x y N_base N_first N_significandEnd N_exponentEnd (nI c) S_cutShort Sc = some (if lk c Sc i = x ∨ lk c Sc i = y then 1 else 0) := by
  unfold f_X2_isEither f_X2_isEither_0
  rw [e_look hc hi]
  simp only [bd_s]
  by_cases h1 : lk c Sc i = x
  · rw [if_pos h1, if_pos (Or.inl h1)]
  · rw [if_neg h1]
    by_cases h2 : lk c Sc i = y
    · rw [if_pos h2, if_pos (Or.inr h2)]
    · rw [if_neg h2, if_neg (by rintro (h | h); exact h1 h; exact h2 h)]
theorem e_hasMark {n i : Nat} {x y : Int32} (hc : c ≤ 81920) (hi : i + 1 < 2147483648) : f_X2_hasMark n (nI i) x y N_base N_first N_significandEnd N_exponentEnd (nI c) S_cutShort Sc = some (if lk c Sc i = 48 ∧ (lk c Sc (i + 1) = x ∨ lk c Sc (i + 1) = y) then 1 else 0) := by
  unfold f_X2_hasMark f_X2_hasMark_0
  rw [e_look hc (by omega)]
  simp (disch := omega) only [gu_t, bd_s, lt_e, qI_add, qI_add_lit, qI_lit_add, qI_lt, qI_le, qI_eq, qI_lt_lit, qI_lit_lt, qI_le_lit, qI_lit_le, qI_eq_lit, qI_lit_eq, qI_ne_neg1, gd_nI, gd_lit, qI_lit_toNat, qI_toNat]
  rw [e_isEither hc hi]
  simp only [bd_s]
  by_cases h1 : lk c Sc i = 48
  · rw [if_pos h1]
    by_cases h2 : lk c Sc (i + 1) = x ∨ lk c Sc (i + 1) = y
    · rw [if_pos h2, if_neg (by decide), if_pos ⟨h1, h2⟩]
    · rw [if_neg h2, if_pos rfl, if_neg (fun h => h2 h.2)]
  · rw [if_neg h1, if_neg (fun h => h1 h.1)]
theorem e_isFloat {n i : Nat} (hc : c ≤ 81920) (hi : i < 2147483648) : f_X2_isFloatLetter n (nI i) N_base N_first N_significandEnd N_exponentEnd (nI c) S_cutShort Sc = some (if lk c Sc i = 102 ∨ lk c Sc i = 70 then 1 else 0) := by
  unfold f_X2_isFloatLetter f_X2_isFloatLetter_0
  rw [e_isEither hc hi]
  simp only [bd_s]
  split <;> rfl
theorem e_isDouble {n i : Nat} (hc : c ≤ 81920) (hi : i < 2147483648) : f_X2_isDoubleLetter n (nI i) N_base N_first N_significandEnd N_exponentEnd (nI c) S_cutShort Sc = some (if lk c Sc i = 100 ∨ lk c Sc i = 68 then 1 else 0) := by
  unfold f_X2_isDoubleLetter f_X2_isDoubleLetter_0
  rw [e_isEither hc hi]
  simp only [bd_s]
  split <;> rfl
theorem e_behindExponent {n b : Nat} {hx x y : Int32} (hn : 100000 ≤ n) (hc : c ≤ 81920) (hb : b ≤ c) (hxy : (lk c Sc b = x ∨ lk c Sc b = y) = isE hx (lk c Sc b)) : f_X2_behindExponent n (nI b) x y N_base N_first N_significandEnd N_exponentEnd (nI c) S_cutShort Sc = some (nI (if (isE hx (lk c Sc b) ∧ EXs (lk c Sc) b < DG (lk c Sc) 10 c (EXs (lk c Sc) b)) then DG (lk c Sc) 10 c (EXs (lk c Sc) b) else b)) := by
  unfold f_X2_behindExponent f_X2_behindExponent_0 f_X2_behindExponent_35
  rw [e_isEither hc (by omega)]
  simp only [bd_s, hxy]
  by_cases h : isE hx (lk c Sc b)
  · obtain ⟨h1, h2⟩ := isE_le h
    rw [if_pos h, if_neg (by decide), show nI b + 1 = nI (b + 1) from qI_add b 1, show nI b + 2 = nI (b + 2) from qI_add b 2, e_isEither hc (by omega)]
    simp only [bd_s]
    have hpull : ∀ F : Int32 → Option Int32, (if (if lk c Sc (b + 1) = 43 ∨ lk c Sc (b + 1) = 45 then (1 : Int32) else 0) = 0 then F (nI (b + 1)) else F (nI (b + 2))) = F (nI (EXs (lk c Sc) b)) := by
      intro F
      unfold EXs
      by_cases h3 : lk c Sc (b + 1) = 43 ∨ lk c Sc (b + 1) = 45
      · rw [if_pos h3, if_neg (by decide), if_pos (Or.symm h3)]
      · rw [if_neg h3, if_pos rfl, if_neg (fun h => h3 (Or.symm h))]
    rw [hpull (fun t => bd (f_X2_behindDigits n t 10 N_base N_first N_significandEnd N_exponentEnd (nI c) S_cutShort Sc) fun o1 => if o1 ≤ t then some (nI b) else some o1)]
    rw [show f_X2_behindDigits n (nI (EXs (lk c Sc) b)) 10 N_base N_first N_significandEnd N_exponentEnd (nI c) S_cutShort Sc = some (nI (DG (lk c Sc) 10 c (EXs (lk c Sc) b))) from e_behindDigits (b := 10) hn hc (by omega) h2]
    simp only [bd_s]
    have h3 := DG_le (L := lk c Sc) (b := 10) h2
    simp (disch := omega) only [gu_t, bd_s, lt_e, qI_add, qI_add_lit, qI_lit_add, qI_lt, qI_le, qI_eq, qI_lt_lit, qI_lit_lt, qI_le_lit, qI_lit_le, qI_eq_lit, qI_lit_eq, qI_ne_neg1, gd_nI, gd_lit, qI_lit_toNat, qI_toNat]
    by_cases h4 : EXs (lk c Sc) b < DG (lk c Sc) 10 c (EXs (lk c Sc) b)
    · rw [if_neg (by omega), if_pos ⟨h, h4⟩]
    · rw [if_pos (by omega), if_neg (fun h => h4 h.2)]
  · rw [if_neg h, if_pos rfl, if_neg (fun h2 => h h2.1)]
theorem e_measure {n : Nat} (hn : 100000 ≤ n) (hc : c ≤ 81920) (hf : fr < c) : ∃ g : Int32, f_X2_measureBroken n (nI fr) N_base N_first N_significandEnd N_exponentEnd (nI c) S_cutShort Sc = some (g, nI (hb (hxF (lk c Sc) fr)), nI (f0F (lk c Sc) fr), nI (b2F (lk c Sc) c fr), nI (eF (lk c Sc) c fr)) ∧ (g = 0 ∨ g = 1) ∧ (g = 1 ↔ brF (lk c Sc) c fr) := by
  have p1 := f0_le (Sc := Sc) (show fr ≤ c by omega)
  have p2 := a_le (Sc := Sc) (show fr ≤ c by omega)
  have p3 := b2_le (Sc := Sc) (show fr ≤ c by omega)
  have p4 := e_le (Sc := Sc) (show fr ≤ c by omega)
  obtain ⟨hb2, hb16⟩ := hb_c (hxF (lk c Sc) fr)
  -- behind the parts
  have tail : ∀ (x4 : Int32) (N_base N_first N_s N_e : Int32), N_base = nI (hb (hxF (lk c Sc) fr)) → N_first = nI (f0F (lk c Sc) fr) → (x4 = if lk c Sc (aF (lk c Sc) c fr) = 46 then 1 else 0) →
      ∃ g : Int32, f_X2_measureBroken_94 n (nI c) S_cutShort Sc N_base N_first N_s N_e (hxF (lk c Sc) fr) x4 (nI (b2F (lk c Sc) c fr)) = some (g, nI (hb (hxF (lk c Sc) fr)), nI (f0F (lk c Sc) fr), nI (b2F (lk c Sc) c fr), nI (eF (lk c Sc) c fr)) ∧ (g = 0 ∨ g = 1) ∧ (g = 1 ↔ brF (lk c Sc) c fr) := by
    intro x4 N_base N_first N_s N_e hB hFi hx4
    subst hB hFi
    unfold f_X2_measureBroken_94 f_X2_measureBroken_114 f_X2_measureBroken_125 f_X2_measureBroken_147 f_X2_measureBroken_172 f_X2_measureBroken_180
    generalize hhx : hxF (lk c Sc) fr = hx at *
    have hx01 : hx = 0 ∨ hx = 1 := by rw [← hhx]; exact hxF_c _ _
    have heF : eF (lk c Sc) c fr = (if (isE hx (lk c Sc (b2F (lk c Sc) c fr)) ∧ EXs (lk c Sc) (b2F (lk c Sc) c fr) < DG (lk c Sc) 10 c (EXs (lk c Sc) (b2F (lk c Sc) c fr))) then DG (lk c Sc) 10 c (EXs (lk c Sc) (b2F (lk c Sc) c fr)) else b2F (lk c Sc) c fr) := by
      unfold eF; rw [hhx]
    have hbr : brF (lk c Sc) c fr = ((hx = 0 ∧ (lk c Sc (aF (lk c Sc) c fr) = 46 ∨ b2F (lk c Sc) c fr < eF (lk c Sc) c fr ∨ lk c Sc (eF (lk c Sc) c fr) = 102 ∨ lk c Sc (eF (lk c Sc) c fr) = 70 ∨ lk c Sc (eF (lk c Sc) c fr) = 100 ∨ lk c Sc (eF (lk c Sc) c fr) = 68)) ∨ (hx ≠ 0 ∧ sdF (lk c Sc) c fr ∧ b2F (lk c Sc) c fr < eF (lk c Sc) c fr)) := by
      unfold brF; rw [hhx]
    rw [hbr]
    rcases hx01 with h0 | h1
    · subst h0
      simp only [if_true]
      rw [e_behindExponent (hx := 0) hn hc p3.2.1 (by unfold isE; simp), ← heF]
      simp (disch := omega) only [gu_t, bd_s, lt_e, qI_add, qI_add_lit, qI_lit_add, qI_lt, qI_le, qI_eq, qI_lt_lit, qI_lit_lt, qI_le_lit, qI_lit_le, qI_eq_lit, qI_lit_eq, qI_ne_neg1, gd_nI, gd_lit, qI_lit_toNat, qI_toNat]
      rw [e_isFloat hc (by omega)]
      simp only [bd_s]
      rw [e_isDouble hc (by omega)]
      simp only [bd_s]
      by_cases c1 : eF (lk c Sc) c fr ≤ b2F (lk c Sc) c fr
      · rw [if_pos c1]
        by_cases c2 : lk c Sc (aF (lk c Sc) c fr) = 46
        · rw [if_pos c2] at hx4; subst hx4
          exact ⟨1, rfl, Or.inr rfl, ⟨fun _ => Or.inl ⟨trivial, Or.inl c2⟩, fun _ => rfl⟩⟩
        · rw [if_neg c2] at hx4; subst hx4
          by_cases c3 : lk c Sc (eF (lk c Sc) c fr) = 102 ∨ lk c Sc (eF (lk c Sc) c fr) = 70
          · rw [if_pos c3]
            refine ⟨1, rfl, Or.inr rfl, ⟨fun _ => Or.inl ⟨trivial, ?_⟩, fun _ => rfl⟩⟩
            rcases c3 with h | h <;> simp [h]
          · rw [if_neg c3]
            by_cases c4 : lk c Sc (eF (lk c Sc) c fr) = 100 ∨ lk c Sc (eF (lk c Sc) c fr) = 68
            · rw [if_pos c4]
              refine ⟨1, rfl, Or.inr rfl, ⟨fun _ => Or.inl ⟨trivial, ?_⟩, fun _ => rfl⟩⟩
              rcases c4 with h | h <;> simp [h]
            · rw [if_neg c4]
              refine ⟨0, rfl, Or.inl rfl, ⟨fun h => absurd h (by decide), fun h => ?_⟩⟩
              exfalso
              rcases h with ⟨_, h | h | h | h | h | h⟩ | ⟨h, _⟩
              · exact c2 h
              · omega
              · exact c3 (Or.inl h)
              · exact c3 (Or.inr h)
              · exact c4 (Or.inl h)
              · exact c4 (Or.inr h)
              · exact h rfl
      · rw [if_neg c1]
        by_cases c2 : lk c Sc (aF (lk c Sc) c fr) = 46
        · rw [if_pos c2] at hx4; subst hx4
          exact ⟨1, rfl, Or.inr rfl, ⟨fun _ => Or.inl ⟨trivial, Or.inl c2⟩, fun _ => rfl⟩⟩
        · rw [if_neg c2] at hx4; subst hx4
          exact ⟨1, rfl, Or.inr rfl, ⟨fun _ => Or.inl ⟨trivial, Or.inr (Or.inl (by omega))⟩, fun _ => rfl⟩⟩
    · subst h1
      simp only [show ¬ (1 : Int32) = 0 from by decide, if_false]
      rw [e_behindExponent (hx := 1) hn hc p3.2.1 (by unfold isE; simp), ← heF]
      simp (disch := omega) only [gu_t, bd_s, lt_e, qI_add, qI_add_lit, qI_lit_add, qI_lt, qI_le, qI_eq, qI_lt_lit, qI_lit_lt, qI_le_lit, qI_lit_le, qI_eq_lit, qI_lit_eq, qI_ne_neg1, gd_nI, gd_lit, qI_lit_toNat, qI_toNat]
      rw [qI_sub (by omega)]
      have hfin : ∀ x5 : Int32, ((x5 = 0 ∧ eF (lk c Sc) c fr ≤ b2F (lk c Sc) c fr) ∨ (x5 = 1 ∧ b2F (lk c Sc) c fr < eF (lk c Sc) c fr)) → ∃ g : Int32, (if x4 = 0 then (if nI (b2F (lk c Sc) c fr - f0F (lk c Sc) fr) ≤ 0 then (if (0 : Int32) = 0 then some ((0 : Int32), nI (hb 1), nI (f0F (lk c Sc) fr), nI (b2F (lk c Sc) c fr), nI (eF (lk c Sc) c fr)) else if x5 = 0 then some (0, nI (hb 1), nI (f0F (lk c Sc) fr), nI (b2F (lk c Sc) c fr), nI (eF (lk c Sc) c fr)) else some (1, nI (hb 1), nI (f0F (lk c Sc) fr), nI (b2F (lk c Sc) c fr), nI (eF (lk c Sc) c fr))) else (if (1 : Int32) = 0 then some (0, nI (hb 1), nI (f0F (lk c Sc) fr), nI (b2F (lk c Sc) c fr), nI (eF (lk c Sc) c fr)) else if x5 = 0 then some (0, nI (hb 1), nI (f0F (lk c Sc) fr), nI (b2F (lk c Sc) c fr), nI (eF (lk c Sc) c fr)) else some (1, nI (hb 1), nI (f0F (lk c Sc) fr), nI (b2F (lk c Sc) c fr), nI (eF (lk c Sc) c fr)))) else (if nI (b2F (lk c Sc) c fr - f0F (lk c Sc) fr) ≤ 1 then (if (0 : Int32) = 0 then some ((0 : Int32), nI (hb 1), nI (f0F (lk c Sc) fr), nI (b2F (lk c Sc) c fr), nI (eF (lk c Sc) c fr)) else if x5 = 0 then some (0, nI (hb 1), nI (f0F (lk c Sc) fr), nI (b2F (lk c Sc) c fr), nI (eF (lk c Sc) c fr)) else some (1, nI (hb 1), nI (f0F (lk c Sc) fr), nI (b2F (lk c Sc) c fr), nI (eF (lk c Sc) c fr))) else (if (1 : Int32) = 0 then some (0, nI (hb 1), nI (f0F (lk c Sc) fr), nI (b2F (lk c Sc) c fr), nI (eF (lk c Sc) c fr)) else if x5 = 0 then some (0, nI (hb 1), nI (f0F (lk c Sc) fr), nI (b2F (lk c Sc) c fr), nI (eF (lk c Sc) c fr)) else some (1, nI (hb 1), nI (f0F (lk c Sc) fr), nI (b2F (lk c Sc) c fr), nI (eF (lk c Sc) c fr))))) = some (g, nI (hb 1), nI (f0F (lk c Sc) fr), nI (b2F (lk c Sc) c fr), nI (eF (lk c Sc) c fr)) ∧ (g = 0 ∨ g = 1) ∧ (g = 1 ↔ (((1 : Int32) = 0 ∧ (lk c Sc (aF (lk c Sc) c fr) = 46 ∨ b2F (lk c Sc) c fr < eF (lk c Sc) c fr ∨ lk c Sc (eF (lk c Sc) c fr) = 102 ∨ lk c Sc (eF (lk c Sc) c fr) = 70 ∨ lk c Sc (eF (lk c Sc) c fr) = 100 ∨ lk c Sc (eF (lk c Sc) c fr) = 68)) ∨ ((1 : Int32) ≠ 0 ∧ sdF (lk c Sc) c fr ∧ b2F (lk c Sc) c fr < eF (lk c Sc) c fr))) := by
        intro x5 hx5
        have h10 : ¬ (1 : Int32) = 0 := by decide
        have hsd : sdF (lk c Sc) c fr = (if lk c Sc (aF (lk c Sc) c fr) = 46 then 1 < b2F (lk c Sc) c fr - f0F (lk c Sc) fr else 0 < b2F (lk c Sc) c fr - f0F (lk c Sc) fr) := by
          unfold sdF
          by_cases c2 : lk c Sc (aF (lk c Sc) c fr) = 46
          · rw [if_pos c2]
            have := p3.2.2 c2
            apply propext
            constructor
            · rintro (h | h) <;> omega
            · intro h
              by_cases h3 : f0F (lk c Sc) fr < aF (lk c Sc) c fr
              · exact Or.inl h3
              · exact Or.inr ⟨c2, by omega⟩
          · rw [if_neg c2]
            have : b2F (lk c Sc) c fr = aF (lk c Sc) c fr := by unfold b2F; rw [if_neg c2]
            apply propext
            constructor
            · rintro (h | h)
              · omega
              · exact absurd h.1 c2
            · intro h; left; omega
        rw [hsd]
        by_cases c2 : lk c Sc (aF (lk c Sc) c fr) = 46
        · rw [if_pos c2] at hx4; subst hx4
          rw [if_pos c2, if_neg h10]
          by_cases c3 : nI (b2F (lk c Sc) c fr - f0F (lk c Sc) fr) ≤ 1
          · rw [if_pos c3, if_pos rfl]
            rw [qI_le_lit (by omega) (by decide)] at c3
            exact ⟨0, rfl, Or.inl rfl, ⟨fun h => absurd h (by decide), fun h => by rcases h with h | h; exact absurd h.1 h10; exact absurd h.2.1 (by show ¬ 1 < _; have : _ ≤ 1 := c3; omega)⟩⟩
          · rw [if_neg c3, if_neg h10]
            rw [qI_le_lit (by omega) (by decide)] at c3
            have c3' : 1 < b2F (lk c Sc) c fr - f0F (lk c Sc) fr := by have : ¬ _ ≤ 1 := c3; omega
            rcases hx5 with ⟨h, h2⟩ | ⟨h, h2⟩
            · rw [if_pos h]
              exact ⟨0, rfl, Or.inl rfl, ⟨fun h => absurd h (by decide), fun h => by rcases h with h | h; exact absurd h.1 h10; omega⟩⟩
            · rw [h, if_neg h10]
              exact ⟨1, rfl, Or.inr rfl, ⟨fun _ => Or.inr ⟨h10, c3', h2⟩, fun _ => rfl⟩⟩
        · rw [if_neg c2] at hx4; subst hx4
          rw [if_neg c2, if_pos rfl]
          by_cases c3 : nI (b2F (lk c Sc) c fr - f0F (lk c Sc) fr) ≤ 0
          · rw [if_pos c3, if_pos rfl]
            rw [qI_le_lit (by omega) (by decide)] at c3
            exact ⟨0, rfl, Or.inl rfl, ⟨fun h => absurd h (by decide), fun h => by rcases h with h | h; exact absurd h.1 h10; exact absurd h.2.1 (by show ¬ 0 < _; have : _ ≤ 0 := c3; omega)⟩⟩
          · rw [if_neg c3, if_neg h10]
            rw [qI_le_lit (by omega) (by decide)] at c3
            have c3' : 0 < b2F (lk c Sc) c fr - f0F (lk c Sc) fr := by have : ¬ _ ≤ 0 := c3; omega
            rcases hx5 with ⟨h, h2⟩ | ⟨h, h2⟩
            · rw [if_pos h]
              exact ⟨0, rfl, Or.inl rfl, ⟨fun h => absurd h (by decide), fun h => by rcases h with h | h; exact absurd h.1 h10; omega⟩⟩
            · rw [h, if_neg h10]
              exact ⟨1, rfl, Or.inr rfl, ⟨fun _ => Or.inr ⟨h10, c3', h2⟩, fun _ => rfl⟩⟩
      by_cases c1 : eF (lk c Sc) c fr ≤ b2F (lk c Sc) c fr
      · rw [if_pos c1]
        have := hfin 0 (Or.inl ⟨rfl, c1⟩)
        simpa using this
      · rw [if_neg c1]
        have := hfin 1 (Or.inr ⟨rfl, by omega⟩)
        simpa using this
  unfold f_X2_measureBroken f_X2_measureBroken_0 f_X2_measureBroken_22
  rw [e_hasMark hc (by omega)]
  simp only [bd_s]
  have hmk : (if lk c Sc fr = 48 ∧ (lk c Sc (fr + 1) = 120 ∨ lk c Sc (fr + 1) = 88) then (1 : Int32) else 0) = hxF (lk c Sc) fr := rfl
  rw [hmk]
  have hpull : ∀ F : Int32 → Int32 → Option (Int32 × Int32 × Int32 × Int32 × Int32), (if hxF (lk c Sc) fr = 0 then (if hxF (lk c Sc) fr = 0 then F 10 (nI fr) else F 10 (nI fr + 2)) else (if hxF (lk c Sc) fr = 0 then F 16 (nI fr) else F 16 (nI fr + 2))) = F (nI (hb (hxF (lk c Sc) fr))) (nI (f0F (lk c Sc) fr)) := by
    intro F
    unfold f0F hb
    by_cases h : hxF (lk c Sc) fr = 0
    · rw [if_pos h, if_pos h, if_pos h, if_pos h]; rfl
    · rw [if_neg h, if_neg h, if_neg h, if_neg h, show nI fr + 2 = nI (fr + 2) from qI_add fr 2]; rfl
  rw [hpull (fun B t => f_X2_measureBroken_37 n (nI c) S_cutShort Sc B N_first N_significandEnd N_exponentEnd (hxF (lk c Sc) fr) t)]
  unfold f_X2_measureBroken_37 f_X2_measureBroken_71
  rw [e_behindDigits hn hc hb16 p1.2]
  simp only [bd_s]
  rw [show DG (lk c Sc) (hb (hxF (lk c Sc) fr)) c (f0F (lk c Sc) fr) = aF (lk c Sc) c fr from rfl, e_look hc (by omega)]
  simp only [bd_s]
  by_cases c2 : lk c Sc (aF (lk c Sc) c fr) = 46
  · have hac := pos_of c2 (by decide)
    rw [if_pos c2, if_neg (by decide), show nI (aF (lk c Sc) c fr) + 1 = nI (aF (lk c Sc) c fr + 1) from qI_add _ 1, e_behindDigits hn hc hb16 (by omega)]
    simp only [bd_s]
    rw [show DG (lk c Sc) (hb (hxF (lk c Sc) fr)) c (aF (lk c Sc) c fr + 1) = b2F (lk c Sc) c fr from by unfold b2F; rw [if_pos c2]]
    exact tail 1 _ _ _ _ rfl rfl (by rw [if_pos c2])
  · rw [if_neg c2, if_pos trivial, show nI (aF (lk c Sc) c fr) = nI (b2F (lk c Sc) c fr) from by unfold b2F; rw [if_neg c2]]
    exact tail 0 _ _ _ _ rfl rfl (by rw [if_neg c2])
end
