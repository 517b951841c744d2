/-! PURE 31: single characters, as both sides tell them apart. -/
def lk (c : Nat) (S : Nat → Int32) (i : Nat) : Int32 := if i < c then S i else -1
theorem e_look {n i c : Nat} {cut : Int32} {Sc : Nat → Int32} (hc : c ≤ 81920) (hi : i < 2147483648) : f_X6_look n (nI i) (nI c) cut Sc = some (lk c Sc i) := by
  unfold f_X6_look f_X6_look_0 lk
  by_cases h : i < c
  · simp (disch := omega) [gu_t, bd_s, lt_e, qI_add, qI_add_lit, qI_lit_add, qI_lt, qI_le, qI_eq, qI_lt_lit, qI_lit_lt, qI_le_lit, qI_lit_le, qI_eq_lit, qI_lit_eq, qI_ne_neg1, gd_nI, gd_lit, qI_lit_toNat, qI_toNat, h, show ¬ c ≤ i from by omega]
  · simp (disch := omega) [gu_t, bd_s, lt_e, qI_add, qI_add_lit, qI_lit_add, qI_lt, qI_le, qI_eq, qI_lt_lit, qI_lit_lt, qI_le_lit, qI_lit_le, qI_eq_lit, qI_lit_eq, qI_ne_neg1, gd_nI, gd_lit, qI_lit_toNat, qI_toNat, h, show c ≤ i from by omega]
theorem e_count {n : Nat} {c cut : Int32} : f_X6_count n c cut = some c := rfl
def nz (c : Int32) : Int32 := if c < 0 then -1 else c
theorem nz_eq {c a : Int32} (ha : 0 ≤ a) : (c = a) = (nz c = a) := by
  unfold nz; split <;> grind
theorem nz_pos {c : Int32} (h : 0 ≤ c) : nz c = c := by unfold nz; grind
theorem nz_neg {c : Int32} (h : c < 0) : nz c = -1 := by unfold nz; grind
/-- what a character is worth as a digit; 16 of others -/
def dv (c : Int32) : Nat := if 48 ≤ c ∧ c ≤ 57 then (c.toInt - 48).toNat else if 97 ≤ c ∧ c ≤ 102 then (c.toInt - 87).toNat else if 65 ≤ c ∧ c ≤ 70 then (c.toInt - 55).toNat else 16
theorem i32_sub {c : Int32} {k : Int} {a : Nat} (h : c.toInt = a) (ha : a < 2147483648) : c = nI a := by
  apply Int32.toInt_inj.mp; rw [h, qI_toInt ha]
theorem dv_le (c : Int32) : dv c ≤ 16 := by
  unfold dv
  simp only [Int32.le_iff_toInt_le]
  have h1 : (48 : Int32).toInt = 48 := rfl
  have h2 : (57 : Int32).toInt = 57 := rfl
  have h3 : (97 : Int32).toInt = 97 := rfl
  have h4 : (102 : Int32).toInt = 102 := rfl
  have h5 : (65 : Int32).toInt = 65 := rfl
  have h6 : (70 : Int32).toInt = 70 := rfl
  rw [h1, h2, h3, h4, h5, h6]
  split
  · omega
  · split
    · omega
    · split <;> omega
theorem dv_a {c : Int32} (h1 : 48 ≤ c) (h2 : c ≤ 57) : c - 48 = nI (dv c) ∧ dv c < 10 := by
  unfold dv; rw [if_pos ⟨h1, h2⟩]
  have g1 := Int32.le_iff_toInt_le.mp h1
  have g2 := Int32.le_iff_toInt_le.mp h2
  have e1 : (48 : Int32).toInt = 48 := rfl
  have e2 : (57 : Int32).toInt = 57 := rfl
  rw [e1] at g1; rw [e2] at g2
  refine ⟨?_, by omega⟩
  apply Int32.toInt_inj.mp
  rw [qI_toInt (by omega), Int32.toInt_sub, e1, Int.bmod_eq_of_le (by omega) (by omega)]
  omega
theorem dv_b {c : Int32} (h1 : 97 ≤ c) (h2 : c ≤ 102) : c - 97 + 10 = nI (dv c) ∧ 10 ≤ dv c ∧ dv c < 16 := by
  unfold dv; rw [if_neg (by intro h; have := h.2; lia), if_pos ⟨h1, h2⟩]
  have g1 := Int32.le_iff_toInt_le.mp h1
  have g2 := Int32.le_iff_toInt_le.mp h2
  have e1 : (97 : Int32).toInt = 97 := rfl
  have e2 : (102 : Int32).toInt = 102 := rfl
  have e3 : (10 : Int32).toInt = 10 := rfl
  rw [e1] at g1; rw [e2] at g2
  refine ⟨?_, by omega, by omega⟩
  apply Int32.toInt_inj.mp
  rw [qI_toInt (by omega), Int32.toInt_add, Int32.toInt_sub, e1, e3, Int.bmod_eq_of_le (n := c.toInt - 97) (by omega) (by omega), Int.bmod_eq_of_le (by omega) (by omega)]
  omega
theorem dv_c {c : Int32} (h1 : 65 ≤ c) (h2 : c ≤ 70) : c - 65 + 10 = nI (dv c) ∧ 10 ≤ dv c ∧ dv c < 16 := by
  unfold dv; rw [if_neg (by intro h; have := h.2; lia), if_neg (by intro h; have := h.1; lia), if_pos ⟨h1, h2⟩]
  have g1 := Int32.le_iff_toInt_le.mp h1
  have g2 := Int32.le_iff_toInt_le.mp h2
  have e1 : (65 : Int32).toInt = 65 := rfl
  have e2 : (70 : Int32).toInt = 70 := rfl
  have e3 : (10 : Int32).toInt = 10 := rfl
  rw [e1] at g1; rw [e2] at g2
  refine ⟨?_, by omega, by omega⟩
  apply Int32.toInt_inj.mp
  rw [qI_toInt (by omega), Int32.toInt_add, Int32.toInt_sub, e1, e3, Int.bmod_eq_of_le (n := c.toInt - 65) (by omega) (by omega), Int.bmod_eq_of_le (by omega) (by omega)]
  omega
theorem dv_d {c : Int32} (h1 : ¬ (48 ≤ c ∧ c ≤ 57)) (h2 : ¬ (97 ≤ c ∧ c ≤ 102)) (h3 : ¬ (65 ≤ c ∧ c ≤ 70)) : dv c = 16 := by
  unfold dv; rw [if_neg h1, if_neg h2, if_neg h3]
theorem dv_neg {c : Int32} (h : c < 0) : dv c = 16 := dv_d (by lia) (by lia) (by lia)
theorem dv_nz (c : Int32) : dv (nz c) = dv c := by
  by_cases h : c < 0
  · rw [nz_neg h, dv_neg h]; rfl
  · rw [nz_pos (by lia)]
theorem dv_10 (c : Int32) : (dv c < 10) = (48 ≤ c ∧ c ≤ 57) := by
  apply propext
  constructor
  · intro h
    by_cases h1 : 48 ≤ c ∧ c ≤ 57
    · exact h1
    · by_cases h2 : 97 ≤ c ∧ c ≤ 102
      · have := dv_b h2.1 h2.2; omega
      · by_cases h3 : 65 ≤ c ∧ c ≤ 70
        · have := dv_c h3.1 h3.2; omega
        · have := dv_d h1 h2 h3; omega
  · intro h; exact (dv_a h.1 h.2).2
theorem e_digitOf {n : Nat} (c : Int32) : f_X9_digitOf n c = some (nI (dv c)) := by
  unfold f_X9_digitOf f_X9_digitOf_0 f_X9_digitOf_17 f_X9_digitOf_37
  by_cases h1 : 48 ≤ c ∧ c ≤ 57
  · rw [if_neg (by lia), if_neg (by lia), (dv_a h1.1 h1.2).1]
  · have hx : ∀ y z : Option Int32, (if c < 48 then y else if 57 < c then y else z) = y := by intro y z; split; rfl; split; rfl; lia
    rw [hx]
    by_cases h2 : 97 ≤ c ∧ c ≤ 102
    · rw [if_neg (by lia), if_neg (by lia), (dv_b h2.1 h2.2).1]
    · have hx : ∀ y z : Option Int32, (if c < 97 then y else if 102 < c then y else z) = y := by intro y z; split; rfl; split; rfl; lia
      rw [hx]
      by_cases h3 : 65 ≤ c ∧ c ≤ 70
      · rw [if_neg (by lia), if_neg (by lia), (dv_c h3.1 h3.2).1]
      · have hx : ∀ y z : Option Int32, (if c < 65 then y else if 70 < c then y else z) = y := by intro y z; split; rfl; split; rfl; lia
        rw [hx, dv_d h1 h2 h3]; rfl
theorem e_digit {n b : Nat} (c : Int32) (hb : b ≤ 16) : f_X11_digit n c (nI b) = some (if dv c < b then nI (dv c) else -1) := by
  unfold f_X11_digit f_X11_digit_0 f_X11_digit_19 f_X11_digit_41 f_X11_digit_63 f_X11_digit_65
  have hd := dv_le c
  by_cases h1 : 48 ≤ c ∧ c ≤ 57
  · rw [if_neg (by lia), if_neg (by lia), (dv_a h1.1 h1.2).1]; simp (disch := omega) only [gu_t, bd_s, lt_e, qI_add, qI_add_lit, qI_lit_add, qI_lt, qI_le, qI_eq, qI_lt_lit, qI_lit_lt, qI_le_lit, qI_lit_le, qI_eq_lit, qI_lit_eq, qI_ne_neg1, gd_nI, gd_lit, qI_lit_toNat, qI_toNat]; split <;> split <;> first | rfl | omega
  · have hx : ∀ y z : Option Int32, (if c < 48 then y else if 57 < c then y else z) = y := by intro y z; split; rfl; split; rfl; lia
    rw [hx]
    by_cases h2 : 97 ≤ c ∧ c ≤ 102
    · rw [if_neg (by lia), if_neg (by lia), (dv_b h2.1 h2.2).1]; simp (disch := omega) only [gu_t, bd_s, lt_e, qI_add, qI_add_lit, qI_lit_add, qI_lt, qI_le, qI_eq, qI_lt_lit, qI_lit_lt, qI_le_lit, qI_lit_le, qI_eq_lit, qI_lit_eq, qI_ne_neg1, gd_nI, gd_lit, qI_lit_toNat, qI_toNat]; split <;> split <;> first | rfl | omega
    · have hx : ∀ y z : Option Int32, (if c < 97 then y else if 102 < c then y else z) = y := by intro y z; split; rfl; split; rfl; lia
      rw [hx]
      by_cases h3 : 65 ≤ c ∧ c ≤ 70
      · rw [if_neg (by lia), if_neg (by lia), (dv_c h3.1 h3.2).1]; simp (disch := omega) only [gu_t, bd_s, lt_e, qI_add, qI_add_lit, qI_lit_add, qI_lt, qI_le, qI_eq, qI_lt_lit, qI_lit_lt, qI_le_lit, qI_lit_le, qI_eq_lit, qI_lit_eq, qI_ne_neg1, gd_nI, gd_lit, qI_lit_toNat, qI_toNat]; split <;> split <;> first | rfl | omega
      · have hx : ∀ y z : Option Int32, (if c < 65 then y else if 70 < c then y else z) = y := by intro y z; split; rfl; split; rfl; lia
        rw [hx]; simp (disch := omega) only [gu_t, bd_s, lt_e, qI_add, qI_add_lit, qI_lit_add, qI_lt, qI_le, qI_eq, qI_lt_lit, qI_lit_lt, qI_le_lit, qI_lit_le, qI_eq_lit, qI_lit_eq, qI_ne_neg1, gd_nI, gd_lit, qI_lit_toNat, qI_toNat]; rw [if_pos (by omega), if_neg (by have := dv_d h1 h2 h3; omega)]
theorem e_isDecimal {n : Nat} (c : Int32) : f_X9_isDecimal n c = some (if dv c < 10 then 1 else 0) := by
  unfold f_X9_isDecimal f_X9_isDecimal_0
  have hd := dv_le c
  rw [e_digitOf]; simp (disch := omega) only [gu_t, bd_s, lt_e, qI_add, qI_add_lit, qI_lit_add, qI_lt, qI_le, qI_eq, qI_lt_lit, qI_lit_lt, qI_le_lit, qI_lit_le, qI_eq_lit, qI_lit_eq, qI_ne_neg1, gd_nI, gd_lit, qI_lit_toNat, qI_toNat]; split <;> split <;> first | rfl | omega
theorem e_isLineEnd {n : Nat} (c : Int32) : f_X9_isLineEnd n c = some (if c = 10 ∨ c = 13 then 1 else 0) := by
  unfold f_X9_isLineEnd f_X9_isLineEnd_0; split
  · rw [if_pos (Or.inl ‹_›)]
  · split
    · rw [if_pos (Or.inr ‹_›)]
    · rw [if_neg (by simp [*])]
theorem e_see {n i len : Nat} {a b d e f g h j k o : Int32} {v : Int64} {Ms : Nat → Int32} (hc : len ≤ 81924) (hi : i < 2147483648) : f_X11_see n (nI i) a b (nI len) d e f g h j k v o Ms = some (lk len Ms i) := by
  unfold f_X11_see f_X11_see_0 lk
  by_cases h : i < len
  · simp (disch := omega) [gu_t, bd_s, lt_e, qI_add, qI_add_lit, qI_lit_add, qI_lt, qI_le, qI_eq, qI_lt_lit, qI_lit_lt, qI_le_lit, qI_lit_le, qI_eq_lit, qI_lit_eq, qI_ne_neg1, gd_nI, gd_lit, qI_lit_toNat, qI_toNat, h, show ¬ len ≤ i from by omega]
  · simp (disch := omega) [gu_t, bd_s, lt_e, qI_add, qI_add_lit, qI_lit_add, qI_lt, qI_le, qI_eq, qI_lt_lit, qI_lit_lt, qI_le_lit, qI_lit_le, qI_eq_lit, qI_lit_eq, qI_ne_neg1, gd_nI, gd_lit, qI_lit_toNat, qI_toNat, h, show len ≤ i from by omega]
/-- a letter, as a name may begin with -/
def lr (c : Int32) : Prop := 97 ≤ c ∧ c ≤ 122 ∨ 65 ≤ c ∧ c ≤ 90 ∨ c = 95 ∨ c = 36
theorem e_isLetter {n : Nat} (c : Int32) : (lr c ∧ f_X11_isLetter n c = some 1) ∨ (¬ lr c ∧ f_X11_isLetter n c = some 0) := by
  unfold lr f_X11_isLetter f_X11_isLetter_0 f_X11_isLetter_12 f_X11_isLetter_24
  grind (splits := 40)
theorem e_isNamePart {n : Nat} (c : Int32) : ((lr c ∨ dv c < 10) ∧ f_X4_isNamePart n c = some 1) ∨ (¬ (lr c ∨ dv c < 10) ∧ f_X4_isNamePart n c = some 0) := by
  unfold f_X4_isNamePart f_X4_isNamePart_0 f_X4_isNamePart_12 f_X4_isNamePart_24
  rw [e_isDecimal]
  simp only [bd_s]
  by_cases h : dv c < 10
  · have := (dv_10 c) ▸ h
    unfold lr
    grind (splits := 40)
  · unfold lr
    grind (splits := 40)
def bl (c : Int32) : Prop := c = 32 ∨ c = 9 ∨ c = 12 ∨ c = 10 ∨ c = 13
theorem e_isBlank {n : Nat} (c : Int32) : (bl c ∧ f_X4_isBlank n c = some 1) ∨ (¬ bl c ∧ f_X4_isBlank n c = some 0) := by
  unfold f_X4_isBlank f_X4_isBlank_0 bl
  rw [e_isLineEnd]
  simp only [bd_s]
  grind (splits := 40)
