/-! PURE 71: characters and strings. -/
def oc (L : Nat → Int32) : Nat → Nat → Nat → Nat × Nat
  | 0, i, v => (i, v)
  | m + 1, i, v => if dv (L i) < 8 then oc L m (i + 1) (v * 8 + dv (L i)) else (i, v)
theorem oc_b {c : Nat} {Sc : Nat → Int32} : ∀ (m i v : Nat), i ≤ c → i ≤ (oc (lk c Sc) m i v).1 ∧ (oc (lk c Sc) m i v).1 ≤ c ∧ (oc (lk c Sc) m i v).2 < (v + 1) * 8 ^ m
  | 0, i, v, h => ⟨Nat.le_refl _, h, by show v < _; omega⟩
  | m + 1, i, v, h => by
    unfold oc
    split
    · rename_i h1
      have hi : i < c := by
        by_cases h2 : i < c
        · exact h2
        · rw [dv_out (by omega)] at h1; omega
      have ih := oc_b (c := c) (Sc := Sc) m (i + 1) (v * 8 + dv (lk c Sc i)) (by omega)
      refine ⟨by omega, ih.2.1, Nat.lt_of_lt_of_le ih.2.2 ?_⟩
      rw [Nat.pow_succ, Nat.mul_comm (8 ^ m) 8, ← Nat.mul_assoc]
      exact Nat.mul_le_mul_right _ (by omega)
    · refine ⟨Nat.le_refl _, h, ?_⟩
      have : 1 ≤ 8 ^ (m + 1) := Nat.pow_pos (by decide)
      have := Nat.mul_le_mul_left (v + 1) this
      show v < _
      omega
theorem pos_see {p c len i : Nat} {Sc Ms : Nat → Int32} (hS : See p c len Sc Ms) (hi : p ≤ i) (h : ¬ lk c Sc i = -1) : 0 ≤ lk c Sc i ∧ i < c := by
  have h1 := hS.2.2.2.1 i hi
  have hic : i < c := by
    by_cases h2 : i < c
    · exact h2
    · exact absurd (lk_out (by omega)) h
  refine ⟨?_, hic⟩
  unfold nz at h1
  split at h1
  · exact absurd h1.symm h
  · rw [← h1]; grind
section
variable {M_came M_size M_at M_laid M_tokens M_looked M_thrown M_wrong M_kind M_good S_cutShort Q_character : Int32} {M_value : Int64} {Sc Ms Ml : Nat → Int32} {n c len p : Nat}
theorem e_oct_own (hc : c ≤ 81920) {x mx : Nat} (hmx : mx ≤ 3) (hx : x ≤ c) : ∀ (m k i v : Nat), i + m = x + mx → i ≤ c → m < k → f_X3_behindOctal_26 n (nI c) S_cutShort Sc k (nI v) (nI x) (nI mx) (nI i) = some (nI (oc (lk c Sc) m i v).1, nI (oc (lk c Sc) m i v).2) := by
  intro m
  induction m with
  | zero =>
    intro k i v hm hi hk
    obtain ⟨k, rfl⟩ : ∃ k', k = k' + 1 := ⟨k - 1, by omega⟩
    unfold f_X3_behindOctal_26 fb_X3_behindOctal_26
    rw [qI_add, if_pos (by rw [qI_le (by omega) (by omega)]; omega)]
    rfl
  | succ m ih =>
    intro k i v hm hi hk
    obtain ⟨k, rfl⟩ : ∃ k', k = k' + 1 := ⟨k - 1, by omega⟩
    have hst : f_X3_behindOctal_26 n (nI c) S_cutShort Sc (k + 1) (nI v) (nI x) (nI mx) (nI i) = if 8 ≤ dv (lk c Sc i) then some (nI i, nI v) else f_X3_behindOctal_26 n (nI c) S_cutShort Sc k (nI (v * 8 + dv (lk c Sc i))) (nI x) (nI mx) (nI (i + 1)) := by
      show fb_X3_behindOctal_26 n _ (nI c) S_cutShort Sc (nI v) (nI x) (nI mx) (nI i) = _
      unfold fb_X3_behindOctal_26
      have hd := dv_le (lk c Sc i)
      rw [qI_add, if_neg (by rw [qI_le (by omega) (by omega)]; omega), e_look hc (by omega), bd_s, e_digitOf, bd_s, bd_s, e_digitOf, bd_s]
      simp only [lt_e]
      rw [show nI v * 8 = nI (v * 8) from qI_mul v 8, qI_add, show nI i + 1 = nI (i + 1) from qI_add i 1]
      have hq : ((8 : Int32) ≤ nI (dv (lk c Sc i))) = (8 ≤ dv (lk c Sc i)) := qI_lit_le (by omega) (by decide)
      simp only [hq]
    rw [hst]
    unfold oc
    by_cases c1 : dv (lk c Sc i) < 8
    · have hic : i < c := by
        by_cases h2 : i < c
        · exact h2
        · rw [dv_out (by omega)] at c1; omega
      rw [if_neg (by omega), if_pos c1]
      exact ih k (i + 1) _ (by omega) (by omega) (by omega)
    · rw [if_pos (by omega), if_neg c1]
theorem e_oct_ref (hS : See p c len Sc Ms) {t0 : Nat} (ht : t0 ≤ 3) : ∀ (m k i v x6 : Nat), x6 + m = t0 → p ≤ i → i ≤ c → m < k → f_X11_character_165 n M_came M_size (nI len) M_laid M_tokens M_looked M_thrown M_wrong M_kind M_value M_good Ms k (nI i) (nI v) (nI t0) (nI x6) = some (nI (oc (lk c Sc) m i v).2, nI (oc (lk c Sc) m i v).1) := by
  have hc := hS.1
  have hl := hS.2.1
  intro m
  induction m with
  | zero =>
    intro k i v x6 hm hp hi hk
    obtain ⟨k, rfl⟩ : ∃ k', k = k' + 1 := ⟨k - 1, by omega⟩
    unfold f_X11_character_165 fb_X11_character_165
    rw [if_pos (by rw [qI_le (by omega) (by omega)]; omega)]
    rfl
  | succ m ih =>
    intro k i v x6 hm hp hi hk
    obtain ⟨k, rfl⟩ : ∃ k', k = k' + 1 := ⟨k - 1, by omega⟩
    have hdd : dv (lk len Ms i) = dv (lk c Sc i) := hS.dv hp
    have hst : f_X11_character_165 n M_came M_size (nI len) M_laid M_tokens M_looked M_thrown M_wrong M_kind M_value M_good Ms (k + 1) (nI i) (nI v) (nI t0) (nI x6) = if dv (lk c Sc i) < 8 then f_X11_character_165 n M_came M_size (nI len) M_laid M_tokens M_looked M_thrown M_wrong M_kind M_value M_good Ms k (nI (i + 1)) (nI (v * 8 + dv (lk c Sc i))) (nI t0) (nI (x6 + 1)) else some (nI v, nI i) := by
      show fb_X11_character_165 n _ M_came M_size (nI len) M_laid M_tokens M_looked M_thrown M_wrong M_kind M_value M_good Ms (nI i) (nI v) (nI t0) (nI x6) = _
      unfold fb_X11_character_165
      rw [if_neg (by rw [qI_le (by omega) (by omega)]; omega), e_see (by omega) (by omega), bd_s, show (8 : Int32) = nI 8 from rfl, e_digit _ (by decide), bd_s, bd_s, e_digit _ (by decide), bd_s, hdd]
      simp only [lt_e]
      by_cases c1 : dv (lk c Sc i) < 8
      · rw [if_pos c1, if_pos c1, if_neg (by rw [show (0 : Int32) = nI 0 from rfl, qI_lt (by omega) (by omega)]; omega), qI_mul, qI_add, show nI i + 1 = nI (i + 1) from qI_add i 1, show nI x6 + 1 = nI (x6 + 1) from qI_add x6 1, Nat.mul_comm 8 v]
      · rw [if_neg c1, if_neg c1, if_pos (by decide)]
    rw [hst]
    unfold oc
    by_cases c1 : dv (lk c Sc i) < 8
    · have hic : i < c := by
        by_cases h2 : i < c
        · exact h2
        · rw [dv_out (by omega)] at c1; omega
      rw [if_pos c1, if_pos c1]
      exact ih k (i + 1) _ (x6 + 1) (by omega) (by omega) (by omega) (by omega)
    · rw [if_neg c1, if_neg c1]
theorem e_one {i : Nat} {q : Int32} (hn : 100000 ≤ n) (hS : See p c len Sc Ms) (hp : p ≤ i) (hic : i ≤ c) (hR : ∀ j, j < c → Sc j < 65536) (hq : lk c Sc i ≠ q) (hq0 : 0 ≤ q) :
    (∃ (j v : Nat), i < j ∧ j ≤ c ∧ v < 65536 ∧ f_X3_behindOne n (nI i) Q_character (nI c) S_cutShort Sc = some (nI j, nI v) ∧ f_X11_character n q M_came M_size (nI len) (nI i) M_laid M_tokens M_looked M_thrown M_wrong M_kind M_value M_good Ms = some (nI v, nI j)) ∨
    (∃ (w a : Int32), f_X3_behindOne n (nI i) Q_character (nI c) S_cutShort Sc = some (-1, w) ∧ f_X11_character n q M_came M_size (nI len) (nI i) M_laid M_tokens M_looked M_thrown M_wrong M_kind M_value M_good Ms = some (-1, a)) := by
  have hc := hS.1
  have hl := hS.2.1
  have hcl := hS.2.2.1
  have se : ∀ (j : Nat) (k : Int32), p ≤ j → 0 ≤ k → (lk len Ms j = k) = (lk c Sc j = k) := fun j k hj hk => hS.eq hj hk
  unfold f_X3_behindOne f_X3_behindOne_0 f_X11_character f_X11_character_0
  rw [e_look hc (by omega), bd_s, e_see (by omega) (by omega), bd_s, e_isLineEnd, bd_s]
  by_cases c1 : lk c Sc i = -1
  · right
    have hz := hS.2.2.2.1 i hp
    rw [c1] at hz
    have hneg : lk len Ms i < 0 := by
      unfold nz at hz
      split at hz
      · assumption
      · rw [hz] at *; decide
    rw [if_pos c1, if_pos hneg]
    exact ⟨_, _, rfl, rfl⟩
  · obtain ⟨h0, hlt⟩ := pos_see hS hp c1
    have hM : lk len Ms i = lk c Sc i := by rw [lk_in (show i < len by omega), lk_in hlt]; exact hS.2.2.2.2 i hp hlt
    rw [if_neg c1, hM, if_neg (show ¬ lk c Sc i < 0 by grind)]
    by_cases c2 : lk c Sc i = 10 ∨ lk c Sc i = 13
    · right
      rw [if_pos c2, if_neg (by decide)]
      rcases c2 with h | h
      · rw [if_pos h]; exact ⟨_, _, rfl, rfl⟩
      · rw [if_pos h, ite_self]; exact ⟨_, _, rfl, rfl⟩
    · rw [if_neg c2, if_pos rfl, if_neg (fun h => c2 (Or.inl h)), if_neg (fun h => c2 (Or.inr h)), if_neg hq]
      simp only [lt_e]
      rw [show nI i + 1 = nI (i + 1) from qI_add i 1]
      by_cases c3 : lk c Sc i = 92
      · rw [if_pos c3, if_pos c3]
        -- an escape
        unfold f_X3_behindEscape f_X3_behindEscape_0 f_X3_behindOctal f_X3_behindOctal_0 f_X3_behindOctal_18
        rw [e_look hc (by omega), bd_s, e_digitOf, bd_s, bd_s, e_see (by omega) (by omega), bd_s, show nI (i + 1) + 1 = nI (i + 2) from qI_add (i + 1) 1]
        simp only [lt_e]
        have hd16 := dv_le (lk c Sc (i + 1))
        have q8 : ((8 : Int32) ≤ nI (dv (lk c Sc (i + 1)))) = (8 ≤ dv (lk c Sc (i + 1))) := qI_lit_le (by omega) (by decide)
        simp only [se (i + 1) 98 (by omega) (by decide), se (i + 1) 116 (by omega) (by decide), se (i + 1) 110 (by omega) (by decide), se (i + 1) 102 (by omega) (by decide), se (i + 1) 114 (by omega) (by decide), se (i + 1) 34 (by omega) (by decide), se (i + 1) 39 (by omega) (by decide), se (i + 1) 92 (by omega) (by decide)]
        by_cases c4 : dv (lk c Sc (i + 1)) < 8
        · -- octal
          left
          have hi1 : i + 1 < c := by
            by_cases h2 : i + 1 < c
            · exact h2
            · rw [dv_out (by omega)] at c4; omega
          have h48 : 48 ≤ lk c Sc (i + 1) ∧ lk c Sc (i + 1) ≤ 57 := by
            have := dv_10 (lk c Sc (i + 1))
            have h10 : dv (lk c Sc (i + 1)) < 10 := by omega
            rw [this] at h10; exact h10
          have hne : ∀ k : Int32, ¬ (48 ≤ k ∧ k ≤ 57) → ¬ lk c Sc (i + 1) = k := fun k hk h => hk (h ▸ h48)
          rw [if_neg (by rw [q8]; omega)]
          rw [if_neg (hne 98 (by decide)), if_neg (hne 116 (by decide)), if_neg (hne 110 (by decide)), if_neg (hne 102 (by decide)), if_neg (hne 114 (by decide)), if_neg (hne 34 (by decide)), if_neg (hne 39 (by decide)), if_neg (hne 92 (by decide))]
          rw [show (8 : Int32) = nI 8 from rfl, e_digit _ (by decide), bd_s, hS.dv (by omega), if_pos c4]
          have hda := (dv_a h48.1 h48.2).1
          have h51 : ((51 : Int32) < lk c Sc (i + 1)) = (4 ≤ dv (lk c Sc (i + 1))) := by
            have : lk c Sc (i + 1) = nI (dv (lk c Sc (i + 1)) + 48) := by
              rw [← qI_add, ← hda]; show _ = _ - 48 + 48; grind
            rw [this, show (51 : Int32) = nI 51 from rfl, qI_lt (by omega) (by omega)]
            have hr : dv (nI (dv (lk c Sc (i + 1)) + 48)) = dv (lk c Sc (i + 1)) := by rw [← this]
            rw [hr]; apply propext; omega
          have q4 : ((4 : Int32) ≤ nI (dv (lk c Sc (i + 1)))) = (4 ≤ dv (lk c Sc (i + 1))) := qI_lit_le (by omega) (by decide)
          unfold f_X11_character_153
          rw [if_pos (show (0 : Int32) ≤ nI (dv (lk c Sc (i + 1))) by rw [show (0 : Int32) = nI 0 from rfl, qI_le (by omega) (by omega)]; omega)]
          have fin : ∀ m : Nat, m ≤ 2 → ∃ (j v : Nat), i < j ∧ j ≤ c ∧ v < 65536 ∧ f_X3_behindOctal_26 n (nI c) S_cutShort Sc n 0 (nI (i + 1)) (nI (m + 1)) (nI (i + 1)) = some (nI j, nI v) ∧ f_X11_character_165 n M_came M_size (nI len) M_laid M_tokens M_looked M_thrown M_wrong M_kind M_value M_good Ms n (nI (i + 2)) (nI (dv (lk c Sc (i + 1)))) (nI m) 0 = some (nI v, nI j) := by
            intro m hm
            have o1 := e_oct_own (n := n) (S_cutShort := S_cutShort) (Sc := Sc) hc (x := i + 1) (mx := m + 1) (by omega) (by omega) (m + 1) n (i + 1) 0 (by omega) (by omega) (by omega)
            have o2 := e_oct_ref (n := n) (M_came := M_came) (M_size := M_size) (M_laid := M_laid) (M_tokens := M_tokens) (M_looked := M_looked) (M_thrown := M_thrown) (M_wrong := M_wrong) (M_kind := M_kind) (M_value := M_value) (M_good := M_good) hS (t0 := m) (by omega) m n (i + 2) (dv (lk c Sc (i + 1))) 0 (by omega) (by omega) (by omega) (by omega)
            have hoc : oc (lk c Sc) (m + 1) (i + 1) 0 = oc (lk c Sc) m (i + 2) (dv (lk c Sc (i + 1))) := by
              show (if dv (lk c Sc (i + 1)) < 8 then oc (lk c Sc) m (i + 1 + 1) (0 * 8 + dv (lk c Sc (i + 1))) else _) = _
              rw [if_pos c4, Nat.zero_mul, Nat.zero_add]
            rw [hoc] at o1
            have hb := oc_b (c := c) (Sc := Sc) m (i + 2) (dv (lk c Sc (i + 1))) (by omega)
            refine ⟨_, _, by omega, hb.2.1, ?_, o1, o2⟩
            have h64 : 8 ^ m ≤ 8 ^ 2 := Nat.pow_le_pow_right (by decide) hm
            have : (dv (lk c Sc (i + 1)) + 1) * 8 ^ m ≤ 8 * 8 ^ 2 := Nat.mul_le_mul (by omega) h64
            omega
          by_cases c5 : 4 ≤ dv (lk c Sc (i + 1))
          · obtain ⟨j, v, f1, f2, f3, f4, f5⟩ := fin 1 (by omega)
            refine ⟨j, v, f1, f2, f3, ?_, ?_⟩
            · rw [if_pos (by rw [h51]; exact c5)]
              rw [show f_X3_behindOctal_26 n (nI c) S_cutShort Sc n 0 (nI (i + 1)) 2 (nI (i + 1)) = _ from f4, bd_s, bd_s]
            · rw [if_pos (by rw [q4]; exact c5)]; exact f5
          · obtain ⟨j, v, f1, f2, f3, f4, f5⟩ := fin 2 (by omega)
            refine ⟨j, v, f1, f2, f3, ?_, ?_⟩
            · rw [if_neg (by rw [h51]; exact c5)]
              rw [show f_X3_behindOctal_26 n (nI c) S_cutShort Sc n 0 (nI (i + 1)) 3 (nI (i + 1)) = _ from f4, bd_s, bd_s]
            · rw [if_neg (by rw [q4]; exact c5), if_pos (show (0 : Int32) ≤ nI (dv (lk c Sc (i + 1))) by rw [show (0 : Int32) = nI 0 from rfl, qI_le (by omega) (by omega)]; omega)]; exact f5
        · rw [if_pos (by rw [q8]; omega)]
          unfold f_X3_escaped f_X3_escaped_0
          have hb : lk c Sc (i + 1) = 98 ∨ lk c Sc (i + 1) = 116 ∨ lk c Sc (i + 1) = 110 ∨ lk c Sc (i + 1) = 102 ∨ lk c Sc (i + 1) = 114 ∨ lk c Sc (i + 1) = 34 ∨ lk c Sc (i + 1) = 39 ∨ lk c Sc (i + 1) = 92 ∨ (lk c Sc (i + 1) ≠ 98 ∧ lk c Sc (i + 1) ≠ 116 ∧ lk c Sc (i + 1) ≠ 110 ∧ lk c Sc (i + 1) ≠ 102 ∧ lk c Sc (i + 1) ≠ 114 ∧ lk c Sc (i + 1) ≠ 34 ∧ lk c Sc (i + 1) ≠ 39 ∧ lk c Sc (i + 1) ≠ 92) := by
            by_cases h1 : lk c Sc (i + 1) = 98 <;> by_cases h2 : lk c Sc (i + 1) = 116 <;> by_cases h3 : lk c Sc (i + 1) = 110 <;> by_cases h4 : lk c Sc (i + 1) = 102 <;> by_cases h5 : lk c Sc (i + 1) = 114 <;> by_cases h6 : lk c Sc (i + 1) = 34 <;> by_cases h7 : lk c Sc (i + 1) = 39 <;> by_cases h8 : lk c Sc (i + 1) = 92 <;> simp_all
          have hsee : ∀ k : Int32, 0 ≤ k → lk c Sc (i + 1) = k → lk len Ms (i + 1) = k ∧ i + 1 < c := fun k hk h => ⟨by rw [se _ _ (by omega) hk]; exact h, pos_of h hk⟩
          rcases hb with h | h | h | h | h | h | h | h | h
          · left
            obtain ⟨g1, g2⟩ := hsee _ (by decide) h
            rw [h]
            exact ⟨i + 2, 8, by omega, by omega, by decide, rfl, rfl⟩
          · left
            obtain ⟨g1, g2⟩ := hsee _ (by decide) h
            rw [h]
            exact ⟨i + 2, 9, by omega, by omega, by decide, rfl, rfl⟩
          · left
            obtain ⟨g1, g2⟩ := hsee _ (by decide) h
            rw [h]
            exact ⟨i + 2, 10, by omega, by omega, by decide, rfl, rfl⟩
          · left
            obtain ⟨g1, g2⟩ := hsee _ (by decide) h
            rw [h]
            exact ⟨i + 2, 12, by omega, by omega, by decide, rfl, rfl⟩
          · left
            obtain ⟨g1, g2⟩ := hsee _ (by decide) h
            rw [h]
            exact ⟨i + 2, 13, by omega, by omega, by decide, rfl, rfl⟩
          · left
            obtain ⟨g1, g2⟩ := hsee _ (by decide) h
            rw [h, g1]
            exact ⟨i + 2, 34, by omega, by omega, by decide, rfl, rfl⟩
          · left
            obtain ⟨g1, g2⟩ := hsee _ (by decide) h
            rw [h, g1]
            exact ⟨i + 2, 39, by omega, by omega, by decide, rfl, rfl⟩
          · left
            obtain ⟨g1, g2⟩ := hsee _ (by decide) h
            rw [h, g1]
            exact ⟨i + 2, 92, by omega, by omega, by decide, rfl, rfl⟩
          · right
            obtain ⟨h1, h2, h3, h4, h5, h6, h7, h8⟩ := h
            simp only [if_neg h1, if_neg h2, if_neg h3, if_neg h4, if_neg h5, if_neg h6, if_neg h7, if_neg h8, bd_s]
            rw [show (8 : Int32) = nI 8 from rfl, e_digit _ (by decide), bd_s, hS.dv (by omega), if_neg c4]
            exact ⟨_, _, rfl, rfl⟩
      · left
        rw [if_neg c3, if_neg c3]
        obtain ⟨a, ha, hv⟩ := qI_of h0
        have hr := hR i hlt
        rw [← lk_in (S := Sc) hlt, hv, show (65536 : Int32) = nI 65536 from rfl, qI_lt ha (by decide)] at hr
        exact ⟨i + 1, a, by omega, by omega, hr, by rw [hv], by rw [hv]⟩
end
