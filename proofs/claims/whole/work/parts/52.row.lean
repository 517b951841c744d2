/-! PURE 52: the reference's own text of a number: rows of digits. -/
def l0 (c : Nat) (S : Nat → Int32) (i : Nat) : Int32 := if i < c then S i else 0
def hb (h : Int32) : Nat := if h = 0 then 10 else 16
/-- how many digits v has -/
def Dn (b v d : Nat) : Prop := v < b ^ d ∧ (0 < v → 0 < d ∧ b ^ (d - 1) ≤ v) ∧ (v = 0 → d = 0)
theorem Dn.step {b v d x : Nat} (hb : 2 ≤ b) (h : Dn b v d) (hx : x < b) : Dn b (v * b + x) (if v * b + x = 0 then d else d + 1) := by
  obtain ⟨h1, h2, h3⟩ := h
  have hlt : v * b + x < b ^ (d + 1) := by
    have : (v + 1) * b ≤ b ^ d * b := Nat.mul_le_mul_right _ h1
    rw [Nat.pow_succ]
    rw [Nat.add_mul, Nat.one_mul] at this
    omega
  by_cases hz : v * b + x = 0
  · rw [if_pos hz, hz]
    have hv : v = 0 := by
      by_cases hv : v = 0
      · exact hv
      · have : 1 * b ≤ v * b := Nat.mul_le_mul_right _ (by omega)
        omega
    have := h3 hv
    subst this
    exact ⟨by simp, fun h => absurd h (by omega), fun _ => rfl⟩
  · rw [if_neg hz]
    refine ⟨hlt, fun _ => ⟨by omega, ?_⟩, fun h => absurd h hz⟩
    rw [Nat.add_sub_cancel]
    by_cases hv : v = 0
    · rw [h3 hv]; simp; omega
    · obtain ⟨g1, g2⟩ := h2 (by omega)
      have : b ^ (d - 1) * b ≤ v * b := Nat.mul_le_mul_right _ g2
      rw [← Nat.pow_succ, show (d - 1).succ = d from by omega] at this
      omega
section
variable {V_laid V_gone V_thrown V_were V_none V_beyond V_aMany V_bMany V_fiveMany V_leftMany V_rightMany V_partMany V_twos V_at V_digits V_power V_good : Int32} {Vt Va : Nat → Int32}
theorem e_vlook {n len i : Nat} (hl : len ≤ 1200) (hi : i < 2147483648) : f_X10_look n (nI len) V_laid V_gone V_thrown V_were V_none V_beyond V_aMany V_bMany V_fiveMany V_leftMany V_rightMany V_partMany V_twos (nI i) V_digits V_power V_good Vt = some (l0 len Vt i) := by
  unfold f_X10_look f_X10_look_0 l0
  by_cases h : i < len
  · simp (disch := omega) [gu_t, bd_s, lt_e, qI_add, qI_add_lit, qI_lit_add, qI_lt, qI_le, qI_eq, qI_lt_lit, qI_lit_lt, qI_le_lit, qI_lit_le, qI_eq_lit, qI_lit_eq, qI_ne_neg1, gd_nI, gd_lit, qI_lit_toNat, qI_toNat, h, show ¬ len ≤ i from by omega]
  · simp (disch := omega) [gu_t, bd_s, lt_e, qI_add, qI_add_lit, qI_lit_add, qI_lt, qI_le, qI_eq, qI_lt_lit, qI_lit_lt, qI_le_lit, qI_lit_le, qI_eq_lit, qI_lit_eq, qI_ne_neg1, gd_nI, gd_lit, qI_lit_toNat, qI_toNat, h, show len ≤ i from by omega]
theorem e_in {n : Nat} (x a b : Int32) : f_X10_in n x a b = some (if a ≤ x ∧ x ≤ b then 1 else 0) := by
  unfold f_X10_in f_X10_in_0
  by_cases h1 : x < a
  · rw [if_pos h1, if_neg (by lia)]
  · rw [if_neg h1]
    by_cases h2 : b < x
    · rw [if_pos h2, if_neg (by lia)]
    · rw [if_neg h2, if_pos (by constructor <;> lia)]
theorem e_vdigit {n : Nat} (c h : Int32) : f_X10_digit n c h = some (if dv c < hb h then nI (dv c) else -1) := by
  unfold f_X10_digit f_X10_digit_0 f_X10_digit_39 hb
  simp only [e_in, bd_s]
  by_cases h1 : 48 ≤ c ∧ c ≤ 57
  · obtain ⟨e1, e2⟩ := dv_a h1.1 h1.2
    rw [if_pos h1, if_neg (by decide), e1]
    by_cases hh : h = 0
    · rw [if_pos hh, if_pos e2]
    · rw [if_neg hh, if_pos (by omega)]
  · rw [if_neg h1, if_pos rfl]
    by_cases h2 : 97 ≤ c ∧ c ≤ 102
    · obtain ⟨e1, e2, e3⟩ := dv_b h2.1 h2.2
      by_cases hh : h = 0
      · rw [if_pos hh, if_pos hh, if_pos hh, if_neg (by omega)]
      · rw [if_neg hh, if_pos h2, if_neg (by decide), if_neg hh, e1, if_pos e3]
    · by_cases h3 : 65 ≤ c ∧ c ≤ 70
      · obtain ⟨e1, e2, e3⟩ := dv_c h3.1 h3.2
        by_cases hh : h = 0
        · rw [if_pos hh, if_pos hh, if_pos hh, if_neg (by omega)]
        · rw [if_neg hh, if_neg h2, if_pos rfl, if_neg hh, if_pos h3, if_neg (by decide), if_neg hh, e1, if_pos e3]
      · have e1 := dv_d h1 h2 h3
        by_cases hh : h = 0
        · rw [if_pos hh, if_pos hh, if_pos hh, if_neg (by omega)]
        · rw [if_neg hh, if_neg h2, if_pos rfl, if_neg hh, if_neg h3, if_pos rfl, if_neg hh, if_neg (by omega)]
theorem hb_c (h : Int32) : 2 ≤ hb h ∧ hb h ≤ 16 := by unfold hb; split <;> omega
theorem e_row_loop {n len r : Nat} {hx : Int32} (hn : 100000 ≤ n) (hl : len ≤ 1200) (hrl : r ≤ len) (hstop : ¬ dv (l0 len Vt r) < hb hx) (hst2 : l0 len Vt r ≠ 95) : ∀ (m k i v d cnt : Nat) (a last : Int32) (Va : Nat → Int32), i + m = r → m < k → v < 16 ^ i → Rg a Va v → Dn (hb hx) v d → d ≤ i → cnt ≤ i → (∀ j, i ≤ j → j < r → dv (l0 len Vt j) < hb hx ∨ l0 len Vt j = 95) → (cnt = 0 → m = 0 ∨ dv (l0 len Vt i) < hb hx) → (0 < m → dv (l0 len Vt (r - 1)) < hb hx) → (m = 0 → cnt = 0 ∨ last = 1) →
    ∃ a' d' Va', f_X10_row_4 n (nI len) V_laid V_gone V_thrown V_were V_none V_beyond V_bMany V_fiveMany V_leftMany V_rightMany V_partMany V_twos V_power Vt k a (nI i) (nI d) V_good Va hx (nI cnt) last = some (nI (cnt + cn (l0 len Vt) m i), a', nI r, nI d', V_good, Va') ∧ Rg a' Va' (sm (l0 len Vt) (hb hx) m i v) ∧ Dn (hb hx) (sm (l0 len Vt) (hb hx) m i v) d' ∧ d' ≤ r := by
  obtain ⟨hb2, hb16⟩ := hb_c hx
  intro m
  induction m with
  | zero =>
    intro k i v d cnt a last Va hm hk hv hR hD hdi hci hseg hf hlast hl0
    obtain ⟨k, rfl⟩ : ∃ k', k = k' + 1 := ⟨k - 1, by omega⟩
    have hir : i = r := by omega
    subst hir
    refine ⟨a, d, Va, ?_, hR, hD, hdi⟩
    unfold f_X10_row_4 fb_X10_row_4 f_X10_row_124
    rw [e_vlook hl (by omega)]
    simp only [bd_s]
    rw [e_vdigit, if_neg hstop]
    simp only [bd_s]
    rw [if_neg (by decide)]
    simp (disch := omega) only [gu_t, bd_s, lt_e, qI_add, qI_add_lit, qI_lit_add, qI_lt, qI_le, qI_eq, qI_lt_lit, qI_lit_lt, qI_le_lit, qI_lit_le, qI_eq_lit, qI_lit_eq, qI_ne_neg1, gd_nI, gd_lit, qI_lit_toNat, qI_toNat, hst2, if_false]
    rcases hl0 rfl with h | h
    · subst h; simp [cn]
    · rw [h]
      by_cases h0 : cnt ≤ 0
      · rw [if_pos h0, if_pos h0]; rfl
      · rw [if_neg h0, if_neg h0, if_neg (by decide)]; rfl
  | succ m ih =>
    intro k i v d cnt a last Va hm hk hv hR hD hdi hci hseg hf hlast hl0
    obtain ⟨k, rfl⟩ : ∃ k', k = k' + 1 := ⟨k - 1, by omega⟩
    have hv2 : v < 65536 ^ 300 := by
      have p : (16 : Nat) ^ i ≤ 16 ^ 1200 := Nat.pow_le_pow_right (by omega) (by omega)
      have p2 : (16 : Nat) ^ 1200 = 65536 ^ 300 := by rw [show (65536 : Nat) = 16 ^ 4 from rfl, ← Nat.pow_mul]
      omega
    unfold f_X10_row_4 fb_X10_row_4 f_X10_row_28 f_X10_row_42 f_X10_row_77 f_X10_row_91 f_X10_row_111
    simp only [e_vlook hl (show i < 2147483648 by omega), bd_s, e_vdigit]
    have hsm : sm (l0 len Vt) (hb hx) (m + 1) i v = sm (l0 len Vt) (hb hx) m (i + 1) (if l0 len Vt i = 46 ∨ l0 len Vt i = 95 then v else v * hb hx + dv (l0 len Vt i)) := rfl
    have hcn : cn (l0 len Vt) (m + 1) i = (if l0 len Vt i = 46 ∨ l0 len Vt i = 95 then 0 else 1) + cn (l0 len Vt) m (i + 1) := rfl
    rw [hsm, hcn]
    have hseg2 : ∀ j, i + 1 ≤ j → j < r → dv (l0 len Vt j) < hb hx ∨ l0 len Vt j = 95 := fun j a b => hseg j (by omega) b
    have hpow : 16 ^ (i + 1) = 16 ^ i * 16 := Nat.pow_succ ..
    by_cases c1 : dv (l0 len Vt i) < hb hx
    · have hno : ¬ (l0 len Vt i = 46 ∨ l0 len Vt i = 95) := by
        intro h
        have : dv (l0 len Vt i) = 16 := by rcases h with h | h <;> rw [h] <;> decide
        omega
      have h95 : ¬ l0 len Vt i = 95 := fun h => hno (Or.inr h)
      rw [if_neg hno, if_neg hno]
      have ha510 : ¬ (510 : Int32) ≤ a := by
        obtain ⟨ka, rfl, hR2⟩ := hR
        have hka : ka ≤ 300 := vl_len (by omega) hv2 hR2.2.2
        rw [qI_lit_le (by omega) (by decide)]; omega
      simp only [c1, if_true, h95, if_false, ha510, show (0 : Int32) ≤ nI (dv (l0 len Vt i)) from by rw [qI_lit_le (by omega) (by decide)]; exact Nat.zero_le _, show ¬ (1 : Int32) = 0 from by decide]
      have hv8 : v < 2 ^ 8000 := by
        rw [show (65536 : Nat) = 2 ^ 16 from rfl, ← Nat.pow_mul] at hv2
        exact Nat.lt_of_lt_of_le hv2 (Nat.pow_le_pow_right (by omega) (by omega))
      obtain ⟨a1, A1, g1, g2⟩ := e_grow (n := n) (f := hb hx) (s := dv (l0 len Vt i)) (by omega) hR hv8 (by omega) (by omega)
      have hbase : (if hx = 0 then f_X10_grow n a 10 (nI (dv (l0 len Vt i))) Va else f_X10_grow n a 16 (nI (dv (l0 len Vt i))) Va) = some (a1, A1) := by
        unfold hb at g1
        by_cases hh : hx = 0
        · rw [if_pos hh] at g1 ⊢; exact g1
        · rw [if_neg hh] at g1 ⊢; exact g1
      have hpull : ∀ (F : Option (Int32 × (Nat → Int32)) → Option (Int32 × Int32 × Int32 × Int32 × Int32 × (Nat → Int32))), (if hx = 0 then F (f_X10_grow n a 10 (nI (dv (l0 len Vt i))) Va) else F (f_X10_grow n a 16 (nI (dv (l0 len Vt i))) Va)) = F (some (a1, A1)) := by
        intro F
        rw [← hbase]
        by_cases hh : hx = 0
        · rw [if_pos hh, if_pos hh]
        · rw [if_neg hh, if_neg hh]
      rw [hpull (fun o => bd o _)]
      simp only [bd_s, lt_e]
      have hDs := hD.step hb2 c1
      have hnew : v * hb hx + dv (l0 len Vt i) < 16 ^ (i + 1) := by
        have : (v + 1) * hb hx ≤ 16 ^ i * 16 := Nat.mul_le_mul hv hb16
        rw [Nat.add_mul, Nat.one_mul] at this
        omega
      have ha1 : (a1 ≤ 0) = (v * hb hx + dv (l0 len Vt i) = 0) := by
        obtain ⟨ka, rfl, hR2⟩ := g2
        have hka : ka ≤ 1200 := by
          apply vl_len (B := 65536) (by omega) (v := v * hb hx + dv (l0 len Vt i)) _ hR2.2.2
          have : (16 : Nat) ^ (i + 1) ≤ 65536 ^ 1200 := by
            rw [show (65536 : Nat) = 16 ^ 4 from rfl, ← Nat.pow_mul]; exact Nat.pow_le_pow_right (by omega) (by omega)
          omega
        rw [qI_le_lit (by omega) (by decide), ← Row.zero (by omega) hR2]
        apply propext
        constructor
        · intro h; exact Nat.le_zero.mp h
        · intro h; rw [h]; exact Nat.le_refl _
      simp only [ha1]
      rw [show nI cnt + 1 = nI (cnt + 1) from qI_add cnt 1, show nI i + 1 = nI (i + 1) from qI_add i 1, show nI d + 1 = nI (d + 1) from qI_add d 1]
      have hl1 : m = 0 → cnt + 1 = 0 ∨ (1 : Int32) = 1 := fun _ => Or.inr rfl
      have hla : 0 < m → dv (l0 len Vt (r - 1)) < hb hx := fun _ => hlast (by omega)
      by_cases hz : v * hb hx + dv (l0 len Vt i) = 0
      · rw [if_pos hz] at hDs ⊢
        obtain ⟨a', d', Va', q1, q2, q3, q4⟩ := ih k (i + 1) (v * hb hx + dv (l0 len Vt i)) d (cnt + 1) a1 1 A1 (by omega) (by omega) hnew g2 hDs (by omega) (by omega) hseg2 (fun h => absurd h (by omega)) hla hl1
        exact ⟨a', d', Va', by rw [q1, Nat.add_assoc], q2, q3, q4⟩
      · rw [if_neg hz] at hDs ⊢
        obtain ⟨a', d', Va', q1, q2, q3, q4⟩ := ih k (i + 1) (v * hb hx + dv (l0 len Vt i)) (d + 1) (cnt + 1) a1 1 A1 (by omega) (by omega) hnew g2 hDs (by omega) (by omega) hseg2 (fun h => absurd h (by omega)) hla hl1
        exact ⟨a', d', Va', by rw [q1, Nat.add_assoc], q2, q3, q4⟩
    · have h95 : l0 len Vt i = 95 := by
        rcases hseg i (Nat.le_refl _) (by omega) with h | h
        · exact absurd h c1
        · exact h
      have hyes : l0 len Vt i = 46 ∨ l0 len Vt i = 95 := Or.inr h95
      rw [if_pos hyes, if_pos hyes]
      have hcnt : cnt ≠ 0 := by
        intro h0
        rcases hf h0 with h | h
        · omega
        · exact c1 h
      have hc0 : ¬ nI cnt ≤ 0 := by rw [qI_le_lit (by omega) (by decide)]; omega
      simp only [c1, if_false, h95, if_true, hc0, show ¬ (0 : Int32) ≤ -1 from by decide, lt_e]
      rw [show nI i + 1 = nI (i + 1) from qI_add i 1]
      have hm1 : 0 < m := by
        apply Nat.pos_of_ne_zero
        intro h0
        have := hlast (by omega)
        rw [show r - 1 = i from by omega] at this
        exact c1 this
      obtain ⟨a', d', Va', q1, q2, q3, q4⟩ := ih k (i + 1) v d cnt a 0 Va (by omega) (by omega) (by omega) hR hD (by omega) (by omega) hseg2 (fun h => absurd h hcnt) (fun _ => hlast (by omega)) (fun h => absurd h (by omega))
      exact ⟨a', d', Va', by rw [q1, Nat.zero_add]; split <;> rfl, q2, q3, q4⟩
theorem e_row {n len i r v d : Nat} {hx a : Int32} (hn : 100000 ≤ n) (hl : len ≤ 1200) (hrl : r ≤ len) (hir : i ≤ r) (hstop : ¬ dv (l0 len Vt r) < hb hx) (hst2 : i < r → l0 len Vt r ≠ 95) (hv : v < 16 ^ i) (hR : Rg a Va v) (hD : Dn (hb hx) v d) (hdi : d ≤ i) (hseg : i < r → Seg (l0 len Vt) (hb hx) i r) :
    ∃ a' d' Va', f_X10_row n hx (nI len) V_laid V_gone V_thrown V_were V_none V_beyond a V_bMany V_fiveMany V_leftMany V_rightMany V_partMany V_twos (nI i) (nI d) V_power V_good Vt Va = some (nI (cn (l0 len Vt) (r - i) i), a', nI r, nI d', V_good, Va') ∧ Rg a' Va' (sm (l0 len Vt) (hb hx) (r - i) i v) ∧ Dn (hb hx) (sm (l0 len Vt) (hb hx) (r - i) i v) d' ∧ d' ≤ r := by
  unfold f_X10_row f_X10_row_0
  by_cases h : i < r
  · obtain ⟨s1, s2, s3, s4⟩ := hseg h
    obtain ⟨a', d', Va', q1, q2, q3, q4⟩ := e_row_loop (n := n) (V_laid := V_laid) (V_gone := V_gone) (V_thrown := V_thrown) (V_were := V_were) (V_none := V_none) (V_beyond := V_beyond) (V_bMany := V_bMany) (V_fiveMany := V_fiveMany) (V_leftMany := V_leftMany) (V_rightMany := V_rightMany) (V_partMany := V_partMany) (V_twos := V_twos) (V_power := V_power) (V_good := V_good) hn hl hrl hstop (hst2 h) (r - i) n i v d 0 a 0 Va (by omega) (by omega) hv hR hD hdi (by omega) s2 (fun _ => Or.inr s3) (fun _ => s4) (fun h0 => absurd h0 (by omega))
    exact ⟨a', d', Va', by rw [Nat.zero_add] at q1; exact q1, q2, q3, q4⟩
  · have hir2 : i = r := by omega
    subst hir2
    rw [Nat.sub_self]
    refine ⟨a, d, Va, ?_, hR, hD, hdi⟩
    obtain ⟨n', hn'⟩ : ∃ n', n = n' + 1 := ⟨n - 1, by omega⟩
    rw [show f_X10_row_4 n (nI len) V_laid V_gone V_thrown V_were V_none V_beyond V_bMany V_fiveMany V_leftMany V_rightMany V_partMany V_twos V_power Vt n a (nI i) (nI d) V_good Va hx 0 0 = f_X10_row_4 n (nI len) V_laid V_gone V_thrown V_were V_none V_beyond V_bMany V_fiveMany V_leftMany V_rightMany V_partMany V_twos V_power Vt (n' + 1) a (nI i) (nI d) V_good Va hx 0 0 from by rw [← hn']]
    unfold f_X10_row_4 fb_X10_row_4 f_X10_row_124
    rw [e_vlook hl (by omega)]
    simp only [bd_s]
    rw [e_vdigit, if_neg hstop]
    simp only [bd_s]
    rw [if_neg (by decide), if_pos (by decide), if_pos (by decide)]
    rfl
end
