/-! PURE 62: whole numbers, as both sides read them. -/
def wbs (L : Nat → Int32) (fr : Nat) : Nat := if L fr = 48 ∧ (L (fr + 1) = 120 ∨ L (fr + 1) = 88) ∧ dv (L (fr + 2)) < 16 then 16 else if L fr = 48 ∧ (L (fr + 1) = 98 ∨ L (fr + 1) = 66) ∧ dv (L (fr + 2)) < 2 then 2 else if L fr = 48 then 8 else 10
def wfi (L : Nat → Int32) (fr : Nat) : Nat := if wbs L fr = 16 ∨ wbs L fr = 2 then fr + 2 else fr
def wlo (L : Nat → Int32) (e : Nat) : Int32 := if L e = 108 ∨ L e = 76 then 1 else 0
def wbh (L : Nat → Int32) (e : Nat) : Nat := if L e = 108 ∨ L e = 76 then e + 1 else e
def wok (b v : Nat) (lg : Int32) : Prop := if b = 10 then (if lg = 0 then v ≤ 2147483648 else v ≤ 9223372036854775808) else (if lg = 0 then v < 4294967296 else v < 18446744073709551616)
def wvl (v : Nat) (lg : Int32) : Int64 := if lg = 0 then (qL v).toInt32.toInt64 else qL v
theorem wbs_c (L : Nat → Int32) (fr : Nat) : 2 ≤ wbs L fr ∧ wbs L fr ≤ 16 := by unfold wbs; split; omega; split; omega; split <;> omega
theorem sm_ge {L : Nat → Int32} {b : Nat} (hb : 1 ≤ b) : ∀ (m i v : Nat), v ≤ sm L b m i v
  | 0, _, v => Nat.le_refl v
  | m + 1, i, v => by
    have ih := sm_ge (L := L) hb m (i + 1)
    unfold sm
    split
    · exact ih v
    · have h1 : v ≤ v * b := Nat.le_mul_of_pos_right v hb
      exact Nat.le_trans (Nat.le_trans h1 (Nat.le_add_right _ _)) (ih _)
theorem e_chooseBase {n c fr : Nat} {Sc : Nat → Int32} {N_base N_first N_significandEnd N_exponentEnd S_cutShort : Int32} (hc : c ≤ 81920) (hf : fr < c) :
    f_X2_chooseBase n (nI fr) N_base N_first N_significandEnd N_exponentEnd (nI c) S_cutShort Sc = some (nI (wbs (lk c Sc) fr), nI (wfi (lk c Sc) fr)) := by
  unfold f_X2_chooseBase f_X2_chooseBase_0 f_X2_chooseBase_34
  rw [e_hasMark hc (by omega), show nI fr + 2 = nI (fr + 2) from qI_add fr 2, e_look hc (by omega)]
  simp only [bd_s]
  rw [e_digitOf]
  simp (disch := first | omega | exact Nat.lt_of_le_of_lt (dv_le _) (by decide)) only [gu_t, bd_s, lt_e, qI_add, qI_add_lit, qI_lit_add, qI_lt, qI_le, qI_eq, qI_lt_lit, qI_lit_lt, qI_le_lit, qI_lit_le, qI_eq_lit, qI_lit_eq, qI_ne_neg1, gd_nI, gd_lit, qI_lit_toNat, qI_toNat]
  have h35 : ∀ t0 : Int32, t0 = 0 ∨ t0 = 1 → (t0 = 1 ↔ (lk c Sc fr = 48 ∧ (lk c Sc (fr + 1) = 120 ∨ lk c Sc (fr + 1) = 88) ∧ dv (lk c Sc (fr + 2)) < 16)) → f_X2_chooseBase_35 n N_significandEnd N_exponentEnd (nI c) S_cutShort Sc N_base N_first (nI fr) t0 = some (nI (wbs (lk c Sc) fr), nI (wfi (lk c Sc) fr)) := by
    intro t0 ht hx
    unfold f_X2_chooseBase_35 f_X2_chooseBase_69
    rw [e_hasMark hc (by omega), show nI fr + 2 = nI (fr + 2) from qI_add fr 2, e_look hc (by omega)]
    simp only [bd_s]
    rw [e_digitOf]
    simp (disch := first | omega | exact Nat.lt_of_le_of_lt (dv_le _) (by decide)) only [gu_t, bd_s, lt_e, qI_add, qI_add_lit, qI_lit_add, qI_lt, qI_le, qI_eq, qI_lt_lit, qI_lit_lt, qI_le_lit, qI_lit_le, qI_eq_lit, qI_lit_eq, qI_ne_neg1, gd_nI, gd_lit, qI_lit_toNat, qI_toNat]
    have h70 : ∀ t1 : Int32, t1 = 0 ∨ t1 = 1 → (t1 = 1 ↔ (lk c Sc fr = 48 ∧ (lk c Sc (fr + 1) = 98 ∨ lk c Sc (fr + 1) = 66) ∧ dv (lk c Sc (fr + 2)) < 2)) → f_X2_chooseBase_70 n N_significandEnd N_exponentEnd (nI c) S_cutShort Sc N_base N_first (nI fr) t0 t1 = some (nI (wbs (lk c Sc) fr), nI (wfi (lk c Sc) fr)) := by
      intro t1 ht1 hy
      unfold f_X2_chooseBase_70 f_X2_chooseBase_80 f_X2_chooseBase_87 f_X2_chooseBase_128
      rw [e_look hc (by omega), show nI fr + 2 = nI (fr + 2) from qI_add fr 2]
      simp only [bd_s]
      by_cases c1 : t0 = 1
      · have hb : wbs (lk c Sc) fr = 16 := by unfold wbs; rw [if_pos (hx.mp c1)]
        unfold wfi
        rw [hb, if_pos (Or.inl rfl), if_neg (by rw [c1]; decide), if_neg (by rw [c1]; decide)]; rfl
      · have c0 : t0 = 0 := by rcases ht with h | h; exact h; exact absurd h c1
        by_cases c2 : t1 = 1
        · have hb : wbs (lk c Sc) fr = 2 := by unfold wbs; rw [if_neg (fun h => c1 (hx.mpr h)), if_pos (hy.mp c2)]
          unfold wfi
          rw [hb, if_pos (Or.inr rfl), if_pos c0, if_neg (by rw [c2]; decide), if_pos c0, if_neg (by rw [c2]; decide)]; rfl
        · have c3 : t1 = 0 := by rcases ht1 with h | h; exact h; exact absurd h c2
          rw [if_pos c0, if_pos c3, if_pos c0, if_pos c3]
          unfold wfi wbs
          rw [if_neg (fun h => c1 (hx.mpr h)), if_neg (fun h => c2 (hy.mpr h))]
          by_cases c4 : lk c Sc fr = 48
          · rw [if_pos c4, if_pos c4]; rfl
          · rw [if_neg c4, if_neg c4]; rfl
    by_cases c1 : lk c Sc fr = 48 ∧ (lk c Sc (fr + 1) = 98 ∨ lk c Sc (fr + 1) = 66)
    · rw [if_pos c1, if_neg (by decide)]
      by_cases c2 : 2 ≤ dv (lk c Sc (fr + 2))
      · rw [if_pos c2]; exact h70 0 (Or.inl rfl) ⟨fun h => absurd h (by decide), fun h => absurd h.2.2 (by omega)⟩
      · rw [if_neg c2]; exact h70 1 (Or.inr rfl) ⟨fun _ => ⟨c1.1, c1.2, by omega⟩, fun _ => rfl⟩
    · rw [if_neg c1, if_pos rfl]; exact h70 0 (Or.inl rfl) ⟨fun h => absurd h (by decide), fun h => absurd ⟨h.1, h.2.1⟩ c1⟩
  by_cases c1 : lk c Sc fr = 48 ∧ (lk c Sc (fr + 1) = 120 ∨ lk c Sc (fr + 1) = 88)
  · rw [if_pos c1, if_neg (by decide)]
    by_cases c2 : 16 ≤ dv (lk c Sc (fr + 2))
    · rw [if_pos c2]; exact h35 0 (Or.inl rfl) ⟨fun h => absurd h (by decide), fun h => absurd h.2.2 (by omega)⟩
    · rw [if_neg c2]; exact h35 1 (Or.inr rfl) ⟨fun _ => ⟨c1.1, c1.2, by omega⟩, fun _ => rfl⟩
  · rw [if_neg c1, if_pos rfl]; exact h35 0 (Or.inl rfl) ⟨fun h => absurd h (by decide), fun h => absurd ⟨h.1, h.2.1⟩ c1⟩
theorem bl_le {v b k : Nat} (h1 : v < 2 ^ b) (h2 : 0 < v → 0 < b ∧ 2 ^ (b - 1) ≤ v) (h3 : v = 0 → b = 0) : (b ≤ k) = (v < 2 ^ k) := by
  apply propext
  constructor
  · intro h; exact Nat.lt_of_lt_of_le h1 (Nat.pow_le_pow_right (by decide) h)
  · intro h
    by_cases hv : v = 0
    · rw [h3 hv]; exact Nat.zero_le k
    · obtain ⟨p1, p2⟩ := h2 (by omega)
      have h4 : 2 ^ (b - 1) < 2 ^ k := Nat.lt_of_le_of_lt p2 h
      have := (Nat.pow_lt_pow_iff_right (a := 2) (by decide)).mp h4
      omega
theorem e_isAtMost_i {n v : Nat} (hv : v < 4294967296) : f_X2_isAtMostMinimum n (qL v) 0 = some (if v ≤ 2147483648 then 1 else 0) := by
  unfold f_X2_isAtMostMinimum f_X2_isAtMostMinimum_0
  rw [if_pos rfl, show (2147483648 : Int64) = qL 2147483648 from rfl, qL_cmp (by omega) (by omega)]
  by_cases h : v ≤ 2147483648
  · rw [if_pos h, if_neg (show ¬ 2147483648 < v by omega)]; split <;> rfl
  · rw [if_neg h, if_pos (show 2147483648 < v by omega)]; rfl
theorem qL_neg {v : Nat} (h1 : 9223372036854775808 ≤ v) (h2 : v < 18446744073709551616) : (qL v).toInt = (v : Int) - 18446744073709551616 := by
  unfold qL
  rw [Int64.toInt_ofNat']
  show Int.bmod (v : Int) 18446744073709551616 = _
  rw [Int.bmod_def]; omega
theorem e_isAtMost_l {n v : Nat} (hv : v < 18446744073709551616) : f_X2_isAtMostMinimum n (qL v) 1 = some (if v ≤ 9223372036854775808 then 1 else 0) := by
  unfold f_X2_isAtMostMinimum f_X2_isAtMostMinimum_0
  rw [if_neg (by decide)]
  by_cases h : v < 9223372036854775808
  · rw [show (0 : Int64) = qL 0 from rfl, qL_cmp h (by decide), if_pos (show v ≤ 9223372036854775808 by omega), if_pos]
    split; decide; split; decide; omega
  · have hn := qL_neg (Nat.le_of_not_lt h) hv
    have h0 : ¬ 0 ≤ lg_cmp (qL v) 0 := by
      unfold lg_cmp
      have a1 : ¬ (qL v > 0) := by
        rw [gt_iff_lt, Int64.lt_iff_toInt_lt, hn]; show ¬ (0 : Int) < _; omega
      have a2 : ¬ (qL v = 0) := by
        rw [← Int64.toInt_inj, hn]; show ¬ _ = (0 : Int); omega
      rw [if_neg a1, if_neg a2]; decide
    rw [if_neg h0]
    have he : (lg_cmp (qL v) (-9223372036854775808) = 0) = (v ≤ 9223372036854775808) := by
      unfold lg_cmp
      have b0 : (-9223372036854775808 : Int64).toInt = -9223372036854775808 := by decide
      by_cases hv2 : v ≤ 9223372036854775808
      · have a1 : ¬ (qL v > -9223372036854775808) := by
          rw [gt_iff_lt, Int64.lt_iff_toInt_lt, hn, b0]; omega
        have a2 : qL v = -9223372036854775808 := by
          rw [← Int64.toInt_inj, hn, b0]; omega
        rw [if_neg a1, if_pos a2]; simp [hv2]
      · have a1 : qL v > -9223372036854775808 := by
          rw [gt_iff_lt, Int64.lt_iff_toInt_lt, hn, b0]; omega
        rw [if_pos a1]; simp [hv2]
    simp only [he]
    split <;> rfl
theorem wbh_le {c e : Nat} {Sc : Nat → Int32} (he : e ≤ c) : e ≤ wbh (lk c Sc) e ∧ wbh (lk c Sc) e ≤ c ∧ wbh (lk c Sc) e ≤ e + 1 := by
  unfold wbh
  split
  · rename_i h
    have : e < c := by rcases h with h | h; exact pos_of h (by decide); exact pos_of h (by decide)
    omega
  · omega
theorem wlo_c (L : Nat → Int32) (e : Nat) : wlo L e = 0 ∨ wlo L e = 1 := by unfold wlo; split <;> simp
theorem wfi_le {c fr : Nat} {Sc : Nat → Int32} (hf : fr < c) (h10 : dv (lk c Sc fr) < 10) : fr ≤ wfi (lk c Sc) fr ∧ wfi (lk c Sc) fr < c ∧ dv (lk c Sc (wfi (lk c Sc) fr)) < wbs (lk c Sc) fr := by
  have h16 : ∀ i, dv (lk c Sc i) < 16 → i < c := by
    intro i h
    by_cases hi : i < c
    · exact hi
    · rw [dv_out (by omega)] at h; omega
  unfold wfi wbs
  by_cases c1 : lk c Sc fr = 48 ∧ (lk c Sc (fr + 1) = 120 ∨ lk c Sc (fr + 1) = 88) ∧ dv (lk c Sc (fr + 2)) < 16
  · rw [if_pos c1, if_pos (Or.inl rfl)]; exact ⟨by omega, h16 _ c1.2.2, c1.2.2⟩
  · rw [if_neg c1]
    by_cases c2 : lk c Sc fr = 48 ∧ (lk c Sc (fr + 1) = 98 ∨ lk c Sc (fr + 1) = 66) ∧ dv (lk c Sc (fr + 2)) < 2
    · rw [if_pos c2, if_pos (Or.inr rfl)]; exact ⟨by omega, h16 _ (by omega), c2.2.2⟩
    · rw [if_neg c2]
      by_cases c3 : lk c Sc fr = 48
      · rw [if_pos c3, if_neg (by decide)]; refine ⟨by omega, hf, ?_⟩; rw [c3]; decide
      · rw [if_neg c3, if_neg (by decide)]; exact ⟨by omega, hf, h10⟩
theorem e_takeWhole {n c fr : Nat} {Sc : Nat → Int32} {N_base N_first N_significandEnd N_exponentEnd S_cutShort F_kind F_start F_behind : Int32} {F_says : Int64} {u : Int32} {Bl : Nat → Int32} (hn : 100000 ≤ n) (hc : c ≤ 81920) (hf : fr < c) (h10 : dv (lk c Sc fr) < 10) :
    ∃ (g kd : Int32) (sy : Int64) (s b u' : Int32) (Bl' : Nat → Int32) (e : Nat), e = DG (lk c Sc) (wbs (lk c Sc) fr) c (wfi (lk c Sc) fr) ∧ f_X2_takeWhole n (nI fr) N_base N_first N_significandEnd N_exponentEnd (nI c) S_cutShort Sc F_kind F_says F_start F_behind u Bl = some (g, nI (wbs (lk c Sc) fr), nI (wfi (lk c Sc) fr), kd, sy, s, b, u', Bl') ∧ (g = 0 ∨ g = 1) ∧
      (1000 < wbh (lk c Sc) e - fr → g = 0) ∧
      (wbh (lk c Sc) e - fr ≤ 1000 → kd = (if wlo (lk c Sc) e = 0 then 61 else 62) ∧ s = nI fr ∧ b = nI (wbh (lk c Sc) e) ∧ sy = wvl (sm (lk c Sc) (wbs (lk c Sc) fr) (e - wfi (lk c Sc) fr) (wfi (lk c Sc) fr) 0) (wlo (lk c Sc) e) ∧
        (g = 1 ↔ wok (wbs (lk c Sc) fr) (sm (lk c Sc) (wbs (lk c Sc) fr) (e - wfi (lk c Sc) fr) (wfi (lk c Sc) fr) 0) (wlo (lk c Sc) e))) := by
  obtain ⟨w1, w2, w3⟩ := wfi_le hf h10
  obtain ⟨b1, b2⟩ := wbs_c (lk c Sc) fr
  have hch := e_chooseBase (n := n) (Sc := Sc) (N_base := N_base) (N_first := N_first) (N_significandEnd := N_significandEnd) (N_exponentEnd := N_exponentEnd) (S_cutShort := S_cutShort) hc hf
  generalize wbs (lk c Sc) fr = b at *
  generalize wfi (lk c Sc) fr = f0 at *
  have hdg := DG_spec (L := lk c Sc) (b := b) (c := c) (fr := f0)
  have hdg1 : f0 < DG (lk c Sc) b c f0 ∧ DG (lk c Sc) b c f0 ≤ c ∧ Seg (lk c Sc) b f0 (DG (lk c Sc) b c f0) := by
    rcases hdg with h | h
    · exact ⟨h.2.2.1, h.2.2.2.1, h.2.2.2.2⟩
    · rcases h.1 with h | h <;> omega
  have hbd := e_behindDigits (n := n) (Sc := Sc) (N_base := nI b) (N_first := nI f0) (N_significandEnd := N_significandEnd) (N_exponentEnd := N_exponentEnd) (S_cutShort := S_cutShort) hn hc b2 (Nat.le_of_lt w2)
  generalize hee : DG (lk c Sc) b c f0 = e at *
  obtain ⟨d1, d2, d3⟩ := hdg1
  have hwb := wbh_le (Sc := Sc) d2
  unfold f_X2_takeWhole f_X2_takeWhole_0
  rw [hch, bd_s, hbd, bd_s, e_isEither hc (by omega), bd_s, show nI e + 1 = nI (e + 1) from qI_add e 1]
  have core : ∃ (g kd : Int32) (sy : Int64) (s bb u' : Int32) (Bl' : Nat → Int32), f_X2_takeWhole_39 n N_significandEnd N_exponentEnd (nI c) S_cutShort Sc (nI b) (nI f0) F_kind F_says F_start F_behind u Bl (nI fr) (nI e) (wlo (lk c Sc) e) (nI (wbh (lk c Sc) e)) = some (g, nI b, nI f0, kd, sy, s, bb, u', Bl') ∧ (g = 0 ∨ g = 1) ∧
      (1000 < wbh (lk c Sc) e - fr → g = 0) ∧
      (wbh (lk c Sc) e - fr ≤ 1000 → kd = (if wlo (lk c Sc) e = 0 then 61 else 62) ∧ s = nI fr ∧ bb = nI (wbh (lk c Sc) e) ∧ sy = wvl (sm (lk c Sc) b (e - f0) f0 0) (wlo (lk c Sc) e) ∧
        (g = 1 ↔ wok b (sm (lk c Sc) b (e - f0) f0 0) (wlo (lk c Sc) e))) := by
    have hlo := wlo_c (lk c Sc) e
    generalize wlo (lk c Sc) e = lo at *
    generalize wbh (lk c Sc) e = bh at *
    unfold f_X2_takeWhole_39
    rw [qI_sub (show fr ≤ bh by omega)]
    have hle : (nI (bh - fr) ≤ 1000) = (bh - fr ≤ 1000) := qI_le_lit (by omega) (by decide)
    by_cases hl : bh - fr ≤ 1000
    · rw [if_pos (by rw [hle]; exact hl)]
      obtain ⟨u', Bl', s1, s2⟩ := e_sumUp (n := n) (b := b) (c := c) (i := f0) (r := e) (u := u) (Bl := Bl) (N_first := nI f0) (N_significandEnd := N_significandEnd) (N_exponentEnd := N_exponentEnd) (S_cutShort := S_cutShort) (Sc := Sc) hn hc b2 b1 d2 (by omega) (by omega) (fun j h1 h2 => by rcases d3.2.1 j h1 h2 with h | h; exact Or.inl h; exact Or.inr (Or.inl h))
      rw [s1, bd_s]
      simp only [lt_e]
      rw [e_low s2, bd_s]
      generalize sm (lk c Sc) b (e - f0) f0 0 = v at *
      obtain ⟨q, q1, q2, q3, q4, q5⟩ := e_bitLength (n := n) s2
      have f124 : ∀ (kd : Int32) (sy : Int64) (bits : Nat), ((lo = 0 ∧ bits = 32) ∨ (lo = 1 ∧ bits = 64)) → ∃ g : Int32, f_X2_takeWhole_124 n N_significandEnd N_exponentEnd (nI c) S_cutShort Sc (nI b) (nI f0) kd sy (nI fr) (nI bh) u' Bl' lo (qL v) (nI q) (nI bits) = some (g, nI b, nI f0, kd, sy, nI fr, nI bh, u', Bl') ∧ (g = 0 ∨ g = 1) ∧ (g = 1 ↔ wok b v lo) := by
        intro kd sy bits hbits
        have hb64 : bits ≤ 64 := by rcases hbits with h | h <;> omega
        unfold f_X2_takeWhole_124
        have hb10 : (nI b = 10) = (b = 10) := qI_eq_lit (by omega) (by decide)
        have hbl : (nI bits < nI q) = ¬ (v < 2 ^ bits) := by
          rw [qI_lt (by omega) (by omega), ← bl_le (k := bits) q3 q4 q5]; apply propext; omega
        by_cases c1 : v < 2 ^ bits
        · rw [if_neg (by rw [hbl]; exact fun h => h c1)]
          unfold wok
          by_cases c2 : b = 10
          · rw [if_pos (by rw [hb10]; exact c2), if_pos c2]
            rcases hbits with ⟨h1, h2⟩ | ⟨h1, h2⟩
            · rw [h2] at c1
              rw [h1, e_isAtMost_i c1, bd_s, if_pos rfl]
              by_cases c3 : v ≤ 2147483648
              · rw [if_pos c3, if_neg (by decide)]; exact ⟨1, rfl, Or.inr rfl, by simp [c3]⟩
              · rw [if_neg c3, if_pos rfl]; exact ⟨0, rfl, Or.inl rfl, by simp [c3]⟩
            · rw [h2] at c1
              rw [h1, e_isAtMost_l c1, bd_s, if_neg (show ¬ (1 : Int32) = 0 by decide)]
              by_cases c3 : v ≤ 9223372036854775808
              · rw [if_pos c3, if_neg (by decide)]; exact ⟨1, rfl, Or.inr rfl, by simp [c3]⟩
              · rw [if_neg c3, if_pos rfl]; exact ⟨0, rfl, Or.inl rfl, by simp [c3]⟩
          · rw [if_neg (by rw [hb10]; exact c2), if_neg c2]
            refine ⟨1, rfl, Or.inr rfl, fun _ => ?_, fun _ => rfl⟩
            rcases hbits with ⟨h1, h2⟩ | ⟨h1, h2⟩
            · rw [h2] at c1; rw [if_pos h1]; exact c1
            · rw [h2] at c1; rw [if_neg (by rw [h1]; decide)]; exact c1
        · rw [if_pos (by rw [hbl]; exact c1)]
          refine ⟨0, rfl, Or.inl rfl, fun h => absurd h (by decide), fun h => ?_⟩
          exfalso
          apply c1
          unfold wok at h
          rcases hbits with ⟨h1, h2⟩ | ⟨h1, h2⟩
          · rw [h2]; rw [if_pos h1, if_pos h1] at h; show v < 4294967296; split at h <;> omega
          · rw [h2]; have hz : ¬ lo = 0 := by rw [h1]; decide
            rw [if_neg hz, if_neg hz] at h; show v < 18446744073709551616; split at h <;> omega
      have f100 : ∀ (kd : Int32) (sy : Int64), ∃ g : Int32, f_X2_takeWhole_100 n N_significandEnd N_exponentEnd (nI c) S_cutShort Sc (nI b) (nI f0) F_kind F_says F_start F_behind u' Bl' (nI fr) lo (nI bh) (qL v) kd sy = some (g, nI b, nI f0, kd, sy, nI fr, nI bh, u', Bl') ∧ (g = 0 ∨ g = 1) ∧ (g = 1 ↔ wok b v lo) := by
        intro kd sy
        unfold f_X2_takeWhole_100 f_X1_set f_X1_set_0
        rw [bd_s, q1, bd_s]
        rcases hlo with h | h
        · rw [if_pos h]; exact f124 kd sy 32 (Or.inl ⟨h, rfl⟩)
        · rw [if_neg (by rw [h]; decide)]; exact f124 kd sy 64 (Or.inr ⟨h, rfl⟩)
      unfold f_X2_takeWhole_87 wvl
      rcases hlo with h | h
      · rw [if_pos h, if_pos h, if_pos h, if_pos h]
        obtain ⟨g, g1, g2, g3⟩ := f100 61 (qL v).toInt32.toInt64
        exact ⟨g, _, _, _, _, _, _, g1, g2, fun x => absurd x (by omega), fun _ => ⟨rfl, rfl, rfl, rfl, g3⟩⟩
      · have hz : ¬ lo = 0 := by rw [h]; decide
        rw [if_neg hz, if_neg hz, if_neg hz, if_neg hz]
        obtain ⟨g, g1, g2, g3⟩ := f100 62 (qL v)
        exact ⟨g, _, _, _, _, _, _, g1, g2, fun x => absurd x (by omega), fun _ => ⟨rfl, rfl, rfl, rfl, g3⟩⟩
    · rw [if_neg (by rw [hle]; exact hl)]
      exact ⟨0, F_kind, F_says, F_start, F_behind, u, Bl, rfl, Or.inl rfl, fun _ => rfl, fun h => absurd h hl⟩
  obtain ⟨g, kd, sy, s, bb, u', Bl', k1, k2⟩ := core
  refine ⟨g, kd, sy, s, bb, u', Bl', e, rfl, ?_, k2⟩
  rw [← k1]
  unfold wlo wbh
  by_cases c1 : lk c Sc e = 108 ∨ lk c Sc e = 76
  · rw [if_pos c1, if_pos c1, if_neg (by decide)]
  · rw [if_neg c1, if_neg c1, if_pos rfl]
