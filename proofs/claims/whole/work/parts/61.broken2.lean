/-! PURE 61: the own real numbers: taking one. -/
theorem e_bounded {n : Nat} {x : Int32} {P : Int} (h : x.toInt = P) : ∃ y, f_X2_bounded n x = some y ∧ y.toInt = cl P := by
  unfold f_X2_bounded f_X2_bounded_0 cl
  have h309 : (309 : Int32).toInt = 309 := by decide
  have h1400 : (-1400 : Int32).toInt = -1400 := by decide
  refine ⟨_, rfl, ?_⟩
  by_cases c1 : 309 < P
  · have c1' : (309 : Int32) < x := by rw [i32_lt h309 h]; exact c1
    rw [if_pos c1', if_pos c1, if_pos (by decide), if_pos (by decide), h309]
  · have c1' : ¬ (309 : Int32) < x := by rw [i32_lt h309 h]; exact c1
    rw [if_neg c1', if_neg c1]
    by_cases c2 : -1400 < P
    · rw [if_pos (by rw [i32_lt h1400 h]; exact c2), if_pos c2, h]
    · rw [if_neg (by rw [i32_lt h1400 h]; exact c2), if_neg c2, h1400]
theorem lt_p16 {b N : Nat} (hb : b ≤ 16) (h : N < b ^ 1000) : N < 2 ^ 4000 := by
  have h1 := Nat.pow_le_pow_left hb 1000
  have h2 := Nat.pow_mul 2 4 1000
  rw [show (4 * 1000 : Nat) = 4000 from rfl, show (2 ^ 4 : Nat) = 16 from rfl] at h2
  rw [h2]; exact Nat.lt_of_lt_of_le h h1
theorem lt_p10 {N : Nat} (h : N < 10 ^ 1000) : N < 2 ^ 3340 := by
  have h1 : (10 : Nat) ^ 1000 ≤ 10 ^ 1002 := Nat.pow_le_pow_right (by decide) (by decide)
  have h2 := Nat.pow_mul 10 3 334
  have h3 := Nat.pow_mul 2 10 334
  have h4 : (10 ^ 3) ^ 334 ≤ (2 ^ 10) ^ 334 := Nat.pow_le_pow_left (by decide) 334
  rw [← h2, ← h3, show (3 * 334 : Nat) = 1002 from rfl, show (10 * 334 : Nat) = 3340 from rfl] at h4
  exact Nat.lt_of_lt_of_le h (Nat.le_trans h1 h4)
def flF (L : Nat → Int32) (e : Nat) : Int32 := if L e = 102 ∨ L e = 70 then 1 else 0
def bhF (L : Nat → Int32) (e : Nat) : Nat := if L e = 102 ∨ L e = 70 ∨ L e = 100 ∨ L e = 68 then e + 1 else e
section
variable {c fr : Nat} {Sc : Nat → Int32} {S_cutShort F_kind F_start F_behind : Int32} {F_says R_bits : Int64} {u w : Int32} {Bl El : Nat → Int32}
theorem e_takeBroken {n : Nat} (hn : 100000 ≤ n) (hc : c ≤ 81920) (hf : fr < c) (hst : dv (lk c Sc fr) < 10 ∨ (lk c Sc fr = 46 ∧ dv (lk c Sc (fr + 1)) < 10)) (hbr : brF (lk c Sc) c fr) :
    ∃ (g kd : Int32) (sy : Int64) (s b : Int32) (q : Int32 × (Nat → Int32) × Int64 × Int32 × (Nat → Int32)), f_X2_takeBroken n (nI fr) (nI (hb (hxF (lk c Sc) fr))) (nI (f0F (lk c Sc) fr)) (nI (b2F (lk c Sc) c fr)) (nI (eF (lk c Sc) c fr)) (nI c) S_cutShort Sc F_kind F_says F_start F_behind u Bl R_bits w El = some (g, kd, sy, s, b, q) ∧ (g = 0 ∨ g = 1) ∧
      (1000 < bhF (lk c Sc) (eF (lk c Sc) c fr) - fr → g = 0) ∧
      (bhF (lk c Sc) (eF (lk c Sc) c fr) - fr ≤ 1000 → kd = (if flF (lk c Sc) (eF (lk c Sc) c fr) = 0 then 64 else 63) ∧ s = nI fr ∧ b = nI (bhF (lk c Sc) (eF (lk c Sc) c fr)) ∧
        ∃ (x : Nat) (Q : Int), I6 x (ev (lk c Sc) (eF (lk c Sc) c fr - (b2F (lk c Sc) c fr + 1)) (b2F (lk c Sc) c fr + 1) 0) ∧
          Q = (if lk c Sc (b2F (lk c Sc) c fr + 1) = 45 then -(x : Int) else (x : Int)) - (if hxF (lk c Sc) fr = 0 then 1 else 4) * ((if lk c Sc (aF (lk c Sc) c fr) = 46 then cn (lk c Sc) (b2F (lk c Sc) c fr - (aF (lk c Sc) c fr + 1)) (aF (lk c Sc) c fr + 1) else 0 : Nat) : Int) ∧
          (sm (lk c Sc) (hb (hxF (lk c Sc) fr)) (b2F (lk c Sc) c fr - f0F (lk c Sc) fr) (f0F (lk c Sc) fr) 0 = 0 → g = 1 ∧ sy = qL 0) ∧
          (0 < sm (lk c Sc) (hb (hxF (lk c Sc) fr)) (b2F (lk c Sc) c fr - f0F (lk c Sc) fr) (f0F (lk c Sc) fr) 0 → Rnd (pr (flF (lk c Sc) (eF (lk c Sc) c fr))) (lw (flF (lk c Sc) (eF (lk c Sc) c fr))) (nu (hxF (lk c Sc) fr) (sm (lk c Sc) (hb (hxF (lk c Sc) fr)) (b2F (lk c Sc) c fr - f0F (lk c Sc) fr) (f0F (lk c Sc) fr) 0) (if hxF (lk c Sc) fr = 0 then cl Q else Q)) (de (hxF (lk c Sc) fr) (if hxF (lk c Sc) fr = 0 then cl Q else Q)) (if hxF (lk c Sc) fr = 0 then cl Q else Q) g sy)) := by
  have hF := form_of hf hst hbr
  have hdig := Form_dig hF
  have hpc := Form_pc hF
  have p1 := f0_le (Sc := Sc) (show fr ≤ c by omega)
  have p2 := a_le (Sc := Sc) (show fr ≤ c by omega)
  have p3 := b2_le (Sc := Sc) (show fr ≤ c by omega)
  have p4 := e_le (Sc := Sc) (show fr ≤ c by omega)
  have hx01 := hxF_c (lk c Sc) fr
  obtain ⟨hb2, hb16⟩ := hb_c (hxF (lk c Sc) fr)
  generalize hxF (lk c Sc) fr = hx at *
  generalize f0F (lk c Sc) fr = f0 at *
  generalize aF (lk c Sc) c fr = a at *
  generalize b2F (lk c Sc) c fr = b2 at *
  generalize eF (lk c Sc) c fr = e at *
  have hpt : (decide (lk c Sc a = 46) = true) = (lk c Sc a = 46) := by simp
  simp only [hpt] at hpc
  -- behind the letters
  have core : ∀ (fl : Int32) (bh : Nat), fl = flF (lk c Sc) e → bh = bhF (lk c Sc) e → bh ≤ c + 1 → fr ≤ bh → ∃ (g kd : Int32) (sy : Int64) (s b : Int32) (q : Int32 × (Nat → Int32) × Int64 × Int32 × (Nat → Int32)), f_X2_takeBroken_37 n (nI (hb hx)) (nI f0) (nI b2) (nI e) (nI c) S_cutShort Sc F_kind F_says F_start F_behind u Bl R_bits w El (nI fr) fl (nI bh) = some (g, kd, sy, s, b, q) ∧ (g = 0 ∨ g = 1) ∧
      (1000 < bh - fr → g = 0) ∧
      (bh - fr ≤ 1000 → kd = (if fl = 0 then 64 else 63) ∧ s = nI fr ∧ b = nI bh ∧
        ∃ (x : Nat) (Q : Int), I6 x (ev (lk c Sc) (e - (b2 + 1)) (b2 + 1) 0) ∧
          Q = (if lk c Sc (b2 + 1) = 45 then -(x : Int) else (x : Int)) - (if hx = 0 then 1 else 4) * ((if lk c Sc a = 46 then cn (lk c Sc) (b2 - (a + 1)) (a + 1) else 0 : Nat) : Int) ∧
          (sm (lk c Sc) (hb hx) (b2 - f0) f0 0 = 0 → g = 1 ∧ sy = qL 0) ∧
          (0 < sm (lk c Sc) (hb hx) (b2 - f0) f0 0 → Rnd (pr fl) (lw fl) (nu hx (sm (lk c Sc) (hb hx) (b2 - f0) f0 0) (if hx = 0 then cl Q else Q)) (de hx (if hx = 0 then cl Q else Q)) (if hx = 0 then cl Q else Q) g sy)) := by
    intro fl bh hfl hbh hbc hfb
    unfold f_X2_takeBroken_37
    rw [qI_sub hfb]
    simp (disch := omega) only [gu_t, bd_s, lt_e, qI_add, qI_add_lit, qI_lit_add, qI_lt, qI_le, qI_eq, qI_lt_lit, qI_lit_lt, qI_le_lit, qI_lit_le, qI_eq_lit, qI_lit_eq, qI_ne_neg1, gd_nI, gd_lit, qI_lit_toNat, qI_toNat]
    by_cases hlen : bh - fr ≤ 1000
    · rw [if_pos hlen]
      have hbe : e ≤ bh := by rw [hbh]; unfold bhF; split <;> omega
      obtain ⟨u1, B1, s1, s2⟩ := e_sumUp (n := n) (b := hb hx) (c := c) (i := f0) (r := b2) (u := u) (Bl := Bl) (N_first := nI f0) (N_significandEnd := nI b2) (N_exponentEnd := nI e) (S_cutShort := S_cutShort) (Sc := Sc) hn hc hb16 hb2 p3.2.1 (by omega) (by omega) hdig
      rw [s1, hpc]
      simp only [bd_s]
      generalize hpl : (if lk c Sc a = 46 then cn (lk c Sc) (b2 - (a + 1)) (a + 1) else 0) = pl
      have hplb : pl ≤ 1000 := by
        rw [← hpl]
        split
        · have := cn_le (L := lk c Sc) (b2 - (a + 1)) (a + 1); omega
        · omega
      generalize hNN : sm (lk c Sc) (hb hx) (b2 - f0) f0 0 = N at *
      have hN1 : N < hb hx ^ 1000 := by
        have h1 := sm_lt (L := lk c Sc) (b := hb hx) (by omega) (b2 - f0) f0 0 0 (fun j x y => hdig j x (by omega)) (by simp)
        have h2 := cn_le (L := lk c Sc) (b2 - f0) f0
        rw [hNN] at h1
        exact Nat.lt_of_lt_of_le h1 (Nat.pow_le_pow_right (by omega) (by omega))
      have hbten : hx = 0 → hb hx = 10 := by intro h0; unfold hb; rw [if_pos h0]
      obtain ⟨x, x1, x2⟩ := e_readExponent (n := n) (c := c) (r := e) (s := b2) (N_base := nI (hb hx)) (N_first := nI f0) (S_cutShort := S_cutShort) (Sc := Sc) hn hc p4.2 p3.2.1
      have hxb : x < 10000000 := by rcases x2 with h | h <;> omega
      rw [x1, bd_s]
      have ho : (if lk c Sc (b2 + 1) = 45 then -nI x else nI x).toInt = (if lk c Sc (b2 + 1) = 45 then -(x : Int) else (x : Int)) := by
        split
        · exact i32_neg (qI_toInt (by omega)) (by omega)
        · exact qI_toInt (by omega)
      generalize (if lk c Sc (b2 + 1) = 45 then -nI x else nI x) = o at *
      have hsx : -10000000 ≤ (if lk c Sc (b2 + 1) = 45 then -(x : Int) else (x : Int)) ∧ (if lk c Sc (b2 + 1) = 45 then -(x : Int) else (x : Int)) ≤ 10000000 := by split <;> omega
      generalize hXX : (if lk c Sc (b2 + 1) = 45 then -(x : Int) else (x : Int)) = X at *
      -- from the power on
      have fin : ∀ (pw : Int32) (Q' : Int), pw.toInt = Q' → Q' = (if hx = 0 then cl (X - (if hx = 0 then 1 else 4) * (pl : Int)) else X - (if hx = 0 then 1 else 4) * (pl : Int)) → ∃ (g kd : Int32) (sy : Int64) (s b : Int32) (q : Int32 × (Nat → Int32) × Int64 × Int32 × (Nat → Int32)), f_X2_takeBroken_94 n (nI (hb hx)) (nI f0) (nI b2) (nI e) (nI c) S_cutShort Sc F_kind F_says F_start F_behind u1 B1 R_bits w El (nI fr) fl (nI bh) pw = some (g, kd, sy, s, b, q) ∧ (g = 0 ∨ g = 1) ∧ kd = (if fl = 0 then 64 else 63) ∧ s = nI fr ∧ b = nI bh ∧ (N = 0 → g = 1 ∧ sy = qL 0) ∧ (0 < N → Rnd (pr fl) (lw fl) (nu hx N Q') (de hx Q') Q' g sy) := by
        intro pw Q' hpw hQ'
        have hQb : -20000000 ≤ Q' ∧ Q' ≤ 20000000 := by
          rw [hQ']
          rcases hx01 with h | h
          · rw [if_pos h]; unfold cl; split <;> split <;> omega
          · rw [h]; simp; omega
        have hcl : hx = 0 → -1400 ≤ Q' ∧ Q' ≤ 309 := by
          intro h0
          rw [hQ', if_pos h0]; unfold cl; split <;> split <;> omega
        unfold f_X2_takeBroken_94 f_X2_takeBroken_115
        have h16 : (nI (hb hx) = 16) = (hx ≠ 0) := by
          rw [qI_eq_lit (by omega) (by decide)]
          unfold hb
          rcases hx01 with h | h
          · simp [h]
          · simp [h]
        have hpull : ∀ F : Int32 → Option (Int32 × Int32 × Int64 × Int32 × Int32 × Int32 × (Nat → Int32) × Int64 × Int32 × (Nat → Int32)), (if nI (hb hx) = 16 then F 0 else F pw) = F (if hx = 0 then pw else 0) := by
          intro F
          simp only [h16]
          by_cases h : hx = 0
          · rw [if_neg (by simp [h]), if_pos h]
          · rw [if_pos h, if_neg h]
        rw [hpull (fun t => bd (f_X5_scaleByFive n t R_bits u1 B1 w El) _)]
        have hn3 : 3000 ≤ n := by omega
        have hnr : 100000 ≤ n := hn
        obtain ⟨u2, B2, w2, E2, t1, t2, t3, t4, t5⟩ := e_scale (n := n) (N := N) (P := Q') (hx := hx) (t1 := if hx = 0 then pw else 0) (R := R_bits) (w := w) (El := El) hn3 s2 (by split; exact hpw; rfl) hcl (lt_p16 hb16 hN1) (fun h0 => lt_p10 (by rw [← hbten h0]; exact hN1))
        rw [t1]
        simp only [bd_s]
        obtain ⟨go, bits, u3, B3, w3, E3, r1, r2, r3, r4⟩ := e_round (n := n) (N := nu hx N Q') (D := de hx Q') (e := Q') (R := R_bits) (fl := fl) (Nat.le_trans (by decide) hn3) t2 t3 (de_pos _ _) t4 t5 hpw hQb.1 hQb.2
        clear t4 t5
        rw [r1]
        simp only [bd_s, lt_e]
        have hnz : (nu hx N Q' = 0) = (N = 0) := by
          unfold nu
          apply propext
          constructor
          · intro h
            rcases Nat.mul_eq_zero.mp h with h | h
            · exact h
            · exact absurd h (Nat.ne_of_gt (Nat.pow_pos (by omega)))
          · intro h; rw [h, Nat.zero_mul]
        have hres : ∀ t : Int32, ∃ q, f_X2_takeBroken_145 n (nI (hb hx)) (nI f0) (nI b2) (nI e) (nI c) S_cutShort Sc F_kind F_says F_start F_behind u3 B3 bits w3 E3 (nI fr) (nI bh) go t = some (go, t, bits, nI fr, nI bh, q) := by
          intro t
          unfold f_X2_takeBroken_145 f_X5_bits f_X5_bits_0 f_X1_set f_X1_set_0
          simp only [bd_s]
          have : zb go = true := by rcases r2 with h | h <;> rw [h] <;> rfl
          rw [this]
          exact ⟨_, rfl⟩
        by_cases hf0 : fl = 0
        · obtain ⟨q, hq⟩ := hres 64
          rw [if_pos hf0, hq]
          exact ⟨go, 64, bits, nI fr, nI bh, q, rfl, r2, by rw [if_pos hf0], rfl, rfl, fun h => r3 (by rw [hnz]; exact h), fun h => r4 (by apply Nat.pos_of_ne_zero; rw [Ne, hnz]; omega)⟩
        · obtain ⟨q, hq⟩ := hres 63
          rw [if_neg hf0, hq]
          exact ⟨go, 63, bits, nI fr, nI bh, q, rfl, r2, by rw [if_neg hf0], rfl, rfl, fun h => r3 (by rw [hnz]; exact h), fun h => r4 (by apply Nat.pos_of_ne_zero; rw [Ne, hnz]; omega)⟩
      have h16 : (hb hx = 16) = (hx ≠ 0) := by
        unfold hb
        rcases hx01 with h | h
        · simp [h]
        · simp [h]
      simp only [h16]
      by_cases hh : hx = 0
      · rw [if_neg (by simp [hh])]
        have hsub : (o - nI pl).toInt = X - pl := i32_sub_of ho (qI_toInt (by omega)) (by omega) (by omega)
        obtain ⟨y, y1, y2⟩ := e_bounded (n := n) hsub
        rw [bd_s, y1, bd_s]
        obtain ⟨g, kd, sy, s, b, q, z1, z2, z3, z4, z5, z6, z7⟩ := fin y (cl (X - pl)) y2 (by rw [if_pos hh, if_pos hh, Int.one_mul])
        refine ⟨g, kd, sy, s, b, q, z1, z2, fun h => absurd h (by omega), fun _ => ⟨z3, z4, z5, x, X - pl, x2, by rw [if_pos hh, Int.one_mul, hXX], z6, ?_⟩⟩
        rw [if_pos hh]; exact z7
      · rw [if_pos hh]
        have h4 : (4 : Int32) * nI pl = nI (4 * pl) := qI_mul 4 pl
        have hsub : (o - 4 * nI pl).toInt = X - 4 * pl := by
          rw [h4, i32_sub_of ho (qI_toInt (by omega)) (by omega) (by omega)]; omega
        obtain ⟨g, kd, sy, s, b, q, z1, z2, z3, z4, z5, z6, z7⟩ := fin (o - 4 * nI pl) (X - 4 * pl) hsub (by rw [if_neg hh, if_neg hh])
        refine ⟨g, kd, sy, s, b, q, z1, z2, fun h => absurd h (by omega), fun _ => ⟨z3, z4, z5, x, X - 4 * pl, x2, by rw [if_neg hh, hXX], z6, ?_⟩⟩
        rw [if_neg hh]; exact z7
    · rw [if_neg hlen]
      exact ⟨0, F_kind, F_says, F_start, F_behind, _, rfl, Or.inl rfl, fun _ => rfl, fun h => absurd h hlen⟩
  unfold f_X2_takeBroken f_X2_takeBroken_0 f_X2_takeBroken_24
  rw [e_isFloat hc (by omega)]
  simp only [bd_s]
  rw [e_isDouble hc (by omega)]
  simp only [bd_s]
  rw [show nI e + 1 = nI (e + 1) from qI_add e 1]
  have hin : ∀ k : Int32, 0 ≤ k → lk c Sc e = k → e < c := fun k hk h => pos_of h hk
  by_cases c1 : lk c Sc e = 102 ∨ lk c Sc e = 70
  · have hfl : flF (lk c Sc) e = 1 := by unfold flF; rw [if_pos c1]
    have hbh : bhF (lk c Sc) e = e + 1 := by unfold bhF; rw [if_pos (by rcases c1 with h | h <;> simp [h])]
    have he : e < c := by rcases c1 with h | h; exact hin _ (by decide) h; exact hin _ (by decide) h
    rw [if_pos c1, if_neg (by decide)]
    have := core 1 (e + 1) hfl.symm hbh.symm (by omega) (by omega)
    rw [hfl, hbh]; exact this
  · have hfl : flF (lk c Sc) e = 0 := by unfold flF; rw [if_neg c1]
    rw [if_neg c1, if_pos rfl]
    by_cases c2 : lk c Sc e = 100 ∨ lk c Sc e = 68
    · have hbh : bhF (lk c Sc) e = e + 1 := by unfold bhF; rw [if_pos (by rcases c2 with h | h <;> simp [h])]
      have he : e < c := by rcases c2 with h | h; exact hin _ (by decide) h; exact hin _ (by decide) h
      rw [if_pos c2, if_neg (by decide)]
      have := core 0 (e + 1) hfl.symm hbh.symm (by omega) (by omega)
      rw [hfl, hbh]; exact this
    · have hbh : bhF (lk c Sc) e = e := by
        unfold bhF; rw [if_neg]
        rintro (h | h | h | h)
        · exact c1 (Or.inl h)
        · exact c1 (Or.inr h)
        · exact c2 (Or.inl h)
        · exact c2 (Or.inr h)
      rw [if_neg c2, if_pos rfl]
      have := core 0 e hfl.symm hbh.symm (by omega) (by omega)
      rw [hfl, hbh]; exact this
end
