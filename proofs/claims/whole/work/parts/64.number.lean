/-! PURE 64: numbers: where the reference's and the own end. -/
theorem or32_of {x k : Int32} (h : x ||| 32 = k) : x = k ∨ x = k ^^^ 32 := by
  have hb : x.toBitVec ||| 32#32 = k.toBitVec := congrArg Int32.toBitVec h
  have h32 : ∀ i : Fin 32, (32#32).getLsbD i = decide (i.1 = 5) := by decide
  have hi : ∀ i, i < 32 → k.toBitVec.getLsbD i = (x.toBitVec.getLsbD i || decide (i = 5)) := by
    intro i hi
    rw [← hb, BitVec.getLsbD_or, h32 ⟨i, hi⟩]
  by_cases h5 : x.toBitVec.getLsbD 5 = true
  · left
    apply Int32.toBitVec_inj.mp
    apply BitVec.eq_of_getLsbD_eq
    intro i hi2
    rw [hi i hi2]
    by_cases e : i = 5
    · rw [e, h5]; rfl
    · simp [e]
  · right
    apply Int32.toBitVec_inj.mp
    apply BitVec.eq_of_getLsbD_eq
    intro i hi2
    show _ = (k.toBitVec ^^^ 32#32).getLsbD i
    rw [BitVec.getLsbD_xor, hi i hi2, h32 ⟨i, hi2⟩]
    by_cases e : i = 5
    · subst e
      have h5' : x.toBitVec.getLsbD 5 = false := Bool.eq_false_iff.mpr h5
      rw [h5']; rfl
    · simp [e]
theorem or32_102 (x : Int32) : (x ||| 32 = 102) = (x = 102 ∨ x = 70) := propext ⟨fun h => or32_of h, fun h => by rcases h with h | h <;> rw [h] <;> decide⟩
theorem or32_100 (x : Int32) : (x ||| 32 = 100) = (x = 100 ∨ x = 68) := propext ⟨fun h => or32_of h, fun h => by rcases h with h | h <;> rw [h] <;> decide⟩
theorem or32_120 (x : Int32) : (x ||| 32 = 120) = (x = 120 ∨ x = 88) := propext ⟨fun h => or32_of h, fun h => by rcases h with h | h <;> rw [h] <;> decide⟩
theorem or32_98 (x : Int32) : (x ||| 32 = 98) = (x = 98 ∨ x = 66) := propext ⟨fun h => or32_of h, fun h => by rcases h with h | h <;> rw [h] <;> decide⟩
theorem cmp0_neg (v : Int64) : (lg_cmp v 0 < 0) = (v < 0) := by
  unfold lg_cmp
  apply propext
  by_cases h1 : v > 0
  · rw [if_pos h1]; constructor
    · intro h; exact absurd h (by decide)
    · intro h; exact absurd h1 (by rw [gt_iff_lt]; exact fun h2 => by rw [Int64.lt_iff_toInt_lt] at h h2; omega)
  · rw [if_neg h1]
    by_cases h2 : v = 0
    · rw [if_pos h2, h2]; exact ⟨fun h => absurd h (by decide), fun h => absurd h (by decide)⟩
    · rw [if_neg h2]
      refine ⟨fun _ => ?_, fun _ => by decide⟩
      rw [gt_iff_lt, Int64.lt_iff_toInt_lt] at h1
      rw [← Int64.toInt_inj] at h2
      rw [Int64.lt_iff_toInt_lt]
      have : (0 : Int64).toInt = 0 := rfl
      omega
section
variable {M_came M_size M_at M_laid M_tokens M_looked M_thrown M_wrong M_kind : Int32} {M_value : Int64} {Sc Ms : Nat → Int32} {V_laid V_gone V_fiveMany V_partMany V_length V_thrown V_were V_none V_beyond V_aMany V_bMany V_leftMany V_rightMany V_twos V_at V_digits V_power V_good : Int32} {Vt Va Vb Vl Vr : Nat → Int32}
theorem e_538 {n len at' fr : Nat} {kd g : Int32} {val : Int64} (hf : fr ≤ at') (ha : at' ≤ 81922) (hg : g = 0 ∨ g = 1) : f_X11_number_538 n M_came M_size (nI len) M_laid M_tokens M_looked M_thrown M_wrong Ms V_laid V_gone V_fiveMany V_partMany (nI at') kd val g V_length V_thrown V_were V_none V_beyond V_aMany V_bMany V_leftMany V_rightMany V_twos V_at V_digits V_power V_good Vt Va Vb Vl Vr (nI fr) = some (nI at', kd, val, (if g = 1 ∧ at' - fr ≤ 1000 then 1 else 0), V_length, V_thrown, V_were, V_none, V_beyond, V_aMany, V_bMany, V_leftMany, V_rightMany, V_twos, V_at, V_digits, V_power, V_good, Vt, Va, Vb, Vl, Vr) := by
  unfold f_X11_number_538 f_X11_number_562 f_X11_number_563
  rw [qI_sub hf, zb_0, zb_1, gu_t, gu_t]
  have hle : (1000 < nI (at' - fr)) = (1000 < at' - fr) := qI_lit_lt (by omega) (by decide)
  rcases hg with h | h
  · rw [if_pos h, if_neg (by rw [h]; exact fun h => absurd h.1 (by decide))]
  · rw [if_neg (by rw [h]; decide)]
    by_cases c1 : 1000 < at' - fr
    · rw [if_pos (by rw [hle]; exact c1), if_neg (by omega)]
    · rw [if_neg (by rw [hle]; exact c1), if_pos ⟨h, by omega⟩]
theorem e_416r {n c len fr e : Nat} {x2 : Int32} (hn : 100000 ≤ n) (hS : See fr c len Sc Ms) (hfe : fr ≤ e) (he : e ≤ c) (hrd : ∃ val : Int64, ∃ q, f_X10_read_ n (nI fr) (nI e) (flF (lk c Sc) e) V_length V_laid V_gone V_thrown V_were V_none V_beyond V_aMany V_bMany V_fiveMany V_leftMany V_rightMany V_partMany V_twos V_at V_digits V_power V_good Vt Va Vb Vl Vr Ms = some (val, q)) :
    ∃ (val : Int64) (q : Int32 × Int32 × Int32 × Int32 × Int32 × Int32 × Int32 × Int32 × Int32 × Int32 × Int32 × Int32 × Int32 × Int32 × (Nat → Int32) × (Nat → Int32) × (Nat → Int32) × (Nat → Int32) × (Nat → Int32)) (g : Int32), f_X10_read_ n (nI fr) (nI e) (flF (lk c Sc) e) V_length V_laid V_gone V_thrown V_were V_none V_beyond V_aMany V_bMany V_fiveMany V_leftMany V_rightMany V_partMany V_twos V_at V_digits V_power V_good Vt Va Vb Vl Vr Ms = some (val, q) ∧ f_X11_number_416 n M_came M_size (nI len) M_laid M_tokens M_looked M_thrown M_wrong Ms V_laid V_gone V_fiveMany V_partMany M_at M_kind M_value 1 V_length V_thrown V_were V_none V_beyond V_aMany V_bMany V_leftMany V_rightMany V_twos V_at V_digits V_power V_good Vt Va Vb Vl Vr (nI fr) x2 (nI e) 1 = some (nI (bhF (lk c Sc) e), (if flF (lk c Sc) e = 0 then 64 else 63), val, g, q) ∧ g = (if 0 ≤ val ∧ bhF (lk c Sc) e - fr ≤ 1000 then 1 else 0) := by
  obtain ⟨val, q, hr⟩ := hrd
  have hc := hS.1
  have hl := hS.2.1
  have hcl := hS.2.2.1
  refine ⟨val, q, _, hr, ?_, rfl⟩
  unfold f_X11_number_416
  rw [if_neg (by decide), e_see (by omega) (by omega), bd_s]
  simp only [lt_e]
  have q1 : ∀ k : Int32, 0 ≤ k → (lk len Ms e = k) = (lk c Sc e = k) := fun k hk => hS.eq hfe hk
  have y102 : (lk len Ms e ||| 32 = 102) = (lk c Sc e = 102 ∨ lk c Sc e = 70) := by rw [or32_102, q1 _ (by decide), q1 _ (by decide)]
  have y100 : (lk len Ms e ||| 32 = 100) = (lk c Sc e = 100 ∨ lk c Sc e = 68) := by rw [or32_100, q1 _ (by decide), q1 _ (by decide)]
  generalize lk len Ms e ||| 32 = y6 at *
  have core : f_X11_number_462 n M_came M_size (nI len) M_laid M_tokens M_looked M_thrown M_wrong Ms V_laid V_gone V_fiveMany V_partMany (nI e) M_kind M_value 1 V_length V_thrown V_were V_none V_beyond V_aMany V_bMany V_leftMany V_rightMany V_twos V_at V_digits V_power V_good Vt Va Vb Vl Vr (nI fr) y6 (nI fr) (nI e) (flF (lk c Sc) e) = some (nI (bhF (lk c Sc) e), (if flF (lk c Sc) e = 0 then 64 else 63), val, (if 0 ≤ val ∧ bhF (lk c Sc) e - fr ≤ 1000 then 1 else 0), q) := by
    unfold f_X11_number_462
    rw [hr, bd_s]
    simp only [lt_e]
    obtain ⟨v1, v2, v3, v4, v5, v6, v7, v8, v9, v10, v11, v12, v13, v14, w1, w2, w3, w4, w5⟩ := q
    have h483 : ∀ g : Int32, g = 0 ∨ g = 1 → f_X11_number_483 n M_came M_size (nI len) M_laid M_tokens M_looked M_thrown M_wrong Ms V_laid V_gone V_fiveMany V_partMany (nI e) M_kind val 1 v1 v2 v3 v4 v5 v6 v7 v8 v9 v10 v11 v12 v13 v14 w1 w2 w3 w4 w5 (nI fr) y6 g = some (nI (bhF (lk c Sc) e), (if flF (lk c Sc) e = 0 then 64 else 63), val, (if g = 1 ∧ bhF (lk c Sc) e - fr ≤ 1000 then 1 else 0), v1, v2, v3, v4, v5, v6, v7, v8, v9, v10, v11, v12, v13, v14, w1, w2, w3, w4, w5) := by
      intro g hg
      have hz : zb g = true := by rcases hg with h | h <;> rw [h] <;> rfl
      unfold f_X11_number_483 f_X11_number_501 f_X11_number_518 f_X11_number_528
      rw [hz, gu_t, show nI e + 1 = nI (e + 1) from qI_add e 1]
      simp only [lt_e]
      rw [e_538 (by omega) (by omega) hg, e_538 (by omega) (by omega) hg, e_538 (by omega) (by omega) hg, e_538 (by omega) (by omega) hg]
      by_cases c1 : lk c Sc e = 102 ∨ lk c Sc e = 70
      · have hfl : flF (lk c Sc) e = 1 := by unfold flF; rw [if_pos c1]
        have hbh : bhF (lk c Sc) e = e + 1 := by unfold bhF; rw [if_pos (by rcases c1 with h | h <;> simp [h])]
        have h1 : y6 = 102 := by rw [y102]; exact c1
        rw [hfl, hbh, if_neg (show ¬ (1 : Int32) = 0 by decide)]
        simp only [if_pos h1]
      · have hfl : flF (lk c Sc) e = 0 := by unfold flF; rw [if_neg c1]
        have h1 : ¬ y6 = 102 := by rw [y102]; exact c1
        rw [hfl, if_pos rfl]
        simp only [if_neg h1]
        by_cases c2 : lk c Sc e = 100 ∨ lk c Sc e = 68
        · have hbh : bhF (lk c Sc) e = e + 1 := by unfold bhF; rw [if_pos (by rcases c2 with h | h <;> simp [h])]
          rw [hbh, if_pos (by rw [y100]; exact c2)]
        · have hbh : bhF (lk c Sc) e = e := by
            unfold bhF; rw [if_neg]
            rintro (h | h | h | h)
            · exact c1 (Or.inl h)
            · exact c1 (Or.inr h)
            · exact c2 (Or.inl h)
            · exact c2 (Or.inr h)
          rw [hbh, if_neg (by rw [y100]; exact c2)]
    have hlt : (lg_cmp val 0 < 0) = (val < 0) := cmp0_neg val
    by_cases c1 : val < 0
    · rw [if_pos (by rw [hlt]; exact c1)]
      refine (h483 0 (Or.inl rfl)).trans ?_
      have a1 : (if (0 : Int32) = 1 ∧ bhF (lk c Sc) e - fr ≤ 1000 then (1 : Int32) else 0) = 0 := if_neg (fun h => absurd h.1 (by decide))
      have a2 : (if 0 ≤ val ∧ bhF (lk c Sc) e - fr ≤ 1000 then (1 : Int32) else 0) = 0 := by
        apply if_neg
        intro h
        have h1 := h.1
        rw [Int64.le_iff_toInt_le] at h1; rw [Int64.lt_iff_toInt_lt] at c1; omega
      rw [a1, a2]
    · rw [if_neg (by rw [hlt]; exact c1)]
      refine (h483 1 (Or.inr rfl)).trans ?_
      have h0 : (0 ≤ val) = True := by
        apply eq_true
        rw [Int64.le_iff_toInt_le]; rw [Int64.lt_iff_toInt_lt] at c1; omega
      simp only [h0]
  have hpull : flF (lk c Sc) e = (if y6 = 102 then 1 else 0) := by
    unfold flF; simp only [y102]
  rw [← core]
  by_cases c1 : y6 = 102
  · rw [if_pos c1, hpull, if_pos c1]
  · rw [if_neg c1, hpull, if_neg c1]
end
