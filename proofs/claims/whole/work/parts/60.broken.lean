/-! PURE 60: the own real numbers. -/
theorem form_of {c fr : Nat} {Sc : Nat → Int32} (hf : fr < c) (hst : dv (lk c Sc fr) < 10 ∨ (lk c Sc fr = 46 ∧ dv (lk c Sc (fr + 1)) < 10)) (hbr : brF (lk c Sc) c fr) :
    Form (lk c Sc) (eF (lk c Sc) c fr) (hxF (lk c Sc) fr) (f0F (lk c Sc) fr) (aF (lk c Sc) c fr) (b2F (lk c Sc) c fr) (EXs (lk c Sc) (b2F (lk c Sc) c fr)) (decide (lk c Sc (aF (lk c Sc) c fr) = 46)) := by
  have p1 := f0_le (Sc := Sc) (show fr ≤ c by omega)
  have p2 := a_le (Sc := Sc) (show fr ≤ c by omega)
  have p3 := b2_le (Sc := Sc) (show fr ≤ c by omega)
  have p4 := e_le (Sc := Sc) (show fr ≤ c by omega)
  have hb2 : lk c Sc (aF (lk c Sc) c fr) = 46 → b2F (lk c Sc) c fr = DG (lk c Sc) (hb (hxF (lk c Sc) fr)) c (aF (lk c Sc) c fr + 1) := fun h => by unfold b2F; rw [if_pos h]
  refine ⟨p2.1, p3.1, p4.1, ?_, ?_, ?_, ?_, ?_⟩
  · intro h
    rcases DG_spec (L := lk c Sc) (b := hb (hxF (lk c Sc) fr)) (c := c) (fr := f0F (lk c Sc) fr) with g | g
    · exact g.2.2.2.2
    · have : aF (lk c Sc) c fr = f0F (lk c Sc) fr := g.2
      omega
  · intro h
    have h46 : lk c Sc (aF (lk c Sc) c fr) = 46 := of_decide_eq_true h
    refine ⟨h46, p3.2.2 h46, fun h2 => ?_⟩
    rw [hb2 h46] at h2 ⊢
    rcases DG_spec (L := lk c Sc) (b := hb (hxF (lk c Sc) fr)) (c := c) (fr := aF (lk c Sc) c fr + 1) with g | g
    · exact g.2.2.2.2
    · omega
  · intro h
    have h46 : ¬ lk c Sc (aF (lk c Sc) c fr) = 46 := of_decide_eq_false h
    unfold b2F; rw [if_neg h46]
  · rcases hbr with ⟨h0, _⟩ | ⟨_, h1, _⟩
    · have hf0 : f0F (lk c Sc) fr = fr := by unfold f0F; rw [if_pos h0]
      have hb10 : hb (hxF (lk c Sc) fr) = 10 := by unfold hb; rw [if_pos h0]
      rcases hst with h | ⟨h, h2⟩
      · left
        rcases DG_spec (L := lk c Sc) (b := hb (hxF (lk c Sc) fr)) (c := c) (fr := f0F (lk c Sc) fr) with g | g
        · exact g.2.2.1
        · rcases g.1 with g1 | g1
          · omega
          · rw [hf0, hb10] at g1; exact absurd h g1
      · right
        have ha : aF (lk c Sc) c fr = fr := by
          rcases DG_spec (L := lk c Sc) (b := hb (hxF (lk c Sc) fr)) (c := c) (fr := f0F (lk c Sc) fr) with g | g
          · have := g.2.1
            rw [hf0, h, hb10] at this
            exact absurd this (by decide)
          · show DG _ _ _ _ = _; rw [g.2, hf0]
        have h46 : lk c Sc (aF (lk c Sc) c fr) = 46 := by rw [ha]; exact h
        refine ⟨decide_eq_true h46, ?_⟩
        rw [hb2 h46]
        rcases DG_spec (L := lk c Sc) (b := hb (hxF (lk c Sc) fr)) (c := c) (fr := aF (lk c Sc) c fr + 1) with g | g
        · exact g.2.2.1
        · rcases g.1 with g1 | g1
          · have : fr + 1 < c := by
              by_cases hx : fr + 1 < c
              · exact hx
              · rw [dv_out (by omega)] at h2; omega
            omega
          · rw [ha, hb10] at g1; exact absurd h2 g1
    · rcases h1 with h | h
      · exact Or.inl h
      · exact Or.inr ⟨decide_eq_true h.1, h.2⟩
  · by_cases he : isE (hxF (lk c Sc) fr) (lk c Sc (b2F (lk c Sc) c fr)) ∧ EXs (lk c Sc) (b2F (lk c Sc) c fr) < DG (lk c Sc) 10 c (EXs (lk c Sc) (b2F (lk c Sc) c fr))
    · right
      have heF : eF (lk c Sc) c fr = DG (lk c Sc) 10 c (EXs (lk c Sc) (b2F (lk c Sc) c fr)) := by unfold eF; rw [if_pos he]
      have h1 := isE_le he.1
      refine ⟨by rw [heF]; omega, ?_, ?_, rfl, ?_⟩
      · intro h0
        rcases he.1 with g | g
        · exact g.2
        · exact absurd h0 g.1
      · intro h0
        rcases he.1 with g | g
        · exact absurd g.1 h0
        · exact g.2
      · rw [heF]
        rcases DG_spec (L := lk c Sc) (b := 10) (c := c) (fr := EXs (lk c Sc) (b2F (lk c Sc) c fr)) with g | g
        · exact g.2.2.2.2
        · omega
    · have heF : eF (lk c Sc) c fr = b2F (lk c Sc) c fr := by unfold eF; rw [if_neg he]
      left
      refine ⟨heF.symm, ?_⟩
      rcases hbr with ⟨h0, _⟩ | ⟨_, _, h2⟩
      · exact h0
      · omega
theorem Form_dig {L : Nat → Int32} {e f0 a b2 st : Nat} {hx : Int32} {pt : Bool} (h : Form L e hx f0 a b2 st pt) : ∀ j, f0 ≤ j → j < b2 → dv (L j) < hb hx ∨ L j = 95 ∨ L j = 46 := by
  obtain ⟨F1, F2, F3, F4, F5, F6, F7, F8⟩ := h
  intro j h1 h2
  by_cases hja : j < a
  · exact (F4 (by omega)).dig j h1 hja
  · cases pt
    · have := F6 rfl; omega
    · obtain ⟨g1, g2, g3⟩ := F5 rfl
      by_cases hj : j = a
      · rw [hj]; exact Or.inr (Or.inr g1)
      · exact (g3 (by omega)).dig j (by omega) h2
theorem Form_pc {L : Nat → Int32} {e f0 a b2 st : Nat} {hx : Int32} {pt : Bool} (h : Form L e hx f0 a b2 st pt) : pc L (b2 - f0) f0 0 false = (if pt = true then cn L (b2 - (a + 1)) (a + 1) else 0) := by
  obtain ⟨F1, F2, F3, F4, F5, F6, F7, F8⟩ := h
  have hb16 := (hb_c hx).2
  have no46 : ∀ i r, Seg L (hb hx) i r → ∀ j, i ≤ j → j < r → L j ≠ 46 := by
    intro i r hs j h1 h2 h3
    rcases hs.2.1 j h1 h2 with h | h
    · rw [h3] at h
      have : dv 46 = 16 := by decide
      omega
    · rw [h3] at h; exact absurd h (by decide)
  have na : ∀ j, f0 ≤ j → j < f0 + (a - f0) → L j ≠ 46 := fun j h1 h2 => no46 f0 a (F4 (by omega)) j h1 (by omega)
  cases pt
  · have := F6 rfl
    subst this
    rw [pc_none na]; rfl
  · obtain ⟨g1, g2, g3⟩ := F5 rfl
    rw [show b2 - f0 = (a - f0) + ((b2 - (a + 1)) + 1) from by omega, pc_dot na (by rw [show f0 + (a - f0) = a from by omega]; exact g1) (by
      intro j h1 h2
      exact no46 (a + 1) b2 (g3 (by omega)) j (by omega) (by omega))]
    rw [show f0 + (a - f0) + 1 = a + 1 from by omega]; rfl
theorem e_scale {n N : Nat} {P : Int} {hx t1 : Int32} {R : Int64} {u w : Int32} {Bl El : Nat → Int32} (hn : 3000 ≤ n) (hB : Bg u Bl N) (ht : t1.toInt = if hx = 0 then P else 0) (hP1 : hx = 0 → -1400 ≤ P ∧ P ≤ 309) (hN : N < 2 ^ 4000) (hN10 : hx = 0 → N < 2 ^ 3340) :
    ∃ u' Bl' w' El', f_X5_scaleByFive n t1 R u Bl w El = some (u', Bl', w', El') ∧ Bg u' Bl' (nu hx N P) ∧ Bg w' El' (de hx P) ∧ nu hx N P < 2 ^ 4100 ∧ de hx P < 2 ^ 4100 := by
  have hcut : ∀ x y : Nat, x ≤ y → (2 : Nat) ^ x ≤ 2 ^ y := fun x y h => Nat.pow_le_pow_right (by omega) h
  have h5 : (5 : Nat) ^ 309 < 2 ^ 721 := by
    have a1 : (5 : Nat) ^ 309 = 125 ^ 103 := by rw [show (125 : Nat) = 5 ^ 3 from rfl, ← Nat.pow_mul]
    have a2 : (2 : Nat) ^ 721 = 128 ^ 103 := by rw [show (128 : Nat) = 2 ^ 7 from rfl, ← Nat.pow_mul]
    rw [a1, a2]; exact Nat.pow_lt_pow_left (by omega) (by omega)
  have h5d : (5 : Nat) ^ 1401 < 2 ^ 3269 := by
    have a1 : (5 : Nat) ^ 1401 = 125 ^ 467 := by rw [show (125 : Nat) = 5 ^ 3 from rfl, ← Nat.pow_mul]
    have a2 : (2 : Nat) ^ 3269 = 128 ^ 467 := by rw [show (128 : Nat) = 2 ^ 7 from rfl, ← Nat.pow_mul]
    rw [a1, a2]; exact Nat.pow_lt_pow_left (by omega) (by omega)
  have hnu : nu hx N P < 2 ^ 4100 := by
    unfold nu
    by_cases hh : hx = 0
    · rw [if_pos hh]
      have a1 : 5 ^ P.toNat ≤ 5 ^ 309 := Nat.pow_le_pow_right (by omega) (by have := hP1 hh; omega)
      have a2 : N * 5 ^ P.toNat < 2 ^ 3340 * 2 ^ 721 := Nat.mul_lt_mul'' (hN10 hh) (by omega)
      rw [← Nat.pow_add] at a2
      exact Nat.lt_of_lt_of_le a2 (hcut _ _ (by omega))
    · rw [if_neg hh, Nat.pow_zero, Nat.mul_one]; exact Nat.lt_of_lt_of_le hN (hcut _ _ (by omega))
  have hde : de hx P < 2 ^ 4100 := by
    unfold de
    by_cases hh : hx = 0
    · rw [if_pos hh]
      have a1 : 5 ^ (-P).toNat ≤ 5 ^ 1401 := Nat.pow_le_pow_right (by omega) (by have := hP1 hh; omega)
      exact Nat.lt_of_lt_of_le (by omega) (hcut 3269 _ (by omega))
    · rw [if_neg hh]; exact Nat.lt_of_lt_of_le (by decide) (hcut 1 _ (by omega))
  have hb4 : (2 : Nat) ^ 4100 ≤ 2 ^ 4352 := hcut _ _ (by omega)
  obtain ⟨w1, E1, s1, s2⟩ := e_set1 (n := n) (u := w) (Bl := El)
  unfold f_X5_scaleByFive f_X5_scaleByFive_0
  rw [s1]
  simp only [bd_s, i32_lt0 ht]
  by_cases hneg : (if hx = 0 then P else 0) < 0
  · have hh : hx = 0 := by
      by_cases hh : hx = 0
      · exact hh
      · rw [if_neg hh] at hneg; omega
    rw [if_pos hneg]
    rw [if_pos hh] at hneg ht
    have hb := hP1 hh
    have hngt : (-t1).toInt = ((-P).toNat : Int) := by rw [i32_neg ht (by omega)]; omega
    have hdd : de hx P = 1 * 5 ^ (-P).toNat := by unfold de; rw [if_pos hh, Nat.one_mul]
    have hnn : nu hx N P = N := by unfold nu; rw [if_pos hh, show P.toNat = 0 from by omega]; simp
    obtain ⟨w2, E2, t1', t2'⟩ := e_timesPowerOfFive (n := n) (p := (-P).toNat) hn (by omega) s2 (by rw [← hdd]; omega)
    rw [i32_of hngt, t1']
    exact ⟨u, Bl, w2, E2, rfl, by rw [hnn]; exact hB, by rw [hdd]; exact t2', hnu, hde⟩
  · rw [if_neg hneg]
    have htn : t1 = nI (if hx = 0 then P else 0).toNat := i32_of (by rw [ht]; omega)
    have hnn : nu hx N P = N * 5 ^ (if hx = 0 then P else 0).toNat := by
      unfold nu; congr 2; split <;> rfl
    have hdd : de hx P = 1 := by
      unfold de
      by_cases hh : hx = 0
      · rw [if_pos hh] at hneg ⊢; rw [show (-P).toNat = 0 from by omega]
      · rw [if_neg hh]
    have hb : (if hx = 0 then P else 0).toNat < 2000 := by
      by_cases hh : hx = 0
      · rw [if_pos hh]; have := hP1 hh; omega
      · rw [if_neg hh]; decide
    obtain ⟨u2, B2, t1', t2'⟩ := e_timesPowerOfFive (n := n) (p := (if hx = 0 then P else 0).toNat) hn hb hB (by rw [← hnn]; omega)
    rw [show f_X0_timesPowerOfFive n t1 u Bl = f_X0_timesPowerOfFive n (nI (if hx = 0 then P else 0).toNat) u Bl from by rw [← htn], t1']
    exact ⟨u2, B2, w1, E1, rfl, by rw [hnn]; exact t2', by rw [hdd]; exact s2, hnu, hde⟩
