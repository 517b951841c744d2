/-! PURE 65: numbers: both sides take the same. -/
theorem DG_one {L : Nat → Int32} {b c fr : Nat} (hf : fr < c) (h1 : dv (L fr) < b) (h2 : ¬ dv (L (fr + 1)) < b) (h3 : L (fr + 1) ≠ 95) : DG L b c fr = fr + 1 := by
  unfold DG
  obtain ⟨m, hm⟩ : ∃ m, c - fr = m + 1 := ⟨c - fr - 1, by omega⟩
  rw [hm]
  unfold dg
  rw [if_pos h1]
  cases m with
  | zero => rfl
  | succ m => unfold dg; rw [if_neg h2, if_neg (fun h => h3 h.1)]
theorem DG_pos {L : Nat → Int32} {b c fr : Nat} (h : fr < DG L b c fr) : fr < c ∧ dv (L fr) < b := by
  rcases DG_spec (L := L) (b := b) (c := c) (fr := fr) with h1 | h1
  · exact ⟨h1.1, h1.2.1⟩
  · omega
theorem DG_lt {c b fr : Nat} {Sc : Nat → Int32} (hb : b ≤ 16) : (fr < DG (lk c Sc) b c fr) = (dv (lk c Sc fr) < b) := by
  apply propext
  refine ⟨fun h => (DG_pos h).2, fun h => ?_⟩
  rcases DG_spec (L := lk c Sc) (b := b) (c := c) (fr := fr) with h1 | h1
  · exact h1.2.2.1
  · rcases h1.1 with h2 | h2
    · rw [dv_out h2] at h; omega
    · exact absurd h h2
section
variable {M_came M_size M_at M_laid M_tokens M_looked M_thrown M_wrong M_kind M_good : Int32} {M_value : Int64} {Sc Ms : Nat → Int32} {V_laid V_gone V_fiveMany V_partMany V_length V_thrown V_were V_none V_beyond V_aMany V_bMany V_leftMany V_rightMany V_twos V_at V_digits V_power V_good : Int32} {Vt Va Vb Vl Vr : Nat → Int32}
theorem e_power {n b c len fr : Nat} {hx k : Int32} (hn : 100000 ≤ n) (hS : See fr c len Sc Ms) (hfb : fr ≤ b) (hb : b ≤ c) (hk : (hx = 0 ∧ k = 101) ∨ (hx ≠ 0 ∧ k = 112)) :
    f_X11_power n (nI b) k M_came M_size (nI len) M_at M_laid M_tokens M_looked M_thrown M_wrong M_kind M_value M_good Ms = some (nI (if (isE hx (lk c Sc b) ∧ EXs (lk c Sc) b < DG (lk c Sc) 10 c (EXs (lk c Sc) b)) then DG (lk c Sc) 10 c (EXs (lk c Sc) b) else b)) := by
  have hc := hS.1
  have hl := hS.2.1
  have hcl := hS.2.2.1
  have hE : (lk len Ms b = k ∨ lk len Ms b = k - 32) = isE hx (lk c Sc b) := by
    unfold isE
    rcases hk with ⟨h1, h2⟩ | ⟨h1, h2⟩
    · rw [h2, show (101 : Int32) - 32 = 69 from rfl, hS.eq hfb (by decide), hS.eq hfb (by decide)]
      simp [h1]
    · rw [h2, show (112 : Int32) - 32 = 80 from rfl, hS.eq hfb (by decide), hS.eq hfb (by decide)]
      simp [h1]
  unfold f_X11_power f_X11_power_0
  rw [e_see (by omega) (by omega), bd_s, bd_s]
  by_cases c1 : isE hx (lk c Sc b)
  · have hEx := isE_le c1
    have h23 : f_X11_power_23 n M_came M_size (nI len) M_at M_laid M_tokens M_looked M_thrown M_wrong M_kind M_value M_good Ms (nI b) = some (nI (if EXs (lk c Sc) b < DG (lk c Sc) 10 c (EXs (lk c Sc) b) then DG (lk c Sc) 10 c (EXs (lk c Sc) b) else b)) := by
      have h56 : f_X11_power_56 n M_came M_size (nI len) M_at M_laid M_tokens M_looked M_thrown M_wrong M_kind M_value M_good Ms (nI b) (nI (EXs (lk c Sc) b)) = some (nI (if EXs (lk c Sc) b < DG (lk c Sc) 10 c (EXs (lk c Sc) b) then DG (lk c Sc) 10 c (EXs (lk c Sc) b) else b)) := by
        unfold f_X11_power_56
        rw [show (10 : Int32) = nI 10 from rfl, e_digits hn (hS.up (by omega)) (by decide) hEx.2, bd_s]
        have hle := DG_le (L := lk c Sc) (b := 10) hEx.2
        have hq : (nI (DG (lk c Sc) 10 c (EXs (lk c Sc) b)) ≤ nI (EXs (lk c Sc) b)) = (DG (lk c Sc) 10 c (EXs (lk c Sc) b) ≤ EXs (lk c Sc) b) := qI_le (by omega) (by omega)
        by_cases c2 : EXs (lk c Sc) b < DG (lk c Sc) 10 c (EXs (lk c Sc) b)
        · rw [if_pos c2, if_neg (by rw [hq]; omega)]
        · rw [if_neg c2, if_pos (by rw [hq]; omega)]
      unfold f_X11_power_23 f_X11_power_47
      rw [show nI b + 1 = nI (b + 1) from qI_add b 1, show nI b + 2 = nI (b + 2) from qI_add b 2, e_see (by omega) (by omega), bd_s, bd_s]
      rw [← h56]
      have q1 : (lk len Ms (b + 1) = 43) = (lk c Sc (b + 1) = 43) := hS.eq (by omega) (by decide)
      have q2 : (lk len Ms (b + 1) = 45) = (lk c Sc (b + 1) = 45) := hS.eq (by omega) (by decide)
      simp only [q1, q2]
      unfold EXs
      by_cases c3 : lk c Sc (b + 1) = 43
      · rw [if_pos c3, if_pos (Or.inr c3)]
      · rw [if_neg c3]
        by_cases c4 : lk c Sc (b + 1) = 45
        · rw [if_pos c4, if_pos (Or.inl c4)]
        · rw [if_neg c4, if_neg (by rintro (h | h); exact c4 h; exact c3 h)]
    have hpull : (if (isE hx (lk c Sc b) ∧ EXs (lk c Sc) b < DG (lk c Sc) 10 c (EXs (lk c Sc) b)) then DG (lk c Sc) 10 c (EXs (lk c Sc) b) else b) = (if EXs (lk c Sc) b < DG (lk c Sc) 10 c (EXs (lk c Sc) b) then DG (lk c Sc) 10 c (EXs (lk c Sc) b) else b) := by
      by_cases c2 : EXs (lk c Sc) b < DG (lk c Sc) 10 c (EXs (lk c Sc) b)
      · rw [if_pos ⟨c1, c2⟩, if_pos c2]
      · rw [if_neg (fun h => c2 h.2), if_neg c2]
    rw [hpull]
    rw [← hE] at c1
    by_cases c2 : lk len Ms b = k
    · rw [if_pos c2, h23]
    · rw [if_neg c2, if_pos (by rcases c1 with h | h; exact absurd h c2; exact h), h23]
  · have hno : (if (isE hx (lk c Sc b) ∧ EXs (lk c Sc) b < DG (lk c Sc) 10 c (EXs (lk c Sc) b)) then DG (lk c Sc) 10 c (EXs (lk c Sc) b) else b) = b := if_neg (fun h => c1 h.1)
    rw [hno]
    rw [← hE] at c1
    rw [if_neg (fun h => c1 (Or.inl h)), if_neg (fun h => c1 (Or.inr h))]
theorem num_real {n c len fr : Nat} (hn : 100000 ≤ n) (hS : See fr c len Sc Ms) (hf : fr < c) (hst : dv (lk c Sc fr) < 10 ∨ (lk c Sc fr = 46 ∧ dv (lk c Sc (fr + 1)) < 10)) :
    (brF (lk c Sc) c fr → ∃ x2 : Int32, f_X11_number n M_came M_size (nI len) (nI fr) M_laid M_tokens M_looked M_thrown M_wrong M_kind M_value M_good Ms V_length V_laid V_gone V_thrown V_were V_none V_beyond V_aMany V_bMany V_fiveMany V_leftMany V_rightMany V_partMany V_twos V_at V_digits V_power V_good Vt Va Vb Vl Vr = f_X11_number_416 n M_came M_size (nI len) M_laid M_tokens M_looked M_thrown M_wrong Ms V_laid V_gone V_fiveMany V_partMany (nI fr) M_kind M_value M_good V_length V_thrown V_were V_none V_beyond V_aMany V_bMany V_leftMany V_rightMany V_twos V_at V_digits V_power V_good Vt Va Vb Vl Vr (nI fr) x2 (nI (eF (lk c Sc) c fr)) 1) ∧
    (¬ brF (lk c Sc) c fr → dv (lk c Sc fr) < 10 ∧ ∃ b : Nat, (b = wbs (lk c Sc) fr ∨ (b = 10 ∧ wbs (lk c Sc) fr = 8 ∧ lk c Sc fr = 48 ∧ DG (lk c Sc) 8 c fr = fr + 1)) ∧ f_X11_number n M_came M_size (nI len) (nI fr) M_laid M_tokens M_looked M_thrown M_wrong M_kind M_value M_good Ms V_length V_laid V_gone V_thrown V_were V_none V_beyond V_aMany V_bMany V_fiveMany V_leftMany V_rightMany V_partMany V_twos V_at V_digits V_power V_good Vt Va Vb Vl Vr = f_X11_number_416 n M_came M_size (nI len) M_laid M_tokens M_looked M_thrown M_wrong Ms V_laid V_gone V_fiveMany V_partMany (nI fr) M_kind M_value M_good V_length V_thrown V_were V_none V_beyond V_aMany V_bMany V_leftMany V_rightMany V_twos V_at V_digits V_power V_good Vt Va Vb Vl Vr (nI fr) (nI b) (nI (DG (lk c Sc) (wbs (lk c Sc) fr) c (wfi (lk c Sc) fr))) 0) := by
  have hc := hS.1
  have hl := hS.2.1
  have hcl := hS.2.2.1
  have p1 := f0_le (Sc := Sc) (show fr ≤ c by omega)
  have p2 := a_le (Sc := Sc) (show fr ≤ c by omega)
  have p3 := b2_le (Sc := Sc) (show fr ≤ c by omega)
  have p4 := e_le (Sc := Sc) (show fr ≤ c by omega)
  have qs : ∀ (i : Nat) (k : Int32), fr ≤ i → 0 ≤ k → (lk len Ms i = k) = (lk c Sc i = k) := fun i k hi hk => hS.eq hi hk
  unfold f_X11_number f_X11_number_0
  rw [e_see (by omega) (by omega), bd_s]
  by_cases hxx : hxF (lk c Sc) fr = 0
  · -- no x behind a zero
    have hnx : ¬ (lk c Sc fr = 48 ∧ (lk c Sc (fr + 1) = 120 ∨ lk c Sc (fr + 1) = 88)) := by
      intro h; unfold hxF at hxx; rw [if_pos h] at hxx; exact absurd hxx (by decide)
    have hf0 : f0F (lk c Sc) fr = fr := by unfold f0F; rw [if_pos hxx]
    have ha : aF (lk c Sc) c fr = DG (lk c Sc) 10 c fr := by unfold aF; rw [hf0, hxx]; rfl
    -- the decimal road
    have hdec : ∀ x5 : Int32, (x5 = 0 ∨ x5 = 1) → (x5 = 1 ↔ lk c Sc fr = 48) → ¬ (lk c Sc fr = 48 ∧ (lk c Sc (fr + 1) = 98 ∨ lk c Sc (fr + 1) = 66) ∧ dv (lk c Sc (fr + 2)) < 2) →
        (brF (lk c Sc) c fr → f_X11_number_262 n M_came M_size (nI len) M_laid M_tokens M_looked M_thrown M_wrong Ms V_laid V_gone V_fiveMany V_partMany (nI fr) M_kind M_value M_good V_length V_thrown V_were V_none V_beyond V_aMany V_bMany V_leftMany V_rightMany V_twos V_at V_digits V_power V_good Vt Va Vb Vl Vr (nI fr) 10 x5 = f_X11_number_416 n M_came M_size (nI len) M_laid M_tokens M_looked M_thrown M_wrong Ms V_laid V_gone V_fiveMany V_partMany (nI fr) M_kind M_value M_good V_length V_thrown V_were V_none V_beyond V_aMany V_bMany V_leftMany V_rightMany V_twos V_at V_digits V_power V_good Vt Va Vb Vl Vr (nI fr) 10 (nI (eF (lk c Sc) c fr)) 1) ∧
        (¬ brF (lk c Sc) c fr → dv (lk c Sc fr) < 10 ∧ ∃ b : Nat, (b = wbs (lk c Sc) fr ∨ (b = 10 ∧ wbs (lk c Sc) fr = 8 ∧ lk c Sc fr = 48 ∧ DG (lk c Sc) 8 c fr = fr + 1)) ∧ f_X11_number_262 n M_came M_size (nI len) M_laid M_tokens M_looked M_thrown M_wrong Ms V_laid V_gone V_fiveMany V_partMany (nI fr) M_kind M_value M_good V_length V_thrown V_were V_none V_beyond V_aMany V_bMany V_leftMany V_rightMany V_twos V_at V_digits V_power V_good Vt Va Vb Vl Vr (nI fr) 10 x5 = f_X11_number_416 n M_came M_size (nI len) M_laid M_tokens M_looked M_thrown M_wrong Ms V_laid V_gone V_fiveMany V_partMany (nI fr) M_kind M_value M_good V_length V_thrown V_were V_none V_beyond V_aMany V_bMany V_leftMany V_rightMany V_twos V_at V_digits V_power V_good Vt Va Vb Vl Vr (nI fr) (nI b) (nI (DG (lk c Sc) (wbs (lk c Sc) fr) c (wfi (lk c Sc) fr))) 0) := by
      intro x5 hx5 hz hnb
      unfold f_X11_number_262
      rw [show (10 : Int32) = nI 10 from rfl, e_digits hn hS (by decide) (by omega), bd_s, ← ha, e_see (by omega) (by omega), bd_s]
      -- a point
      have h313 : (if lk len Ms (aF (lk c Sc) c fr) = 46 then (if nI fr < nI (aF (lk c Sc) c fr) then f_X11_number_308 n M_came M_size (nI len) M_laid M_tokens M_looked M_thrown M_wrong Ms V_laid V_gone V_fiveMany V_partMany (nI fr) M_kind M_value M_good V_length V_thrown V_were V_none V_beyond V_aMany V_bMany V_leftMany V_rightMany V_twos V_at V_digits V_power V_good Vt Va Vb Vl Vr (nI fr) (nI 10) x5 (nI (aF (lk c Sc) c fr)) (nI (aF (lk c Sc) c fr)) else bd (f_X11_see n (nI (aF (lk c Sc) c fr) + 1) M_came M_size (nI len) (nI fr) M_laid M_tokens M_looked M_thrown M_wrong M_kind M_value M_good Ms) fun o3 => bd (f_X11_digit n o3 (nI 10)) fun o4 => if o4 < 0 then f_X11_number_312 n M_came M_size (nI len) M_laid M_tokens M_looked M_thrown M_wrong Ms V_laid V_gone V_fiveMany V_partMany (nI fr) M_kind M_value M_good V_length V_thrown V_were V_none V_beyond V_aMany V_bMany V_leftMany V_rightMany V_twos V_at V_digits V_power V_good Vt Va Vb Vl Vr (nI fr) (nI 10) x5 (nI (aF (lk c Sc) c fr)) (nI (aF (lk c Sc) c fr)) else f_X11_number_308 n M_came M_size (nI len) M_laid M_tokens M_looked M_thrown M_wrong Ms V_laid V_gone V_fiveMany V_partMany (nI fr) M_kind M_value M_good V_length V_thrown V_were V_none V_beyond V_aMany V_bMany V_leftMany V_rightMany V_twos V_at V_digits V_power V_good Vt Va Vb Vl Vr (nI fr) (nI 10) x5 (nI (aF (lk c Sc) c fr)) (nI (aF (lk c Sc) c fr))) else f_X11_number_312 n M_came M_size (nI len) M_laid M_tokens M_looked M_thrown M_wrong Ms V_laid V_gone V_fiveMany V_partMany (nI fr) M_kind M_value M_good V_length V_thrown V_were V_none V_beyond V_aMany V_bMany V_leftMany V_rightMany V_twos V_at V_digits V_power V_good Vt Va Vb Vl Vr (nI fr) (nI 10) x5 (nI (aF (lk c Sc) c fr)) (nI (aF (lk c Sc) c fr))) = f_X11_number_332 n M_came M_size (nI len) M_laid M_tokens M_looked M_thrown M_wrong Ms V_laid V_gone V_fiveMany V_partMany (nI fr) M_kind M_value M_good V_length V_thrown V_were V_none V_beyond V_aMany V_bMany V_leftMany V_rightMany V_twos V_at V_digits V_power V_good Vt Va Vb Vl Vr (nI fr) (nI 10) x5 (nI (b2F (lk c Sc) c fr)) (if lk c Sc (aF (lk c Sc) c fr) = 46 then 1 else 0) := by
        have h308 : lk c Sc (aF (lk c Sc) c fr) = 46 → f_X11_number_308 n M_came M_size (nI len) M_laid M_tokens M_looked M_thrown M_wrong Ms V_laid V_gone V_fiveMany V_partMany (nI fr) M_kind M_value M_good V_length V_thrown V_were V_none V_beyond V_aMany V_bMany V_leftMany V_rightMany V_twos V_at V_digits V_power V_good Vt Va Vb Vl Vr (nI fr) (nI 10) x5 (nI (aF (lk c Sc) c fr)) (nI (aF (lk c Sc) c fr)) = f_X11_number_332 n M_came M_size (nI len) M_laid M_tokens M_looked M_thrown M_wrong Ms V_laid V_gone V_fiveMany V_partMany (nI fr) M_kind M_value M_good V_length V_thrown V_were V_none V_beyond V_aMany V_bMany V_leftMany V_rightMany V_twos V_at V_digits V_power V_good Vt Va Vb Vl Vr (nI fr) (nI 10) x5 (nI (b2F (lk c Sc) c fr)) (if lk c Sc (aF (lk c Sc) c fr) = 46 then 1 else 0) := by
          intro h46
          have hac := pos_of h46 (by decide)
          unfold f_X11_number_308 f_X11_number_313
          rw [if_neg (by decide), show nI (aF (lk c Sc) c fr) + 1 = nI (aF (lk c Sc) c fr + 1) from qI_add _ 1, show (10 : Int32) = nI 10 from rfl, e_digits hn (hS.up (by omega)) (by decide) (by omega), bd_s, if_pos h46]
          have : b2F (lk c Sc) c fr = DG (lk c Sc) 10 c (aF (lk c Sc) c fr + 1) := by unfold b2F; rw [if_pos h46, hxx]; rfl
          rw [this]
        by_cases c1 : lk c Sc (aF (lk c Sc) c fr) = 46
        · rw [if_pos (by rw [qs _ _ (by omega) (by decide)]; exact c1)]
          by_cases c2 : fr < aF (lk c Sc) c fr
          · rw [if_pos (by rw [qI_lt (by omega) (by omega)]; exact c2)]
            exact h308 c1
          · rw [if_neg (by rw [qI_lt (by omega) (by omega)]; exact c2)]
            have hfa : aF (lk c Sc) c fr = fr := by omega
            have hd : dv (lk c Sc (fr + 1)) < 10 := by
              rcases hst with h | h
              · rw [← DG_lt (by decide), ← ha] at h; omega
              · exact h.2
            rw [show nI (aF (lk c Sc) c fr) + 1 = nI (aF (lk c Sc) c fr + 1) from qI_add _ 1, e_see (by omega) (by omega), bd_s, e_digit _ (by decide), bd_s, hfa, hS.dv (by omega), if_pos hd]
            rw [if_neg (by rw [show (0 : Int32) = nI 0 from rfl, qI_lt (by omega) (by omega)]; omega)]
            have := h308 c1
            rw [hfa] at this
            exact this
        · rw [if_neg (by rw [qs _ _ (by omega) (by decide)]; exact c1), if_neg c1]
          unfold f_X11_number_312 f_X11_number_313
          rw [if_pos rfl]
          have : b2F (lk c Sc) c fr = aF (lk c Sc) c fr := by unfold b2F; rw [if_neg c1]
          rw [this]
      rw [h313]
      unfold f_X11_number_332
      rw [e_power (hx := 0) hn hS (by omega) (by omega) (Or.inl ⟨rfl, rfl⟩), bd_s]
      have hef : (if (isE 0 (lk c Sc (b2F (lk c Sc) c fr)) ∧ EXs (lk c Sc) (b2F (lk c Sc) c fr) < DG (lk c Sc) 10 c (EXs (lk c Sc) (b2F (lk c Sc) c fr))) then DG (lk c Sc) 10 c (EXs (lk c Sc) (b2F (lk c Sc) c fr)) else b2F (lk c Sc) c fr) = eF (lk c Sc) c fr := by
        unfold eF; rw [hxx]
      rw [hef, e_see (i := eF (lk c Sc) c fr) (by omega) (by omega), bd_s]
      simp only [lt_e]
      have y102 : (lk len Ms (eF (lk c Sc) c fr) ||| 32 = 102) = (lk c Sc (eF (lk c Sc) c fr) = 102 ∨ lk c Sc (eF (lk c Sc) c fr) = 70) := by rw [or32_102, qs _ _ (by omega) (by decide), qs _ _ (by omega) (by decide)]
      have y100 : (lk len Ms (eF (lk c Sc) c fr) ||| 32 = 100) = (lk c Sc (eF (lk c Sc) c fr) = 100 ∨ lk c Sc (eF (lk c Sc) c fr) = 68) := by rw [or32_100, qs _ _ (by omega) (by decide), qs _ _ (by omega) (by decide)]
      have hlt : (nI (b2F (lk c Sc) c fr) < nI (eF (lk c Sc) c fr)) = (b2F (lk c Sc) c fr < eF (lk c Sc) c fr) := qI_lt (by omega) (by omega)
      simp only [y102, y100, hlt]
      have h376 : f_X11_number_376 n M_came M_size (nI len) M_laid M_tokens M_looked M_thrown M_wrong Ms V_laid V_gone V_fiveMany V_partMany (nI fr) M_kind M_value M_good V_length V_thrown V_were V_none V_beyond V_aMany V_bMany V_leftMany V_rightMany V_twos V_at V_digits V_power V_good Vt Va Vb Vl Vr (nI fr) (nI 10) (nI (eF (lk c Sc) c fr)) x5 = f_X11_number_416 n M_came M_size (nI len) M_laid M_tokens M_looked M_thrown M_wrong Ms V_laid V_gone V_fiveMany V_partMany (nI fr) M_kind M_value M_good V_length V_thrown V_were V_none V_beyond V_aMany V_bMany V_leftMany V_rightMany V_twos V_at V_digits V_power V_good Vt Va Vb Vl Vr (nI fr) (nI 10) (nI (eF (lk c Sc) c fr)) 1 := by
        unfold f_X11_number_376 f_X11_number_381
        rw [if_neg (by decide)]
      have hbf : brF (lk c Sc) c fr ↔ (lk c Sc (aF (lk c Sc) c fr) = 46 ∨ b2F (lk c Sc) c fr < eF (lk c Sc) c fr ∨ (lk c Sc (eF (lk c Sc) c fr) = 102 ∨ lk c Sc (eF (lk c Sc) c fr) = 70) ∨ (lk c Sc (eF (lk c Sc) c fr) = 100 ∨ lk c Sc (eF (lk c Sc) c fr) = 68)) := by
        unfold brF
        simp only [hxx]
        constructor
        · rintro (⟨_, h⟩ | ⟨h, _⟩)
          · rcases h with h | h | h | h | h | h
            · exact Or.inl h
            · exact Or.inr (Or.inl h)
            · exact Or.inr (Or.inr (Or.inl (Or.inl h)))
            · exact Or.inr (Or.inr (Or.inl (Or.inr h)))
            · exact Or.inr (Or.inr (Or.inr (Or.inl h)))
            · exact Or.inr (Or.inr (Or.inr (Or.inr h)))
          · exact absurd rfl h
        · intro h
          refine Or.inl ⟨trivial, ?_⟩
          rcases h with h | h | (h | h) | (h | h)
          · exact Or.inl h
          · exact Or.inr (Or.inl h)
          · exact Or.inr (Or.inr (Or.inl h))
          · exact Or.inr (Or.inr (Or.inr (Or.inl h)))
          · exact Or.inr (Or.inr (Or.inr (Or.inr (Or.inl h))))
          · exact Or.inr (Or.inr (Or.inr (Or.inr (Or.inr h))))
      by_cases c1 : lk c Sc (aF (lk c Sc) c fr) = 46
      · refine ⟨fun _ => ?_, fun h => absurd (hbf.mpr (Or.inl c1)) h⟩
        rw [if_neg (by rw [if_pos c1]; decide)]
        exact h376
      · rw [if_pos (by rw [if_neg c1])]
        by_cases c2 : b2F (lk c Sc) c fr < eF (lk c Sc) c fr
        · refine ⟨fun _ => ?_, fun h => absurd (hbf.mpr (Or.inr (Or.inl c2))) h⟩
          rw [if_pos c2]; exact h376
        · rw [if_neg c2]
          by_cases c3 : lk c Sc (eF (lk c Sc) c fr) = 102 ∨ lk c Sc (eF (lk c Sc) c fr) = 70
          · refine ⟨fun _ => ?_, fun h => absurd (hbf.mpr (Or.inr (Or.inr (Or.inl c3)))) h⟩
            rw [if_pos c3]; exact h376
          · rw [if_neg c3]
            by_cases c4 : lk c Sc (eF (lk c Sc) c fr) = 100 ∨ lk c Sc (eF (lk c Sc) c fr) = 68
            · refine ⟨fun _ => ?_, fun h => absurd (hbf.mpr (Or.inr (Or.inr (Or.inr c4)))) h⟩
              rw [if_pos c4]; exact h376
            · rw [if_neg c4]
              refine ⟨fun h => ?_, fun _ => ?_⟩
              · exfalso
                rcases hbf.mp h with h | h | h | h
                · exact c1 h
                · exact c2 h
                · exact c3 h
                · exact c4 h
              · have h10 : dv (lk c Sc fr) < 10 := by
                  rcases hst with h | h
                  · exact h
                  · exfalso
                    apply c1
                    have : ¬ fr < DG (lk c Sc) 10 c fr := by
                      rw [DG_lt (by decide), h.1]; decide
                    have hg := DG_ge (L := lk c Sc) (b := 10) (c := c) (fr := fr)
                    rw [ha, show DG (lk c Sc) 10 c fr = fr from by omega]; exact h.1
                refine ⟨h10, ?_⟩
                unfold f_X11_number_381
                rw [if_pos rfl]
                have hb2a : b2F (lk c Sc) c fr = aF (lk c Sc) c fr := by unfold b2F; rw [if_neg c1]
                by_cases c5 : lk c Sc fr = 48
                · have hw : wbs (lk c Sc) fr = 8 := by
                    unfold wbs
                    rw [if_neg (fun h => hnx ⟨h.1, h.2.1⟩), if_neg hnb, if_pos c5]
                  have hwf : wfi (lk c Sc) fr = fr := by unfold wfi; rw [hw, if_neg (by decide)]
                  rw [if_neg (by rw [hz.mpr c5]; decide), show (8 : Int32) = nI 8 from rfl, e_digits hn hS (by decide) (by omega), bd_s, hw, hwf]
                  have hle := DG_le (L := lk c Sc) (b := 8) (show fr ≤ c by omega)
                  have hp : fr < DG (lk c Sc) 8 c fr := by rw [DG_lt (by decide), c5]; decide
                  unfold f_X11_number_415
                  have hq : (nI (DG (lk c Sc) 8 c fr) ≤ nI fr + 1) = (DG (lk c Sc) 8 c fr ≤ fr + 1) := by rw [show nI fr + 1 = nI (fr + 1) from qI_add fr 1]; exact qI_le (by omega) (by omega)
                  by_cases c6 : DG (lk c Sc) 8 c fr ≤ fr + 1
                  · rw [if_pos (by rw [hq]; exact c6)]
                    exact ⟨10, Or.inr ⟨rfl, rfl, c5, by omega⟩, rfl⟩
                  · rw [if_neg (by rw [hq]; exact c6)]
                    exact ⟨8, Or.inl rfl, rfl⟩
                · have hw : wbs (lk c Sc) fr = 10 := by
                    unfold wbs
                    rw [if_neg (fun h => c5 h.1), if_neg (fun h => c5 h.1), if_neg c5]
                  have hwf : wfi (lk c Sc) fr = fr := by unfold wfi; rw [hw, if_neg (by decide)]
                  have hx0 : x5 = 0 := by
                    rcases hx5 with h | h
                    · exact h
                    · exact absurd (hz.mp h) c5
                  rw [if_pos hx0, hw, hwf]
                  refine ⟨10, Or.inl rfl, ?_⟩
                  rw [← ha, show eF (lk c Sc) c fr = aF (lk c Sc) c fr from by omega]
    -- a b behind a zero
    have hbin : (lk c Sc fr = 48 ∧ (lk c Sc (fr + 1) = 98 ∨ lk c Sc (fr + 1) = 66) ∧ dv (lk c Sc (fr + 2)) < 2) → ¬ brF (lk c Sc) c fr := by
      rintro ⟨h1, h2, _⟩
      have hD : aF (lk c Sc) c fr = fr + 1 := by
        rw [ha]
        apply DG_one hf
        · rw [h1]; decide
        · rcases h2 with h | h <;> rw [h] <;> decide
        · rcases h2 with h | h <;> rw [h] <;> decide
      have hne : ∀ k : Int32, k ≠ 98 → k ≠ 66 → ¬ lk c Sc (fr + 1) = k := by
        intro k a b h; rcases h2 with g | g
        · exact a (h.symm.trans g)
        · exact b (h.symm.trans g)
      have hB : b2F (lk c Sc) c fr = fr + 1 := by unfold b2F; rw [hD, if_neg (hne 46 (by decide) (by decide))]
      have hEe : eF (lk c Sc) c fr = fr + 1 := by
        unfold eF; rw [hB, hxx, if_neg]
        rintro ⟨h | h, _⟩
        · rcases h.2 with h | h
          · exact hne 101 (by decide) (by decide) h
          · exact hne 69 (by decide) (by decide) h
        · exact h.1 rfl
      unfold brF
      rw [hB, hEe, hD]
      rintro (⟨_, h⟩ | ⟨h, _⟩)
      · rcases h with h | h | h | h | h | h
        · exact hne 46 (by decide) (by decide) h
        · omega
        · exact hne 102 (by decide) (by decide) h
        · exact hne 70 (by decide) (by decide) h
        · exact hne 100 (by decide) (by decide) h
        · exact hne 68 (by decide) (by decide) h
      · exact h hxx
    have y120 : (lk len Ms (fr + 1) ||| 32 = 120) = (lk c Sc (fr + 1) = 120 ∨ lk c Sc (fr + 1) = 88) := by rw [or32_120, qs _ _ (by omega) (by decide), qs _ _ (by omega) (by decide)]
    have y98 : (lk len Ms (fr + 1) ||| 32 = 98) = (lk c Sc (fr + 1) = 98 ∨ lk c Sc (fr + 1) = 66) := by rw [or32_98, qs _ _ (by omega) (by decide), qs _ _ (by omega) (by decide)]
    have h26 : ∀ t0 : Int32, (t0 = 0 ∨ t0 = 1) → (t0 = 1 ↔ lk c Sc fr = 48) →
        (brF (lk c Sc) c fr → f_X11_number_26 n M_came M_size (nI len) M_laid M_tokens M_looked M_thrown M_wrong Ms V_laid V_gone V_fiveMany V_partMany (nI fr) M_kind M_value M_good V_length V_thrown V_were V_none V_beyond V_aMany V_bMany V_leftMany V_rightMany V_twos V_at V_digits V_power V_good Vt Va Vb Vl Vr (nI fr) 10 0 t0 = f_X11_number_416 n M_came M_size (nI len) M_laid M_tokens M_looked M_thrown M_wrong Ms V_laid V_gone V_fiveMany V_partMany (nI fr) M_kind M_value M_good V_length V_thrown V_were V_none V_beyond V_aMany V_bMany V_leftMany V_rightMany V_twos V_at V_digits V_power V_good Vt Va Vb Vl Vr (nI fr) 10 (nI (eF (lk c Sc) c fr)) 1) ∧
        (¬ brF (lk c Sc) c fr → dv (lk c Sc fr) < 10 ∧ ∃ b : Nat, (b = wbs (lk c Sc) fr ∨ (b = 10 ∧ wbs (lk c Sc) fr = 8 ∧ lk c Sc fr = 48 ∧ DG (lk c Sc) 8 c fr = fr + 1)) ∧ f_X11_number_26 n M_came M_size (nI len) M_laid M_tokens M_looked M_thrown M_wrong Ms V_laid V_gone V_fiveMany V_partMany (nI fr) M_kind M_value M_good V_length V_thrown V_were V_none V_beyond V_aMany V_bMany V_leftMany V_rightMany V_twos V_at V_digits V_power V_good Vt Va Vb Vl Vr (nI fr) 10 0 t0 = f_X11_number_416 n M_came M_size (nI len) M_laid M_tokens M_looked M_thrown M_wrong Ms V_laid V_gone V_fiveMany V_partMany (nI fr) M_kind M_value M_good V_length V_thrown V_were V_none V_beyond V_aMany V_bMany V_leftMany V_rightMany V_twos V_at V_digits V_power V_good Vt Va Vb Vl Vr (nI fr) (nI b) (nI (DG (lk c Sc) (wbs (lk c Sc) fr) c (wfi (lk c Sc) fr))) 0) := by
      intro t0 ht hz
      unfold f_X11_number_26 f_X11_number_222
      rw [show nI fr + 1 = nI (fr + 1) from qI_add fr 1, show nI fr + 2 = nI (fr + 2) from qI_add fr 2, e_see (by omega) (by omega), bd_s]
      simp only [lt_e, y120, y98]
      by_cases c0 : t0 = 0
      · have h48 : ¬ lk c Sc fr = 48 := by intro h; have := hz.mpr h; rw [c0] at this; exact absurd this (by decide)
        rw [if_pos c0, if_pos c0]
        exact hdec t0 ht hz (fun h => h48 h.1)
      · have ht1 : t0 = 1 := by rcases ht with h | h; exact absurd h c0; exact h
        have h48 := hz.mp ht1
        rw [if_neg c0, if_neg (fun h => hnx ⟨h48, h⟩), if_neg c0]
        by_cases c1 : lk c Sc (fr + 1) = 98 ∨ lk c Sc (fr + 1) = 66
        · have hin : fr + 1 < c := by rcases c1 with h | h; exact pos_of h (by decide); exact pos_of h (by decide)
          rw [if_pos c1, show (2 : Int32) = nI 2 from rfl, e_digits hn (hS.up (by omega)) (by decide) (by omega), bd_s]
          have hle := DG_le (L := lk c Sc) (b := 2) (show fr + 2 ≤ c by omega)
          have hq : (nI (DG (lk c Sc) 2 c (fr + 2)) ≤ nI (fr + 2)) = (DG (lk c Sc) 2 c (fr + 2) ≤ fr + 2) := qI_le (by omega) (by omega)
          by_cases c2 : dv (lk c Sc (fr + 2)) < 2
          · have hp := c2
            rw [← DG_lt (by decide)] at hp
            have hw : wbs (lk c Sc) fr = 2 := by
              unfold wbs
              rw [if_neg (fun h => hnx ⟨h.1, h.2.1⟩), if_pos ⟨h48, c1, c2⟩]
            have hwf : wfi (lk c Sc) fr = fr + 2 := by unfold wfi; rw [hw, if_pos (Or.inr rfl)]
            rw [if_neg (by rw [hq]; omega), bd_s]
            refine ⟨fun h => absurd h (hbin ⟨h48, c1, c2⟩), fun _ => ⟨by rw [h48]; decide, 2, Or.inl hw.symm, by rw [hw, hwf]⟩⟩
          · have hp := c2
            rw [← DG_lt (by decide)] at hp
            rw [if_pos (by rw [hq]; omega)]
            exact hdec t0 ht hz (fun h => c2 h.2.2)
        · rw [if_neg c1]
          exact hdec t0 ht hz (fun h => c1 h.2.1)
    simp only [qs fr 48 (Nat.le_refl _) (by decide)]
    by_cases c1 : lk c Sc fr = 48
    · rw [if_pos c1]
      have := h26 1 (Or.inr rfl) ⟨fun _ => c1, fun _ => rfl⟩
      exact ⟨fun h => ⟨10, this.1 h⟩, this.2⟩
    · rw [if_neg c1]
      have := h26 0 (Or.inl rfl) ⟨fun h => absurd h (by decide), fun h => absurd h c1⟩
      exact ⟨fun h => ⟨10, this.1 h⟩, this.2⟩
  · -- an x behind a zero
    have hx1 : lk c Sc fr = 48 ∧ (lk c Sc (fr + 1) = 120 ∨ lk c Sc (fr + 1) = 88) := by
      unfold hxF at hxx
      by_cases h : lk c Sc fr = 48 ∧ (lk c Sc (fr + 1) = 120 ∨ lk c Sc (fr + 1) = 88)
      · exact h
      · rw [if_neg h] at hxx; exact absurd rfl hxx
    have hin : fr + 1 < c := by rcases hx1.2 with h | h; exact pos_of h (by decide); exact pos_of h (by decide)
    have hf0 : f0F (lk c Sc) fr = fr + 2 := by unfold f0F; rw [if_neg hxx]
    have hhb : hb (hxF (lk c Sc) fr) = 16 := by unfold hb; rw [if_neg hxx]
    have ha : aF (lk c Sc) c fr = DG (lk c Sc) 16 c (fr + 2) := by unfold aF; rw [hf0, hhb]
    have y120 : (lk len Ms (fr + 1) ||| 32 = 120) = (lk c Sc (fr + 1) = 120 ∨ lk c Sc (fr + 1) = 88) := by rw [or32_120, qs _ _ (by omega) (by decide), qs _ _ (by omega) (by decide)]
    rw [if_pos (by rw [qs _ _ (Nat.le_refl _) (by decide)]; exact hx1.1)]
    unfold f_X11_number_26
    rw [show nI fr + 1 = nI (fr + 1) from qI_add fr 1, show nI fr + 2 = nI (fr + 2) from qI_add fr 2, e_see (by omega) (by omega), bd_s]
    simp only [lt_e, y120]
    rw [if_neg (show ¬ (1 : Int32) = 0 by decide), if_pos hx1.2, show (16 : Int32) = nI 16 from rfl, e_digits (fr := fr + 2) hn (hS.up (by omega)) (by decide) (by omega), bd_s, ← ha, e_see (i := aF (lk c Sc) c fr) (by omega) (by omega), bd_s]
    have h79 : (if lk len Ms (aF (lk c Sc) c fr) = 46 then f_X11_number_79 n M_came M_size (nI len) M_laid M_tokens M_looked M_thrown M_wrong Ms V_laid V_gone V_fiveMany V_partMany (nI fr) M_kind M_value M_good V_length V_thrown V_were V_none V_beyond V_aMany V_bMany V_leftMany V_rightMany V_twos V_at V_digits V_power V_good Vt Va Vb Vl Vr (nI fr) (nI (aF (lk c Sc) c fr)) 1 else f_X11_number_79 n M_came M_size (nI len) M_laid M_tokens M_looked M_thrown M_wrong Ms V_laid V_gone V_fiveMany V_partMany (nI fr) M_kind M_value M_good V_length V_thrown V_were V_none V_beyond V_aMany V_bMany V_leftMany V_rightMany V_twos V_at V_digits V_power V_good Vt Va Vb Vl Vr (nI fr) (nI (aF (lk c Sc) c fr)) 0) = f_X11_number_101 n M_came M_size (nI len) M_laid M_tokens M_looked M_thrown M_wrong Ms V_laid V_gone V_fiveMany V_partMany (nI fr) M_kind M_value M_good V_length V_thrown V_were V_none V_beyond V_aMany V_bMany V_leftMany V_rightMany V_twos V_at V_digits V_power V_good Vt Va Vb Vl Vr (nI fr) (nI (aF (lk c Sc) c fr)) (if lk c Sc (aF (lk c Sc) c fr) = 46 then 1 else 0) (nI (b2F (lk c Sc) c fr)) := by
      unfold f_X11_number_79
      rw [if_neg (show ¬ (1 : Int32) = 0 by decide), if_pos rfl]
      by_cases c1 : lk c Sc (aF (lk c Sc) c fr) = 46
      · have hac := pos_of c1 (by decide)
        have hb2 : b2F (lk c Sc) c fr = DG (lk c Sc) 16 c (aF (lk c Sc) c fr + 1) := by unfold b2F; rw [if_pos c1, hhb]
        rw [if_pos (by rw [qs _ _ (by omega) (by decide)]; exact c1), if_pos c1, show nI (aF (lk c Sc) c fr) + 1 = nI (aF (lk c Sc) c fr + 1) from qI_add _ 1, show (16 : Int32) = nI 16 from rfl, e_digits hn (hS.up (by omega)) (by decide) (by omega), bd_s, hb2]
      · have hb2 : b2F (lk c Sc) c fr = aF (lk c Sc) c fr := by unfold b2F; rw [if_neg c1]
        rw [if_neg (by rw [qs _ _ (by omega) (by decide)]; exact c1), if_neg c1, hb2]
    rw [h79]
    -- the end
    have h197 : ∀ t0 x11 : Nat, x11 ≤ c → (t0 = 1 → f_X11_number_169 n M_came M_size (nI len) M_laid M_tokens M_looked M_thrown M_wrong Ms V_laid V_gone V_fiveMany V_partMany (nI fr) M_kind M_value M_good V_length V_thrown V_were V_none V_beyond V_aMany V_bMany V_leftMany V_rightMany V_twos V_at V_digits V_power V_good Vt Va Vb Vl Vr (nI fr) (nI (aF (lk c Sc) c fr)) (nI x11) 1 = f_X11_number_416 n M_came M_size (nI len) M_laid M_tokens M_looked M_thrown M_wrong Ms V_laid V_gone V_fiveMany V_partMany (nI fr) M_kind M_value M_good V_length V_thrown V_were V_none V_beyond V_aMany V_bMany V_leftMany V_rightMany V_twos V_at V_digits V_power V_good Vt Va Vb Vl Vr (nI fr) 10 (nI x11) 1) := by
      intro t0 x11 _ _
      unfold f_X11_number_169 f_X11_number_197 f_X11_number_216 f_X11_number_218
      rw [if_neg (by decide), if_neg (by decide)]
    have h168 : ∀ x11 : Int32, dv (lk c Sc fr) < 10 ∧ ∃ b : Nat, (b = wbs (lk c Sc) fr ∨ (b = 10 ∧ wbs (lk c Sc) fr = 8 ∧ lk c Sc fr = 48 ∧ DG (lk c Sc) 8 c fr = fr + 1)) ∧ f_X11_number_168 n M_came M_size (nI len) M_laid M_tokens M_looked M_thrown M_wrong Ms V_laid V_gone V_fiveMany V_partMany (nI fr) M_kind M_value M_good V_length V_thrown V_were V_none V_beyond V_aMany V_bMany V_leftMany V_rightMany V_twos V_at V_digits V_power V_good Vt Va Vb Vl Vr (nI fr) (nI (aF (lk c Sc) c fr)) x11 = f_X11_number_416 n M_came M_size (nI len) M_laid M_tokens M_looked M_thrown M_wrong Ms V_laid V_gone V_fiveMany V_partMany (nI fr) M_kind M_value M_good V_length V_thrown V_were V_none V_beyond V_aMany V_bMany V_leftMany V_rightMany V_twos V_at V_digits V_power V_good Vt Va Vb Vl Vr (nI fr) (nI b) (nI (DG (lk c Sc) (wbs (lk c Sc) fr) c (wfi (lk c Sc) fr))) 0 := by
      intro x11
      refine ⟨by rw [hx1.1]; decide, ?_⟩
      unfold f_X11_number_168 f_X11_number_169 f_X11_number_197 f_X11_number_216 f_X11_number_218
      have hq : (nI (aF (lk c Sc) c fr) ≤ nI fr + 2) = (aF (lk c Sc) c fr ≤ fr + 2) := by rw [show nI fr + 2 = nI (fr + 2) from qI_add fr 2]; exact qI_le (by omega) (by omega)
      rw [if_pos rfl, if_pos rfl, if_pos rfl]
      by_cases c1 : dv (lk c Sc (fr + 2)) < 16
      · have hp := c1
        rw [← DG_lt (by decide), ← ha] at hp
        have hw : wbs (lk c Sc) fr = 16 := by unfold wbs; rw [if_pos ⟨hx1.1, hx1.2, c1⟩]
        have hwf : wfi (lk c Sc) fr = fr + 2 := by unfold wfi; rw [hw, if_pos (Or.inl rfl)]
        have hgt : ¬ nI (aF (lk c Sc) c fr) ≤ nI fr + 2 := by rw [hq]; omega
        rw [if_neg hgt, if_neg hgt]
        exact ⟨16, Or.inl hw.symm, by rw [hw, hwf, ha]; rfl⟩
      · have hp := c1
        rw [← DG_lt (by decide), ← ha] at hp
        have hw : wbs (lk c Sc) fr = 8 := by
          unfold wbs; rw [if_neg (fun h => c1 h.2.2), if_neg, if_pos hx1.1]
          rintro ⟨_, h, _⟩
          rcases h with h | h <;> rcases hx1.2 with g | g <;> exact absurd (h.symm.trans g) (by decide)
        have hwf : wfi (lk c Sc) fr = fr := by unfold wfi; rw [hw, if_neg (by decide)]
        have hone : DG (lk c Sc) 8 c fr = fr + 1 := by
          apply DG_one hf
          · rw [hx1.1]; decide
          · rcases hx1.2 with h | h <;> rw [h] <;> decide
          · rcases hx1.2 with h | h <;> rw [h] <;> decide
        have hgt : nI (aF (lk c Sc) c fr) ≤ nI fr + 2 := by rw [hq]; omega
        rw [if_pos hgt, if_pos hgt]
        exact ⟨10, Or.inr ⟨rfl, hw, hx1.1, hone⟩, by rw [hw, hwf, hone, show nI fr + 1 = nI (fr + 1) from qI_add fr 1]; rfl⟩
    have hsd : sdF (lk c Sc) c fr ↔ (fr + 2 < aF (lk c Sc) c fr ∨ (lk c Sc (aF (lk c Sc) c fr) = 46 ∧ aF (lk c Sc) c fr + 1 < b2F (lk c Sc) c fr)) := by unfold sdF; rw [hf0]
    have hbr : brF (lk c Sc) c fr ↔ (sdF (lk c Sc) c fr ∧ b2F (lk c Sc) c fr < eF (lk c Sc) c fr) := by
      unfold brF
      constructor
      · rintro (⟨h, _⟩ | ⟨_, h⟩)
        · exact absurd h hxx
        · exact h
      · intro h; exact Or.inr ⟨hxx, h⟩
    -- with digits
    have h125 : sdF (lk c Sc) c fr → (brF (lk c Sc) c fr → ∃ x2 : Int32, f_X11_number_125 n M_came M_size (nI len) M_laid M_tokens M_looked M_thrown M_wrong Ms V_laid V_gone V_fiveMany V_partMany (nI fr) M_kind M_value M_good V_length V_thrown V_were V_none V_beyond V_aMany V_bMany V_leftMany V_rightMany V_twos V_at V_digits V_power V_good Vt Va Vb Vl Vr (nI fr) (nI (aF (lk c Sc) c fr)) (nI (b2F (lk c Sc) c fr)) = f_X11_number_416 n M_came M_size (nI len) M_laid M_tokens M_looked M_thrown M_wrong Ms V_laid V_gone V_fiveMany V_partMany (nI fr) M_kind M_value M_good V_length V_thrown V_were V_none V_beyond V_aMany V_bMany V_leftMany V_rightMany V_twos V_at V_digits V_power V_good Vt Va Vb Vl Vr (nI fr) x2 (nI (eF (lk c Sc) c fr)) 1) ∧
        (¬ brF (lk c Sc) c fr → dv (lk c Sc fr) < 10 ∧ ∃ b : Nat, (b = wbs (lk c Sc) fr ∨ (b = 10 ∧ wbs (lk c Sc) fr = 8 ∧ lk c Sc fr = 48 ∧ DG (lk c Sc) 8 c fr = fr + 1)) ∧ f_X11_number_125 n M_came M_size (nI len) M_laid M_tokens M_looked M_thrown M_wrong Ms V_laid V_gone V_fiveMany V_partMany (nI fr) M_kind M_value M_good V_length V_thrown V_were V_none V_beyond V_aMany V_bMany V_leftMany V_rightMany V_twos V_at V_digits V_power V_good Vt Va Vb Vl Vr (nI fr) (nI (aF (lk c Sc) c fr)) (nI (b2F (lk c Sc) c fr)) = f_X11_number_416 n M_came M_size (nI len) M_laid M_tokens M_looked M_thrown M_wrong Ms V_laid V_gone V_fiveMany V_partMany (nI fr) M_kind M_value M_good V_length V_thrown V_were V_none V_beyond V_aMany V_bMany V_leftMany V_rightMany V_twos V_at V_digits V_power V_good Vt Va Vb Vl Vr (nI fr) (nI b) (nI (DG (lk c Sc) (wbs (lk c Sc) fr) c (wfi (lk c Sc) fr))) 0) := by
      intro hs
      unfold f_X11_number_125 f_X11_number_130 f_X11_number_150
      rw [if_neg (by decide), e_power (hx := hxF (lk c Sc) fr) hn hS (by omega) (by omega) (Or.inr ⟨hxx, rfl⟩), bd_s, if_neg (by decide)]
      have hef : (if (isE (hxF (lk c Sc) fr) (lk c Sc (b2F (lk c Sc) c fr)) ∧ EXs (lk c Sc) (b2F (lk c Sc) c fr) < DG (lk c Sc) 10 c (EXs (lk c Sc) (b2F (lk c Sc) c fr))) then DG (lk c Sc) 10 c (EXs (lk c Sc) (b2F (lk c Sc) c fr)) else b2F (lk c Sc) c fr) = eF (lk c Sc) c fr := rfl
      rw [hef]
      have hq : (nI (eF (lk c Sc) c fr) ≤ nI (b2F (lk c Sc) c fr)) = (eF (lk c Sc) c fr ≤ b2F (lk c Sc) c fr) := qI_le (by omega) (by omega)
      by_cases c1 : b2F (lk c Sc) c fr < eF (lk c Sc) c fr
      · rw [if_neg (by rw [hq]; omega)]
        refine ⟨fun _ => ⟨10, ?_⟩, fun h => absurd (hbr.mpr ⟨hs, c1⟩) h⟩
        exact h197 1 _ p4.2 rfl
      · rw [if_pos (by rw [hq]; omega)]
        exact ⟨fun h => absurd (hbr.mp h).2 c1, fun _ => h168 _⟩
    have h129 : ¬ sdF (lk c Sc) c fr → (brF (lk c Sc) c fr → ∃ x2 : Int32, f_X11_number_129 n M_came M_size (nI len) M_laid M_tokens M_looked M_thrown M_wrong Ms V_laid V_gone V_fiveMany V_partMany (nI fr) M_kind M_value M_good V_length V_thrown V_were V_none V_beyond V_aMany V_bMany V_leftMany V_rightMany V_twos V_at V_digits V_power V_good Vt Va Vb Vl Vr (nI fr) (nI (aF (lk c Sc) c fr)) (nI (b2F (lk c Sc) c fr)) = f_X11_number_416 n M_came M_size (nI len) M_laid M_tokens M_looked M_thrown M_wrong Ms V_laid V_gone V_fiveMany V_partMany (nI fr) M_kind M_value M_good V_length V_thrown V_were V_none V_beyond V_aMany V_bMany V_leftMany V_rightMany V_twos V_at V_digits V_power V_good Vt Va Vb Vl Vr (nI fr) x2 (nI (eF (lk c Sc) c fr)) 1) ∧
        (¬ brF (lk c Sc) c fr → dv (lk c Sc fr) < 10 ∧ ∃ b : Nat, (b = wbs (lk c Sc) fr ∨ (b = 10 ∧ wbs (lk c Sc) fr = 8 ∧ lk c Sc fr = 48 ∧ DG (lk c Sc) 8 c fr = fr + 1)) ∧ f_X11_number_129 n M_came M_size (nI len) M_laid M_tokens M_looked M_thrown M_wrong Ms V_laid V_gone V_fiveMany V_partMany (nI fr) M_kind M_value M_good V_length V_thrown V_were V_none V_beyond V_aMany V_bMany V_leftMany V_rightMany V_twos V_at V_digits V_power V_good Vt Va Vb Vl Vr (nI fr) (nI (aF (lk c Sc) c fr)) (nI (b2F (lk c Sc) c fr)) = f_X11_number_416 n M_came M_size (nI len) M_laid M_tokens M_looked M_thrown M_wrong Ms V_laid V_gone V_fiveMany V_partMany (nI fr) M_kind M_value M_good V_length V_thrown V_were V_none V_beyond V_aMany V_bMany V_leftMany V_rightMany V_twos V_at V_digits V_power V_good Vt Va Vb Vl Vr (nI fr) (nI b) (nI (DG (lk c Sc) (wbs (lk c Sc) fr) c (wfi (lk c Sc) fr))) 0) := by
      intro hs
      unfold f_X11_number_129 f_X11_number_130 f_X11_number_150
      rw [if_pos rfl, if_pos rfl]
      exact ⟨fun h => absurd (hbr.mp h).1 hs, fun _ => h168 _⟩
    unfold f_X11_number_101
    have q1 : (nI fr + 2 < nI (aF (lk c Sc) c fr)) = (fr + 2 < aF (lk c Sc) c fr) := by rw [show nI fr + 2 = nI (fr + 2) from qI_add fr 2]; exact qI_lt (by omega) (by omega)
    have q2 : (nI (b2F (lk c Sc) c fr) ≤ nI (aF (lk c Sc) c fr) + 1) = (b2F (lk c Sc) c fr ≤ aF (lk c Sc) c fr + 1) := by rw [show nI (aF (lk c Sc) c fr) + 1 = nI (aF (lk c Sc) c fr + 1) from qI_add _ 1]; exact qI_le (by omega) (by omega)
    by_cases c1 : fr + 2 < aF (lk c Sc) c fr
    · rw [if_pos (by rw [q1]; exact c1)]
      exact h125 (hsd.mpr (Or.inl c1))
    · rw [if_neg (by rw [q1]; exact c1)]
      by_cases c2 : b2F (lk c Sc) c fr ≤ aF (lk c Sc) c fr + 1
      · rw [if_pos (by rw [q2]; exact c2)]
        apply h129
        rw [hsd]
        rintro (h | h)
        · exact c1 h
        · omega
      · rw [if_neg (by rw [q2]; exact c2)]
        by_cases c3 : lk c Sc (aF (lk c Sc) c fr) = 46
        · rw [if_neg (by rw [if_pos c3]; decide)]
          exact h125 (hsd.mpr (Or.inr ⟨c3, by omega⟩))
        · rw [if_pos (by rw [if_neg c3])]
          apply h129
          rw [hsd]
          rintro (h | h)
          · exact c1 h
          · exact c3 h.1
end
