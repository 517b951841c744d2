/-! PURE 46: the own rounding and the reference's nearest agree. -/
theorem PW_le {a b : Int} (h : a ≤ b) : PW a ≤ PW b := Nat.pow_le_pow_right (by omega) (by omega)
theorem Wt_form {fl : Int32} {D b Q : Nat} {x : Int} (h1 : mt (pr fl - 1) b = Q) (h2 : ex (pr fl - 1) (bs fl) b = x) : Wt fl D b = Q * D * PW x ∧ Wt fl D (b + 1) = (Q + 1) * D * PW x := by
  constructor
  · unfold Wt; rw [h1, h2]
  · rw [Wt_succ, h1, h2]
theorem Wt_top (fl : Int32) (D : Nat) (hD : 0 < D) : Wt fl D (gr fl) < D * PW (2 - lw fl) ∧ (2 * mt (pr fl - 1) (gr fl) + 1) * D * PW (ex (pr fl - 1) (bs fl) (gr fl) - 1) < D * PW (2 - lw fl) := by
  rcases pr_c fl with ⟨h1, h2, h3, h4⟩ | ⟨h1, h2, h3, h4⟩
  · have hm : mt (pr fl - 1) (gr fl) = 2 ^ 53 - 1 := by rw [h1, h4]; decide
    have hx : ex (pr fl - 1) (bs fl) (gr fl) = 971 := by rw [h1, h3, h4]; decide
    unfold Wt
    rw [hm, hx, h2]
    have e1 : PW (2 - -1022) = PW 971 * 2 ^ 53 := by
      rw [← PW_add (e := 971) 53 (by omega)]; congr 1
    have e2 : PW 971 = PW (971 - 1) * 2 ^ 1 := by
      rw [← PW_add (e := 971 - 1) 1 (by omega)]; congr 1
    rw [e1, e2]
    have hp := PW_pos (971 - 1)
    generalize PW (971 - 1) = P at *
    have hDP : 0 < D * P := Nat.mul_pos hD hp
    constructor
    · have : (2 ^ 53 - 1) * D * (P * 2 ^ 1) = (2 ^ 54 - 2) * (D * P) := by grind
      rw [this]
      have : D * (P * 2 ^ 1 * 2 ^ 53) = 2 ^ 54 * (D * P) := by grind
      rw [this]
      omega
    · have : (2 * (2 ^ 53 - 1) + 1) * D * P = (2 ^ 54 - 1) * (D * P) := by grind
      rw [this]
      have : D * (P * 2 ^ 1 * 2 ^ 53) = 2 ^ 54 * (D * P) := by grind
      rw [this]
      omega
  · have hm : mt (pr fl - 1) (gr fl) = 2 ^ 24 - 1 := by rw [h1, h4]; decide
    have hx : ex (pr fl - 1) (bs fl) (gr fl) = 104 := by rw [h1, h3, h4]; decide
    unfold Wt
    rw [hm, hx, h2]
    have e1 : PW (2 - -126) = PW 104 * 2 ^ 24 := by
      rw [← PW_add (e := 104) 24 (by omega)]; congr 1
    have e2 : PW 104 = PW (104 - 1) * 2 ^ 1 := by
      rw [← PW_add (e := 104 - 1) 1 (by omega)]; congr 1
    rw [e1, e2]
    have hp := PW_pos (104 - 1)
    generalize PW (104 - 1) = P at *
    have hDP : 0 < D * P := Nat.mul_pos hD hp
    constructor
    · have : (2 ^ 24 - 1) * D * (P * 2 ^ 1) = (2 ^ 25 - 2) * (D * P) := by grind
      rw [this]
      have : D * (P * 2 ^ 1 * 2 ^ 24) = 2 ^ 25 * (D * P) := by grind
      rw [this]
      omega
    · have : (2 * (2 ^ 24 - 1) + 1) * D * P = (2 ^ 25 - 1) * (D * P) := by grind
      rw [this]
      have : D * (P * 2 ^ 1 * 2 ^ 24) = 2 ^ 25 * (D * P) := by grind
      rw [this]
      omega
/-- the bits of a quotient Q of l places -/
theorem bits_form {fl : Int32} {E : Int} {Q : Nat} (h1 : E ≤ 1 - lw fl) (h2 : lw fl - pr fl ≤ E) (hQ : Q < 2 ^ (pr fl - (lw fl - E).toNat)) (hQ2 : lw fl ≤ E → 2 ^ (pr fl - 1) ≤ Q) :
    mt (pr fl - 1) (Q + (E - lw fl).toNat * 2 ^ (pr fl - 1)) = Q ∧ ex (pr fl - 1) (bs fl) (Q + (E - lw fl).toNat * 2 ^ (pr fl - 1)) = E - (pr fl - (lw fl - E).toNat : Nat) + 1 ∧ Q + (E - lw fl).toNat * 2 ^ (pr fl - 1) ≤ gr fl := by
  have hbs : bs fl = pr fl - lw fl := by rcases pr_c fl with h | h <;> omega
  have hgr : gr fl + 1 = (1 - lw fl - lw fl + 2).toNat * 2 ^ (pr fl - 1) := by
    rcases pr_c fl with ⟨a1, a2, a3, a4⟩ | ⟨a1, a2, a3, a4⟩ <;> rw [a1, a2, a4] <;> decide
  have hpr : 24 ≤ pr fl := by rcases pr_c fl with h | h <;> omega
  have hlw : lw fl ≤ -126 := by rcases pr_c fl with h | h <;> omega
  have hP : 0 < 2 ^ (pr fl - 1) := Nat.pow_pos (by omega)
  have hPP : 2 ^ pr fl = 2 * 2 ^ (pr fl - 1) := by
    rw [show pr fl = (pr fl - 1) + 1 from by omega, Nat.pow_succ, Nat.mul_comm, Nat.add_sub_cancel]
  by_cases hE : lw fl ≤ E
  · have hQ2' := hQ2 hE
    rw [show pr fl - (lw fl - E).toNat = pr fl from by omega] at hQ ⊢
    rw [hPP] at hQ
    have hdiv : (Q + (E - lw fl).toNat * 2 ^ (pr fl - 1)) / 2 ^ (pr fl - 1) = (E - lw fl).toNat + 1 := by
      rw [Nat.add_mul_div_right _ _ hP]
      have : Q / 2 ^ (pr fl - 1) = 1 := by
        rw [Nat.div_eq_iff hP]; omega
      omega
    have hmod : (Q + (E - lw fl).toNat * 2 ^ (pr fl - 1)) % 2 ^ (pr fl - 1) = Q - 2 ^ (pr fl - 1) := by
      rw [Nat.add_mul_mod_self_right, Nat.mod_eq_sub_mod hQ2', Nat.mod_eq_of_lt (by omega)]
    refine ⟨?_, ?_, ?_⟩
    · unfold mt; rw [hdiv, hmod, if_neg (Nat.succ_ne_zero _)]; omega
    · unfold ex; rw [hdiv, if_neg (Nat.succ_ne_zero _), hbs]; omega
    · have : ((E - lw fl).toNat + 2) * 2 ^ (pr fl - 1) ≤ (1 - lw fl - lw fl + 2).toNat * 2 ^ (pr fl - 1) := Nat.mul_le_mul_right _ (by omega)
      rw [← hgr, Nat.add_mul] at this
      omega
  · rw [show (E - lw fl).toNat = 0 from by omega, Nat.zero_mul, Nat.add_zero]
    have hQ3 : Q < 2 ^ (pr fl - 1) := Nat.lt_of_lt_of_le hQ (Nat.pow_le_pow_right (by omega) (by omega))
    refine ⟨?_, ?_, ?_⟩
    · unfold mt; rw [Nat.div_eq_of_lt hQ3, if_pos rfl, Nat.mod_eq_of_lt hQ3]; rfl
    · unfold ex; rw [Nat.div_eq_of_lt hQ3, if_pos rfl, hbs]; omega
    · have : 1 * 2 ^ (pr fl - 1) ≤ (1 - lw fl - lw fl + 2).toNat * 2 ^ (pr fl - 1) := Nat.mul_le_mul_right _ (by omega)
      rw [← hgr] at this
      omega
theorem agree {fl g : Int32} {N D R : Nat} {e : Int} {bits : Int64} (hD : 0 < D) (hg : g = 0 ∨ g = 1) (h : Rnd (pr fl) (lw fl) N D e g bits) (hR : Nr fl N D e R) : (g = 1 ↔ (R ≠ 0 ∧ R ≤ gr fl)) ∧ (g = 1 → bits = qL R) := by
  obtain ⟨E, E1, E2, E3, E4, E5, E6⟩ := h
  obtain ⟨L, L1, L2, L3, L4⟩ := hR
  have hpr : 24 ≤ pr fl := by rcases pr_c fl with h | h <;> omega
  have hpr2 : pr fl ≤ 53 := by rcases pr_c fl with h | h <;> omega
  have hlw : lw fl ≤ -126 := by rcases pr_c fl with h | h <;> omega
  have hlw2 : -1022 ≤ lw fl := by rcases pr_c fl with h | h <;> omega
  have hbs : bs fl = pr fl - lw fl := by rcases pr_c fl with h | h <;> omega
  have h10 : ¬ (0 : Int32) = 1 := by decide
  by_cases hb1 : 1 - lw fl < E
  · have hg0 := E5 (Or.inl hb1)
    have hbig : D * PW (2 - lw fl) ≤ N * PW e := Nat.le_trans (Nat.mul_le_mul_left _ (PW_le (by omega))) E3
    obtain ⟨t1, t2⟩ := Wt_top fl D hD
    have hLG : L = gr fl := by
      rcases L3 with h | h
      · exact h
      · by_cases hx : L = gr fl
        · exact hx
        · have := Wt_mono (fl := fl) (a := L + 1) hD (gr fl) (by omega)
          omega
    rw [hLG, if_pos (Or.inl (by omega))] at L4
    rw [hg0]
    exact ⟨⟨fun h => absurd h h10, fun h => absurd h.2 (by omega)⟩, fun h => absurd h h10⟩
  · by_cases hb2 : E < lw fl - pr fl
    · have hg0 := E5 (Or.inr hb2)
      have hsm : N * PW e < D * PW (lw fl - pr fl) := Nat.lt_of_lt_of_le E4 (Nat.mul_le_mul_left _ (PW_le (by omega)))
      have h1m : mt (pr fl - 1) 0 = 0 := by unfold mt; simp
      have h1x : ex (pr fl - 1) (bs fl) 0 = lw fl - pr fl + 1 := by unfold ex; rw [Nat.zero_div, if_pos rfl, hbs]; omega
      have hW1 : Wt fl D (0 + 1) = 1 * D * PW (lw fl - pr fl + 1) := (Wt_form (D := D) h1m h1x).2
      have hL0 : L = 0 := by
        by_cases hx : L = 0
        · exact hx
        · have h2 := Wt_mono (fl := fl) (a := 0 + 1) hD L (by omega)
          rw [hW1, Nat.one_mul] at h2
          have h3 : D * PW (lw fl - pr fl) ≤ D * PW (lw fl - pr fl + 1) := Nat.mul_le_mul_left _ (PW_le (by omega))
          omega
      subst hL0
      rw [h1m, h1x, show lw fl - (pr fl : Int) + 1 - 1 = lw fl - pr fl from by omega] at L4
      simp only [Nat.mul_zero, Nat.zero_add, Nat.one_mul] at L4
      rw [if_neg (by omega)] at L4
      rw [hg0]
      exact ⟨⟨fun h => absurd h h10, fun h => absurd L4 h.1⟩, fun h => absurd h h10⟩
    · obtain ⟨Q, r, q1, q2, q3, q4, q5⟩ := E6 (by omega) (by omega)
      generalize hl : pr fl - (lw fl - E).toNat = l at q1 q2 q3 q4 q5
      have hx1 : PW (E - l + 1) = PW (E - l) * 2 ^ 1 := PW_add (e := E - l) 1 (by omega)
      have hQ2 : lw fl ≤ E → 2 ^ (pr fl - 1) ≤ Q := by
        intro hE
        have hlp : l = pr fl := by omega
        have e1 : PW E = PW (E - l) * 2 ^ l := by
          have := PW_add (e := E - l) l (by omega)
          rw [show E - (l : Int) + l = E from by omega] at this
          exact this
        have hPP : 2 ^ pr fl = 2 * 2 ^ (pr fl - 1) := by
          rw [show pr fl = (pr fl - 1) + 1 from by omega, Nat.pow_succ, Nat.mul_comm, Nat.add_sub_cancel]
        rw [e1, hlp] at E3
        rw [hlp] at q1 q2
        rw [hPP] at E3
        generalize 2 ^ (pr fl - 1) = P at *
        have hDP : 0 < D * PW (E - pr fl) := Nat.mul_pos hD (PW_pos _)
        rw [q1] at E3
        generalize hX : PW (E - pr fl) = X at *
        have e2 : D * (X * (2 * P)) = P * (2 * (D * X)) := by grind
        rw [e2] at E3
        generalize D * X = Y at *
        apply Nat.le_of_lt_succ
        have h3 : P * (2 * Y) < (Q + 1) * (2 * Y) := by rw [Nat.add_mul, Nat.one_mul]; omega
        exact Nat.lt_of_mul_lt_mul_right h3
      obtain ⟨b1, b2, b3⟩ := bits_form (fl := fl) (E := E) (Q := Q) (by omega) (by omega) (by rw [hl]; exact q3) hQ2
      rw [hl] at b2
      generalize hb : Q + (E - lw fl).toNat * 2 ^ (pr fl - 1) = b at b1 b2 b3
      obtain ⟨w1, w2⟩ := Wt_form (D := D) b1 b2
      have ha1 : Wt fl D b ≤ N * PW e := by
        rw [w1, hx1, q1]
        have : Q * D * (PW (E - l) * 2 ^ 1) = Q * (2 * (D * PW (E - l))) := by grind
        omega
      have ha2 : N * PW e < Wt fl D (b + 1) := by
        rw [w2, hx1, q1]
        have : (Q + 1) * D * (PW (E - l) * 2 ^ 1) = Q * (2 * (D * PW (E - l))) + 2 * (D * PW (E - l)) := by grind
        omega
      have hLb : L = b := by
        apply Nat.le_antisymm
        · apply Nat.le_of_not_lt
          intro hx
          have := Wt_mono (fl := fl) (a := b + 1) hD L hx
          omega
        · apply Nat.le_of_not_lt
          intro hx
          have h2 := Wt_mono (fl := fl) (a := L + 1) hD b hx
          rcases L3 with h | h <;> omega
      subst hLb
      have hpar : L % 2 = Q % 2 := by
        rw [← hb, show 2 ^ (pr fl - 1) = 2 * 2 ^ (pr fl - 2) from by rw [show pr fl - 1 = (pr fl - 2) + 1 from by omega, Nat.pow_succ, Nat.mul_comm]]
        rw [Nat.mul_left_comm, Nat.add_mul_mod_self_left]
      have hup : (if (2 * mt (pr fl - 1) L + 1) * D * PW (ex (pr fl - 1) (bs fl) L - 1) < N * PW e ∨ (N * PW e = (2 * mt (pr fl - 1) L + 1) * D * PW (ex (pr fl - 1) (bs fl) L - 1) ∧ L % 2 = 1) then 1 else 0) = upq Q r (D * PW (E - l)) := by
        unfold upq
        rw [b1, b2, hpar, show E - (l : Int) + 1 - 1 = E - l from by omega, q1]
        have e1 : (2 * Q + 1) * D * PW (E - l) = Q * (2 * (D * PW (E - l))) + D * PW (E - l) := by grind
        rw [e1]
        generalize Q * (2 * (D * PW (E - l))) = Z
        generalize D * PW (E - l) = Y
        congr 1
        apply propext
        constructor
        · rintro (h | h)
          · left; omega
          · right; exact ⟨by omega, h.2⟩
        · rintro (h | h)
          · left; omega
          · right; exact ⟨by omega, h.2⟩
      rw [hup] at L4
      have hT : Q + upq Q r (D * PW (E - l)) + (E - lw fl).toNat * 2 ^ (pr fl - 1) = R := by rw [L4, ← hb]; omega
      rw [hT] at q4 q5
      have hgr : gr fl + 1 = (3 - 2 * lw fl).toNat * 2 ^ (pr fl - 1) := by
        rcases pr_c fl with ⟨a1, a2, a3, a4⟩ | ⟨a1, a2, a3, a4⟩ <;> rw [a1, a2, a4] <;> decide
      rw [← hgr] at q5
      refine ⟨?_, fun _ => q4⟩
      rw [q5]
      by_cases hc : R = 0 ∨ gr fl + 1 ≤ R
      · rw [if_pos hc]
        exact ⟨fun h => absurd h h10, fun h => absurd hc (by omega)⟩
      · rw [if_neg hc]
        exact ⟨fun _ => by omega, fun _ => rfl⟩
