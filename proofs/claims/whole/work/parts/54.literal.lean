/-! PURE 54: the reference's literal. -/
section
variable {V_laid V_gone V_thrown V_were V_none V_beyond V_aMany V_bMany V_fiveMany V_leftMany V_rightMany V_partMany V_twos V_at V_digits V_power V_good : Int32} {Vt Va : Nat → Int32}
/-- a real number's form in a row of len places -/
def Form (T : Nat → Int32) (len : Nat) (hx : Int32) (f0 a b2 st : Nat) (pt : Bool) : Prop :=
  f0 ≤ a ∧ a ≤ b2 ∧ b2 ≤ len ∧ (f0 < a → Seg T (hb hx) f0 a) ∧
  (pt = true → T a = 46 ∧ a + 1 ≤ b2 ∧ (a + 1 < b2 → Seg T (hb hx) (a + 1) b2)) ∧ (pt = false → b2 = a) ∧
  (f0 < a ∨ (pt = true ∧ a + 1 < b2)) ∧
  ((b2 = len ∧ hx = 0) ∨ (b2 < len ∧ (hx = 0 → T b2 = 101 ∨ T b2 = 69) ∧ (hx ≠ 0 → T b2 = 112 ∨ T b2 = 80) ∧ st = (if T (b2 + 1) = 45 ∨ T (b2 + 1) = 43 then b2 + 2 else b2 + 1) ∧ Seg T 10 st len))
theorem sm_split {T : Nat → Int32} {b f0 a b2 : Nat} (h1 : f0 ≤ a) (h2 : a + 1 ≤ b2) (h3 : T a = 46) : sm T b (b2 - f0) f0 0 = sm T b (b2 - (a + 1)) (a + 1) (sm T b (a - f0) f0 0) := by
  rw [show b2 - f0 = (a - f0) + ((b2 - (a + 1)) + 1) from by omega, sm_add, show f0 + (a - f0) = a from by omega]
  show sm T b (b2 - (a + 1)) (a + 1) (if T a = 46 ∨ T a = 95 then _ else _) = _
  rw [if_pos (Or.inl h3)]
theorem Seg.dig {T : Nat → Int32} {b i r : Nat} (h : Seg T b i r) : ∀ j, i ≤ j → j < r → dv (T j) < b ∨ T j = 95 ∨ T j = 46 := fun j a d => by
  rcases h.2.1 j a d with h | h
  · exact Or.inl h
  · exact Or.inr (Or.inl h)
theorem e_literal {n len f0 a b2 st : Nat} {hx : Int32} {pt : Bool} (hn : 100000 ≤ n) (hl : len ≤ 1200) (hf0 : f0 = if hx = 0 then 0 else 2) (hF : Form (l0 len Vt) len hx f0 a b2 st pt) :
    ∃ (a' : Int32) (d' : Nat) (pw : Int32) (Va' : Nat → Int32) (v : Nat), f_X10_literal n hx (nI len) V_laid V_gone V_thrown V_were V_none V_beyond V_aMany V_bMany V_fiveMany V_leftMany V_rightMany V_partMany V_twos V_at V_digits V_power V_good Vt Va = some (1, a', nI len, nI d', pw, 1, Va') ∧
      Rg a' Va' (sm (l0 len Vt) (hb hx) (b2 - f0) f0 0) ∧ Dn (hb hx) (sm (l0 len Vt) (hb hx) (b2 - f0) f0 0) d' ∧ d' ≤ len ∧
      pw.toInt = -((if hx = 0 then 1 else 4) * ((if pt = true then cn (l0 len Vt) (b2 - (a + 1)) (a + 1) else 0 : Nat) : Int)) + (if l0 len Vt (b2 + 1) = 45 then -(v : Int) else (v : Int)) ∧ I8 v (ev (l0 len Vt) (len - (b2 + 1)) (b2 + 1) 0) := by
  obtain ⟨F1, F2, F3, F4, F5, F6, F7, F8⟩ := hF
  obtain ⟨hb2, hb16⟩ := hb_c hx
  have d46 : dv 46 = 16 := by decide
  -- the place behind
  have hend : ¬ dv (l0 len Vt b2) < hb hx ∧ l0 len Vt b2 ≠ 95 ∧ l0 len Vt b2 ≠ 46 := by
    rcases F8 with ⟨h1, h2⟩ | ⟨h1, h2, h3, _⟩
    · have : l0 len Vt b2 = 0 := by unfold l0; rw [if_neg (by omega)]
      rw [this]
      exact ⟨by have : dv 0 = 16 := by decide
                omega, by decide, by decide⟩
    · by_cases hh : hx = 0
      · have hb10 : hb hx = 10 := by unfold hb; rw [if_pos hh]
        rw [hb10]
        rcases h2 hh with h | h <;> rw [h] <;> decide
      · rcases h3 hh with h | h <;> rw [h]
        · exact ⟨by have : dv 112 = 16 := by decide
                    omega, by decide, by decide⟩
        · exact ⟨by have : dv 80 = 16 := by decide
                    omega, by decide, by decide⟩
  have hstopA : ¬ dv (l0 len Vt a) < hb hx ∧ l0 len Vt a ≠ 95 := by
    cases pt
    · rw [← F6 rfl]; exact ⟨hend.1, hend.2.1⟩
    · rw [(F5 rfl).1, d46]; exact ⟨by omega, by decide⟩
  have hfle : f0 ≤ 2 := by rw [hf0]; split <;> omega
  have hft : (if hx = 0 then (0 : Int32) else 2) = nI f0 := by rw [hf0]; split <;> rfl
  have hrg0 : Rg 0 Va 0 := ⟨0, rfl, rfl, fun j hj => absurd hj (by omega), fun h => absurd h (by omega)⟩
  have hdn0 : Dn (hb hx) 0 0 := ⟨by simp, fun h => absurd h (by omega), fun _ => rfl⟩
  obtain ⟨a1, d1, A1, r1, r2, r3, r4⟩ := e_row (n := n) (i := f0) (r := a) (v := 0) (d := 0) (hx := hx) (a := 0) (Vt := Vt) (Va := Va) (V_laid := V_laid) (V_gone := V_gone) (V_thrown := V_thrown) (V_were := V_were) (V_none := V_none) (V_beyond := V_beyond) (V_bMany := V_bMany) (V_fiveMany := V_fiveMany) (V_leftMany := V_leftMany) (V_rightMany := V_rightMany) (V_partMany := V_partMany) (V_twos := V_twos) (V_power := 0) (V_good := 1) hn hl (by omega) F1 hstopA.1 (fun _ => hstopA.2) (Nat.pow_pos (by omega)) hrg0 hdn0 (by omega) F4
  have hv1 : sm (l0 len Vt) (hb hx) (a - f0) f0 0 < 16 ^ (a + 1) := by
    have h1 := sm_lt (L := l0 len Vt) (b := hb hx) (by omega) (a - f0) f0 0 0 (fun j x y => by
      have hfa : f0 < a := by omega
      exact (F4 hfa).dig j x (by omega)) (by simp)
    have h2 := cn_le (L := l0 len Vt) (a - f0) f0
    have h3 : hb hx ^ (0 + cn (l0 len Vt) (a - f0) f0) ≤ 16 ^ (0 + cn (l0 len Vt) (a - f0) f0) := Nat.pow_le_pow_left hb16 _
    have h4 : 16 ^ (0 + cn (l0 len Vt) (a - f0) f0) ≤ 16 ^ (a + 1) := Nat.pow_le_pow_right (by omega) (by omega)
    omega
  -- whatever comes behind the digits
  have tail : ∀ (a2 : Int32) (d2 : Nat) (A2 : Nat → Int32) (w c2 : Nat), w ≤ 1200 → c2 ≤ 1200 → (w ≠ 0 ∨ c2 ≠ 0) → Rg a2 A2 (sm (l0 len Vt) (hb hx) (b2 - f0) f0 0) → Dn (hb hx) (sm (l0 len Vt) (hb hx) (b2 - f0) f0 0) d2 → d2 ≤ len →
      ∃ (pw : Int32) (v : Nat), f_X10_literal_66 n (nI len) V_laid V_gone V_thrown V_were V_none V_beyond V_bMany V_fiveMany V_leftMany V_rightMany V_partMany V_twos Vt a2 (nI b2) (nI d2) 0 1 A2 hx (nI w) (nI c2) = some (1, a2, nI len, nI d2, pw, 1, A2) ∧
        pw.toInt = -((if hx = 0 then 1 else 4) * (c2 : Int)) + (if l0 len Vt (b2 + 1) = 45 then -(v : Int) else (v : Int)) ∧ I8 v (ev (l0 len Vt) (len - (b2 + 1)) (b2 + 1) 0) := by
    intro a2 d2 A2 w c2 hw hc2 hwc hR2 hD2 hd2
    unfold f_X10_literal_66
    rw [qI_add]
    have hne : ¬ nI (w + c2) = 0 := by rw [qI_eq_lit (by omega) (by decide)]; show ¬ w + c2 = 0; omega
    rw [if_neg hne]
    have hng : (-nI c2).toInt = -(c2 : Int) := i32_neg (qI_toInt (by omega)) (by omega)
    have hn4 : ((-4 : Int32) * nI c2).toInt = -(4 * (c2 : Int)) := by
      rw [Int32.toInt_mul, qI_toInt (by omega), show (-4 : Int32).toInt = -4 from by decide, Int.bmod_eq_of_le (by omega) (by omega)]
      omega
    -- the tail behind the power
    have fin : ∀ pw0 : Int32, pw0.toInt = -((if hx = 0 then 1 else 4) * (c2 : Int)) → ∃ (pw : Int32) (v : Nat), f_X10_literal_88 n (nI len) V_laid V_gone V_thrown V_were V_none V_beyond V_bMany V_fiveMany V_leftMany V_rightMany V_partMany V_twos Vt a2 (nI b2) (nI d2) 0 1 A2 hx pw0 = some (1, a2, nI len, nI d2, pw, 1, A2) ∧
        pw.toInt = -((if hx = 0 then 1 else 4) * (c2 : Int)) + (if l0 len Vt (b2 + 1) = 45 then -(v : Int) else (v : Int)) ∧ I8 v (ev (l0 len Vt) (len - (b2 + 1)) (b2 + 1) 0) := by
      intro pw0 hpw0
      have hpb : -4800 ≤ pw0.toInt ∧ pw0.toInt ≤ 0 := by rw [hpw0]; split <;> omega
      unfold f_X10_literal_88 f_X10_literal_139 f_X10_literal_113 f_X10_literal_144 f_X10_literal_155 f_X10_literal_171
      simp only [e_vlook hl (show b2 < 2147483648 by omega), bd_s]
      rcases F8 with ⟨h1, h2⟩ | ⟨h1, h2, h3, h4, h5⟩
      · have hz : l0 len Vt b2 = 0 := by unfold l0; rw [if_neg (by omega)]
        have hz1 : l0 len Vt (b2 + 1) = 0 := by unfold l0; rw [if_neg (by omega)]
        rw [hz, if_pos h2, if_neg (by decide), if_neg (by decide), if_pos trivial, if_neg (by decide), if_pos trivial, if_pos h2, h1, if_pos rfl]
        refine ⟨pw0, 0, rfl, ?_, ?_⟩
        · rw [h1] at hz1
          rw [hpw0, hz1]; simp
        · rw [show len - (len + 1) = 0 from by omega]
          exact ⟨by omega, Or.inl rfl⟩
      · obtain ⟨v, x1, x2⟩ := e_exponentRow (n := n) (i := b2) (V_laid := V_laid) (V_gone := V_gone) (V_thrown := V_thrown) (V_were := V_were) (V_none := V_none) (V_beyond := V_beyond) (V_aMany := a2) (V_bMany := V_bMany) (V_fiveMany := V_fiveMany) (V_leftMany := V_leftMany) (V_rightMany := V_rightMany) (V_partMany := V_partMany) (V_twos := V_twos) (V_digits := nI d2) (V_power := pw0) (V_good := 1) (Vt := Vt) hn hl h4 h5
        have hvb : v ≤ 100000009 := x2.1
        have hpv : (pw0 + (if l0 len Vt (b2 + 1) = 45 then -nI v else nI v)).toInt = -((if hx = 0 then 1 else 4) * (c2 : Int)) + (if l0 len Vt (b2 + 1) = 45 then -(v : Int) else (v : Int)) := by
          rw [← hpw0]
          by_cases h45 : l0 len Vt (b2 + 1) = 45
          · rw [if_pos h45, if_pos h45]
            exact i32_add_of rfl (i32_neg (qI_toInt (by omega)) (by omega)) (by omega) (by omega)
          · rw [if_neg h45, if_neg h45]
            exact i32_add_of rfl (qI_toInt (by omega)) (by omega) (by omega)
        refine ⟨_, v, ?_, hpv, x2⟩
        rw [x1]
        simp only [bd_s, show ¬ (1 : Int32) = 0 from by decide, if_false, if_true]
        by_cases hh : hx = 0
        · rw [if_pos hh]
          rcases h2 hh with h | h
          · rw [if_pos h]
          · rw [h, if_neg (by decide), if_pos rfl]
        · rw [if_neg hh]
          rcases h3 hh with h | h
          · rw [if_pos h]
          · rw [h, if_neg (by decide), if_pos rfl]
    by_cases hh : hx = 0
    · rw [if_pos hh]
      exact fin _ (by rw [hng, if_pos hh]; omega)
    · rw [if_neg hh]
      exact fin _ (by rw [hn4, if_neg hh])
  unfold f_X10_literal f_X10_literal_0
  have hpull : ∀ F : Int32 → Option (Int32 × Int32 × Int32 × Int32 × Int32 × Int32 × (Nat → Int32)), (if hx = 0 then F 0 else F 2) = F (nI f0) := by
    intro F; rw [← hft]; split <;> rfl
  rw [hpull (fun t => f_X10_literal_10 n (nI len) V_laid V_gone V_thrown V_were V_none V_beyond V_bMany V_fiveMany V_leftMany V_rightMany V_partMany V_twos Vt V_aMany V_at V_digits V_power V_good Va hx t)]
  unfold f_X10_literal_10
  rw [show f_X10_row n hx (nI len) V_laid V_gone V_thrown V_were V_none V_beyond 0 V_bMany V_fiveMany V_leftMany V_rightMany V_partMany V_twos (nI f0) 0 0 1 Vt Va = _ from r1]
  simp only [bd_s, lt_e]
  rw [e_vlook hl (by omega)]
  simp only [bd_s]
  have hc1 := cn_le (L := l0 len Vt) (a - f0) f0
  have hcp : ∀ m i, 0 < m → dv (l0 len Vt i) < hb hx → cn (l0 len Vt) m i ≠ 0 := by
    intro m i hm hd
    obtain ⟨m, rfl⟩ : ∃ m', m = m' + 1 := ⟨m - 1, by omega⟩
    unfold cn
    rw [if_neg]
    · omega
    · intro h
      have : dv (l0 len Vt i) = 16 := by rcases h with h | h <;> rw [h] <;> decide
      omega
  cases pt
  · have hba := F6 rfl
    have h46 : ¬ l0 len Vt a = 46 := by rw [← hba]; exact hend.2.2
    rw [if_neg h46]
    have hfa : f0 < a := by rcases F7 with h | h; exact h; exact absurd h.1 (by decide)
    subst hba
    obtain ⟨pw, v, t1, t2, t3⟩ := tail a1 d1 A1 (cn (l0 len Vt) (b2 - f0) f0) 0 (by omega) (by omega) (Or.inl (hcp _ _ (by omega) (F4 hfa).2.2.1)) r2 r3 (by omega)
    refine ⟨a1, d1, pw, A1, v, t1, r2, r3, by omega, ?_, t3⟩
    rw [t2]; simp
  · obtain ⟨g1, g2, g3⟩ := F5 rfl
    rw [if_pos g1, show nI a + 1 = nI (a + 1) from qI_add a 1]
    obtain ⟨a2, d2, A2, q1, q2, q3, q4⟩ := e_row (n := n) (i := a + 1) (r := b2) (v := sm (l0 len Vt) (hb hx) (a - f0) f0 0) (d := d1) (hx := hx) (a := a1) (Vt := Vt) (Va := A1) (V_laid := V_laid) (V_gone := V_gone) (V_thrown := V_thrown) (V_were := V_were) (V_none := V_none) (V_beyond := V_beyond) (V_bMany := V_bMany) (V_fiveMany := V_fiveMany) (V_leftMany := V_leftMany) (V_rightMany := V_rightMany) (V_partMany := V_partMany) (V_twos := V_twos) (V_power := 0) (V_good := 1) hn hl (by omega) (by omega) hend.1 (fun _ => hend.2.1) hv1 r2 r3 (by omega) g3
    rw [q1]
    simp only [bd_s, lt_e]
    rw [← sm_split F1 g2 g1] at q2 q3
    have hc2 := cn_le (L := l0 len Vt) (b2 - (a + 1)) (a + 1)
    have hne : cn (l0 len Vt) (a - f0) f0 ≠ 0 ∨ cn (l0 len Vt) (b2 - (a + 1)) (a + 1) ≠ 0 := by
      rcases F7 with h | h
      · left; exact hcp _ _ (by omega) (F4 h).2.2.1
      · right; exact hcp _ _ (by omega) (g3 h.2).2.2.1
    obtain ⟨pw, v, t1, t2, t3⟩ := tail a2 d2 A2 (cn (l0 len Vt) (a - f0) f0) (cn (l0 len Vt) (b2 - (a + 1)) (a + 1)) (by omega) (by omega) hne q2 q3 (by omega)
    exact ⟨a2, d2, pw, A2, v, t1, q2, q3, by omega, by rw [t2]; simp, t3⟩
end
