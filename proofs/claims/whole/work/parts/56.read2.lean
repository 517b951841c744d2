/-! PURE 56: the reference's reading of a real number, out of the source. -/
section
variable {V_laid V_gone V_thrown V_were V_none V_beyond V_aMany V_bMany V_fiveMany V_leftMany V_rightMany V_partMany V_twos V_at V_digits V_power V_good : Int32} {Vt Va Vb Vl Vr : Nat → Int32}
/-- the outcome of a reading: the value, or none -/
def Out (x : Int64) (thr : Int32) : Int64 := if thr = 0 then x else -1
theorem e_vread {n len f0 a b2 st : Nat} {hx fl : Int32} {pt : Bool} (hn : 100000 ≤ n) (hl : len ≤ 1200) (hf0 : f0 = if hx = 0 then 0 else 2) (hF : Form (l0 len Vt) len hx f0 a b2 st pt) (hhx : hx = 0 ∨ hx = 1)
    (hbin : hx = 1 ↔ (1 < len ∧ Vt 0 = 48 ∧ (Vt 1 = 120 ∨ Vt 1 = 88))) :
    ∃ x l thr q, ∃ (v d : Nat) (P : Int), f_X10_read n fl (nI len) V_laid V_gone V_thrown V_were V_none V_beyond V_aMany V_bMany V_fiveMany V_leftMany V_rightMany V_partMany V_twos V_at V_digits V_power V_good Vt Va Vb Vl Vr = some (x, l, thr, q) ∧
      Ro fl hx (sm (l0 len Vt) (hb hx) (b2 - f0) f0 0) P d (Out x thr) ∧ Dn (hb hx) (sm (l0 len Vt) (hb hx) (b2 - f0) f0 0) d ∧ d ≤ len ∧
      P = -((if hx = 0 then 1 else 4) * ((if pt = true then cn (l0 len Vt) (b2 - (a + 1)) (a + 1) else 0 : Nat) : Int)) + (if l0 len Vt (b2 + 1) = 45 then -(v : Int) else (v : Int)) ∧ I8 v (ev (l0 len Vt) (len - (b2 + 1)) (b2 + 1) 0) := by
  have hib : f_X10_isBinary n (nI len) V_laid V_gone V_thrown V_were V_none V_beyond V_aMany V_bMany V_fiveMany V_leftMany V_rightMany V_partMany V_twos V_at V_digits V_power V_good Vt = some hx := by
    unfold f_X10_isBinary f_X10_isBinary_0
    simp (disch := omega) only [gu_t, bd_s, lt_e, qI_add, qI_add_lit, qI_lit_add, qI_lt, qI_le, qI_eq, qI_lt_lit, qI_lit_lt, qI_le_lit, qI_lit_le, qI_eq_lit, qI_lit_eq, qI_ne_neg1, gd_nI, gd_lit, qI_lit_toNat, qI_toNat]
    by_cases h1 : len ≤ 1
    · rw [if_pos h1]
      rcases hhx with h | h
      · rw [h]
      · have := hbin.mp h; omega
    · rw [if_neg h1]
      by_cases h2 : Vt 0 = 48
      · rw [if_pos h2]
        by_cases h3 : Vt 1 = 120
        · rw [if_pos h3, hbin.mpr ⟨by omega, h2, Or.inl h3⟩]
        · rw [if_neg h3]
          by_cases h4 : Vt 1 = 88
          · rw [if_pos h4, hbin.mpr ⟨by omega, h2, Or.inr h4⟩]
          · rw [if_neg h4]
            rcases hhx with h | h
            · rw [h]
            · have := (hbin.mp h).2.2
              rcases this with h | h
              · exact absurd h h3
              · exact absurd h h4
      · rw [if_neg h2]
        rcases hhx with h | h
        · rw [h]
        · exact absurd (hbin.mp h).2.1 h2
  obtain ⟨a1, d1, pw, A1, v, l1, l2, l3, l4, l5, l6⟩ := e_literal (n := n) (V_laid := V_laid) (V_gone := V_gone) (V_thrown := V_thrown) (V_were := V_were) (V_none := V_none) (V_beyond := V_beyond) (V_aMany := V_aMany) (V_bMany := V_bMany) (V_fiveMany := V_fiveMany) (V_leftMany := V_leftMany) (V_rightMany := V_rightMany) (V_partMany := V_partMany) (V_twos := V_twos) (V_at := V_at) (V_digits := V_digits) (V_power := V_power) (V_good := V_good) (Va := Va) hn hl hf0 hF
  generalize hN : sm (l0 len Vt) (hb hx) (b2 - f0) f0 0 = N at *
  have hvb : v ≤ 100000009 := l6.1
  have hcb : (if pt = true then cn (l0 len Vt) (b2 - (a + 1)) (a + 1) else 0) ≤ 1200 := by
    split
    · have := cn_le (L := l0 len Vt) (b2 - (a + 1)) (a + 1)
      have := hF.2.2.1
      omega
    · omega
  generalize hP : -((if hx = 0 then 1 else 4) * ((if pt = true then cn (l0 len Vt) (b2 - (a + 1)) (a + 1) else 0 : Nat) : Int)) + (if l0 len Vt (b2 + 1) = 45 then -(v : Int) else (v : Int)) = P at *
  have hPb : -100005000 ≤ P ∧ P ≤ 100000009 := by
    rw [← hP]
    generalize (if pt = true then cn (l0 len Vt) (b2 - (a + 1)) (a + 1) else 0) = cc at *
    split <;> split <;> omega
  unfold f_X10_read f_X10_read_0
  rw [hib]
  simp only [bd_s]
  rw [l1]
  simp only [bd_s, lt_e]
  rw [if_neg (by decide)]
  have hfirst : ∀ F : Int32 → Option (Int64 × Int32 × Int32 × Int32 × Int32 × Int32 × Int32 × Int32 × Int32 × Int32 × Int32 × Int32 × Int32 × Int32 × Int32 × (Nat → Int32) × (Nat → Int32) × (Nat → Int32) × (Nat → Int32)), ∃ t0 : Int32, t0.toInt = P + (if hx = 0 then 1 else 4) * (d1 : Int) ∧ (if hx = 0 then F (pw + nI d1) else F (pw + 4 * nI d1)) = F t0 := by
    intro F
    by_cases hh : hx = 0
    · refine ⟨pw + nI d1, ?_, by rw [if_pos hh]⟩
      rw [i32_add_of l5 (qI_toInt (by omega)) (by omega) (by omega), if_pos hh]; omega
    · refine ⟨pw + 4 * nI d1, ?_, by rw [if_neg hh]⟩
      rw [show (4 : Int32) * nI d1 = nI (4 * d1) from qI_mul 4 d1, i32_add_of l5 (qI_toInt (by omega)) (by omega) (by omega), if_neg hh]; omega
  obtain ⟨t0, t1, t2⟩ := hfirst (fun t => f_X10_read_64 n V_laid V_gone V_fiveMany V_partMany Vt 0 V_thrown V_were V_none V_beyond a1 V_bMany V_leftMany V_rightMany V_twos (nI len) (nI d1) pw 1 A1 Vb Vl Vr fl hx t)
  rw [t2]
  unfold f_X10_read_64 f_X10_read_91 f_X10_read_118
  have ha1 : (a1 ≤ 0) = (N = 0) := by
    obtain ⟨ka, rfl, hR2⟩ := l2
    have hka : ka ≤ 1200 := by
      apply vl_len (B := 65536) (by omega) (v := N) _ hR2.2.2
      have h1 := l3.1
      have h2 : hb hx ^ d1 ≤ 16 ^ d1 := Nat.pow_le_pow_left (hb_c hx).2 _
      have h3 : (16 : Nat) ^ d1 ≤ 65536 ^ 1200 := by
        rw [show (65536 : Nat) = 16 ^ 4 from rfl, ← Nat.pow_mul]; exact Nat.pow_le_pow_right (by omega) (by omega)
      omega
    rw [qI_le_lit (by omega) (by decide), ← Row.zero (by omega) hR2]
    apply propext
    constructor
    · intro h; exact Nat.le_zero.mp h
    · intro h; rw [h]; exact Nat.le_refl _
  simp only [ha1]
  by_cases hN0 : N = 0
  · rw [if_pos hN0]
    exact ⟨_, _, _, _, v, d1, P, rfl, Or.inl ⟨hN0, rfl⟩, l3, l4, hP.symm, l6⟩
  · rw [if_neg hN0]
    have hNp : 0 < N := by omega
    have hG : gr fl < 9223372036854775807 := by rcases pr_c fl with h | h <;> omega
    have hg : f_X10_greatest n fl = some (qL (gr fl)) := by
      unfold f_X10_greatest f_X10_greatest_0 gr
      by_cases h : fl = 0
      · rw [if_pos h, if_pos h]; rfl
      · rw [if_neg h, if_neg h]; rfl
    -- the limits, by the form
    have lim : ∀ (m1 m2 : Int32) (h1 h2 : Int), m1.toInt = h1 → m2.toInt = h2 → h1 = (if hx = 0 then 400 else 1100) → h2 = (if hx = 0 then -400 else -1200) →
        ∃ x l thr q, ∃ (v d : Nat) (P' : Int), (if t0 ≤ m1 then (if m2 ≤ t0 then (bd (f_X10_found n hx fl 0 V_laid V_gone V_thrown V_were V_none V_beyond a1 V_bMany V_fiveMany V_leftMany V_rightMany V_partMany V_twos (nI len) (nI d1) pw 1 A1 Vb Vl Vr) fun qu3 => f_X10_read_131 n V_laid V_gone V_fiveMany V_partMany Vt 0 V_thrown V_were V_none V_beyond qu3.2.1 qu3.2.2.1 qu3.2.2.2.1 qu3.2.2.2.2.1 qu3.2.2.2.2.2.1 (nI len) (nI d1) pw 1 qu3.2.2.2.2.2.2.1 qu3.2.2.2.2.2.2.2.1 qu3.2.2.2.2.2.2.2.2.1 qu3.2.2.2.2.2.2.2.2.2 fl qu3.1) else f_X10_read_131 n V_laid V_gone V_fiveMany V_partMany Vt 0 V_thrown V_were V_none V_beyond a1 V_bMany V_leftMany V_rightMany V_twos (nI len) (nI d1) pw 1 A1 Vb Vl Vr fl 0) else (bd (f_X10_greatest n fl) fun o1 => f_X10_read_131 n V_laid V_gone V_fiveMany V_partMany Vt 0 V_thrown V_were V_none V_beyond a1 V_bMany V_leftMany V_rightMany V_twos (nI len) (nI d1) pw 1 A1 Vb Vl Vr fl (o1 + 1))) = some (x, l, thr, q) ∧
          Ro fl hx N P' d (Out x thr) ∧ Dn (hb hx) N d ∧ d ≤ len ∧ P' = P ∧ P = -((if hx = 0 then 1 else 4) * ((if pt = true then cn (l0 len Vt) (b2 - (a + 1)) (a + 1) else 0 : Nat) : Int)) + (if l0 len Vt (b2 + 1) = 45 then -(v : Int) else (v : Int)) ∧ I8 v (ev (l0 len Vt) (len - (b2 + 1)) (b2 + 1) 0) := by
      intro m1 m2 h1 h2 e1 e2 e3 e4
      simp only [i32_le t1 e1, i32_le e2 t1]
      by_cases c1 : P + (if hx = 0 then 1 else 4) * (d1 : Int) ≤ h1
      · rw [if_pos c1]
        by_cases c2 : h2 ≤ P + (if hx = 0 then 1 else 4) * (d1 : Int)
        · rw [if_pos c2]
          obtain ⟨R, q, f1, f2⟩ := e_found (n := n) (V_length := 0) (V_laid := V_laid) (V_gone := V_gone) (V_thrown := V_thrown) (V_were := V_were) (V_none := V_none) (V_beyond := V_beyond) (V_bMany := V_bMany) (V_fiveMany := V_fiveMany) (V_leftMany := V_leftMany) (V_rightMany := V_rightMany) (V_partMany := V_partMany) (V_twos := V_twos) (V_at := nI len) (V_digits := nI d1) (V_good := 1) (Vb := Vb) (Vl := Vl) (Vr := Vr) (fl := fl) hn l2 hNp l3 (by omega) l5 (by rw [← e3]; exact c1) (by rw [← e4]; exact c2)
          rw [f1]
          simp only [bd_s]
          obtain ⟨x, thr, l, q2, g1, g2⟩ := e_read131 (n := n) (R := R) (fl := fl) (V_laid := V_laid) (V_gone := V_gone) (V_fiveMany := V_fiveMany) (V_partMany := V_partMany) (Vt := Vt) (V_length := 0) (V_thrown := V_thrown) (V_were := V_were) (V_none := V_none) (V_beyond := V_beyond) (V_aMany := q.1) (V_bMany := q.2.1) (V_leftMany := q.2.2.1) (V_rightMany := q.2.2.2.1) (V_twos := q.2.2.2.2.1) (V_at := nI len) (V_digits := nI d1) (V_power := pw) (V_good := 1) (Va := q.2.2.2.2.2.1) (Vb := q.2.2.2.2.2.2.1) (Vl := q.2.2.2.2.2.2.2.1) (Vr := q.2.2.2.2.2.2.2.2) (Nr_le f2)
          refine ⟨x, l, thr, q2, v, d1, P, g1, Or.inr (Or.inr ⟨hNp, by rw [← e3]; exact c1, by rw [← e4]; exact c2, R, f2, ?_⟩), l3, l4, rfl, hP.symm, l6⟩
          unfold Out
          rcases g2 with ⟨k1, k2, k3⟩ | ⟨k1, k2⟩
          · rw [if_pos k1, if_neg k3, k2]
          · rw [if_neg k1, if_pos k2]
        · rw [if_neg c2]
          obtain ⟨x, thr, l, q2, g1, g2⟩ := e_read131 (n := n) (R := 0) (fl := fl) (V_laid := V_laid) (V_gone := V_gone) (V_fiveMany := V_fiveMany) (V_partMany := V_partMany) (Vt := Vt) (V_length := 0) (V_thrown := V_thrown) (V_were := V_were) (V_none := V_none) (V_beyond := V_beyond) (V_aMany := a1) (V_bMany := V_bMany) (V_leftMany := V_leftMany) (V_rightMany := V_rightMany) (V_twos := V_twos) (V_at := nI len) (V_digits := nI d1) (V_power := pw) (V_good := 1) (Va := A1) (Vb := Vb) (Vl := Vl) (Vr := Vr) (by omega)
          refine ⟨x, l, thr, q2, v, d1, P, g1, Or.inr (Or.inl ⟨hNp, Or.inr (by rw [← e4]; omega), ?_⟩), l3, l4, rfl, hP.symm, l6⟩
          unfold Out
          rcases g2 with ⟨k1, k2, k3⟩ | ⟨k1, k2⟩
          · exact absurd (Or.inl rfl) k3
          · rw [if_neg k1]
      · rw [if_neg c1, hg]
        simp only [bd_s]
        rw [show qL (gr fl) + 1 = qL (gr fl + 1) from qL_add (gr fl) 1]
        obtain ⟨x, thr, l, q2, g1, g2⟩ := e_read131 (n := n) (R := gr fl + 1) (fl := fl) (V_laid := V_laid) (V_gone := V_gone) (V_fiveMany := V_fiveMany) (V_partMany := V_partMany) (Vt := Vt) (V_length := 0) (V_thrown := V_thrown) (V_were := V_were) (V_none := V_none) (V_beyond := V_beyond) (V_aMany := a1) (V_bMany := V_bMany) (V_leftMany := V_leftMany) (V_rightMany := V_rightMany) (V_twos := V_twos) (V_at := nI len) (V_digits := nI d1) (V_power := pw) (V_good := 1) (Va := A1) (Vb := Vb) (Vl := Vl) (Vr := Vr) (by omega)
        refine ⟨x, l, thr, q2, v, d1, P, g1, Or.inr (Or.inl ⟨hNp, Or.inl (by rw [← e3]; omega), ?_⟩), l3, l4, rfl, hP.symm, l6⟩
        unfold Out
        rcases g2 with ⟨k1, k2, k3⟩ | ⟨k1, k2⟩
        · exact absurd (Or.inr (by omega)) k3
        · rw [if_neg k1]
    by_cases hh : hx = 0
    · obtain ⟨x, l, thr, q, v', d', P', z1, z2, z3, z4, z5, z6, z7⟩ := lim 400 (-400) 400 (-400) (by decide) (by decide) (by rw [if_pos hh]) (by rw [if_pos hh])
      subst z5
      refine ⟨x, l, thr, q, v', d', P', ?_, z2, z3, z4, z6, z7⟩
      rw [← z1]
      simp only [if_pos hh, lt_e]
    · obtain ⟨x, l, thr, q, v', d', P', z1, z2, z3, z4, z5, z6, z7⟩ := lim 1100 (-1200) 1100 (-1200) (by decide) (by decide) (by rw [if_neg hh]) (by rw [if_neg hh])
      subst z5
      refine ⟨x, l, thr, q, v', d', P', ?_, z2, z3, z4, z6, z7⟩
      rw [← z1]
      simp only [if_neg hh, lt_e]
end
