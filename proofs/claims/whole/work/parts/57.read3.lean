/-! PURE 57: the reference's reading of a real number, in the source's places. -/
theorem sm_shift {G L : Nat → Int32} {b fr : Nat} : ∀ (m i v : Nat), (∀ j, i ≤ j → j < i + m → G j = L (fr + j)) → sm G b m i v = sm L b m (fr + i) v
  | 0, _, _, _ => rfl
  | m + 1, i, v, h => by
    have hi := h i (Nat.le_refl _) (by omega)
    show sm G b m (i + 1) (if G i = 46 ∨ G i = 95 then v else v * b + dv (G i)) = sm L b m (fr + i + 1) (if L (fr + i) = 46 ∨ L (fr + i) = 95 then v else v * b + dv (L (fr + i)))
    rw [hi, sm_shift m (i + 1) _ (fun j a d => h j (by omega) (by omega))]; rfl
theorem cn_shift {G L : Nat → Int32} {fr : Nat} : ∀ (m i : Nat), (∀ j, i ≤ j → j < i + m → G j = L (fr + j)) → cn G m i = cn L m (fr + i)
  | 0, _, _ => rfl
  | m + 1, i, h => by
    have hi := h i (Nat.le_refl _) (by omega)
    show (if G i = 46 ∨ G i = 95 then 0 else 1) + cn G m (i + 1) = (if L (fr + i) = 46 ∨ L (fr + i) = 95 then 0 else 1) + cn L m (fr + i + 1)
    rw [hi, cn_shift m (i + 1) (fun j a d => h j (by omega) (by omega))]; rfl
theorem ev_shift {G L : Nat → Int32} {fr : Nat} : ∀ (m i T : Nat), (∀ j, i ≤ j → j < i + m → G j = L (fr + j)) → ev G m i T = ev L m (fr + i) T
  | 0, _, _, _ => rfl
  | m + 1, i, T, h => by
    have hi := h i (Nat.le_refl _) (by omega)
    show ev G m (i + 1) (if dv (G i) < 10 then T * 10 + dv (G i) else T) = ev L m (fr + i + 1) (if dv (L (fr + i)) < 10 then T * 10 + dv (L (fr + i)) else T)
    rw [hi, ev_shift m (i + 1) _ (fun j a d => h j (by omega) (by omega))]; rfl
theorem Seg_shift {G L : Nat → Int32} {b fr i r : Nat} (hfi : fr ≤ i) (h : Seg L b i r) (hG : ∀ j, i ≤ j → j < r → G (j - fr) = L j) : Seg G b (i - fr) (r - fr) := by
  obtain ⟨h1, h2, h3, h4⟩ := h
  refine ⟨by omega, ?_, ?_, ?_⟩
  · intro j a d
    have := hG (j + fr) (by omega) (by omega)
    rw [Nat.add_sub_cancel] at this
    rw [this]; exact h2 _ (by omega) (by omega)
  · rw [hG i (Nat.le_refl _) h1]; exact h3
  · have := hG (r - 1) (by omega) (by omega)
    rw [show r - 1 - fr = r - fr - 1 from by omega] at this
    rw [this]; exact h4
section
variable {V_laid V_gone V_fiveMany V_partMany : Int32} {U : Nat → Int32}
theorem e_cp_loop {n fr e : Nat} {fl : Int32} (he : e ≤ 81920) (hfe : fr ≤ e) (hl : e - fr ≤ 1200) : ∀ (m k i : Nat) (V_thrown V_were V_none V_beyond V_aMany V_bMany V_leftMany V_rightMany V_twos V_at V_digits V_power V_good : Int32) (Vt Va Vb Vl Vr : Nat → Int32), i + m = e → fr ≤ i → m < k → (∀ j, j < i - fr → Vt j = U (fr + j)) →
    ∃ Vt' : Nat → Int32, (∀ j, j < e - fr → Vt' j = U (fr + j)) ∧ f_X10_read__21 n V_laid V_gone V_fiveMany V_partMany U k (nI (i - fr)) V_thrown V_were V_none V_beyond V_aMany V_bMany V_leftMany V_rightMany V_twos V_at V_digits V_power V_good Vt Va Vb Vl Vr (nI e) fl (nI i) =
      f_X10_read__21 n V_laid V_gone V_fiveMany V_partMany U (k - m) (nI (e - fr)) V_thrown V_were V_none V_beyond V_aMany V_bMany V_leftMany V_rightMany V_twos V_at V_digits V_power V_good Vt' Va Vb Vl Vr (nI e) fl (nI e) := by
  intro m
  induction m with
  | zero =>
    intro k i a1 a2 a3 a4 a5 a6 a7 a8 a9 a10 a11 a12 a13 Vt Va Vb Vl Vr hm hi hk hT
    have hie : i = e := by omega
    subst hie
    exact ⟨Vt, hT, rfl⟩
  | succ m ih =>
    intro k i a1 a2 a3 a4 a5 a6 a7 a8 a9 a10 a11 a12 a13 Vt Va Vb Vl Vr hm hi hk hT
    obtain ⟨k, rfl⟩ : ∃ k', k = k' + 1 := ⟨k - 1, by omega⟩
    obtain ⟨Vt', h1, h2⟩ := ih k (i + 1) a1 a2 a3 a4 a5 a6 a7 a8 a9 a10 a11 a12 a13 (upd Vt (i - fr) (U i)) Va Vb Vl Vr (by omega) (by omega) (by omega) (by
      intro j hj
      by_cases h : j = i - fr
      · subst h; rw [upd_same]; congr 1; omega
      · rw [upd_ne _ _ h]; exact hT j (by omega))
    refine ⟨Vt', h1, ?_⟩
    rw [show k + 1 - (m + 1) = k - m from by omega, ← h2]
    rw [show f_X10_read__21 n V_laid V_gone V_fiveMany V_partMany U (k + 1) (nI (i - fr)) a1 a2 a3 a4 a5 a6 a7 a8 a9 a10 a11 a12 a13 Vt Va Vb Vl Vr (nI e) fl (nI i) = fb_X10_read__21 n (f_X10_read__21 n V_laid V_gone V_fiveMany V_partMany U k) V_laid V_gone V_fiveMany V_partMany U (nI (i - fr)) a1 a2 a3 a4 a5 a6 a7 a8 a9 a10 a11 a12 a13 Vt Va Vb Vl Vr (nI e) fl (nI i) from rfl]
    unfold fb_X10_read__21
    simp (disch := omega) only [gu_t, bd_s, lt_e, qI_add, qI_add_lit, qI_lit_add, qI_lt, qI_le, qI_eq, qI_lt_lit, qI_lit_lt, qI_le_lit, qI_lit_le, qI_eq_lit, qI_lit_eq, qI_ne_neg1, gd_nI, gd_lit, qI_lit_toNat, qI_toNat]
    rw [if_neg (by omega), show i - fr + 1 = i + 1 - fr from by omega]
theorem e_readS {n fr e f0 a b2 st : Nat} {hx fl : Int32} {pt : Bool} {L : Nat → Int32} {V_length V_thrown V_were V_none V_beyond V_aMany V_bMany V_leftMany V_rightMany V_twos V_at V_digits V_power V_good : Int32} {Vt Va Vb Vl Vr : Nat → Int32} (hn : 100000 ≤ n) (he : e ≤ 81920) (hfe : fr ≤ e) (hl : e - fr ≤ 1200) (hU : ∀ j, fr ≤ j → j < e → U j = L j) (hf0 : f0 = if hx = 0 then fr else fr + 2) (hF : Form L e hx f0 a b2 st pt) (hhx : hx = 0 ∨ hx = 1)
    (hbin : hx = 1 ↔ (fr + 1 < e ∧ L fr = 48 ∧ (L (fr + 1) = 120 ∨ L (fr + 1) = 88))) :
    ∃ val q, ∃ (v d : Nat) (P : Int), f_X10_read_ n (nI fr) (nI e) fl V_length V_laid V_gone V_thrown V_were V_none V_beyond V_aMany V_bMany V_fiveMany V_leftMany V_rightMany V_partMany V_twos V_at V_digits V_power V_good Vt Va Vb Vl Vr U = some (val, q) ∧
      Ro fl hx (sm L (hb hx) (b2 - f0) f0 0) P d val ∧ Dn (hb hx) (sm L (hb hx) (b2 - f0) f0 0) d ∧ d ≤ e - fr ∧
      P = -((if hx = 0 then 1 else 4) * ((if pt = true then cn L (b2 - (a + 1)) (a + 1) else 0 : Nat) : Int)) + (if L (b2 + 1) = 45 then -(v : Int) else (v : Int)) ∧ I8 v (ev L (e - (b2 + 1)) (b2 + 1) 0) := by
  unfold f_X10_read_ f_X10_read__0
  have hsub : nI e - nI fr = nI (e - fr) := qI_sub hfe
  rw [hsub, if_pos (by rw [qI_le_lit (by omega) (by decide)]; exact hl)]
  obtain ⟨T, hT, hcp⟩ := e_cp_loop (n := n) (fr := fr) (e := e) (fl := fl) (U := U) (V_laid := V_laid) (V_gone := V_gone) (V_fiveMany := V_fiveMany) (V_partMany := V_partMany) he hfe hl (e - fr) n fr V_thrown V_were V_none V_beyond V_aMany V_bMany V_leftMany V_rightMany V_twos V_at V_digits V_power V_good Vt Va Vb Vl Vr (by omega) (Nat.le_refl _) (by omega) (fun j hj => absurd hj (by omega))
  rw [Nat.sub_self] at hcp
  rw [show f_X10_read__21 n V_laid V_gone V_fiveMany V_partMany U n 0 V_thrown V_were V_none V_beyond V_aMany V_bMany V_leftMany V_rightMany V_twos V_at V_digits V_power V_good Vt Va Vb Vl Vr (nI e) fl (nI fr) = _ from hcp]
  obtain ⟨k, hk⟩ : ∃ k, n - (e - fr) = k + 1 := ⟨n - (e - fr) - 1, by omega⟩
  rw [hk]
  have hG : ∀ j, fr ≤ j → j < e → l0 (e - fr) T (j - fr) = L j := by
    intro j h1 h2
    unfold l0
    rw [if_pos (by omega), hT _ (by omega), show fr + (j - fr) = j from by omega, hU j h1 h2]
  have hG2 : ∀ j, j < e - fr → l0 (e - fr) T j = L (fr + j) := by
    intro j h1
    have := hG (fr + j) (by omega) (by omega)
    rw [show fr + j - fr = j from by omega] at this; exact this
  have hf0r : fr ≤ f0 := by rw [hf0]; split <;> omega
  obtain ⟨F1, F2, F3, F4, F5, F6, F7, F8⟩ := hF
  have hF' : Form (l0 (e - fr) T) (e - fr) hx (f0 - fr) (a - fr) (b2 - fr) (st - fr) pt := by
    refine ⟨by omega, by omega, by omega, ?_, ?_, ?_, ?_, ?_⟩
    · intro h
      exact Seg_shift hf0r (F4 (by omega)) (fun j x y => hG j (by omega) (by omega))
    · intro h
      obtain ⟨g1, g2, g3⟩ := F5 h
      refine ⟨by rw [hG a (by omega) (by omega)]; exact g1, by omega, fun h2 => ?_⟩
      have := Seg_shift (G := l0 (e - fr) T) (fr := fr) (by omega) (g3 (by omega)) (fun j x y => hG j (by omega) (by omega))
      rw [show a + 1 - fr = a - fr + 1 from by omega] at this
      exact this
    · intro h; rw [F6 h]
    · rcases F7 with h | h
      · left; omega
      · right
        have := (F5 h.1).2.1
        exact ⟨h.1, by omega⟩
    · rcases F8 with ⟨h1, h2⟩ | ⟨h1, h2, h3, h4, h5⟩
      · left; exact ⟨by omega, h2⟩
      · right
        have hb2 : l0 (e - fr) T (b2 - fr) = L b2 := hG b2 (by omega) h1
        have hst : b2 + 1 ≤ st := by rw [h4]; split <;> omega
        have hb3 : l0 (e - fr) T (b2 - fr + 1) = L (b2 + 1) := by
          have := hG (b2 + 1) (by omega) (by have := h5.1; omega)
          rw [show b2 + 1 - fr = b2 - fr + 1 from by omega] at this; exact this
        refine ⟨by omega, by rw [hb2]; exact h2, by rw [hb2]; exact h3, ?_, Seg_shift (by omega) h5 (fun j x y => hG j (by omega) y)⟩
        rw [hb3, h4]; split <;> omega
  obtain ⟨x, l, thr, q, v, d, P, r1, r2, r3, r4, r5, r6⟩ := e_vread (n := n) (Vt := T) (hx := hx) (fl := fl) (V_laid := V_laid) (V_gone := V_gone) (V_thrown := V_thrown) (V_were := V_were) (V_none := V_none) (V_beyond := V_beyond) (V_aMany := V_aMany) (V_bMany := V_bMany) (V_fiveMany := V_fiveMany) (V_leftMany := V_leftMany) (V_rightMany := V_rightMany) (V_partMany := V_partMany) (V_twos := V_twos) (V_at := V_at) (V_digits := V_digits) (V_power := V_power) (V_good := V_good) (Va := Va) (Vb := Vb) (Vl := Vl) (Vr := Vr) hn hl (f0 := f0 - fr) (by rw [hf0]; split <;> omega) hF' hhx (by
    rw [hbin]
    constructor
    · rintro ⟨h1, h2, h3⟩
      have e0 := hT 0 (by omega)
      have e1 := hT 1 (by omega)
      rw [Nat.add_zero] at e0
      rw [e0, e1, hU fr (Nat.le_refl _) (by omega), hU (fr + 1) (by omega) (by omega)]
      exact ⟨by omega, h2, h3⟩
    · rintro ⟨h1, h2, h3⟩
      have e0 := hT 0 (by omega)
      have e1 := hT 1 (by omega)
      rw [Nat.add_zero] at e0
      rw [e0, hU fr (Nat.le_refl _) (by omega)] at h2
      rw [e1, hU (fr + 1) (by omega) (by omega)] at h3
      exact ⟨by omega, h2, h3⟩)
  have s1 : sm (l0 (e - fr) T) (hb hx) (b2 - fr - (f0 - fr)) (f0 - fr) 0 = sm L (hb hx) (b2 - f0) f0 0 := by
    rw [sm_shift (L := L) (fr := fr) _ _ _ (fun j x y => hG2 j (by omega)), show fr + (f0 - fr) = f0 from by omega, show b2 - fr - (f0 - fr) = b2 - f0 from by omega]
  have s2 : pt = true → cn (l0 (e - fr) T) (b2 - fr - (a - fr + 1)) (a - fr + 1) = cn L (b2 - (a + 1)) (a + 1) := by
    intro hpt
    have := (F5 hpt).2.1
    rw [cn_shift (L := L) (fr := fr) _ _ (fun j x y => hG2 j (by omega)), show fr + (a - fr + 1) = a + 1 from by omega, show b2 - fr - (a - fr + 1) = b2 - (a + 1) from by omega]
  have s3 : ev (l0 (e - fr) T) (e - fr - (b2 - fr + 1)) (b2 - fr + 1) 0 = ev L (e - (b2 + 1)) (b2 + 1) 0 := by
    rw [ev_shift (L := L) (fr := fr) _ _ _ (fun j x y => hG2 j (by omega)), show fr + (b2 - fr + 1) = b2 + 1 from by omega, show e - fr - (b2 - fr + 1) = e - (b2 + 1) from by omega]
  rw [s1] at r2 r3
  rw [s3] at r6
  have hgo : ∃ q', f_X10_read__21 n V_laid V_gone V_fiveMany V_partMany U (k + 1) (nI (e - fr)) V_thrown V_were V_none V_beyond V_aMany V_bMany V_leftMany V_rightMany V_twos V_at V_digits V_power V_good T Va Vb Vl Vr (nI e) fl (nI e) = some (Out x thr, q') := by
    rw [show f_X10_read__21 n V_laid V_gone V_fiveMany V_partMany U (k + 1) (nI (e - fr)) V_thrown V_were V_none V_beyond V_aMany V_bMany V_leftMany V_rightMany V_twos V_at V_digits V_power V_good T Va Vb Vl Vr (nI e) fl (nI e) = fb_X10_read__21 n (f_X10_read__21 n V_laid V_gone V_fiveMany V_partMany U k) V_laid V_gone V_fiveMany V_partMany U (nI (e - fr)) V_thrown V_were V_none V_beyond V_aMany V_bMany V_leftMany V_rightMany V_twos V_at V_digits V_power V_good T Va Vb Vl Vr (nI e) fl (nI e) from rfl]
    unfold fb_X10_read__21
    simp (disch := omega) only [gu_t, bd_s, lt_e, qI_add, qI_add_lit, qI_lit_add, qI_lt, qI_le, qI_eq, qI_lt_lit, qI_lit_lt, qI_le_lit, qI_lit_le, qI_eq_lit, qI_lit_eq, qI_ne_neg1, gd_nI, gd_lit, qI_lit_toNat, qI_toNat, Nat.le_refl, if_true]
    rw [r1]
    simp only [bd_s]
    unfold Out
    by_cases ht : thr = 0
    · rw [if_pos ht, if_pos ht]; exact ⟨_, rfl⟩
    · rw [if_neg ht, if_neg ht]; exact ⟨_, rfl⟩
  obtain ⟨q', hq'⟩ := hgo
  have hv0 : v ≤ 100000009 := r6.1
  rcases F8 with ⟨h1, h2⟩ | ⟨h1, h2, h3, h4, h5⟩
  · -- no exponent: v is 0
    have hT0 : ev L (e - (b2 + 1)) (b2 + 1) 0 = 0 := by rw [show e - (b2 + 1) = 0 from by omega]; rfl
    have hv00 : v = 0 := by
      rcases r6.2 with h | h
      · rw [h, hT0]
      · rw [hT0] at h; omega
    refine ⟨_, q', v, d, P, hq', r2, r3, r4, ?_, r6⟩
    rw [r5, hv00]
    cases pt
    · simp
    · rw [s2 rfl]; simp
  · have hst : b2 + 1 ≤ st := by rw [h4]; split <;> omega
    have hb3 : l0 (e - fr) T (b2 - fr + 1) = L (b2 + 1) := by
      have := hG (b2 + 1) (by omega) (by have := h5.1; omega)
      rw [show b2 + 1 - fr = b2 - fr + 1 from by omega] at this; exact this
    refine ⟨_, q', v, d, P, hq', r2, r3, r4, ?_, r6⟩
    rw [r5, hb3]
    cases pt
    · simp
    · rw [s2 rfl]
end
