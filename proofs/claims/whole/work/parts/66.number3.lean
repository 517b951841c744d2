/-! PURE 66: numbers: taken alike. -/
theorem bh_le {c e : Nat} {Sc : Nat → Int32} (he : e ≤ c) : e ≤ bhF (lk c Sc) e ∧ bhF (lk c Sc) e ≤ c := by
  unfold bhF
  split
  · rename_i h
    have : e < c := by rcases h with h | h | h | h <;> exact pos_of h (by decide)
    omega
  · omega
section
variable {M_came M_size M_length M_at M_laid M_tokens M_looked M_thrown M_wrong M_kind M_value M_good : Int32} {M_value : Int64} {Sc Ms : Nat → Int32} {V_laid V_gone V_fiveMany V_partMany V_length V_thrown V_were V_none V_beyond V_aMany V_bMany V_leftMany V_rightMany V_twos V_at V_digits V_power V_good : Int32} {Vt Va Vb Vl Vr : Nat → Int32} {S_cutShort P_count G_count F_kind F_start F_behind B_used E_used Q_character N_base N_first N_significandEnd N_exponentEnd : Int32} {F_says R_bits : Int64} {Pc Ps Gc Gs Bl El : Nat → Int32}
theorem e_number {n c len fr : Nat} (hn : 100000 ≤ n) (hS : See fr c len Sc Ms) (hf : fr < c) (hst : dv (lk c Sc fr) < 10 ∨ (lk c Sc fr = 46 ∧ dv (lk c Sc (fr + 1)) < 10)) :
    ∃ g kd sy s b q at' kd' val q', f_X4_take_58 n (nI c) S_cutShort P_count Pc Ps G_count Gc Gs Sc F_kind F_says F_start F_behind N_base N_first N_significandEnd N_exponentEnd B_used Bl R_bits E_used El Q_character (nI fr) = some (g, Sc, kd, sy, s, b, q) ∧
      f_X11_number n M_came M_size (nI len) (nI fr) M_laid M_tokens M_looked M_thrown M_wrong M_kind M_value 1 Ms V_length V_laid V_gone V_thrown V_were V_none V_beyond V_aMany V_bMany V_fiveMany V_leftMany V_rightMany V_partMany V_twos V_at V_digits V_power V_good Vt Va Vb Vl Vr = some (at', kd', val, g, q') ∧ (g = 0 ∨ g = 1) ∧
      (g = 1 → kd' = kd ∧ val = sy ∧ at' = b ∧ s = nI fr ∧ (kd = 61 ∨ kd = 62 ∨ kd = 63 ∨ kd = 64) ∧ ∃ e, b = nI e ∧ fr < e ∧ e ≤ c) := by
  have hc := hS.1
  have hl := hS.2.1
  have hcl := hS.2.2.1
  obtain ⟨gm, m1, m2, m3⟩ := e_measure (n := n) (c := c) (fr := fr) (Sc := Sc) (N_base := N_base) (N_first := N_first) (N_significandEnd := N_significandEnd) (N_exponentEnd := N_exponentEnd) (S_cutShort := S_cutShort) hn hc hf
  obtain ⟨r1, r2⟩ := num_real (n := n) (c := c) (len := len) (fr := fr) (M_came := M_came) (M_size := M_size) (M_laid := M_laid) (M_tokens := M_tokens) (M_looked := M_looked) (M_thrown := M_thrown) (M_wrong := M_wrong) (M_kind := M_kind) (M_good := 1) (M_value := M_value) (V_laid := V_laid) (V_gone := V_gone) (V_fiveMany := V_fiveMany) (V_partMany := V_partMany) (V_length := V_length) (V_thrown := V_thrown) (V_were := V_were) (V_none := V_none) (V_beyond := V_beyond) (V_aMany := V_aMany) (V_bMany := V_bMany) (V_leftMany := V_leftMany) (V_rightMany := V_rightMany) (V_twos := V_twos) (V_at := V_at) (V_digits := V_digits) (V_power := V_power) (V_good := V_good) (Vt := Vt) (Va := Va) (Vb := Vb) (Vl := Vl) (Vr := Vr) hn hS hf hst
  have p1 := f0_le (Sc := Sc) (show fr ≤ c by omega)
  have p2 := a_le (Sc := Sc) (show fr ≤ c by omega)
  have p3 := b2_le (Sc := Sc) (show fr ≤ c by omega)
  have p4 := e_le (Sc := Sc) (show fr ≤ c by omega)
  unfold f_X4_take_58
  rw [m1, bd_s]
  simp only [lt_e]
  by_cases hbr : brF (lk c Sc) c fr
  · -- a real number
    have hg1 := m3.mpr hbr
    rw [if_neg (by rw [hg1]; decide)]
    obtain ⟨x2, ref⟩ := r1 hbr
    have hform := form_of hf hst hbr
    have hfe : fr < eF (lk c Sc) c fr := by
      obtain ⟨F1, F2, F3, F4, F5, F6, F7, F8⟩ := hform
      rcases F7 with h | ⟨h, h2⟩
      · omega
      · have := F5 h; omega
    obtain ⟨g, kd, sy, s, b, q, t1, t2, t3, t4⟩ := e_takeBroken (n := n) (c := c) (fr := fr) (Sc := Sc) (S_cutShort := S_cutShort) (F_kind := F_kind) (F_start := F_start) (F_behind := F_behind) (F_says := F_says) (R_bits := R_bits) (u := B_used) (w := E_used) (Bl := Bl) (El := El) hn hc hf hst hbr
    rw [t1, bd_s]
    have hz : zb g = true := by rcases t2 with h | h <;> rw [h] <;> rfl
    simp only [hz, gu_t]
    rw [ref]
    -- the reference's
    have hbh := bh_le (Sc := Sc) p4.2
    have hrd : ∃ val : Int64, ∃ q, f_X10_read_ n (nI fr) (nI (eF (lk c Sc) c fr)) (flF (lk c Sc) (eF (lk c Sc) c fr)) V_length V_laid V_gone V_thrown V_were V_none V_beyond V_aMany V_bMany V_fiveMany V_leftMany V_rightMany V_partMany V_twos V_at V_digits V_power V_good Vt Va Vb Vl Vr Ms = some (val, q) ∧ (bhF (lk c Sc) (eF (lk c Sc) c fr) - fr ≤ 1000 → (g = 1 ∧ val = sy ∧ 0 ≤ val) ∨ (g = 0 ∧ val = -1)) := by
      by_cases hlen : eF (lk c Sc) c fr - fr ≤ 1200
      · obtain ⟨val, q', v, d, P, s1, s2, s3, s4, s5, s6⟩ := e_readS (n := n) (fr := fr) (e := eF (lk c Sc) c fr) (f0 := f0F (lk c Sc) fr) (a := aF (lk c Sc) c fr) (b2 := b2F (lk c Sc) c fr) (st := EXs (lk c Sc) (b2F (lk c Sc) c fr)) (hx := hxF (lk c Sc) fr) (fl := flF (lk c Sc) (eF (lk c Sc) c fr)) (pt := decide (lk c Sc (aF (lk c Sc) c fr) = 46)) (L := lk c Sc) (U := Ms) (V_laid := V_laid) (V_gone := V_gone) (V_fiveMany := V_fiveMany) (V_partMany := V_partMany) (V_length := V_length) (V_thrown := V_thrown) (V_were := V_were) (V_none := V_none) (V_beyond := V_beyond) (V_aMany := V_aMany) (V_bMany := V_bMany) (V_leftMany := V_leftMany) (V_rightMany := V_rightMany) (V_twos := V_twos) (V_at := V_at) (V_digits := V_digits) (V_power := V_power) (V_good := V_good) (Vt := Vt) (Va := Va) (Vb := Vb) (Vl := Vl) (Vr := Vr) hn (by omega) (by omega) hlen (fun j h1 h2 => by rw [lk_in (by omega)]; exact hS.2.2.2.2 j h1 (by omega)) rfl hform (hxF_c _ _) (by
            unfold hxF
            constructor
            · intro h
              by_cases hh : lk c Sc fr = 48 ∧ (lk c Sc (fr + 1) = 120 ∨ lk c Sc (fr + 1) = 88)
              · refine ⟨?_, hh.1, hh.2⟩
                have : f0F (lk c Sc) fr = fr + 2 := by unfold f0F hxF; rw [if_pos hh]; rfl
                omega
              · rw [if_neg hh] at h; exact absurd h (by decide)
            · rintro ⟨_, h1, h2⟩
              rw [if_pos ⟨h1, h2⟩])
        refine ⟨val, q', s1, fun hlb => ?_⟩
        obtain ⟨k1, k2, k3, x, Q, k4, k5, k6, k7⟩ := t4 hlb
        have hpt : (decide (lk c Sc (aF (lk c Sc) c fr) = 46) = true) = (lk c Sc (aF (lk c Sc) c fr) = 46) := by simp
        simp only [hpt] at s5
        have hpl : (if lk c Sc (aF (lk c Sc) c fr) = 46 then cn (lk c Sc) (b2F (lk c Sc) c fr - (aF (lk c Sc) c fr + 1)) (aF (lk c Sc) c fr + 1) else 0) ≤ 1000 := by
          split
          · have := cn_le (L := lk c Sc) (b2F (lk c Sc) c fr - (aF (lk c Sc) c fr + 1)) (aF (lk c Sc) c fr + 1); omega
          · omega
        generalize (if lk c Sc (aF (lk c Sc) c fr) = 46 then cn (lk c Sc) (b2F (lk c Sc) c fr - (aF (lk c Sc) c fr + 1)) (aF (lk c Sc) c fr + 1) else 0) = pl at *
        generalize ev (lk c Sc) (eF (lk c Sc) c fr - (b2F (lk c Sc) c fr + 1)) (b2F (lk c Sc) c fr + 1) 0 = T at *
        have hk : ((if hxF (lk c Sc) fr = 0 then 1 else 4 : Int) * (pl : Int)) ≤ 4000 ∧ 0 ≤ ((if hxF (lk c Sc) fr = 0 then 1 else 4 : Int) * (pl : Int)) := by
          split <;> omega
        generalize ((if hxF (lk c Sc) fr = 0 then 1 else 4 : Int) * (pl : Int)) = K at *
        have hxT : (x = v ∧ x < 10000000) ∨ (1000000 ≤ x ∧ x < 10000000 ∧ 1000000 ≤ v) := by
          rcases k4 with h | h <;> rcases s6.2 with h' | h' <;> omega
        apply real_agree t2 s3 (Nat.le_trans s4 (Nat.le_trans (Nat.sub_le_sub_right hbh.1 fr) hlb)) k6 k7 s2
        · rw [k5]; split <;> omega
        · rw [k5, s5]
          by_cases hm : lk c Sc (b2F (lk c Sc) c fr + 1) = 45
          · rw [if_pos hm, if_pos hm]; omega
          · rw [if_neg hm, if_neg hm]; omega
      · refine ⟨-1, ?_⟩
        unfold f_X10_read_ f_X10_read__0
        rw [qI_sub (by omega), if_neg (by rw [qI_le_lit (by omega) (by decide)]; exact hlen)]
        exact ⟨_, rfl, fun h => absurd h (by omega)⟩
    obtain ⟨v0, q0, h0, h1⟩ := hrd
    obtain ⟨val, q', g', u1, u2, u3⟩ := e_416r (n := n) (c := c) (len := len) (fr := fr) (e := eF (lk c Sc) c fr) (x2 := x2) (M_came := M_came) (M_size := M_size) (M_at := nI fr) (M_laid := M_laid) (M_tokens := M_tokens) (M_looked := M_looked) (M_thrown := M_thrown) (M_wrong := M_wrong) (M_kind := M_kind) (M_value := M_value) hn hS (by omega) p4.2 ⟨v0, q0, h0⟩
    rw [h0] at u1
    have hv : v0 = val := by injection u1 with u; injection u
    rw [u2]
    have hgg : g' = g := by
      rw [u3]
      by_cases hlb : bhF (lk c Sc) (eF (lk c Sc) c fr) - fr ≤ 1000
      · rcases h1 hlb with ⟨a1, a2, a3⟩ | ⟨a1, a2⟩
        · rw [if_pos ⟨by rw [← hv]; exact a3, hlb⟩, a1]
        · rw [if_neg (fun h => by have := h.1; rw [← hv, a2] at this; exact absurd this (by decide)), a1]
      · rw [if_neg (fun h => hlb h.2), t3 (by omega)]
    rw [hgg]
    refine ⟨g, kd, sy, s, b, _, _, _, _, q', rfl, rfl, t2, ?_⟩
    · intro hg
      have hlb : bhF (lk c Sc) (eF (lk c Sc) c fr) - fr ≤ 1000 := by
        by_cases h : bhF (lk c Sc) (eF (lk c Sc) c fr) - fr ≤ 1000
        · exact h
        · have := t3 (by omega); rw [this] at hg; exact absurd hg (by decide)
      obtain ⟨k1, k2, k3, _⟩ := t4 hlb
      refine ⟨k1.symm, ?_, k3.symm, k2, ?_, _, k3, by omega, hbh.2⟩
      · rcases h1 hlb with ⟨a1, a2, a3⟩ | ⟨a1, a2⟩
        · rw [← hv, a2]
        · rw [a1] at hg; exact absurd hg (by decide)
      · rw [k1]; split
        · exact Or.inr (Or.inr (Or.inr rfl))
        · exact Or.inr (Or.inr (Or.inl rfl))
  · -- a whole number
    have hg0 : gm = 0 := by rcases m2 with h | h; exact h; exact absurd (m3.mp h) hbr
    rw [if_pos hg0]
    obtain ⟨h10, b', hb', ref⟩ := r2 hbr
    obtain ⟨g, kd, sy, s, b, u', Bl', e, he, t1, t2, t3, t4⟩ := e_takeWhole (n := n) (c := c) (fr := fr) (Sc := Sc) (N_base := nI (hb (hxF (lk c Sc) fr))) (N_first := nI (f0F (lk c Sc) fr)) (N_significandEnd := nI (b2F (lk c Sc) c fr)) (N_exponentEnd := nI (eF (lk c Sc) c fr)) (S_cutShort := S_cutShort) (F_kind := F_kind) (F_start := F_start) (F_behind := F_behind) (F_says := F_says) (u := B_used) (Bl := Bl) hn hc hf h10
    rw [t1, bd_s]
    have hz : zb g = true := by rcases t2 with h | h <;> rw [h] <;> rfl
    simp only [hz, gu_t]
    rw [ref, ← he]
    obtain ⟨w1, w2, w3⟩ := wfi_le hf h10
    obtain ⟨b1, b2⟩ := wbs_c (lk c Sc) fr
    have hdg : wfi (lk c Sc) fr < e ∧ e ≤ c ∧ Seg (lk c Sc) (wbs (lk c Sc) fr) (wfi (lk c Sc) fr) e := by
      rcases DG_spec (L := lk c Sc) (b := wbs (lk c Sc) fr) (c := c) (fr := wfi (lk c Sc) fr) with h | h
      · rw [he]; exact ⟨h.2.2.1, h.2.2.2.1, h.2.2.2.2⟩
      · rcases h.1 with h | h <;> omega
    obtain ⟨d1, d2, d3⟩ := hdg
    have hwb := wbh_le (Sc := Sc) d2
    unfold f_X11_number_416
    rw [if_pos rfl]
    -- the reference's base
    have href : ∃ (g' kd : Int32) (val : Int64), f_X11_whole n (nI fr) (nI e) (nI b') M_came M_size (nI len) (nI e) M_laid M_tokens M_looked M_thrown M_wrong M_kind M_value 1 Ms = some (nI (wbh (lk c Sc) e), kd, val, g') ∧ (g' = 0 ∨ g' = 1) ∧ (g' = 1 ↔ wok (wbs (lk c Sc) fr) (sm (lk c Sc) (wbs (lk c Sc) fr) (e - wfi (lk c Sc) fr) (wfi (lk c Sc) fr) 0) (wlo (lk c Sc) e)) ∧ (g' = 1 → kd = (if wlo (lk c Sc) e = 0 then 61 else 62) ∧ val = wvl (sm (lk c Sc) (wbs (lk c Sc) fr) (e - wfi (lk c Sc) fr) (wfi (lk c Sc) fr) 0) (wlo (lk c Sc) e)) := by
      rcases hb' with h | ⟨h1, h2, h3, h4⟩
      · rw [h]
        refine e_whole hn hS w1 b1 b2 (by omega) d2 d3.2.1 ?_
        unfold wfi
        by_cases hh : wbs (lk c Sc) fr = 16 ∨ wbs (lk c Sc) fr = 2
        · exact Or.inl ⟨hh, by rw [if_pos hh]⟩
        · exact Or.inr ⟨hh, by rw [if_neg hh]⟩
      · have hwf : wfi (lk c Sc) fr = fr := by unfold wfi; rw [h2, if_neg (by decide)]
        have hee : e = fr + 1 := by rw [he, h2, hwf, h4]
        have hdv : dv (lk c Sc fr) = 0 := by rw [h3]; decide
        have hsm : ∀ B : Nat, sm (lk c Sc) B (fr + 1 - fr) fr 0 = 0 := by
          intro B
          rw [show fr + 1 - fr = 1 from by omega]
          show (if lk c Sc fr = 46 ∨ lk c Sc fr = 95 then 0 else 0 * B + dv (lk c Sc fr)) = 0
          rw [hdv]; split <;> omega
        rw [h1, hee, hwf, h2, hsm]
        obtain ⟨g', kd, val, x1, x2, x3, x4⟩ := e_whole (n := n) (b := 10) (c := c) (len := len) (fr := fr) (f0 := fr) (e := fr + 1) (M_came := M_came) (M_size := M_size) (M_laid := M_laid) (M_tokens := M_tokens) (M_looked := M_looked) (M_thrown := M_thrown) (M_wrong := M_wrong) (M_kind := M_kind) (M_value := M_value) hn hS (Nat.le_refl _) (by decide) (by decide) (by omega) (by omega) (fun j a b => by
          have : j = fr := by omega
          rw [this, hdv]; exact Or.inl (by decide)) (Or.inr ⟨by decide, rfl⟩)
        rw [hsm] at x3 x4
        refine ⟨g', kd, val, x1, x2, ?_, x4⟩
        rw [x3]
        unfold wok
        rw [if_pos (show (10 : Nat) = 10 from rfl), if_neg (show ¬ (8 : Nat) = 10 by decide)]
        split <;> simp
    obtain ⟨g', kd', val, x1, x2, x3, x4⟩ := href
    rw [x1, bd_s]
    rw [e_538 (by omega) (by omega) x2]
    by_cases hlb : wbh (lk c Sc) e - fr ≤ 1000
    · obtain ⟨k1, k2, k3, k4, k5⟩ := t4 hlb
      have hgg : g' = g := by
        rcases x2 with h | h <;> rcases t2 with h' | h'
        · rw [h, h']
        · have := x3.mpr (k5.mp h'); rw [h] at this; exact absurd this (by decide)
        · have := k5.mpr (x3.mp h); rw [h'] at this; exact absurd this (by decide)
        · rw [h, h']
      have hif : (if g' = 1 ∧ wbh (lk c Sc) e - fr ≤ 1000 then (1 : Int32) else 0) = g := by
        rcases t2 with h | h
        · rw [if_neg (fun x => by have := x.1; rw [hgg, h] at this; exact absurd this (by decide)), h]
        · rw [if_pos ⟨by rw [hgg, h], hlb⟩, h]
      rw [hif]
      refine ⟨g, kd, sy, s, b, _, _, _, _, _, rfl, rfl, t2, fun hg => ?_⟩
      obtain ⟨y1, y2⟩ := x4 (by rw [hgg]; exact hg)
      refine ⟨by rw [y1, k1], by rw [y2, k4], k3.symm, k2, ?_, _, k3, by omega, hwb.2.1⟩
      rw [k1]; split
      · exact Or.inl rfl
      · exact Or.inr (Or.inl rfl)
    · have hif : (if g' = 1 ∧ wbh (lk c Sc) e - fr ≤ 1000 then (1 : Int32) else 0) = 0 := if_neg (fun h => hlb h.2)
      have hg : g = 0 := t3 (by omega)
      rw [hif]
      refine ⟨g, kd, sy, s, b, _, _, _, _, _, rfl, by rw [hg], t2, fun h => ?_⟩
      rw [hg] at h; exact absurd h (by decide)
end
