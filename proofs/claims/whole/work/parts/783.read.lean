/-! PURE 78.3: reading. -/
section
variable {P_count G_count M_came M_size M_at M_laid M_tokens M_looked M_thrown M_wrong M_kind M_good : Int32} {M_value : Int64} {Pc Ps Gc Gs Mt Ms Mk Mg Ml Mf Mm Z Sc Tk Tj Tt Bl El : Nat → Int32} {Mv Ts : Nat → Int64} {V_laid V_gone V_fiveMany V_partMany V_length V_thrown V_were V_none V_beyond V_aMany V_bMany V_leftMany V_rightMany V_twos V_at V_digits V_power V_good : Int32} {Vt Va Vb Vl Vr : Nat → Int32} {n T len : Nat} {cc gw S_count S_cutShort T_count F_kind F_start F_behind B_used E_used Q_character N_base N_first N_significandEnd N_exponentEnd : Int32} {F_says R_bits : Int64}
set_option maxRecDepth 100000 in
theorem e_read (hn : 100000 ≤ n) (hP : Tab kwL P_count Pc Ps) (hG : Tab sgL G_count Gc Gs) (hSrc : Src n T Z len Ms) :
    ∃ (c t lo len' : Nat) (thr gw' cut A : Int32) (ans : Option Int32) (Sc' Tk' Tj' : Nat → Int32) (Ts' : Nat → Int64) (Tt' Ms' Mk' Mg' : Nat → Int32) (Mv' : Nat → Int64) (Ml' Mf' Mm' : Nat → Int32),
      c ≤ 81920 ∧ t ≤ 81920 ∧ lo ≤ 81920 ∧ len' ≤ 81921 ∧ Src n 0 Z len' Ms' ∧ Toks t c lo Sc' Tk' Tj' Ts' Tt' Mk' Mg' Mv' Ml' Mf' Mm' ∧ ((ans = some A ∧ thr = 0) ∨ (ans = none ∧ thr = 1)) ∧
      (∃ q, f_X9_read n cc (nI T) gw Z S_count S_cutShort Sc T_count Tk Tj Ts Tt F_kind F_says F_start F_behind P_count Pc Ps G_count Gc Gs N_base N_first N_significandEnd N_exponentEnd B_used Bl R_bits E_used El Q_character = some (ans, 0, gw', nI c, cut, Sc', nI t, Tk', Tj', Ts', Tt', q)) ∧
      ∃ (a k' g' : Int32) (v' : Int64) (v1 v2 v3 v4 v5 v6 v7 v8 v9 v10 v11 v12 v13 v14 : Int32) (w1 w2 w3 w4 w5 : Nat → Int32), f_X11_read n M_came M_size (nI len) M_at M_laid M_tokens M_looked M_thrown M_wrong M_kind M_value M_good Mt Ms Mk Mg Mv Ml Mf Mm V_length V_laid V_gone V_thrown V_were V_none V_beyond V_aMany V_bMany V_fiveMany V_leftMany V_rightMany V_partMany V_twos V_at V_digits V_power V_good Vt Va Vb Vl Vr = some (A, 0, nI len', a, nI lo, nI (min t 8192), nI t, thr, gw', k', v', g', Ms', Mk', Mg', Mv', Ml', Mf', Mm', v1, v2, v3, v4, v5, v6, v7, v8, v9, v10, v11, v12, v13, v14, w1, w2, w3, w4, w5) := by
  obtain ⟨c, cut, Sc0, s1, s2, s3, s4, s5⟩ := hSrc S_count S_cutShort Sc
  have hc := s2.1
  obtain ⟨r, t, lo, Sc', Tk', Tj', Ts', Tt', Mk', Mg', Mv', Ml', Mf', Mm', a1, a2, a3, a4, ⟨q, a5⟩, a, k', g', v', v1, v2, v3, v4, v5, v6, v7, v8, v9, v10, v11, v12, v13, v14, w1, w2, w3, w4, w5, a6⟩ := e_all (M_came := M_came) (M_size := M_size) (M_thrown := M_thrown) (Mt := Mt) (V_laid := V_laid) (V_gone := V_gone) (V_fiveMany := V_fiveMany) (V_partMany := V_partMany) hn hP hG s4 s5 c 0 0 0 n n Sc0 Tk Tj Ts Tt F_kind F_says F_start F_behind N_base N_first N_significandEnd N_exponentEnd B_used Bl R_bits E_used El Q_character M_kind M_value M_good Mk Mg Mv Ml Mf Mm V_length V_thrown V_were V_none V_beyond V_aMany V_bMany V_leftMany V_rightMany V_twos V_at V_digits V_power V_good Vt Va Vb Vl Vr (-1) (by omega) s2 s3 (Nat.le_refl _) (Nat.le_refl _) (fun i hi _ => absurd hi (by omega)) (Or.inl ⟨rfl, rfl⟩) (by omega) (by omega)
  have own : f_X4_takeAll n (nI c) cut Sc0 0 Tk Tj Ts Tt F_kind F_says F_start F_behind P_count Pc Ps G_count Gc Gs N_base N_first N_significandEnd N_exponentEnd B_used Bl R_bits E_used El Q_character = some (r, Sc', nI t, Tk', Tj', Ts', Tt', q) := a5
  have ref : f_X11_read n M_came M_size (nI len) M_at M_laid M_tokens M_looked M_thrown M_wrong M_kind M_value M_good Mt Ms Mk Mg Mv Ml Mf Mm V_length V_laid V_gone V_thrown V_were V_none V_beyond V_aMany V_bMany V_fiveMany V_leftMany V_rightMany V_partMany V_twos V_at V_digits V_power V_good Vt Va Vb Vl Vr = _ := a6
  obtain ⟨len', Ms', t1, t2, t3⟩ := e_src (n := n) (T := 0) (Y := Z) (Mt := Mt) (Ms := Ms) (M_came := M_came) (M_length := nI len) (M_at := a) (M_laid := nI lo) (M_tokens := nI (min t 8192)) (M_looked := nI t) (M_thrown := M_thrown) (M_wrong := if r = 1 then -1 else nI t) (M_kind := k') (M_good := g') (M_value := v') hn (by omega) (fun i hi => absurd hi (by omega))
  obtain ⟨x1, x2, x3, x4, x5, x6, x7, x8, x9, x10, x11, x12, x13, x14⟩ := q
  rw [ref]
  unfold f_X11_read_186
  rw [show f_X11_translate n M_came 0 (nI len) a (nI lo) (nI (min t 8192)) (nI t) M_thrown (if r = 1 then -1 else nI t) k' v' g' Mt Ms = some (nI len', Ms') from t1, bd_s]
  unfold f_X9_read f_X9_read_0 f_X8_clear f_X8_clear_0 f_X8_count f_X8_count_0
  rw [bd_s, s1, bd_s]
  simp only []
  rw [own, bd_s]
  simp only [lt_e, bd_s]
  rcases a1 with h | h
  · -- not good
    rw [h, if_pos (show (0 : Int32) = 0 from rfl), if_neg (show ¬ (0 : Int32) = 1 by decide)]
    have hnn : ¬ nI t < 0 := by rw [show (0 : Int32) = nI 0 from rfl, qI_lt (by omega) (by omega)]; omega
    have hn1 : ¬ nI t = -1 := by rw [qI_ne_neg1 (by omega)]; exact fun h => h
    unfold f_X9_read_49 f_X11_read_208
    rw [if_neg hn1, if_neg hnn, if_neg hnn]
    exact ⟨c, t, lo, len', 1, nI t, cut, 0, none, Sc', Tk', Tj', Ts', Tt', Ms', Mk', Mg', Mv', Ml', Mf', Mm', hc, by omega, by omega, t2, t3, a4, Or.inr ⟨rfl, rfl⟩, ⟨_, rfl⟩, a, k', g', v', v1, v2, v3, v4, v5, v6, v7, v8, v9, v10, v11, v12, v13, v14, w1, w2, w3, w4, w5, rfl⟩
  · rw [h, if_neg (show ¬ (1 : Int32) = 0 by decide)]
    have h1 : (if (1 : Int32) = 1 then (-1 : Int32) else nI t) = -1 := if_pos rfl
    rw [h1]
    unfold f_X9_read_49 f_X11_read_208 f_X8_count f_X8_count_0
    rw [if_pos rfl, bd_s]
    have hans : (if (8193 : Int32) < nI t then (8193 : Int32) else nI t) = (if nI t ≤ 8192 then nI t else 8193) := by
      have q1 : ((8193 : Int32) < nI t) = (8193 < t) := qI_lit_lt (by omega) (by decide)
      have q2 : (nI t ≤ 8192) = (t ≤ 8192) := qI_le_lit (by omega) (by decide)
      by_cases c1 : t ≤ 8192
      · rw [if_neg (by rw [q1]; omega), if_pos (by rw [q2]; exact c1)]
      · rw [if_neg (show ¬ nI t ≤ 8192 by rw [q2]; exact c1)]
        by_cases c2 : 8193 < t
        · rw [if_pos (by rw [q1]; exact c2)]
        · rw [if_neg (by rw [q1]; exact c2), show t = 8193 from by omega]; rfl
    rw [hans]
    have hneg : (-1 : Int32) < 0 := by decide
    rw [if_pos hneg, if_pos hneg]
    by_cases c1 : nI t ≤ 8192
    · rw [if_pos c1, if_pos c1]
      exact ⟨c, t, lo, len', 0, -1, cut, nI t, some (nI t), Sc', Tk', Tj', Ts', Tt', Ms', Mk', Mg', Mv', Ml', Mf', Mm', hc, by omega, by omega, t2, t3, a4, Or.inl ⟨rfl, rfl⟩, ⟨_, rfl⟩, a, k', g', v', v1, v2, v3, v4, v5, v6, v7, v8, v9, v10, v11, v12, v13, v14, w1, w2, w3, w4, w5, rfl⟩
    · rw [if_neg c1, if_neg c1]
      exact ⟨c, t, lo, len', 0, -1, cut, 8193, some 8193, Sc', Tk', Tj', Ts', Tt', Ms', Mk', Mg', Mv', Ml', Mf', Mm', hc, by omega, by omega, t2, t3, a4, Or.inl ⟨rfl, rfl⟩, ⟨_, rfl⟩, a, k', g', v', v1, v2, v3, v4, v5, v6, v7, v8, v9, v10, v11, v12, v13, v14, w1, w2, w3, w4, w5, rfl⟩
end
