/-! PURE 83: the law holds. -/
def IV (n : Nat) (cc tl gw : Int32) (Y Z : Nat → Int32) (sc : Int32) (Sc : Nat → Int32) (tc : Int32) (Tk Tj : Nat → Int32) (Ts : Nat → Int64) (Tt : Nat → Int32) (pc : Int32) (Pc Ps : Nat → Int32) (gc : Int32) (Gc Gs : Nat → Int32) (came length tokens wrong : Int32) (Mt Ms Mk Mg : Nat → Int32) (Mv : Nat → Int64) (Ml Mf Mm : Nat → Int32) : Prop :=
  ∃ k T len c t lo : Nat, k ≤ 81920 ∧ T ≤ 81920 ∧ len ≤ 81921 ∧ c ≤ 81920 ∧ t ≤ 81920 ∧ lo ≤ 81920 ∧ cc = nI k ∧ came = nI k ∧ Com k Y Mt ∧ tl = nI T ∧ length = nI len ∧ Src n T Z len Ms ∧ gw = wrong ∧ sc = nI c ∧ tc = nI t ∧ tokens = nI (min t 8192) ∧ Toks t c lo Sc Tk Tj Ts Tt Mk Mg Mv Ml Mf Mm ∧ Tab kwL pc Pc Ps ∧ Tab sgL gc Gc Gs
def Inv (n : Nat) (cs : CS) (ms : MS) : Prop := IV n cs.1 cs.2.1 cs.2.2.1 cs.2.2.2.1 cs.2.2.2.2.1 cs.2.2.2.2.2.1 cs.2.2.2.2.2.2.2.1 cs.2.2.2.2.2.2.2.2.1 cs.2.2.2.2.2.2.2.2.2.1 cs.2.2.2.2.2.2.2.2.2.2.1 cs.2.2.2.2.2.2.2.2.2.2.2.1 cs.2.2.2.2.2.2.2.2.2.2.2.2.1 cs.2.2.2.2.2.2.2.2.2.2.2.2.2.2.2.2.2.1 cs.2.2.2.2.2.2.2.2.2.2.2.2.2.2.2.2.2.2.1 cs.2.2.2.2.2.2.2.2.2.2.2.2.2.2.2.2.2.2.2.1 cs.2.2.2.2.2.2.2.2.2.2.2.2.2.2.2.2.2.2.2.2.1 cs.2.2.2.2.2.2.2.2.2.2.2.2.2.2.2.2.2.2.2.2.2.1 cs.2.2.2.2.2.2.2.2.2.2.2.2.2.2.2.2.2.2.2.2.2.2.1 ms.1 ms.2.2.1 ms.2.2.2.2.2.1 ms.2.2.2.2.2.2.2.2.1 ms.2.2.2.2.2.2.2.2.2.2.2.2.1 ms.2.2.2.2.2.2.2.2.2.2.2.2.2.1 ms.2.2.2.2.2.2.2.2.2.2.2.2.2.2.1 ms.2.2.2.2.2.2.2.2.2.2.2.2.2.2.2.1 ms.2.2.2.2.2.2.2.2.2.2.2.2.2.2.2.2.1 ms.2.2.2.2.2.2.2.2.2.2.2.2.2.2.2.2.2.1 ms.2.2.2.2.2.2.2.2.2.2.2.2.2.2.2.2.2.2.1 ms.2.2.2.2.2.2.2.2.2.2.2.2.2.2.2.2.2.2.2.1
section
variable {n L x : Nat} {xs : Nat → Int32} {r : CS → MS → (Nat → Int64) → Int32 → Option Int32}
theorem law_607 {cs : CS} {ms : MS} {O : Nat → Int64} (hr : ∀ cs ms O, Inv n cs ms → r cs ms O (nI (x + 6)) = some 1) (h : Inv n cs ms) : f_law_607 n L xs r cs ms O (nI x) = some 1 := by
  unfold f_law_607
  simp only [lt_e]
  rw [show nI x + 6 = nI (x + 6) from qI_add x 6]
  exact hr cs ms O h
theorem O_0 {O : Nat → Int64} {v : Int64} : vp_updL O 0 v ((0 : Int32).toNatClampNeg) = v := updL_same O 0 v
set_option maxRecDepth 100000 in
theorem law_step {cs : CS} {ms : MS} {O : Nat → Int64} (hn : 100000 ≤ n) (hL : L ≤ 3072) (hx : x ≤ L) (hr : x + 6 ≤ L → ∀ cs ms O, Inv n cs ms → r cs ms O (nI (x + 6)) = some 1) (h : Inv n cs ms) : fb_law_23 n L xs r cs ms O (nI x) = some 1 := by
  by_cases hend : L < x + 6
  · -- the script is through
    unfold fb_law_23
    rw [if_pos]
    by_cases h6 : 6 ≤ L
    · rw [show nI L - 6 = nI (L - 6) from qI_sub_lit h6, qI_lt (by omega) (by omega)]; omega
    · have hl : ∀ l : Fin 6, (nI l.1 - 6 : Int32) < 0 := by decide
      have h1 := hl ⟨L, by omega⟩
      have h2 : (0 : Int32) ≤ nI x := by rw [show (0 : Int32) = nI 0 from rfl, qI_le (by omega) (by omega)]; omega
      grind
  · have hx6 : x + 6 ≤ L := by omega
    have go := fun {cs : CS} {ms : MS} {O : Nat → Int64} => law_607 (n := n) (L := L) (x := x) (xs := xs) (r := r) (cs := cs) (ms := ms) (O := O) (hr hx6)
    have g0 : gd (nI x) L = true := gd_nI (by omega) (by omega)
    have g1 : gd (nI (x + 1)) L = true := gd_nI (by omega) (by omega)
    have g2 : gd (nI (x + 2)) L = true := gd_nI (by omega) (by omega)
    have g3 : gd (nI (x + 3)) L = true := gd_nI (by omega) (by omega)
    have g4 : gd (nI (x + 4)) L = true := gd_nI (by omega) (by omega)
    have g5 : gd (nI (x + 5)) L = true := gd_nI (by omega) (by omega)
    obtain ⟨cc, tl, gw, Y, Z, sc, cut, Sc, tc, Tk, Tj, Ts, Tt, F_kind, F_says, F_start, F_behind, P_count, Pc, Ps, G_count, Gc, Gs, N_base, N_first, N_significandEnd, N_exponentEnd, B_used, Bl, R_bits, E_used, El, Q_character⟩ := cs
    obtain ⟨M_came, M_size, M_length, M_at, M_laid, M_tokens, M_looked, M_thrown, M_wrong, M_kind, M_value, M_good, Mt, Ms, Mk, Mg, Mv, Ml, Mf, Mm, V_length, V_laid, V_gone, V_thrown, V_were, V_none, V_beyond, V_aMany, V_bMany, V_fiveMany, V_leftMany, V_rightMany, V_partMany, V_twos, V_at, V_digits, V_power, V_good, Vt, z40, Va, Vb, z43, Vl, Vr, z46⟩ := ms
    obtain ⟨k, T, len, c, t, lo, i1, i2, i3, i4, i5, i6, i7, i8, i9, i10, i11, i12, i13, i14, i15, i16, i17, i18, i19⟩ := h
    simp only [] at i7 i8 i9 i10 i11 i12 i13 i14 i15 i16 i17 i18 i19
    subst i7 i8 i10 i11 i14 i15 i16
    unfold fb_law_23
    rw [if_neg (by rw [show nI L - 6 = nI (L - 6) from qI_sub_lit (by show 6 ≤ L; omega), qI_lt (by omega) (by omega)]; omega), g0, gu_t]
    rw [show nI x + 1 = nI (x + 1) from qI_add x 1, show nI x + 2 = nI (x + 2) from qI_add x 2, show nI x + 3 = nI (x + 3) from qI_add x 3, show nI x + 4 = nI (x + 4) from qI_add x 4, show nI x + 5 = nI (x + 5) from qI_add x 5, g1, g2, g3, g4, g5]
    simp only [gu_t]
    rw [lt_e]
    generalize xs (nI x).toNatClampNeg &&& 15 = y1
    generalize hp1 : xs (nI (x + 1)).toNatClampNeg = p1
    generalize xs (nI (x + 2)).toNatClampNeg = p2
    generalize xs (nI (x + 3)).toNatClampNeg = p3
    generalize xs (nI (x + 4)).toNatClampNeg = p4
    generalize xs (nI (x + 5)).toNatClampNeg = p5
    by_cases c0 : y1 = 0
    · rw [if_pos c0]
      unfold f_L_feed
      rcases e_feed (n := n) (k := k) (x1 := p1) (x2 := p2) (x3 := p3) (x4 := p4) (x5 := p5) (tl := nI T) (gw := gw) (Y := Y) (Mt := Mt) (M_size := M_size) (M_length := nI len) (M_at := M_at) (M_laid := M_laid) (M_tokens := nI (min t 8192)) (M_looked := M_looked) (M_thrown := M_thrown) (M_wrong := M_wrong) (M_kind := M_kind) (M_good := M_good) (M_value := M_value) hn i1 i9 with ⟨k', Y', Mt', a1, a2, a3, a4⟩ | ⟨a2, v, a3⟩
      · rw [a2, bd_s]
        simp only [ox_s, bd_s, lt_e]
        rw [a3, bd_s]
        unfold f_X11_thrown f_X11_thrown_0
        simp only [lt_e, bd_s, if_true]
        rw [O_0, cmp_self, if_pos rfl]
        unfold f_law_193
        exact go ⟨k', T, len, c, t, lo, a1, i2, i3, i4, i5, i6, rfl, rfl, a4, rfl, rfl, i12, i13, rfl, rfl, rfl, i17, i18, i19⟩
      · rw [a2, bd_s]
        simp only [ox_n, bd_s, lt_e]
        rw [a3, bd_s]
        unfold f_X11_thrown f_X11_thrown_0
        simp only [lt_e, bd_s, if_true]
        rw [if_neg (by decide)]
        unfold f_law_193
        exact go ⟨k, T, len, c, t, lo, i1, i2, i3, i4, i5, i6, rfl, rfl, i9, rfl, rfl, i12, i13, rfl, rfl, rfl, i17, i18, i19⟩
    · rw [if_neg c0]
      by_cases c1 : y1 = 1
      · rw [if_pos c1]
        unfold f_L_end
        rcases e_end (n := n) (k := k) (x := p1) (tl := nI T) (gw := gw) (Y := Y) (Mt := Mt) (Ms := Ms) (M_size := M_size) (M_length := nI len) (M_at := M_at) (M_laid := M_laid) (M_tokens := nI (min t 8192)) (M_looked := M_looked) (M_thrown := M_thrown) (M_wrong := M_wrong) (M_kind := M_kind) (M_good := M_good) (M_value := M_value) hn i1 i9 with ⟨T', len', Ms', a1, a2, a3, a4, a5⟩ | ⟨a3, v, a4⟩
        · rw [a3, bd_s]
          simp only [ox_s, bd_s, lt_e]
          rw [if_pos trivial]
          unfold f_law_207 f_law_249
          rw [show nI x + 1 = nI (x + 1) from qI_add x 1, g1, gu_t]
          simp only [hp1]
          rw [a4, bd_s]
          unfold f_X11_thrown f_X11_thrown_0
          simp only [lt_e, bd_s, if_true]
          rw [O_0, cmp_self, if_pos rfl]
          exact go ⟨0, T', len', c, t, lo, by omega, a1, a2, i4, i5, i6, rfl, rfl, fun i hi => absurd hi (by omega), rfl, rfl, a5, i13, rfl, rfl, rfl, i17, i18, i19⟩
        · rw [a3, bd_s]
          simp only [ox_n, bd_s, lt_e]
          rw [if_neg (show ¬ (1 : Int32) = 0 by decide)]
          unfold f_law_207 f_law_249
          rw [show nI x + 1 = nI (x + 1) from qI_add x 1, g1, gu_t]
          simp only [hp1]
          rw [a4, bd_s]
          unfold f_X11_thrown f_X11_thrown_0
          simp only [lt_e, bd_s, if_true]
          rw [if_neg (by decide)]
          exact go ⟨k, T, len, c, t, lo, i1, i2, i3, i4, i5, i6, rfl, rfl, i9, rfl, rfl, i12, i13, rfl, rfl, rfl, i17, i18, i19⟩
      · rw [if_neg c1]
        by_cases c2 : y1 = 2
        · rw [if_pos c2]
          unfold f_L_read
          obtain ⟨c', t', lo', len', thr, gw', cut', A, ans, Sc', Tk', Tj', Ts', Tt', Ms', Mk', Mg', Mv', Ml', Mf', Mm', a1, a2, a3, a4, a5, a6, a7, ⟨q, a8⟩, a', k1, g', v', v1, v2, v3, v4, v5, v6, v7, v8, v9, v10, v11, v12, v13, v14, w1, w2, w3, w4, w5, a9⟩ := e_read (n := n) (T := T) (len := len) (cc := nI k) (gw := gw) (Z := Z) (S_count := nI c) (S_cutShort := cut) (Sc := Sc) (T_count := nI t) (Tk := Tk) (Tj := Tj) (Ts := Ts) (Tt := Tt) (F_kind := F_kind) (F_says := F_says) (F_start := F_start) (F_behind := F_behind) (P_count := P_count) (Pc := Pc) (Ps := Ps) (G_count := G_count) (Gc := Gc) (Gs := Gs) (N_base := N_base) (N_first := N_first) (N_significandEnd := N_significandEnd) (N_exponentEnd := N_exponentEnd) (B_used := B_used) (Bl := Bl) (R_bits := R_bits) (E_used := E_used) (El := El) (Q_character := Q_character) (M_came := nI k) (M_size := M_size) (M_at := M_at) (M_laid := M_laid) (M_tokens := nI (min t 8192)) (M_looked := M_looked) (M_thrown := M_thrown) (M_wrong := M_wrong) (M_kind := M_kind) (M_good := M_good) (M_value := M_value) (Mt := Mt) (Ms := Ms) (Mk := Mk) (Mg := Mg) (Mv := Mv) (Ml := Ml) (Mf := Mf) (Mm := Mm) (V_laid := V_laid) (V_gone := V_gone) (V_fiveMany := V_fiveMany) (V_partMany := V_partMany) (V_length := V_length) (V_thrown := V_thrown) (V_were := V_were) (V_none := V_none) (V_beyond := V_beyond) (V_aMany := V_aMany) (V_bMany := V_bMany) (V_leftMany := V_leftMany) (V_rightMany := V_rightMany) (V_twos := V_twos) (V_at := V_at) (V_digits := V_digits) (V_power := V_power) (V_good := V_good) (Vt := Vt) (Va := Va) (Vb := Vb) (Vl := Vl) (Vr := Vr) hn i18 i19 i12
          obtain ⟨x1, x2, x3, x4, x5, x6, x7, x8, x9, x10, x11, x12, x13, x14⟩ := q
          rw [a8, bd_s]
          rcases a7 with ⟨b1, b2⟩ | ⟨b1, b2⟩
          · rw [b1]
            simp only [ox_s, bd_s, lt_e]
            rw [a9, bd_s]
            unfold f_X11_thrown f_X11_thrown_0
            simp only [lt_e, bd_s]
            rw [b2]
            simp only [if_true]
            rw [O_0, cmp_self, if_pos rfl]
            unfold f_law_293
            exact go ⟨k, 0, len', c', t', lo', i1, by omega, a4, a1, a2, a3, rfl, rfl, i9, rfl, rfl, a5, rfl, rfl, rfl, rfl, a6, i18, i19⟩
          · rw [b1]
            simp only [ox_n, bd_s, lt_e]
            rw [a9, bd_s]
            unfold f_X11_thrown f_X11_thrown_0
            simp only [lt_e, bd_s]
            rw [b2]
            simp only [if_true]
            rw [if_neg (by decide)]
            unfold f_law_293
            exact go ⟨k, 0, len', c', t', lo', i1, by omega, a4, a1, a2, a3, rfl, rfl, i9, rfl, rfl, a5, rfl, rfl, rfl, rfl, a6, i18, i19⟩
        · rw [if_neg c2]
          by_cases c3 : y1 = 3
          · rw [if_pos c3]
            unfold f_X9_wrong f_X9_wrong_0 f_X11_wrong f_X11_wrong_0
            simp only [bd_s, lt_e]
            rw [if_pos i13]
            exact go ⟨k, T, len, c, t, lo, i1, i2, i3, i4, i5, i6, rfl, rfl, i9, rfl, rfl, i12, i13, rfl, rfl, rfl, i17, i18, i19⟩
          · rw [if_neg c3]
            by_cases c4 : y1 = 4
            · rw [if_pos c4]
              unfold f_L_kind
              rcases e_kind (n := n) (t := t) (c := c) (lo := lo) (x := p1) (cc := nI k) (tl := nI T) (gw := gw) (M_came := nI k) (M_size := M_size) (M_length := nI len) (M_at := M_at) (M_laid := M_laid) (M_looked := M_looked) (M_thrown := M_thrown) (M_wrong := M_wrong) (M_kind := M_kind) (M_good := M_good) (M_value := M_value) i5 i17 with ⟨v, a1, a2⟩ | ⟨a1, v, a2⟩
              · rw [a1, bd_s]
                simp only [ox_s, bd_s, lt_e]
                rw [a2, bd_s]
                unfold f_X11_thrown f_X11_thrown_0
                simp only [lt_e, bd_s, if_true]
                rw [O_0, cmp_self, if_pos rfl]
                unfold f_law_362
                exact go ⟨k, T, len, c, t, lo, i1, i2, i3, i4, i5, i6, rfl, rfl, i9, rfl, rfl, i12, i13, rfl, rfl, rfl, i17, i18, i19⟩
              · rw [a1, bd_s]
                simp only [ox_n, bd_s, lt_e]
                rw [a2, bd_s]
                unfold f_X11_thrown f_X11_thrown_0
                simp only [lt_e, bd_s, if_true]
                rw [if_neg (by decide)]
                unfold f_law_362
                exact go ⟨k, T, len, c, t, lo, i1, i2, i3, i4, i5, i6, rfl, rfl, i9, rfl, rfl, i12, i13, rfl, rfl, rfl, i17, i18, i19⟩
            · rw [if_neg c4]
              by_cases c5 : y1 = 5
              · rw [if_pos c5]
                unfold f_L_glued
                rcases e_glued (n := n) (t := t) (c := c) (lo := lo) (x := p1) (cc := nI k) (tl := nI T) (gw := gw) (M_came := nI k) (M_size := M_size) (M_length := nI len) (M_at := M_at) (M_laid := M_laid) (M_looked := M_looked) (M_thrown := M_thrown) (M_wrong := M_wrong) (M_kind := M_kind) (M_good := M_good) (M_value := M_value) i5 i17 with ⟨v, v01, a1, a2⟩ | ⟨a1, v, a2⟩
                · rw [a1, bd_s]
                  simp only [ox_s, bd_s, lt_e]
                  rw [a2, bd_s]
                  unfold f_X11_thrown f_X11_thrown_0
                  simp only [lt_e, bd_s, if_true]
                  unfold f_law_419 f_law_425
                  rw [O_0]
                  rcases v01 with h | h
                  · rw [if_pos h, if_pos h, cmp_self, if_pos rfl]
                    exact go ⟨k, T, len, c, t, lo, i1, i2, i3, i4, i5, i6, rfl, rfl, i9, rfl, rfl, i12, i13, rfl, rfl, rfl, i17, i18, i19⟩
                  · have hv : ¬ v = 0 := by rw [h]; decide
                    rw [if_neg hv, if_neg hv, cmp_self, if_pos rfl]
                    exact go ⟨k, T, len, c, t, lo, i1, i2, i3, i4, i5, i6, rfl, rfl, i9, rfl, rfl, i12, i13, rfl, rfl, rfl, i17, i18, i19⟩
                · rw [a1, bd_s]
                  simp only [ox_n, bd_s, lt_e]
                  rw [a2, bd_s]
                  unfold f_X11_thrown f_X11_thrown_0
                  simp only [lt_e, bd_s, if_true]
                  rw [if_neg (by decide)]
                  unfold f_law_425
                  exact go ⟨k, T, len, c, t, lo, i1, i2, i3, i4, i5, i6, rfl, rfl, i9, rfl, rfl, i12, i13, rfl, rfl, rfl, i17, i18, i19⟩
              · rw [if_neg c5]
                by_cases c6 : y1 = 6
                · rw [if_pos c6]
                  unfold f_L_value
                  rcases e_value (n := n) (t := t) (c := c) (lo := lo) (x := p1) (cc := nI k) (tl := nI T) (gw := gw) (M_came := nI k) (M_size := M_size) (M_length := nI len) (M_at := M_at) (M_laid := M_laid) (M_looked := M_looked) (M_thrown := M_thrown) (M_wrong := M_wrong) (M_kind := M_kind) (M_good := M_good) (M_value := M_value) i5 i17 with ⟨v, a1, a2⟩ | ⟨a1, v, a2⟩
                  · rw [a1, bd_s]
                    simp only [ox_s, bd_s, lt_e]
                    rw [a2, bd_s]
                    unfold f_X11_thrown f_X11_thrown_0
                    simp only [lt_e, bd_s, if_true]
                    rw [O_0, cmp_self, if_pos rfl]
                    unfold f_law_480
                    exact go ⟨k, T, len, c, t, lo, i1, i2, i3, i4, i5, i6, rfl, rfl, i9, rfl, rfl, i12, i13, rfl, rfl, rfl, i17, i18, i19⟩
                  · rw [a1, bd_s]
                    simp only [ox_n, bd_s, lt_e]
                    rw [a2, bd_s]
                    unfold f_X11_thrown f_X11_thrown_0
                    simp only [lt_e, bd_s, if_true]
                    rw [if_neg (by decide)]
                    unfold f_law_480
                    exact go ⟨k, T, len, c, t, lo, i1, i2, i3, i4, i5, i6, rfl, rfl, i9, rfl, rfl, i12, i13, rfl, rfl, rfl, i17, i18, i19⟩
                · rw [if_neg c6]
                  by_cases c7 : y1 = 7
                  · rw [if_pos c7]
                    unfold f_L_at
                    rcases e_at (n := n) (t := t) (c := c) (lo := lo) (x := p1) (y := p2) (S_cutShort := cut) (cc := nI k) (tl := nI T) (gw := gw) (M_came := nI k) (M_size := M_size) (M_length := nI len) (M_at := M_at) (M_laid := M_laid) (M_looked := M_looked) (M_thrown := M_thrown) (M_wrong := M_wrong) (M_kind := M_kind) (M_good := M_good) (M_value := M_value) i5 i4 i6 i17 with ⟨v, a1, a2⟩ | ⟨a1, v, a2⟩
                    · rw [a1, bd_s]
                      simp only [ox_s, bd_s, lt_e]
                      rw [a2, bd_s]
                      unfold f_X11_thrown f_X11_thrown_0
                      simp only [lt_e, bd_s, if_true]
                      rw [O_0, cmp_self, if_pos rfl]
                      unfold f_law_548
                      exact go ⟨k, T, len, c, t, lo, i1, i2, i3, i4, i5, i6, rfl, rfl, i9, rfl, rfl, i12, i13, rfl, rfl, rfl, i17, i18, i19⟩
                    · rw [a1, bd_s]
                      simp only [ox_n, bd_s, lt_e]
                      rw [a2, bd_s]
                      unfold f_X11_thrown f_X11_thrown_0
                      simp only [lt_e, bd_s, if_true]
                      rw [if_neg (by decide)]
                      unfold f_law_548
                      exact go ⟨k, T, len, c, t, lo, i1, i2, i3, i4, i5, i6, rfl, rfl, i9, rfl, rfl, i12, i13, rfl, rfl, rfl, i17, i18, i19⟩
                  · rw [if_neg c7]
                    by_cases c8 : y1 = 8
                    · rw [if_pos c8]
                      unfold f_L_same
                      rcases e_same (n := n) (t := t) (c := c) (lo := lo) (x := p1) (S_cutShort := cut) (cc := nI k) (tl := nI T) (gw := gw) (M_came := nI k) (M_size := M_size) (M_length := nI len) (M_at := M_at) (M_laid := M_laid) (M_looked := M_looked) (M_thrown := M_thrown) (M_wrong := M_wrong) (M_kind := M_kind) (M_good := M_good) (M_value := M_value) hn i5 i4 i6 i17 with ⟨v, a1, a2⟩ | ⟨a1, v, a2⟩
                      · rw [a1, bd_s]
                        simp only [ox_s, bd_s, lt_e]
                        rw [a2, bd_s]
                        unfold f_X11_thrown f_X11_thrown_0
                        simp only [lt_e, bd_s, if_true]
                        rw [O_0, cmp_self, if_pos rfl]
                        unfold f_law_604
                        exact go ⟨k, T, len, c, t, lo, i1, i2, i3, i4, i5, i6, rfl, rfl, i9, rfl, rfl, i12, i13, rfl, rfl, rfl, i17, i18, i19⟩
                      · rw [a1, bd_s]
                        simp only [ox_n, bd_s, lt_e]
                        rw [a2, bd_s]
                        unfold f_X11_thrown f_X11_thrown_0
                        simp only [lt_e, bd_s, if_true]
                        rw [if_neg (by decide)]
                        unfold f_law_604
                        exact go ⟨k, T, len, c, t, lo, i1, i2, i3, i4, i5, i6, rfl, rfl, i9, rfl, rfl, i12, i13, rfl, rfl, rfl, i17, i18, i19⟩
                    · rw [if_neg c8]
                      exact go ⟨k, T, len, c, t, lo, i1, i2, i3, i4, i5, i6, rfl, rfl, i9, rfl, rfl, i12, i13, rfl, rfl, rfl, i17, i18, i19⟩
end
