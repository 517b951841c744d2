/-! PURE 77: all tokens. -/
abbrev spl (kd : Int32) : Prop := kd ≤ 60 ∨ kd = 66
def Tok (p lo : Nat) (Sc : Nat → Int32) (kd jd : Int32) (sy : Int64) (s0 : Int32) (kd' jd' : Int32) (sy' : Int64) (f0 m0 : Int32) (Ml : Nat → Int32) : Prop :=
  kd = kd' ∧ jd = jd' ∧ (jd = 0 ∨ jd = 1) ∧ sy = sy' ∧ 0 ≤ kd ∧ ∃ st K f : Nat, s0 = nI st ∧ f0 = nI f ∧ m0 = nI K ∧ st + K ≤ p ∧ f + K ≤ lo ∧ (∀ j, j < K → Ml (f + j) = Sc (st + j)) ∧ (spl kd → sy = (nI K).toInt64) ∧ (¬ spl kd → K = 0)
def Toks (t p lo : Nat) (Sc Tk Tj : Nat → Int32) (Ts : Nat → Int64) (Tt Mk Mg : Nat → Int32) (Mv : Nat → Int64) (Ml Mf Mm : Nat → Int32) : Prop :=
  ∀ i, i < t → i < 8192 → Tok p lo Sc (Tk i) (Tj i) (Ts i) (Tt i) (Mk i) (Mg i) (Mv i) (Mf i) (Mm i) Ml
theorem Tok.up {p lo p' lo' : Nat} {Sc Sc' Ml Ml' : Nat → Int32} {kd jd s0 kd' jd' f0 m0 : Int32} {sy sy' : Int64} (h : Tok p lo Sc kd jd sy s0 kd' jd' sy' f0 m0 Ml) (h1 : p ≤ p') (h2 : lo ≤ lo') (h3 : ∀ j, j < p → Sc' j = Sc j) (h4 : ∀ j, j < lo → Ml' j = Ml j) : Tok p' lo' Sc' kd jd sy s0 kd' jd' sy' f0 m0 Ml' := by
  obtain ⟨a1, a2, a3, a4, a5, st, K, f, b1, b2, b3, b4, b5, b6, b7, b8⟩ := h
  exact ⟨a1, a2, a3, a4, a5, st, K, f, b1, b2, b3, by omega, by omega, fun j hj => by rw [h3 _ (by omega), h4 _ (by omega)]; exact b6 j hj, b7, b8⟩
theorem Toks.up {t p lo p' lo' : Nat} {Sc Sc' Tk Tj Tt Mk Mg Ml Ml' Mf Mm : Nat → Int32} {Ts Mv : Nat → Int64} (h : Toks t p lo Sc Tk Tj Ts Tt Mk Mg Mv Ml Mf Mm) (h1 : p ≤ p') (h2 : lo ≤ lo') (h3 : ∀ j, j < p → Sc' j = Sc j) (h4 : ∀ j, j < lo → Ml' j = Ml j) : Toks t p' lo' Sc' Tk Tj Ts Tt Mk Mg Mv Ml' Mf Mm := fun i a b => (h i a b).up h1 h2 h3 h4
theorem nar_b {x : Int32} (h : x = 0 ∨ x = 1) : vp_nar .boolean x = x := by rcases h with h | h <;> rw [h] <;> decide
section
variable {P_count G_count S_cutShort M_came M_size M_thrown : Int32} {Pc Ps Gc Gs Mt Ms : Nat → Int32} {V_laid V_gone V_fiveMany V_partMany : Int32} {n c len : Nat}
theorem e_store {t : Nat} {jd kd s0 b0 : Int32} {sy : Int64} {Tk Tj Tt : Nat → Int32} {Ts : Nat → Int64} (ht : t ≤ 100000) (hj : jd = 0 ∨ jd = 1) : f_X8_add n jd (nI t) Tk Tj Ts Tt kd sy s0 b0 = some (nI (t + 1), if t < 8192 then upd Tk t kd else Tk, if t < 8192 then upd Tj t jd else Tj, if t < 8192 then vp_updL Ts t sy else Ts, if t < 8192 then upd Tt t s0 else Tt) := by
  unfold f_X8_add f_X8_add_0 f_X8_add_59
  simp only [lt_e]
  rw [show nI t + 1 = nI (t + 1) from qI_add t 1, nar_b hj]
  have hq : ((8192 : Int32) ≤ nI t) = (8192 ≤ t) := qI_lit_le (by omega) (by decide)
  by_cases c1 : t < 8192
  · rw [if_neg (by rw [hq]; omega), if_pos c1, if_pos c1, if_pos c1, if_pos c1, gd_nI (by omega) (by omega), gu_t, gu_t, gu_t, gu_t, qI_toNat (by omega)]
  · rw [if_pos (by rw [hq]; omega), if_neg c1, if_neg c1, if_neg c1, if_neg c1]
set_option maxRecDepth 100000 in
theorem e_all (hn : 100000 ≤ n) (hP : Tab kwL P_count Pc Ps) (hG : Tab sgL G_count Gc Gs) (hC : Cut c len Ms) (hcut : (S_cutShort = 0 ∧ len = c) ∨ (S_cutShort = 1 ∧ len = c + 1)) :
    ∀ (d p t lo f f' : Nat) (Sc Tk Tj : Nat → Int32) (Ts : Nat → Int64) (Tt : Nat → Int32) (F_kind : Int32) (F_says : Int64) (F_start F_behind N_base N_first N_significandEnd N_exponentEnd B_used : Int32) (Bl : Nat → Int32) (R_bits : Int64) (E_used : Int32) (El : Nat → Int32) (Q_character : Int32) (M_kind : Int32) (M_value : Int64) (M_good : Int32) (Mk Mg : Nat → Int32) (Mv : Nat → Int64) (Ml Mf Mm : Nat → Int32) (V_length V_thrown V_were V_none V_beyond V_aMany V_bMany V_leftMany V_rightMany V_twos V_at V_digits V_power V_good : Int32) (Vt Va Vb Vl Vr : Nat → Int32) (prev : Int32),
      p + d = c → See p c len Sc Ms → (∀ j, j < c → Sc j < 65536) → t ≤ p → lo ≤ p → Toks t p lo Sc Tk Tj Ts Tt Mk Mg Mv Ml Mf Mm → ((t = 0 ∧ prev = -1) ∨ (0 < t ∧ prev = nI p)) → d + 1 < f → d + 2 < f' →
      ∃ (r : Int32) (t' lo' : Nat) (Sc' Tk' Tj' : Nat → Int32) (Ts' : Nat → Int64) (Tt' Mk' Mg' : Nat → Int32) (Mv' : Nat → Int64) (Ml' Mf' Mm' : Nat → Int32), (r = 0 ∨ r = 1) ∧ t' ≤ c ∧ lo' ≤ c ∧ Toks t' c lo' Sc' Tk' Tj' Ts' Tt' Mk' Mg' Mv' Ml' Mf' Mm' ∧
        (∃ q, f_X4_takeAll_4 n (nI c) S_cutShort P_count Pc Ps G_count Gc Gs f Sc (nI t) Tk Tj Ts Tt F_kind F_says F_start F_behind N_base N_first N_significandEnd N_exponentEnd B_used Bl R_bits E_used El Q_character (nI p) (nI t) = some (r, Sc', nI t', Tk', Tj', Ts', Tt', q)) ∧
        ∃ (a k' g' : Int32) (v' : Int64) (v1 v2 v3 v4 v5 v6 v7 v8 v9 v10 v11 v12 v13 v14 : Int32) (w1 w2 w3 w4 w5 : Nat → Int32), f_X11_read_27 n M_came Mt V_laid V_gone V_fiveMany V_partMany f' M_size (nI len) (nI p) (nI lo) (nI (min t 8192)) (nI t) M_thrown (-1) M_kind M_value M_good Ms Mk Mg Mv Ml Mf Mm V_length V_thrown V_were V_none V_beyond V_aMany V_bMany V_leftMany V_rightMany V_twos V_at V_digits V_power V_good Vt Va Vb Vl Vr prev = f_X11_read_186 n M_came Mt V_laid V_gone V_fiveMany V_partMany M_size (nI len) a (nI lo') (nI (min t' 8192)) (nI t') M_thrown (if r = 1 then -1 else nI t') k' v' g' Ms Mk' Mg' Mv' Ml' Mf' Mm' v1 v2 v3 v4 v5 v6 v7 v8 v9 v10 v11 v12 v13 v14 w1 w2 w3 w4 w5 := by
  intro d
  induction d using Nat.strongRecOn with
  | _ d ih =>
    intro p t lo f f' Sc Tk Tj Ts Tt F_kind F_says F_start F_behind N_base N_first N_significandEnd N_exponentEnd B_used Bl R_bits E_used El Q_character M_kind M_value M_good Mk Mg Mv Ml Mf Mm V_length V_thrown V_were V_none V_beyond V_aMany V_bMany V_leftMany V_rightMany V_twos V_at V_digits V_power V_good Vt Va Vb Vl Vr prev hd hS hR ht hlo hTk hprev hf hf'
    have hc := hS.1
    have hl := hS.2.1
    have hcl := hS.2.2.1
    obtain ⟨f, rfl⟩ : ∃ j, f = j + 1 := ⟨f - 1, by omega⟩
    obtain ⟨f', rfl⟩ : ∃ j, f' = j + 1 := ⟨f' - 1, by omega⟩
    have hmt : min t 8192 ≤ 8192 := Nat.min_le_right _ _
    obtain ⟨W, r, w, y1, y2, y3, y4⟩ := e_white (n := n) (c := c) (len := len) (Ms := Ms) (Sc := Sc) (S_cutShort := S_cutShort) (M_came := M_came) (M_size := M_size) (M_laid := nI lo) (M_tokens := nI (min t 8192)) (M_looked := nI t) (M_thrown := M_thrown) (M_wrong := -1) (M_kind := M_kind) (M_value := M_value) (M_good := M_good) hn hC d p n n hd hS (by omega) (by omega)
    have own1 : f_X4_behindWhite n (nI p) (nI c) S_cutShort Sc = some W := y1
    have ref1 : f_X11_more n M_came M_size (nI len) (nI p) (nI lo) (nI (min t 8192)) (nI t) M_thrown (-1) M_kind M_value M_good Ms = some (r, nI w) := y2
    have hct : ¬ nI c < nI t := by rw [qI_lt (by omega) (by omega)]; omega
    -- where the reference finds no token
    have bad : ∀ {Sc' Ml' : Nat → Int32} {a lo1 kd1 : Int32} {v1' : Int64} {q' : Int32 × Int32 × Int32 × Int32 × Int32 × Int32 × Int32 × Int32 × Int32 × Int32 × Int32 × Int32 × Int32 × Int32 × (Nat → Int32) × (Nat → Int32) × (Nat → Int32) × (Nat → Int32) × (Nat → Int32)}, r = 1 → f_X11_token_0 n M_came M_size (nI len) (nI (min t 8192)) (nI t) M_thrown (-1) Ms V_laid V_gone V_fiveMany V_partMany (nI w) (nI lo) M_kind M_value M_good Ml V_length V_thrown V_were V_none V_beyond V_aMany V_bMany V_leftMany V_rightMany V_twos V_at V_digits V_power V_good Vt Va Vb Vl Vr = some (a, lo1, kd1, v1', 0, Ml', q') →
        ∃ (a k' g' : Int32) (v' : Int64) (v1 v2 v3 v4 v5 v6 v7 v8 v9 v10 v11 v12 v13 v14 : Int32) (w1 w2 w3 w4 w5 : Nat → Int32), f_X11_read_27 n M_came Mt V_laid V_gone V_fiveMany V_partMany (f' + 1) M_size (nI len) (nI p) (nI lo) (nI (min t 8192)) (nI t) M_thrown (-1) M_kind M_value M_good Ms Mk Mg Mv Ml Mf Mm V_length V_thrown V_were V_none V_beyond V_aMany V_bMany V_leftMany V_rightMany V_twos V_at V_digits V_power V_good Vt Va Vb Vl Vr prev = f_X11_read_186 n M_came Mt V_laid V_gone V_fiveMany V_partMany M_size (nI len) a (nI lo) (nI (min t 8192)) (nI t) M_thrown (nI t) k' v' g' Ms Mk Mg Mv Ml' Mf Mm v1 v2 v3 v4 v5 v6 v7 v8 v9 v10 v11 v12 v13 v14 w1 w2 w3 w4 w5 := by
      intro Sc' Ml' a lo1 kd1 v1' q' hr htok
      obtain ⟨f', rfl⟩ : ∃ j, f' = j + 1 := ⟨f' - 1, by omega⟩
      obtain ⟨v1, v2, v3, v4, v5, v6, v7, v8, v9, v10, v11, v12, v13, v14, w1, w2, w3, w4, w5⟩ := q'
      refine ⟨a, kd1, 0, v1', v1, v2, v3, v4, v5, v6, v7, v8, v9, v10, v11, v12, v13, v14, w1, w2, w3, w4, w5, ?_⟩
      show fb_X11_read_27 n _ M_came Mt V_laid V_gone V_fiveMany V_partMany M_size (nI len) (nI p) (nI lo) (nI (min t 8192)) (nI t) M_thrown (-1) M_kind M_value M_good Ms Mk Mg Mv Ml Mf Mm V_length V_thrown V_were V_none V_beyond V_aMany V_bMany V_leftMany V_rightMany V_twos V_at V_digits V_power V_good Vt Va Vb Vl Vr prev = _
      unfold fb_X11_read_27 f_X11_token
      rw [if_neg (by decide), ref1, bd_s]
      simp only [lt_e]
      rw [if_neg (by rw [hr]; decide), htok, bd_s]
      simp only []
      rw [if_pos trivial]
      show fb_X11_read_27 n _ M_came Mt V_laid V_gone V_fiveMany V_partMany M_size (nI len) a (nI lo) (nI (min t 8192)) (nI t) M_thrown (nI t) kd1 v1' 0 Ms Mk Mg Mv Ml' Mf Mm v1 v2 v3 v4 v5 v6 v7 v8 v9 v10 v11 v12 v13 v14 w1 w2 w3 w4 w5 prev = _
      unfold fb_X11_read_27
      rw [if_pos (by rw [show (0 : Int32) = nI 0 from rfl, qI_le (by omega) (by omega)]; omega)]
    rcases y4 with ⟨z1, z2, z3, z4, z5⟩ | ⟨z1, z2, z3, z4⟩
    · -- a comment that is not closed
      obtain ⟨a, lo1, kd1, v1', q', htok⟩ := e_token_com (n := n) (p := w) (c := c) (len := len) (tk := min t 8192) (lo := lo) (Ml := Ml) (M_came := M_came) (M_size := M_size) (M_looked := nI t) (M_thrown := M_thrown) (M_wrong := -1) (M_kind := M_kind) (M_value := M_value) (M_good := M_good) (V_laid := V_laid) (V_gone := V_gone) (V_fiveMany := V_fiveMany) (V_partMany := V_partMany) (V_length := V_length) (V_thrown := V_thrown) (V_were := V_were) (V_none := V_none) (V_beyond := V_beyond) (V_aMany := V_aMany) (V_bMany := V_bMany) (V_leftMany := V_leftMany) (V_rightMany := V_rightMany) (V_twos := V_twos) (V_at := V_at) (V_digits := V_digits) (V_power := V_power) (V_good := V_good) (Vt := Vt) (Va := Va) (Vb := Vb) (Vl := Vl) (Vr := Vr) (hS.up y3) z3 z4 z5
      refine ⟨0, t, lo, Sc, Tk, Tj, Ts, Tt, Mk, Mg, Mv, Ml, Mf, Mm, Or.inl rfl, by omega, by omega, hTk.up (by omega) (Nat.le_refl _) (fun j _ => rfl) (fun j _ => rfl), ?_, bad (Sc' := Sc) z2 htok⟩
      refine ⟨?_, ?_⟩
      rotate_left
      · show fb_X4_takeAll_4 n _ (nI c) S_cutShort P_count Pc Ps G_count Gc Gs Sc (nI t) Tk Tj Ts Tt F_kind F_says F_start F_behind N_base N_first N_significandEnd N_exponentEnd B_used Bl R_bits E_used El Q_character (nI p) (nI t) = _
        unfold fb_X4_takeAll_4
        rw [e_count, bd_s, if_neg hct, own1, bd_s, if_pos z1]
    · by_cases hwc : w = c
      · -- the end
        have hr := z3 hwc
        have hWc : W = nI c := by rw [z1, hwc]
        have hWn : ¬ W = -1 := by rw [hWc, qI_ne_neg1 (by omega)]; exact fun h => h
        rcases hcut with ⟨k1, k2⟩ | ⟨k1, k2⟩
        · rw [if_pos k2] at hr
          refine ⟨1, t, lo, Sc, Tk, Tj, Ts, Tt, Mk, Mg, Mv, Ml, Mf, Mm, Or.inr rfl, by omega, by omega, hTk.up (by omega) (Nat.le_refl _) (fun j _ => rfl) (fun j _ => rfl), ⟨?_, ?_⟩, nI w, M_kind, M_good, M_value, V_length, V_thrown, V_were, V_none, V_beyond, V_aMany, V_bMany, V_leftMany, V_rightMany, V_twos, V_at, V_digits, V_power, V_good, Vt, Va, Vb, Vl, Vr, ?_⟩
          rotate_left
          · show fb_X4_takeAll_4 n _ (nI c) S_cutShort P_count Pc Ps G_count Gc Gs Sc (nI t) Tk Tj Ts Tt F_kind F_says F_start F_behind N_base N_first N_significandEnd N_exponentEnd B_used Bl R_bits E_used El Q_character (nI p) (nI t) = _
            unfold fb_X4_takeAll_4
            rw [e_count, bd_s, if_neg hct, own1, bd_s, if_neg hWn, bd_s, if_pos hWc, k1]
            unfold f_X6_isCutShort f_X6_isCutShort_0
            rw [zb_0, gu_t, bd_s, if_pos rfl]
          · show fb_X11_read_27 n _ M_came Mt V_laid V_gone V_fiveMany V_partMany M_size (nI len) (nI p) (nI lo) (nI (min t 8192)) (nI t) M_thrown (-1) M_kind M_value M_good Ms Mk Mg Mv Ml Mf Mm V_length V_thrown V_were V_none V_beyond V_aMany V_bMany V_leftMany V_rightMany V_twos V_at V_digits V_power V_good Vt Va Vb Vl Vr prev = _
            unfold fb_X11_read_27
            rw [if_neg (by decide), ref1, bd_s]
            simp only [lt_e]
            rw [if_pos hr]
            rfl
        · rw [if_neg (by omega)] at hr
          have hm2 : Ms c = -2 := by rcases hC with h | h; omega; exact h.2
          rw [hwc] at bad
          obtain ⟨a, lo1, kd1, v1', q', htok⟩ := e_token_cut (n := n) (c := c) (len := len) (tk := min t 8192) (lo := lo) (Sc := Sc) (Ml := Ml) (Ms := Ms) (M_came := M_came) (M_size := M_size) (M_looked := nI t) (M_thrown := M_thrown) (M_wrong := -1) (M_kind := M_kind) (M_value := M_value) (M_good := M_good) (V_laid := V_laid) (V_gone := V_gone) (V_fiveMany := V_fiveMany) (V_partMany := V_partMany) (V_length := V_length) (V_thrown := V_thrown) (V_were := V_were) (V_none := V_none) (V_beyond := V_beyond) (V_aMany := V_aMany) (V_bMany := V_bMany) (V_leftMany := V_leftMany) (V_rightMany := V_rightMany) (V_twos := V_twos) (V_at := V_at) (V_digits := V_digits) (V_power := V_power) (V_good := V_good) (Vt := Vt) (Va := Va) (Vb := Vb) (Vl := Vl) (Vr := Vr) hn (hS.up (by omega)) k2 hm2 hG
          refine ⟨0, t, lo, Sc, Tk, Tj, Ts, Tt, Mk, Mg, Mv, Ml, Mf, Mm, Or.inl rfl, by omega, by omega, hTk.up (by omega) (Nat.le_refl _) (fun j _ => rfl) (fun j _ => rfl), ⟨?_, ?_⟩, bad (Sc' := Sc) hr htok⟩
          rotate_left
          · show fb_X4_takeAll_4 n _ (nI c) S_cutShort P_count Pc Ps G_count Gc Gs Sc (nI t) Tk Tj Ts Tt F_kind F_says F_start F_behind N_base N_first N_significandEnd N_exponentEnd B_used Bl R_bits E_used El Q_character (nI p) (nI t) = _
            unfold fb_X4_takeAll_4
            rw [e_count, bd_s, if_neg hct, own1, bd_s, if_neg hWn, bd_s, if_pos hWc, k1]
            unfold f_X6_isCutShort f_X6_isCutShort_0
            rw [zb_1, gu_t, bd_s, if_neg (by decide)]
      · -- a token
        have hwl : w < c := by omega
        obtain ⟨hr, hnb, hncm, _⟩ := z4 hwl
        have hWn : ¬ W = -1 := by rw [z1, qI_ne_neg1 (by omega)]; exact fun h => h
        have hWc : ¬ W = nI c := by rw [z1, qI_eq (by omega) (by omega)]; omega
        rcases e_token (n := n) (p := w) (c := c) (len := len) (tk := min t 8192) (lo := lo) (Sc := Sc) (Ms := Ms) (Ml := Ml) (M_came := M_came) (M_size := M_size) (M_looked := nI t) (M_thrown := M_thrown) (M_wrong := -1) (M_kind := M_kind) (M_value := M_value) (M_good := M_good) (V_laid := V_laid) (V_gone := V_gone) (V_fiveMany := V_fiveMany) (V_partMany := V_partMany) (V_length := V_length) (V_thrown := V_thrown) (V_were := V_were) (V_none := V_none) (V_beyond := V_beyond) (V_aMany := V_aMany) (V_bMany := V_bMany) (V_leftMany := V_leftMany) (V_rightMany := V_rightMany) (V_twos := V_twos) (V_at := V_at) (V_digits := V_digits) (V_power := V_power) (V_good := V_good) (Vt := Vt) (Va := Va) (Vb := Vb) (Vl := Vl) (Vr := Vr) (S_cutShort := S_cutShort) (P_count := P_count) (G_count := G_count) (F_kind := F_kind) (F_start := F_start) (F_behind := F_behind) (B_used := B_used) (E_used := E_used) (Q_character := Q_character) (N_base := N_base) (N_first := N_first) (N_significandEnd := N_significandEnd) (N_exponentEnd := N_exponentEnd) (F_says := F_says) (R_bits := R_bits) (Pc := Pc) (Ps := Ps) (Gc := Gc) (Gs := Gs) (Bl := Bl) (El := El) hn (hS.up y3) hwl hR hP hG (by omega) (by omega) hncm with ⟨kd, sy, st, e, lo1, Sc1, Ml1, hgood, ⟨q, hown⟩, q', href⟩ | ⟨Sc1, Ml1, hs1, hm1, ⟨q, hown⟩, a, lo1, kd1, v1', q', href⟩
        · -- a good one
          obtain ⟨g1, g2, g3, g4, g5, g6, g7, K, g8, g9, g10, g11⟩ := hgood
          obtain ⟨x1, x2, x3, x4, x5, x6, x7, x8, x9, x10⟩ := q
          obtain ⟨v1, v2, v3, v4, v5, v6, v7, v8, v9, v10, v11, v12, v13, v14, w1, w2, w3, w4, w5⟩ := q'
          -- is it joined
          have hjd : ∃ jd : Int32, (jd = 0 ∨ jd = 1) ∧ (jd = 1 ↔ (0 < t ∧ w = p)) := by
            by_cases h : 0 < t ∧ w = p
            · exact ⟨1, Or.inr rfl, fun _ => h, fun _ => rfl⟩
            · exact ⟨0, Or.inl rfl, fun h2 => absurd h2 (by decide), fun h2 => absurd h2 h⟩
          obtain ⟨jd, hj1, hj2⟩ := hjd
          have ownS : f_X4_takeAll_4 n (nI c) S_cutShort P_count Pc Ps G_count Gc Gs (f + 1) Sc (nI t) Tk Tj Ts Tt F_kind F_says F_start F_behind N_base N_first N_significandEnd N_exponentEnd B_used Bl R_bits E_used El Q_character (nI p) (nI t) = f_X4_takeAll_4 n (nI c) S_cutShort P_count Pc Ps G_count Gc Gs f Sc1 (nI (t + 1)) (if t < 8192 then upd Tk t kd else Tk) (if t < 8192 then upd Tj t jd else Tj) (if t < 8192 then vp_updL Ts t sy else Ts) (if t < 8192 then upd Tt t (nI st) else Tt) kd sy (nI st) (nI e) x1 x2 x3 x4 x5 x6 x7 x8 x9 x10 (nI e) (nI (t + 1)) := by
            have h87 : ∀ j : Int32, j = 0 ∨ j = 1 → f_X4_takeAll_87 n (f_X4_takeAll_4 n (nI c) S_cutShort P_count Pc Ps G_count Gc Gs f) (nI c) S_cutShort P_count Pc Ps G_count Gc Gs Sc1 (nI t) Tk Tj Ts Tt kd sy (nI st) (nI e) x1 x2 x3 x4 x5 x6 x7 x8 x9 x10 (nI t) j = f_X4_takeAll_4 n (nI c) S_cutShort P_count Pc Ps G_count Gc Gs f Sc1 (nI (t + 1)) (if t < 8192 then upd Tk t kd else Tk) (if t < 8192 then upd Tj t j else Tj) (if t < 8192 then vp_updL Ts t sy else Ts) (if t < 8192 then upd Tt t (nI st) else Tt) kd sy (nI st) (nI e) x1 x2 x3 x4 x5 x6 x7 x8 x9 x10 (nI e) (nI (t + 1)) := by
              intro j hj
              unfold f_X4_takeAll_87
              rw [e_store (by omega) hj, bd_s]
              simp only [lt_e]
              rw [show nI t + 1 = nI (t + 1) from qI_add t 1]
            show fb_X4_takeAll_4 n _ (nI c) S_cutShort P_count Pc Ps G_count Gc Gs Sc (nI t) Tk Tj Ts Tt F_kind F_says F_start F_behind N_base N_first N_significandEnd N_exponentEnd B_used Bl R_bits E_used El Q_character (nI p) (nI t) = _
            unfold fb_X4_takeAll_4 f_X4_take f_X4_takeAll_86
            rw [e_count, bd_s, if_neg hct, own1, bd_s, if_neg hWn, bd_s, if_neg hWc, z1, hown, bd_s]
            simp only [lt_e]
            rw [if_neg (show ¬ (1 : Int32) = 0 by decide)]
            have hq0 : (nI t ≤ 0) = (t = 0) := by rw [show (0 : Int32) = nI 0 from rfl, qI_le (by omega) (by omega)]; apply propext; omega
            have hqw : (nI w = nI p) = (w = p) := qI_eq (by omega) (by omega)
            by_cases c1 : 0 < t ∧ w = p
            · rw [if_neg (by rw [hq0]; omega), if_pos (by rw [hqw]; exact c1.2), h87 1 (Or.inr rfl), hj2.mpr c1]
            · have hj0 : jd = 0 := by rcases hj1 with h | h; exact h; exact absurd (hj2.mp h) c1
              rw [hj0]
              by_cases c2 : t = 0
              · rw [if_pos (by rw [hq0]; exact c2), h87 0 (Or.inl rfl)]
              · rw [if_neg (by rw [hq0]; exact c2), if_neg (by rw [hqw]; exact fun h => c1 ⟨by omega, h⟩), h87 0 (Or.inl rfl)]
          have refS : f_X11_read_27 n M_came Mt V_laid V_gone V_fiveMany V_partMany (f' + 1) M_size (nI len) (nI p) (nI lo) (nI (min t 8192)) (nI t) M_thrown (-1) M_kind M_value M_good Ms Mk Mg Mv Ml Mf Mm V_length V_thrown V_were V_none V_beyond V_aMany V_bMany V_leftMany V_rightMany V_twos V_at V_digits V_power V_good Vt Va Vb Vl Vr prev = f_X11_read_27 n M_came Mt V_laid V_gone V_fiveMany V_partMany f' M_size (nI len) (nI e) (nI lo1) (nI (min (t + 1) 8192)) (nI (t + 1)) M_thrown (-1) kd sy 1 Ms (if t < 8192 then upd Mk t kd else Mk) (if t < 8192 then upd Mg t jd else Mg) (if t < 8192 then vp_updL Mv t sy else Mv) Ml1 (if t < 8192 then upd Mf t (nI lo) else Mf) (if t < 8192 then upd Mm t (nI K) else Mm) v1 v2 v3 v4 v5 v6 v7 v8 v9 v10 v11 v12 v13 v14 w1 w2 w3 w4 w5 (nI e) := by
            show fb_X11_read_27 n _ M_came Mt V_laid V_gone V_fiveMany V_partMany M_size (nI len) (nI p) (nI lo) (nI (min t 8192)) (nI t) M_thrown (-1) M_kind M_value M_good Ms Mk Mg Mv Ml Mf Mm V_length V_thrown V_were V_none V_beyond V_aMany V_bMany V_leftMany V_rightMany V_twos V_at V_digits V_power V_good Vt Va Vb Vl Vr prev = _
            unfold fb_X11_read_27 f_X11_token f_X11_read_168
            rw [if_neg (by decide), ref1, bd_s]
            simp only [lt_e]
            rw [if_neg (by rw [hr]; decide), href, bd_s]
            simp only []
            rw [if_neg (show ¬ (1 : Int32) = 0 by decide), show nI t + 1 = nI (t + 1) from qI_add t 1]
            have hq8 : ((8192 : Int32) ≤ nI (min t 8192)) = (8192 ≤ t) := by
              rw [show (8192 : Int32) = nI 8192 from rfl, qI_le (by omega) (by omega)]; apply propext; omega
            by_cases ct : t < 8192
            · have hmin : min t 8192 = t := by omega
              have hmin1 : min (t + 1) 8192 = t + 1 := by omega
              rw [if_neg (by rw [hq8]; omega), if_pos ct, if_pos ct, if_pos ct, if_pos ct, if_pos ct, hmin, hmin1, gd_nI (by omega) (by omega), gu_t, qI_toNat (by omega)]
              have hlo1 : lo1 = lo + K := by have := g9.1; rw [if_pos (by omega)] at this; exact this
              have h119 : ∀ j : Int32, j = 0 ∨ j = 1 → f_X11_read_119 n (f_X11_read_27 n M_came Mt V_laid V_gone V_fiveMany V_partMany f') M_came Mt V_laid V_gone V_fiveMany V_partMany M_size (nI len) (nI e) (nI lo1) (nI t) (nI t) M_thrown (-1) kd sy 1 Ms (upd Mk t kd) Mg Mv Ml1 Mf Mm v1 v2 v3 v4 v5 v6 v7 v8 v9 v10 v11 v12 v13 v14 w1 w2 w3 w4 w5 (nI lo) (nI t) j = f_X11_read_27 n M_came Mt V_laid V_gone V_fiveMany V_partMany f' M_size (nI len) (nI e) (nI lo1) (nI (t + 1)) (nI (t + 1)) M_thrown (-1) kd sy 1 Ms (upd Mk t kd) (upd Mg t j) (vp_updL Mv t sy) Ml1 (upd Mf t (nI lo)) (upd Mm t (nI K)) v1 v2 v3 v4 v5 v6 v7 v8 v9 v10 v11 v12 v13 v14 w1 w2 w3 w4 w5 (nI e) := by
                intro j hj
                unfold f_X11_read_119 f_X11_read_168
                simp only [lt_e]
                rw [gd_nI (by omega) (by omega), gu_t, gu_t, gu_t, gu_t, qI_toNat (by omega), nar_b hj, hlo1, qI_sub (by omega), Nat.add_sub_cancel_left, show nI t + 1 = nI (t + 1) from qI_add t 1]
              by_cases c1 : 0 < t ∧ w = p
              · have hpw : nI w = prev := by
                  rcases hprev with h | h
                  · omega
                  · rw [h.2, c1.2]
                rw [if_pos hpw, hj2.mpr c1]
                exact h119 1 (Or.inr rfl)
              · have hpw : ¬ nI w = prev := by
                  rcases hprev with h | h
                  · rw [h.2, qI_ne_neg1 (by omega)]; exact fun h => h
                  · rw [h.2, qI_eq (by omega) (by omega)]; exact fun h2 => c1 ⟨h.1, h2⟩
                have hj0 : jd = 0 := by rcases hj1 with h | h; exact h; exact absurd (hj2.mp h) c1
                rw [if_neg hpw, hj0]
                exact h119 0 (Or.inl rfl)
            · have hmin : min t 8192 = 8192 := by omega
              have hmin1 : min (t + 1) 8192 = 8192 := by omega
              rw [if_pos (by rw [hq8]; omega), if_neg ct, if_neg ct, if_neg ct, if_neg ct, if_neg ct, hmin, hmin1]
          rw [ownS, refS]
          have hlo2 : lo ≤ lo1 ∧ lo1 ≤ e := by have := g9.1; split at this <;> omega
          have hToks : Toks (t + 1) e lo1 Sc1 (if t < 8192 then upd Tk t kd else Tk) (if t < 8192 then upd Tj t jd else Tj) (if t < 8192 then vp_updL Ts t sy else Ts) (if t < 8192 then upd Tt t (nI st) else Tt) (if t < 8192 then upd Mk t kd else Mk) (if t < 8192 then upd Mg t jd else Mg) (if t < 8192 then vp_updL Mv t sy else Mv) Ml1 (if t < 8192 then upd Mf t (nI lo) else Mf) (if t < 8192 then upd Mm t (nI K) else Mm) := by
            intro i hi hi8
            by_cases ct : t < 8192
            · simp only [if_pos ct]
              by_cases hit : i = t
              · rw [hit, upd_same, upd_same, updL_same, upd_same, upd_same, upd_same, updL_same, upd_same, upd_same]
                refine ⟨rfl, rfl, hj1, rfl, g7, st, K, lo, rfl, rfl, rfl, g8, ?_, fun j hj => g9.2.2 (by omega) j hj, g10, g11⟩
                have := g9.1; rw [if_pos (by omega)] at this; omega
              · rw [upd_ne _ _ hit, upd_ne _ _ hit, updL_ne _ _ hit, upd_ne _ _ hit, upd_ne _ _ hit, upd_ne _ _ hit, updL_ne _ _ hit, upd_ne _ _ hit, upd_ne _ _ hit]
                exact (hTk i (by omega) hi8).up (by omega) hlo2.1 (fun j hj => g5 j (by omega)) g9.2.1
            · simp only [if_neg ct]
              exact (hTk i (by omega) hi8).up (by omega) hlo2.1 (fun j hj => g5 j (by omega)) g9.2.1
          exact ih (c - e) (by omega) e (t + 1) lo1 f f' Sc1 _ _ _ _ kd sy (nI st) (nI e) x1 x2 x3 x4 x5 x6 x7 x8 x9 x10 kd sy 1 _ _ _ Ml1 _ _ v1 v2 v3 v4 v5 v6 v7 v8 v9 v10 v11 v12 v13 v14 w1 w2 w3 w4 w5 (nI e) (by omega) g3 g4 (by omega) hlo2.2 hToks (Or.inr ⟨by omega, rfl⟩) (by omega) (by omega)
        · -- none
          refine ⟨0, t, lo, Sc1, Tk, Tj, Ts, Tt, Mk, Mg, Mv, Ml1, Mf, Mm, Or.inl rfl, by omega, by omega, hTk.up (by omega) (Nat.le_refl _) (fun j hj => hs1 j (by omega)) hm1, ⟨?_, ?_⟩, bad (Sc' := Sc1) hr href⟩
          rotate_left
          · show fb_X4_takeAll_4 n _ (nI c) S_cutShort P_count Pc Ps G_count Gc Gs Sc (nI t) Tk Tj Ts Tt F_kind F_says F_start F_behind N_base N_first N_significandEnd N_exponentEnd B_used Bl R_bits E_used El Q_character (nI p) (nI t) = _
            unfold fb_X4_takeAll_4 f_X4_take
            rw [e_count, bd_s, if_neg hct, own1, bd_s, if_neg hWn, bd_s, if_neg hWc, z1, hown, bd_s]
            simp only [lt_e]
            rw [if_pos trivial]
end
