/-! PURE 78: the calls that ask, and the calls that feed. -/
theorem cmp_self (a : Int64) : lg_cmp a a = 0 := by
  unfold lg_cmp
  rw [if_neg (by rw [gt_iff_lt, Int64.lt_iff_toInt_lt]; omega), if_pos rfl]
theorem byte_lt (z : Int32) : vp_nar .byte (z.toInt8.toInt32) < 128 := by
  show (z.toInt8.toInt32).toInt8.toInt32 < 128
  rw [Int32.lt_iff_toInt_lt, Int8.toInt_toInt32]
  have := (z.toInt8.toInt32).toInt8.toInt_lt
  have e : (128 : Int32).toInt = 128 := rfl
  omega
section
variable {M_came M_size M_length M_at M_laid M_looked M_thrown M_wrong M_kind M_good : Int32} {M_value : Int64} {n t : Nat} {cc tl gw x : Int32}
theorem e_demand (ht : t ≤ 81920) :
    (∃ i, i < t ∧ i < 8192 ∧ x = nI i ∧ f_X9_demandToken n x cc tl gw (nI t) = some (some ()) ∧ f_X11_isToken n x M_came M_size M_length M_at M_laid (nI (min t 8192)) M_looked M_thrown M_wrong M_kind M_value M_good = some (1, 0)) ∨ (f_X9_demandToken n x cc tl gw (nI t) = some none ∧ f_X11_isToken n x M_came M_size M_length M_at M_laid (nI (min t 8192)) M_looked M_thrown M_wrong M_kind M_value M_good = some (0, 1)) := by
  unfold f_X9_demandToken f_X9_demandToken_0 f_X9_demandToken_21 f_X8_count f_X8_count_0 f_X11_isToken f_X11_isToken_0 f_X11_isToken_13 f_X11_isToken_18
  rw [bd_s]
  by_cases c1 : x < 0
  · right
    rw [if_pos c1, if_pos c1, if_neg (by decide)]
    exact ⟨rfl, rfl⟩
  · rw [if_neg c1, if_neg c1]
    obtain ⟨i, hi, hx⟩ := qI_of (x := x) (by grind)
    have hmin : (if (8192 : Int32) < nI t then (8192 : Int32) else nI t) = nI (min t 8192) := by
      have hq : ((8192 : Int32) < nI t) = (8192 < t) := qI_lit_lt (by omega) (by decide)
      by_cases c2 : 8192 < t
      · rw [if_pos (by rw [hq]; exact c2), show min t 8192 = 8192 from by omega]; rfl
      · rw [if_neg (by rw [hq]; exact c2), show min t 8192 = t from by omega]
    rw [hmin, hx]
    have hq : (nI i < nI (min t 8192)) = (i < min t 8192) := qI_lt hi (by omega)
    by_cases c2 : i < min t 8192
    · left
      rw [if_pos (by rw [hq]; exact c2), if_pos (by rw [hq]; exact c2), if_pos rfl]
      exact ⟨i, by omega, by omega, rfl, rfl, rfl⟩
    · right
      rw [if_neg (by rw [hq]; exact c2), if_neg (by rw [hq]; exact c2), if_neg (by decide)]
      exact ⟨rfl, rfl⟩
variable {Tk Tj Tt Mk Mg Ml Mf Mm Sc : Nat → Int32} {Ts Mv : Nat → Int64} {c lo : Nat} {S_cutShort : Int32}
theorem e_kind (ht : t ≤ 81920) (hT : Toks t c lo Sc Tk Tj Ts Tt Mk Mg Mv Ml Mf Mm) :
    (∃ v : Int32, f_X9_kind n x cc tl gw (nI t) Tk = some (some v) ∧ f_X11_kind n x M_came M_size M_length M_at M_laid (nI (min t 8192)) M_looked M_thrown M_wrong M_kind M_value M_good Mk = some (v, 0)) ∨ (f_X9_kind n x cc tl gw (nI t) Tk = some none ∧ ∃ v : Int32, f_X11_kind n x M_came M_size M_length M_at M_laid (nI (min t 8192)) M_looked M_thrown M_wrong M_kind M_value M_good Mk = some (v, 1)) := by
  unfold f_X9_kind f_X9_kind_0 f_X11_kind f_X11_kind_0 f_X8_kindOf f_X8_kindOf_0
  rcases e_demand (n := n) (t := t) (cc := cc) (tl := tl) (gw := gw) (x := x) (M_came := M_came) (M_size := M_size) (M_length := M_length) (M_at := M_at) (M_laid := M_laid) (M_looked := M_looked) (M_thrown := M_thrown) (M_wrong := M_wrong) (M_kind := M_kind) (M_good := M_good) (M_value := M_value) ht with ⟨i, h1, h2, h3, h4, h5⟩ | ⟨h4, h5⟩
  · left
    rw [h4, bd_s, ox_s, h5, bd_s]
    simp only [lt_e]
    rw [h3, gd_nI (by omega) (by omega), gu_t, bd_s, if_neg (by decide), gd_nI (by omega) (by omega), gu_t, qI_toNat (by omega)]
    exact ⟨_, rfl, by rw [(hT i h1 h2).1]⟩
  · right
    rw [h4, bd_s, ox_n, h5, bd_s]
    simp only [lt_e]
    rw [if_pos trivial]
    exact ⟨trivial, _, rfl⟩
theorem e_glued (ht : t ≤ 81920) (hT : Toks t c lo Sc Tk Tj Ts Tt Mk Mg Mv Ml Mf Mm) :
    (∃ v : Int32, (v = 0 ∨ v = 1) ∧ f_X9_glued n x cc tl gw (nI t) Tj = some (some v) ∧ f_X11_glued n x M_came M_size M_length M_at M_laid (nI (min t 8192)) M_looked M_thrown M_wrong M_kind M_value M_good Mg = some (v, 0)) ∨ (f_X9_glued n x cc tl gw (nI t) Tj = some none ∧ ∃ v : Int32, f_X11_glued n x M_came M_size M_length M_at M_laid (nI (min t 8192)) M_looked M_thrown M_wrong M_kind M_value M_good Mg = some (v, 1)) := by
  unfold f_X9_glued f_X9_glued_0 f_X11_glued f_X11_glued_0 f_X8_isJoined f_X8_isJoined_0
  rcases e_demand (n := n) (t := t) (cc := cc) (tl := tl) (gw := gw) (x := x) (M_came := M_came) (M_size := M_size) (M_length := M_length) (M_at := M_at) (M_laid := M_laid) (M_looked := M_looked) (M_thrown := M_thrown) (M_wrong := M_wrong) (M_kind := M_kind) (M_good := M_good) (M_value := M_value) ht with ⟨i, h1, h2, h3, h4, h5⟩ | ⟨h4, h5⟩
  · left
    obtain ⟨_, a2, a3, _⟩ := hT i h1 h2
    rw [h4, bd_s, ox_s, h5, bd_s]
    simp only [lt_e]
    have hz : zb (Tj i) = true := by rcases a3 with h | h <;> rw [h] <;> rfl
    rw [h3, gd_nI (by omega) (by omega), gu_t, qI_toNat (by omega), hz, gu_t, bd_s, hz, gu_t, if_neg (by decide), gd_nI (by omega) (by omega), gu_t, ← a2]
    refine ⟨Tj i, a3, rfl, ?_⟩
    rcases a3 with h | h
    · rw [if_pos h, h]
    · rw [if_neg (by rw [h]; decide), h]
  · right
    rw [h4, bd_s, ox_n, h5, bd_s]
    simp only [lt_e]
    rw [if_pos trivial]
    exact ⟨trivial, _, rfl⟩
theorem e_value (ht : t ≤ 81920) (hT : Toks t c lo Sc Tk Tj Ts Tt Mk Mg Mv Ml Mf Mm) :
    (∃ v : Int64, f_X9_value n x cc tl gw (nI t) Ts = some (some v) ∧ f_X11_value n x M_came M_size M_length M_at M_laid (nI (min t 8192)) M_looked M_thrown M_wrong M_kind M_value M_good Mv = some (v, 0)) ∨ (f_X9_value n x cc tl gw (nI t) Ts = some none ∧ ∃ v : Int64, f_X11_value n x M_came M_size M_length M_at M_laid (nI (min t 8192)) M_looked M_thrown M_wrong M_kind M_value M_good Mv = some (v, 1)) := by
  unfold f_X9_value f_X9_value_0 f_X11_value f_X11_value_0 f_X8_whatSays f_X8_whatSays_0
  rcases e_demand (n := n) (t := t) (cc := cc) (tl := tl) (gw := gw) (x := x) (M_came := M_came) (M_size := M_size) (M_length := M_length) (M_at := M_at) (M_laid := M_laid) (M_looked := M_looked) (M_thrown := M_thrown) (M_wrong := M_wrong) (M_kind := M_kind) (M_good := M_good) (M_value := M_value) ht with ⟨i, h1, h2, h3, h4, h5⟩ | ⟨h4, h5⟩
  · left
    rw [h4, bd_s, ox_s, h5, bd_s]
    simp only [lt_e]
    rw [h3, gd_nI (by omega) (by omega), gu_t, bd_s, if_neg (by decide), gd_nI (by omega) (by omega), gu_t, qI_toNat (by omega)]
    exact ⟨_, rfl, by rw [(hT i h1 h2).2.2.2.1]⟩
  · right
    rw [h4, bd_s, ox_n, h5, bd_s]
    simp only [lt_e]
    rw [if_pos trivial]
    exact ⟨trivial, _, rfl⟩
theorem e_isSpelled {i : Nat} {tc : Int32} (hi : i < 8192) : (spl (Tk i) ∧ f_X8_isSpelled n (nI i) tc Tk = some 1) ∨ (¬ spl (Tk i) ∧ f_X8_isSpelled n (nI i) tc Tk = some 0) := by
  unfold f_X8_isSpelled f_X8_isSpelled_0 spl
  rw [gd_nI hi (by omega), gu_t, gu_t, qI_toNat (by omega)]
  by_cases c1 : Tk i ≤ 60
  · rw [if_pos c1]; exact Or.inl ⟨Or.inl c1, rfl⟩
  · rw [if_neg c1]
    by_cases c2 : Tk i = 66
    · rw [if_pos c2]; exact Or.inl ⟨Or.inr c2, rfl⟩
    · rw [if_neg c2]; exact Or.inr ⟨by rintro (h | h); exact c1 h; exact c2 h, rfl⟩
theorem i32_64 {K : Nat} (h : K < 2147483648) : (nI K).toInt64.toInt32 = nI K := by
  rw [qI_toInt64 h, ul_inj, qL_toInt32, ul_nI (by omega)]
  omega
/-- a token's letters, on both sides -/
theorem e_letters {i : Nat} {tc : Int32} (hi : i < 8192) (hc : c ≤ 81920) (hlo : lo ≤ 81920) (hT : Tok c lo Sc (Tk i) (Tj i) (Ts i) (Tt i) (Mk i) (Mg i) (Mv i) (Mf i) (Mm i) Ml) :
    ∃ (K st f : Nat), K ≤ 81920 ∧ st + K ≤ c ∧ f + K ≤ lo ∧ f_X8_lengthOf n (nI i) tc Tk Ts = some (nI K) ∧ f_X8_startOf n (nI i) tc Tt = some (nI st) ∧ Mf i = nI f ∧ Mm i = nI K ∧ (∀ j, j < K → Ml (f + j) = Sc (st + j)) ∧ (¬ spl (Tk i) → K = 0) := by
  obtain ⟨a1, a2, a3, a4, a5, st, K, f, b1, b2, b3, b4, b5, b6, b7, b8⟩ := hT
  refine ⟨K, st, f, by omega, b4, b5, ?_, ?_, b2, b3, b6, b8⟩
  · unfold f_X8_lengthOf f_X8_lengthOf_0
    rcases e_isSpelled (n := n) (Tk := Tk) (tc := tc) hi with ⟨h1, h2⟩ | ⟨h1, h2⟩
    · rw [h2, bd_s, if_neg (by decide), gd_nI hi (by omega), gu_t, qI_toNat (by omega), b7 h1, i32_64 (by omega)]
    · rw [h2, bd_s, if_pos rfl, b8 h1]; rfl
  · unfold f_X8_startOf f_X8_startOf_0
    rw [gd_nI hi (by omega), gu_t, qI_toNat (by omega), b1]
theorem e_at {y : Int32} (ht : t ≤ 81920) (hc : c ≤ 81920) (hlo : lo ≤ 81920) (hT : Toks t c lo Sc Tk Tj Ts Tt Mk Mg Mv Ml Mf Mm) :
    (∃ v : Int32, f_X9_at n x y cc tl gw (nI c) S_cutShort Sc (nI t) Tk Ts Tt = some (some v) ∧ f_X11_at n x y M_came M_size M_length M_at M_laid (nI (min t 8192)) M_looked M_thrown M_wrong M_kind M_value M_good Mk Ml Mf Mm = some (v, 0)) ∨ (f_X9_at n x y cc tl gw (nI c) S_cutShort Sc (nI t) Tk Ts Tt = some none ∧ ∃ v : Int32, f_X11_at n x y M_came M_size M_length M_at M_laid (nI (min t 8192)) M_looked M_thrown M_wrong M_kind M_value M_good Mk Ml Mf Mm = some (v, 1)) := by
  unfold f_X9_at f_X9_at_0 f_X9_at_21 f_X11_at f_X11_at_0
  rcases e_demand (n := n) (t := t) (cc := cc) (tl := tl) (gw := gw) (x := x) (M_came := M_came) (M_size := M_size) (M_length := M_length) (M_at := M_at) (M_laid := M_laid) (M_looked := M_looked) (M_thrown := M_thrown) (M_wrong := M_wrong) (M_kind := M_kind) (M_good := M_good) (M_value := M_value) ht with ⟨i, h1, h2, h3, h4, h5⟩ | ⟨h4, h5⟩
  · obtain ⟨K, st, f, k1, k2, k3, k4, k5, k6, k7, k8, k9⟩ := e_letters (n := n) (tc := nI t) h2 hc hlo (hT i h1 h2)
    have hkd := (hT i h1 h2).1
    rw [h4, bd_s, ox_s, h5, bd_s]
    simp only [lt_e]
    rw [h3, k4, bd_s, k5, bd_s, if_neg (show ¬ (1 : Int32) = 0 by decide), gd_nI (by omega) (by omega), gu_t, gu_t, qI_toNat (by omega), ← hkd]
    unfold f_X11_at_32 f_X11_at_46 f_X11_fails f_X11_fails_0
    simp only [bd_s, lt_e]
    rw [gd_nI (by omega) (by omega), qI_toNat (by omega), k6, k7]
    simp only [gu_t]
    by_cases c1 : y < 0
    · right
      rw [if_pos c1, if_pos c1]
      refine ⟨rfl, 0, ?_⟩
      split
      · rfl
      · split <;> rfl
    · obtain ⟨b, hb, hy⟩ := qI_of (x := y) (by grind)
      rw [if_neg c1, if_neg c1, hy]
      have hq : (nI b < nI K) = (b < K) := qI_lt hb (by omega)
      by_cases c2 : b < K
      · left
        have hs : spl (Tk i) := by
          by_cases h : spl (Tk i)
          · exact h
          · have := k9 h; omega
        have hlt : nI b < nI K := by rw [hq]; exact c2
        simp only [if_pos hlt]
        rw [qI_add, e_look hc (by omega), bd_s, qI_add, gd_nI (by omega) (by omega), gu_t, qI_toNat (by omega)]
        refine ⟨_, rfl, ?_⟩
        rw [lk_in (by omega), k8 b c2]
        rcases hs with h | h
        · rw [if_pos h]
        · rw [if_pos h, ite_self]
      · right
        have hlt : ¬ nI b < nI K := by rw [hq]; exact c2
        simp only [if_neg hlt]
        refine ⟨trivial, 0, ?_⟩
        split
        · rfl
        · split <;> rfl
  · right
    rw [h4, bd_s, ox_n, h5, bd_s]
    simp only [lt_e]
    rw [if_pos trivial]
    exact ⟨trivial, _, rfl⟩
end
