/-! PURE 78.1: which token was spelled the same before. -/
section
variable {M_came M_size M_length M_at M_laid M_looked M_thrown M_wrong M_kind M_good : Int32} {M_value : Int64} {n t : Nat} {cc tl gw x : Int32} {Tk Tj Tt Mk Mg Ml Mf Mm Sc : Nat → Int32} {Ts Mv : Nat → Int64} {c lo : Nat} {S_cutShort : Int32}
theorem e_alike {a b : Nat} (hn : 100000 ≤ n) (ha : a < 8192) (hb : b < 8192) (hc : c ≤ 81920) {Ka Kb sa sb : Nat} (k1 : Ka ≤ 81920) (k2 : Kb ≤ 81920) (h1 : sa + Ka ≤ c) (h2 : sb + Kb ≤ c) (l1 : f_X8_lengthOf n (nI a) (nI t) Tk Ts = some (nI Ka)) (l2 : f_X8_lengthOf n (nI b) (nI t) Tk Ts = some (nI Kb)) (s1 : f_X8_startOf n (nI a) (nI t) Tt = some (nI sa)) (s2 : f_X8_startOf n (nI b) (nI t) Tt = some (nI sb)) :
    ((spl (Tk a) ∧ Ka = Kb ∧ ∀ y, y < Kb → Sc (sa + y) = Sc (sb + y)) ∧ f_X9_areAlike n (nI a) (nI b) cc tl gw (nI c) S_cutShort Sc (nI t) Tk Ts Tt = some 1) ∨ (¬ (spl (Tk a) ∧ Ka = Kb ∧ ∀ y, y < Kb → Sc (sa + y) = Sc (sb + y)) ∧ f_X9_areAlike n (nI a) (nI b) cc tl gw (nI c) S_cutShort Sc (nI t) Tk Ts Tt = some 0) := by
  have loop : Ka = Kb → ∀ (m f y : Nat), y + m = Kb → m < f →
      ((∀ j, y ≤ j → j < Kb → Sc (sa + j) = Sc (sb + j)) ∧ f_X9_areAlike_37 n cc tl gw (nI c) S_cutShort Sc (nI t) Tk Ts Tt f (nI a) (nI b) (nI Kb) (nI y) = some 1) ∨ (¬ (∀ j, y ≤ j → j < Kb → Sc (sa + j) = Sc (sb + j)) ∧ f_X9_areAlike_37 n cc tl gw (nI c) S_cutShort Sc (nI t) Tk Ts Tt f (nI a) (nI b) (nI Kb) (nI y) = some 0) := by
    intro hK m
    induction m with
    | zero =>
      intro f y hm hf
      obtain ⟨f, rfl⟩ : ∃ f', f = f' + 1 := ⟨f - 1, by omega⟩
      left
      refine ⟨fun j p q => absurd q (by omega), ?_⟩
      unfold f_X9_areAlike_37 fb_X9_areAlike_37
      rw [if_pos (by rw [qI_le (by omega) (by omega)]; omega)]
    | succ m ih =>
      intro f y hm hf
      obtain ⟨f, rfl⟩ : ∃ f', f = f' + 1 := ⟨f - 1, by omega⟩
      have hst : f_X9_areAlike_37 n cc tl gw (nI c) S_cutShort Sc (nI t) Tk Ts Tt (f + 1) (nI a) (nI b) (nI Kb) (nI y) = if Sc (sa + y) = Sc (sb + y) then f_X9_areAlike_37 n cc tl gw (nI c) S_cutShort Sc (nI t) Tk Ts Tt f (nI a) (nI b) (nI Kb) (nI (y + 1)) else some 0 := by
        show fb_X9_areAlike_37 n _ cc tl gw (nI c) S_cutShort Sc (nI t) Tk Ts Tt (nI a) (nI b) (nI Kb) (nI y) = _
        unfold fb_X9_areAlike_37
        rw [if_neg (by rw [qI_le (by omega) (by omega)]; omega), s1, bd_s, qI_add, e_look hc (by omega), bd_s, s2, bd_s, qI_add, e_look hc (by omega), bd_s, lk_in (by omega), lk_in (by omega)]
        simp only [lt_e]
        rw [show nI y + 1 = nI (y + 1) from qI_add y 1]
      rw [hst]
      by_cases c1 : Sc (sa + y) = Sc (sb + y)
      · rw [if_pos c1]
        rcases ih f (y + 1) (by omega) (by omega) with ⟨a1, a2⟩ | ⟨a1, a2⟩
        · left
          refine ⟨fun j p q => ?_, a2⟩
          by_cases hj : j = y
          · rw [hj]; exact c1
          · exact a1 j (by omega) q
        · right
          exact ⟨fun h => a1 (fun j p q => h j (by omega) q), a2⟩
      · rw [if_neg c1]
        right
        exact ⟨fun h => c1 (h y (Nat.le_refl _) (by omega)), rfl⟩
  unfold f_X9_areAlike f_X9_areAlike_0
  rw [l2, bd_s]
  rcases e_isSpelled (n := n) (Tk := Tk) (tc := nI t) ha with ⟨p1, p2⟩ | ⟨p1, p2⟩
  · rw [p2, bd_s, if_neg (by decide), l1, bd_s]
    have hq : (nI Ka = nI Kb) = (Ka = Kb) := qI_eq (by omega) (by omega)
    by_cases c1 : Ka = Kb
    · rw [if_pos (by rw [hq]; exact c1)]
      rcases loop c1 Kb n 0 (by omega) (by omega) with ⟨a1, a2⟩ | ⟨a1, a2⟩
      · left; exact ⟨⟨p1, c1, fun y hy => a1 y (Nat.zero_le _) hy⟩, a2⟩
      · right; exact ⟨fun h => a1 (fun j _ q => h.2.2 j q), a2⟩
    · rw [if_neg (by rw [hq]; exact c1)]
      right; exact ⟨fun h => c1 h.2.1, rfl⟩
  · rw [p2, bd_s, if_pos rfl]
    right; exact ⟨fun h => p1 h.1, rfl⟩
theorem e_alike_ref {a b : Nat} {r45 : Int32 → Int32 → Int32 → Option (Int32 × Int32)} (hn : 100000 ≤ n) (ha : a < 8192) (hb : b < 8192) (hlo : lo ≤ 81920) {Ka Kb fa fb : Nat} (k1 : fa + Ka ≤ lo) (k2 : fb + Kb ≤ lo) (m1 : Mm a = nI Ka) (m2 : Mm b = nI Kb) (f1 : Mf a = nI fa) (f2 : Mf b = nI fb) :
    ((Ka = Kb ∧ ∀ y, y < Kb → Ml (fa + y) = Ml (fb + y)) ∧ f_X11_same_72 n r45 M_came M_size M_length M_at M_laid (nI (min t 8192)) M_looked M_wrong M_kind M_value M_good Mk Ml Mf Mm 0 (nI b) (nI a) = some (nI a, 0)) ∨ (¬ (Ka = Kb ∧ ∀ y, y < Kb → Ml (fa + y) = Ml (fb + y)) ∧ f_X11_same_72 n r45 M_came M_size M_length M_at M_laid (nI (min t 8192)) M_looked M_wrong M_kind M_value M_good Mk Ml Mf Mm 0 (nI b) (nI a) = r45 0 (nI b) (nI (a + 1))) := by
  have h153 : ∀ x3 : Int32, f_X11_same_153 n r45 M_came M_size M_length M_at M_laid (nI (min t 8192)) M_looked M_wrong M_kind M_value M_good Mk Ml Mf Mm 0 (nI b) (nI a) x3 = if x3 = 0 then r45 0 (nI b) (nI (a + 1)) else some (nI a, 0) := by
    intro x3
    unfold f_X11_same_153 f_X11_same_159
    simp only [lt_e]
    rw [show nI a + 1 = nI (a + 1) from qI_add a 1]
  have loop : Ka = Kb → ∀ (m f y : Nat), y + m = Kb → m + 1 < f →
      ((∀ j, y ≤ j → j < Kb → Ml (fa + j) = Ml (fb + j)) ∧ f_X11_same_95 n r45 M_came M_size M_length M_at M_laid (nI (min t 8192)) M_looked M_wrong M_kind M_value M_good Mk Ml Mf Mm f 0 (nI b) (nI a) 1 (nI y) = some (nI a, 0)) ∨ (¬ (∀ j, y ≤ j → j < Kb → Ml (fa + j) = Ml (fb + j)) ∧ f_X11_same_95 n r45 M_came M_size M_length M_at M_laid (nI (min t 8192)) M_looked M_wrong M_kind M_value M_good Mk Ml Mf Mm f 0 (nI b) (nI a) 1 (nI y) = r45 0 (nI b) (nI (a + 1))) := by
    intro hK m
    induction m with
    | zero =>
      intro f y hm hf
      obtain ⟨f, rfl⟩ : ∃ f', f = f' + 1 := ⟨f - 1, by omega⟩
      left
      refine ⟨fun j p q => absurd q (by omega), ?_⟩
      show fb_X11_same_95 n r45 _ M_came M_size M_length M_at M_laid (nI (min t 8192)) M_looked M_wrong M_kind M_value M_good Mk Ml Mf Mm 0 (nI b) (nI a) 1 (nI y) = _
      unfold fb_X11_same_95
      rw [gd_nI (by omega) (by omega), gu_t, qI_toNat (by omega), m2, if_pos (by rw [qI_le (by omega) (by omega)]; omega), h153, if_neg (by decide)]
    | succ m ih =>
      intro f y hm hf
      obtain ⟨f, rfl⟩ : ∃ f', f = f' + 1 := ⟨f - 1, by omega⟩
      have hst : f_X11_same_95 n r45 M_came M_size M_length M_at M_laid (nI (min t 8192)) M_looked M_wrong M_kind M_value M_good Mk Ml Mf Mm (f + 1) 0 (nI b) (nI a) 1 (nI y) = if Ml (fa + y) = Ml (fb + y) then f_X11_same_95 n r45 M_came M_size M_length M_at M_laid (nI (min t 8192)) M_looked M_wrong M_kind M_value M_good Mk Ml Mf Mm f 0 (nI b) (nI a) 1 (nI (y + 1)) else f_X11_same_95 n r45 M_came M_size M_length M_at M_laid (nI (min t 8192)) M_looked M_wrong M_kind M_value M_good Mk Ml Mf Mm f 0 (nI b) (nI a) 0 (nI (y + 1)) := by
        show fb_X11_same_95 n r45 _ M_came M_size M_length M_at M_laid (nI (min t 8192)) M_looked M_wrong M_kind M_value M_good Mk Ml Mf Mm 0 (nI b) (nI a) 1 (nI y) = _
        unfold fb_X11_same_95 f_X11_same_146
        simp only [lt_e]
        rw [gd_nI (by omega) (by omega), gu_t, qI_toNat (by omega), m2, if_neg (by rw [qI_le (by omega) (by omega)]; omega), if_neg (show ¬ (1 : Int32) = 0 by decide), gd_nI (by omega) (by omega), gu_t, qI_toNat (by omega), f1, f2, qI_add, qI_add, gd_nI (by omega) (by omega), gu_t, gu_t, gd_nI (by omega) (by omega), gu_t, qI_toNat (by omega), qI_toNat (by omega), show nI y + 1 = nI (y + 1) from qI_add y 1]
      rw [hst]
      by_cases c1 : Ml (fa + y) = Ml (fb + y)
      · rw [if_pos c1]
        rcases ih f (y + 1) (by omega) (by omega) with ⟨a1, a2⟩ | ⟨a1, a2⟩
        · left
          refine ⟨fun j p q => ?_, a2⟩
          by_cases hj : j = y
          · rw [hj]; exact c1
          · exact a1 j (by omega) q
        · right
          exact ⟨fun h => a1 (fun j p q => h j (by omega) q), a2⟩
      · rw [if_neg c1]
        right
        refine ⟨fun h => c1 (h y (Nat.le_refl _) (by omega)), ?_⟩
        obtain ⟨f, rfl⟩ : ∃ f', f = f' + 1 := ⟨f - 1, by omega⟩
        show fb_X11_same_95 n r45 _ M_came M_size M_length M_at M_laid (nI (min t 8192)) M_looked M_wrong M_kind M_value M_good Mk Ml Mf Mm 0 (nI b) (nI a) 0 (nI (y + 1)) = _
        unfold fb_X11_same_95
        rw [gd_nI (by omega) (by omega), gu_t, h153]
        simp only [if_true]
        rw [ite_self]
  unfold f_X11_same_72
  rw [gd_nI (by omega) (by omega), gu_t, gd_nI (by omega) (by omega), gu_t, qI_toNat (by omega), qI_toNat (by omega), m1, m2]
  have hq : (nI Ka = nI Kb) = (Ka = Kb) := qI_eq (by omega) (by omega)
  by_cases c1 : Ka = Kb
  · rw [if_pos (by rw [hq]; exact c1)]
    rcases loop c1 Kb n 0 (by omega) (by omega) with ⟨a1, a2⟩ | ⟨a1, a2⟩
    · left; exact ⟨⟨c1, fun y hy => a1 y (Nat.zero_le _) hy⟩, a2⟩
    · right; exact ⟨fun h => a1 (fun j _ q => h.2 j q), a2⟩
  · rw [if_neg (by rw [hq]; exact c1)]
    right
    refine ⟨fun h => c1 h.1, ?_⟩
    unfold f_X11_same_159
    simp only [lt_e]
    rw [show nI a + 1 = nI (a + 1) from qI_add a 1]
theorem e_same (hn : 100000 ≤ n) (ht : t ≤ 81920) (hc : c ≤ 81920) (hlo : lo ≤ 81920) (hT : Toks t c lo Sc Tk Tj Ts Tt Mk Mg Mv Ml Mf Mm) :
    (∃ v : Int32, f_X9_same n x cc tl gw (nI c) S_cutShort Sc (nI t) Tk Ts Tt = some (some v) ∧ f_X11_same n x M_came M_size M_length M_at M_laid (nI (min t 8192)) M_looked M_thrown M_wrong M_kind M_value M_good Mk Ml Mf Mm = some (v, 0)) ∨ (f_X9_same n x cc tl gw (nI c) S_cutShort Sc (nI t) Tk Ts Tt = some none ∧ ∃ v : Int32, f_X11_same n x M_came M_size M_length M_at M_laid (nI (min t 8192)) M_looked M_thrown M_wrong M_kind M_value M_good Mk Ml Mf Mm = some (v, 1)) := by
  unfold f_X9_same f_X9_same_0 f_X11_same f_X11_same_0
  rcases e_demand (n := n) (t := t) (cc := cc) (tl := tl) (gw := gw) (x := x) (M_came := M_came) (M_size := M_size) (M_length := M_length) (M_at := M_at) (M_laid := M_laid) (M_looked := M_looked) (M_thrown := M_thrown) (M_wrong := M_wrong) (M_kind := M_kind) (M_good := M_good) (M_value := M_value) ht with ⟨b, h1, h2, h3, h4, h5⟩ | ⟨h4, h5⟩
  · left
    have hkd := (hT b h1 h2).1
    rw [h4, bd_s, ox_s, h5, bd_s]
    simp only [lt_e]
    rw [h3, if_neg (show ¬ (1 : Int32) = 0 by decide), gd_nI (by omega) (by omega), gu_t, gu_t, qI_toNat (by omega), ← hkd]
    obtain ⟨Kb, sb, fb, b1, b2, b3, b4, b5, b6, b7, b8, b9⟩ := e_letters (n := n) (tc := nI t) h2 hc hlo (hT b h1 h2)
    have loop : ∀ (d f f' i : Nat), i + d = b → d < f → d < f' → ∃ v : Int32, f_X9_same_20 n cc tl gw (nI c) S_cutShort Sc (nI t) Tk Ts Tt f (nI b) (nI i) = some (some v) ∧ f_X11_same_45 n M_came M_size M_length M_at M_laid (nI (min t 8192)) M_looked M_wrong M_kind M_value M_good Mk Ml Mf Mm f' 0 (nI b) (nI i) = some (v, 0) := by
      intro d
      induction d with
      | zero =>
        intro f f' i hd hf hf'
        obtain ⟨f, rfl⟩ : ∃ j, f = j + 1 := ⟨f - 1, by omega⟩
        obtain ⟨f', rfl⟩ : ∃ j, f' = j + 1 := ⟨f' - 1, by omega⟩
        refine ⟨-1, ?_, ?_⟩
        · unfold f_X9_same_20 fb_X9_same_20
          rw [if_pos (by rw [qI_le (by omega) (by omega)]; omega)]
        · unfold f_X11_same_45 fb_X11_same_45
          rw [if_pos (by rw [qI_le (by omega) (by omega)]; omega)]
      | succ d ih =>
        intro f f' i hd hf hf'
        obtain ⟨f, rfl⟩ : ∃ j, f = j + 1 := ⟨f - 1, by omega⟩
        obtain ⟨f', rfl⟩ : ∃ j, f' = j + 1 := ⟨f' - 1, by omega⟩
        have hi8 : i < 8192 := by omega
        have hki := (hT i (by omega) hi8).1
        obtain ⟨Ka, sa, fa, a1, a2, a3, a4, a5, a6, a7, a8, a9⟩ := e_letters (n := n) (tc := nI t) hi8 hc hlo (hT i (by omega) hi8)
        obtain ⟨v, n1, n2⟩ := ih f f' (i + 1) (by omega) (by omega) (by omega)
        have own : f_X9_same_20 n cc tl gw (nI c) S_cutShort Sc (nI t) Tk Ts Tt (f + 1) (nI b) (nI i) = bd (f_X9_areAlike n (nI i) (nI b) cc tl gw (nI c) S_cutShort Sc (nI t) Tk Ts Tt) fun o1 => if o1 = 0 then f_X9_same_20 n cc tl gw (nI c) S_cutShort Sc (nI t) Tk Ts Tt f (nI b) (nI (i + 1)) else some (some (nI i)) := by
          show fb_X9_same_20 n _ cc tl gw (nI c) S_cutShort Sc (nI t) Tk Ts Tt (nI b) (nI i) = _
          unfold fb_X9_same_20
          rw [if_neg (by rw [qI_le (by omega) (by omega)]; omega)]
          simp only [lt_e]
          rw [show nI i + 1 = nI (i + 1) from qI_add i 1]
        have ref : f_X11_same_45 n M_came M_size M_length M_at M_laid (nI (min t 8192)) M_looked M_wrong M_kind M_value M_good Mk Ml Mf Mm (f' + 1) 0 (nI b) (nI i) = if Tk i ≤ 60 then f_X11_same_72 n (f_X11_same_45 n M_came M_size M_length M_at M_laid (nI (min t 8192)) M_looked M_wrong M_kind M_value M_good Mk Ml Mf Mm f') M_came M_size M_length M_at M_laid (nI (min t 8192)) M_looked M_wrong M_kind M_value M_good Mk Ml Mf Mm 0 (nI b) (nI i) else if Tk i = 66 then f_X11_same_72 n (f_X11_same_45 n M_came M_size M_length M_at M_laid (nI (min t 8192)) M_looked M_wrong M_kind M_value M_good Mk Ml Mf Mm f') M_came M_size M_length M_at M_laid (nI (min t 8192)) M_looked M_wrong M_kind M_value M_good Mk Ml Mf Mm 0 (nI b) (nI i) else f_X11_same_45 n M_came M_size M_length M_at M_laid (nI (min t 8192)) M_looked M_wrong M_kind M_value M_good Mk Ml Mf Mm f' 0 (nI b) (nI (i + 1)) := by
          show fb_X11_same_45 n _ M_came M_size M_length M_at M_laid (nI (min t 8192)) M_looked M_wrong M_kind M_value M_good Mk Ml Mf Mm 0 (nI b) (nI i) = _
          unfold fb_X11_same_45 f_X11_same_159
          simp only [lt_e]
          rw [if_neg (by rw [qI_le (by omega) (by omega)]; omega), gd_nI (by omega) (by omega), gu_t, gu_t, qI_toNat (by omega), ← hki, show nI i + 1 = nI (i + 1) from qI_add i 1]
        rw [own, ref]
        by_cases hs : spl (Tk i)
        · have href : (if Tk i ≤ 60 then f_X11_same_72 n (f_X11_same_45 n M_came M_size M_length M_at M_laid (nI (min t 8192)) M_looked M_wrong M_kind M_value M_good Mk Ml Mf Mm f') M_came M_size M_length M_at M_laid (nI (min t 8192)) M_looked M_wrong M_kind M_value M_good Mk Ml Mf Mm 0 (nI b) (nI i) else if Tk i = 66 then f_X11_same_72 n (f_X11_same_45 n M_came M_size M_length M_at M_laid (nI (min t 8192)) M_looked M_wrong M_kind M_value M_good Mk Ml Mf Mm f') M_came M_size M_length M_at M_laid (nI (min t 8192)) M_looked M_wrong M_kind M_value M_good Mk Ml Mf Mm 0 (nI b) (nI i) else f_X11_same_45 n M_came M_size M_length M_at M_laid (nI (min t 8192)) M_looked M_wrong M_kind M_value M_good Mk Ml Mf Mm f' 0 (nI b) (nI (i + 1))) = f_X11_same_72 n (f_X11_same_45 n M_came M_size M_length M_at M_laid (nI (min t 8192)) M_looked M_wrong M_kind M_value M_good Mk Ml Mf Mm f') M_came M_size M_length M_at M_laid (nI (min t 8192)) M_looked M_wrong M_kind M_value M_good Mk Ml Mf Mm 0 (nI b) (nI i) := by
            rcases hs with h | h
            · rw [if_pos h]
            · rw [if_pos h, ite_self]
          rw [href]
          have key : (Ka = Kb ∧ ∀ y, y < Kb → Ml (fa + y) = Ml (fb + y)) ↔ (spl (Tk i) ∧ Ka = Kb ∧ ∀ y, y < Kb → Sc (sa + y) = Sc (sb + y)) := by
            constructor
            · rintro ⟨p1, p2⟩
              exact ⟨hs, p1, fun y hy => by rw [← a8 y (by omega), ← b8 y hy]; exact p2 y hy⟩
            · rintro ⟨_, p1, p2⟩
              exact ⟨p1, fun y hy => by rw [a8 y (by omega), b8 y hy]; exact p2 y hy⟩
          rcases e_alike (n := n) (t := t) (cc := cc) (tl := tl) (gw := gw) (S_cutShort := S_cutShort) (Sc := Sc) hn hi8 h2 hc a1 b1 a2 b2 a4 b4 a5 b5 with ⟨p1, p2⟩ | ⟨p1, p2⟩ <;> rcases e_alike_ref (n := n) (t := t) (Mk := Mk) (r45 := f_X11_same_45 n M_came M_size M_length M_at M_laid (nI (min t 8192)) M_looked M_wrong M_kind M_value M_good Mk Ml Mf Mm f') (M_came := M_came) (M_size := M_size) (M_length := M_length) (M_at := M_at) (M_laid := M_laid) (M_looked := M_looked) (M_wrong := M_wrong) (M_kind := M_kind) (M_good := M_good) (M_value := M_value) hn hi8 h2 hlo a3 b3 a7 b7 a6 b6 with ⟨q1, q2⟩ | ⟨q1, q2⟩
          · rw [p2, bd_s, if_neg (by decide), q2]
            exact ⟨_, rfl, rfl⟩
          · exact absurd (key.mpr p1) q1
          · exact absurd (key.mp q1) p1
          · rw [p2, bd_s, if_pos rfl, q2]
            exact ⟨v, n1, n2⟩
        · rcases e_alike (n := n) (t := t) (cc := cc) (tl := tl) (gw := gw) (S_cutShort := S_cutShort) (Sc := Sc) hn hi8 h2 hc a1 b1 a2 b2 a4 b4 a5 b5 with ⟨p1, p2⟩ | ⟨p1, p2⟩
          · exact absurd p1.1 hs
          · rw [p2, bd_s, if_pos rfl, if_neg (fun h => hs (Or.inl h)), if_neg (fun h => hs (Or.inr h))]
            exact ⟨v, n1, n2⟩
    rcases e_isSpelled (n := n) (Tk := Tk) (tc := nI t) h2 with ⟨p1, p2⟩ | ⟨p1, p2⟩
    · rw [p2, bd_s, if_neg (by decide)]
      obtain ⟨v, v1, v2⟩ := loop b n n 0 (by omega) (by omega) (by omega)
      refine ⟨v, v1, ?_⟩
      unfold f_X11_same_43
      rcases p1 with h | h
      · rw [if_pos h]; exact v2
      · rw [if_pos h, ite_self]; exact v2
    · rw [p2, bd_s, if_pos rfl, if_neg (fun h => p1 (Or.inl h)), if_neg (fun h => p1 (Or.inr h))]
      unfold f_X11_same_30
      rw [if_pos rfl]
      exact ⟨_, rfl, rfl⟩
  · right
    rw [h4, bd_s, ox_n, h5, bd_s]
    simp only [lt_e]
    unfold f_X11_same_30
    rw [if_pos trivial, if_neg (by decide)]
    exact ⟨trivial, _, rfl⟩
end
