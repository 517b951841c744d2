/-! PURE 76: both sides translate the same source. -/
theorem div2 {c : Nat} (h : c < 2147483648) : nI c - nI c / 2 * 2 = nI (c % 2) := by
  have h1 : nI c / 2 = nI (c / 2) := by
    apply Int32.toInt_inj.mp
    rw [Int32.toInt_div, qI_toInt h, qI_toInt (by omega)]
    have e : (2 : Int32).toInt = 2 := rfl
    rw [e, Int.bmod_eq_of_le (by rw [Int.tdiv_eq_ediv_of_nonneg (by omega)]; omega) (by rw [Int.tdiv_eq_ediv_of_nonneg (by omega)]; omega), Int.tdiv_eq_ediv_of_nonneg (by omega)]
    omega
  rw [h1, show (2 : Int32) = nI 2 from rfl, qI_mul, qI_sub (by omega)]
  congr 1; omega
def Chs (k : Nat) (Sc Ms : Nat → Int32) : Prop := ∀ j, j < k → Ms j = Sc j ∧ 0 ≤ Sc j ∧ Sc j < 65536
theorem Chs.add {k v : Nat} {Sc Ms : Nat → Int32} (h : Chs k Sc Ms) (hv : v < 65536) : Chs (k + 1) (upd Sc k (nI v)) (upd Ms k (nI v)) := by
  intro j hj
  by_cases hk : j = k
  · rw [hk, upd_same, upd_same]
    refine ⟨rfl, ?_, ?_⟩
    · rw [show (0 : Int32) = nI 0 from rfl, qI_le (by omega) (by omega)]; omega
    · rw [show (65536 : Int32) = nI 65536 from rfl, qI_lt (by omega) (by omega)]; exact hv
  · rw [upd_ne _ _ hk, upd_ne _ _ hk]; exact h j (by omega)
theorem Chs.mark {k m : Nat} {Sc Ms : Nat → Int32} {x : Int32} (h : Chs k Sc Ms) (hm : k ≤ m) : Chs k Sc (upd Ms m x) := by
  intro j hj
  rw [upd_ne _ _ (by omega)]; exact h j hj
section
variable {M_came M_at M_laid M_tokens M_looked M_thrown M_wrong M_kind M_good : Int32} {M_value : Int64} {Y Mt : Nat → Int32} {n T : Nat}
theorem e_fill_loop (hn : 100000 ≤ n) (hT : T ≤ 81920) (hY : ∀ i, i < T → Mt i = Y i ∧ 0 < Y i ∧ Y i < 128) : ∀ (d i k x3 f f' : Nat) (Sc Ms : Nat → Int32), i + d = T → k ≤ i → x3 ≤ i → Chs k Sc Ms → d + 1 < f → d + 1 < f' →
    ∃ (c len : Nat) (cut : Int32) (Sc' Ms' : Nat → Int32), f_X6_fill_15 n Y f (nI k) 0 Sc (nI T) (nI x3) (nI i) = some (nI c, cut, Sc') ∧ f_X11_translate_9 n M_came (nI T) M_at M_laid M_tokens M_looked M_thrown M_wrong M_kind M_value M_good Mt f' (nI k) Ms (nI i) (nI (x3 % 2)) = some (nI len, Ms') ∧ c ≤ T ∧ Chs c Sc' Ms' ∧ ((cut = 0 ∧ len = c) ∨ (cut = 1 ∧ len = c + 1 ∧ c < T ∧ Ms' c = -2)) := by
  intro d
  induction d using Nat.strongRecOn with
  | _ d ih =>
    intro i k x3 f f' Sc Ms hd hk hx3 hC hf hf'
    obtain ⟨f, rfl⟩ : ∃ j, f = j + 1 := ⟨f - 1, by omega⟩
    obtain ⟨f', rfl⟩ : ∃ j, f' = j + 1 := ⟨f' - 1, by omega⟩
    by_cases hd0 : d = 0
    · have hi : i = T := by omega
      refine ⟨k, k, 0, Sc, upd (upd (upd Ms k (-1)) (k + 1) (-1)) (k + 2) (-1), ?_, ?_, by omega, ((hC.mark (Nat.le_refl _)).mark (by omega)).mark (by omega), Or.inl ⟨rfl, rfl⟩⟩
      · unfold f_X6_fill_15 fb_X6_fill_15
        rw [if_pos (by rw [qI_le (by omega) (by omega)]; omega)]
      · unfold f_X11_translate_9 fb_X11_translate_9
        rw [if_pos (by rw [qI_le (by omega) (by omega)]; omega)]
        exact e_tr253 hn (by omega)
    · have hi : i < T := by omega
      obtain ⟨hM, hY0, hY1⟩ := hY i hi
      obtain ⟨a, ha, hYa⟩ := qI_of (x := Y i) (by grind)
      have ha128 : a < 128 := by rw [hYa, show (128 : Int32) = nI 128 from rfl, qI_lt ha (by decide)] at hY1; exact hY1
      have hM2 : Mt i = nI a := by rw [hM, hYa]
      have hTi : ¬ nI T ≤ nI i := by rw [qI_le (by omega) (by omega)]; omega
      have hpar : nI x3 - nI x3 / 2 * 2 = nI (x3 % 2) := div2 (by omega)
      have hpz : (nI (x3 % 2) = 0) = (x3 % 2 = 0) := by
        rw [show (0 : Int32) = nI 0 from rfl]; exact qI_eq (by omega) (by omega)
      have h92 : (nI a = 92) = (a = 92) := qI_eq_lit (by omega) (by decide)
      -- one character
      have one : ∃ (c len : Nat) (cut : Int32) (Sc' Ms' : Nat → Int32), f_X6_fill_79 n (f_X6_fill_15 n Y f) Y (nI k) 0 Sc (nI T) (nI x3) (nI i) = some (nI c, cut, Sc') ∧ f_X11_translate_209 n (f_X11_translate_9 n M_came (nI T) M_at M_laid M_tokens M_looked M_thrown M_wrong M_kind M_value M_good Mt f') M_came (nI T) M_at M_laid M_tokens M_looked M_thrown M_wrong M_kind M_value M_good Mt (nI k) Ms (nI i) (nI (x3 % 2)) (nI a) = some (nI len, Ms') ∧ c ≤ T ∧ Chs c Sc' Ms' ∧ ((cut = 0 ∧ len = c) ∨ (cut = 1 ∧ len = c + 1 ∧ c < T ∧ Ms' c = -2)) := by
        unfold f_X6_fill_79 f_X6_fill_95 f_X11_translate_209 f_X11_translate_223 f_X11_translate_224 f_X11_translate_238
        simp only [lt_e]
        rw [gd_nI (by omega) (by omega), gu_t, qI_toNat (by omega), hYa, e_add (by omega) (by omega), gd_nI (by omega) (by omega), qI_toNat (by omega), show nI i + 1 = nI (i + 1) from qI_add i 1, show nI k + 1 = nI (k + 1) from qI_add k 1, show nI x3 + 1 = nI (x3 + 1) from qI_add x3 1]
        simp only [gu_t, bd_s, h92, hpz]
        have nx := fun x' hx' => ih (d - 1) (by omega) (i + 1) (k + 1) x' f f' (upd Sc k (nI a)) (upd Ms k (nI a)) (by omega) (by omega) hx' (hC.add (by omega)) (by omega) (by omega)
        by_cases c1 : a = 92
        · rw [if_pos c1, if_pos c1]
          have hnx := nx (x3 + 1) (by omega)
          by_cases c2 : x3 % 2 = 0
          · rw [if_pos c2]
            rw [show (x3 + 1) % 2 = 1 from by omega] at hnx
            exact hnx
          · rw [if_neg c2]
            rw [show (x3 + 1) % 2 = 0 from by omega] at hnx
            exact hnx
        · rw [if_neg c1, if_neg c1]
          exact nx 0 (by omega)
      have ownS : f_X6_fill_15 n Y (f + 1) (nI k) 0 Sc (nI T) (nI x3) (nI i) = if a = 92 then (if x3 % 2 = 0 then (if T ≤ i + 1 then f_X6_fill_79 n (f_X6_fill_15 n Y f) Y (nI k) 0 Sc (nI T) (nI x3) (nI i) else (if Y (i + 1) = 117 then (bd (f_X6_addEscape n (nI T) (nI (i + 1)) (nI k) 0 Sc Y) fun qu3 => f_X6_fill_15 n Y f qu3.2.1 qu3.2.2.1 qu3.2.2.2 (nI T) 0 qu3.1) else f_X6_fill_79 n (f_X6_fill_15 n Y f) Y (nI k) 0 Sc (nI T) (nI x3) (nI i))) else f_X6_fill_79 n (f_X6_fill_15 n Y f) Y (nI k) 0 Sc (nI T) (nI x3) (nI i)) else f_X6_fill_79 n (f_X6_fill_15 n Y f) Y (nI k) 0 Sc (nI T) (nI x3) (nI i) := by
        show fb_X6_fill_15 n _ Y (nI k) 0 Sc (nI T) (nI x3) (nI i) = _
        unfold fb_X6_fill_15
        rw [if_neg hTi, if_pos rfl, gd_nI (by omega) (by omega), gu_t, qI_toNat (by omega), hYa, show gz 2 = true from rfl, gu_t, hpar, show nI i + 1 = nI (i + 1) from qI_add i 1]
        simp only [lt_e, h92, hpz]
        have hq : (nI T ≤ nI (i + 1)) = (T ≤ i + 1) := qI_le (by omega) (by omega)
        simp only [hq]
        by_cases c1 : a = 92
        · rw [if_pos c1, if_pos c1]
          by_cases c2 : x3 % 2 = 0
          · rw [if_pos c2, if_pos c2]
            by_cases c3 : T ≤ i + 1
            · rw [if_pos c3, if_pos c3]
            · rw [if_neg c3, if_neg c3, gd_nI (by omega) (by omega), gu_t, qI_toNat (by omega)]
          · rw [if_neg c2, if_neg c2]
        · rw [if_neg c1, if_neg c1]
      have refS : f_X11_translate_9 n M_came (nI T) M_at M_laid M_tokens M_looked M_thrown M_wrong M_kind M_value M_good Mt (f' + 1) (nI k) Ms (nI i) (nI (x3 % 2)) = if a = 92 then (if x3 % 2 = 0 then (if T ≤ i + 1 then f_X11_translate_209 n (f_X11_translate_9 n M_came (nI T) M_at M_laid M_tokens M_looked M_thrown M_wrong M_kind M_value M_good Mt f') M_came (nI T) M_at M_laid M_tokens M_looked M_thrown M_wrong M_kind M_value M_good Mt (nI k) Ms (nI i) (nI (x3 % 2)) (nI a) else (if Y (i + 1) = 117 then f_X11_translate_65 n (f_X11_translate_9 n M_came (nI T) M_at M_laid M_tokens M_looked M_thrown M_wrong M_kind M_value M_good Mt f') M_came (nI T) M_at M_laid M_tokens M_looked M_thrown M_wrong M_kind M_value M_good Mt n (nI k) Ms (nI (x3 % 2)) (nI (i + 1)) 0 else f_X11_translate_209 n (f_X11_translate_9 n M_came (nI T) M_at M_laid M_tokens M_looked M_thrown M_wrong M_kind M_value M_good Mt f') M_came (nI T) M_at M_laid M_tokens M_looked M_thrown M_wrong M_kind M_value M_good Mt (nI k) Ms (nI i) (nI (x3 % 2)) (nI a))) else f_X11_translate_209 n (f_X11_translate_9 n M_came (nI T) M_at M_laid M_tokens M_looked M_thrown M_wrong M_kind M_value M_good Mt f') M_came (nI T) M_at M_laid M_tokens M_looked M_thrown M_wrong M_kind M_value M_good Mt (nI k) Ms (nI i) (nI (x3 % 2)) (nI a)) else f_X11_translate_209 n (f_X11_translate_9 n M_came (nI T) M_at M_laid M_tokens M_looked M_thrown M_wrong M_kind M_value M_good Mt f') M_came (nI T) M_at M_laid M_tokens M_looked M_thrown M_wrong M_kind M_value M_good Mt (nI k) Ms (nI i) (nI (x3 % 2)) (nI a) := by
        show fb_X11_translate_9 n _ M_came (nI T) M_at M_laid M_tokens M_looked M_thrown M_wrong M_kind M_value M_good Mt (nI k) Ms (nI i) (nI (x3 % 2)) = _
        unfold fb_X11_translate_9
        rw [if_neg hTi, gd_nI (by omega) (by omega), gu_t, qI_toNat (by omega), hM2, show nI i + 1 = nI (i + 1) from qI_add i 1]
        simp only [lt_e, h92, hpz]
        have hq : (nI T ≤ nI (i + 1)) = (T ≤ i + 1) := qI_le (by omega) (by omega)
        simp only [hq]
        by_cases c1 : a = 92
        · rw [if_pos c1, if_pos c1]
          by_cases c2 : x3 % 2 = 0
          · rw [if_pos c2, if_pos c2]
            by_cases c3 : T ≤ i + 1
            · rw [if_pos c3, if_pos c3]
            · rw [if_neg c3, if_neg c3, gd_nI (by omega) (by omega), gu_t, qI_toNat (by omega), (hY (i + 1) (by omega)).1]
          · rw [if_neg c2, if_neg c2]
        · rw [if_neg c1, if_neg c1]
      rw [ownS, refS]
      by_cases c1 : a = 92
      · rw [if_pos c1, if_pos c1]
        by_cases c2 : x3 % 2 = 0
        · rw [if_pos c2, if_pos c2]
          by_cases c3 : T ≤ i + 1
          · rw [if_pos c3, if_pos c3]; exact one
          · rw [if_neg c3, if_neg c3]
            by_cases c4 : Y (i + 1) = 117
            · rw [if_pos c4, if_pos c4]
              -- an escape
              obtain ⟨u, u1, u2, u3, u4⟩ := ex_u (T := T) (Y := Y) (T - (i + 1)) (i + 1) (by omega)
              unfold f_X6_addEscape f_X6_addEscape_0
              rw [e_esc3 hn hT u2 u3 u4 (u - (i + 1)) n (i + 1) (by omega) (Nat.le_refl _) (by omega), e_esc33 hT u2 4 n u 0 (by omega) (by omega)]
              rw [e_tr65 (i0 := i + 1) hT u2 (fun j x y => by rw [(hY j (by omega)).1]; exact u3 j x y) (fun h => by rw [(hY u h).1]; exact u4 h) (u - (i + 1)) n (i + 1) (by omega) (Nat.le_refl _) (by omega), e_tr99 hT u2 (by omega) 4 n u 0 (by omega) (by omega)]
              have hh4 : ∀ (m j v : Nat), h4 T Mt m j v = h4 T Y m j v := by
                intro m
                induction m with
                | zero => intro j v; rfl
                | succ m ihm =>
                  intro j v
                  unfold h4
                  by_cases hj : j < T
                  · rw [(hY j hj).1]
                    by_cases h16 : dv (Y j) < 16
                    · rw [if_pos ⟨hj, h16⟩, if_pos ⟨hj, h16⟩, ihm]
                    · rw [if_neg (fun h => h16 h.2), if_neg (fun h => h16 h.2)]
                  · rw [if_neg (fun h => hj h.1), if_neg (fun h => hj h.1)]
              rw [hh4]
              cases hw : h4 T Y 4 u 0 with
              | none =>
                simp only [bd_s]
                rw [c2]
                refine ⟨k, k + 1, 1, Sc, upd (upd (upd (upd Ms k (-2)) (k + 1) (-1)) (k + 1 + 1) (-1)) (k + 1 + 2) (-1), ?_, ?_, by omega, (((hC.mark (Nat.le_refl _)).mark (by omega)).mark (by omega)).mark (by omega), Or.inr ⟨rfl, rfl, by omega, ?_⟩⟩
                · obtain ⟨f, rfl⟩ : ∃ j, f = j + 1 := ⟨f - 1, by omega⟩
                  unfold f_X6_fill_15 fb_X6_fill_15
                  rw [if_pos (by rw [qI_le (by omega) (by omega)]; omega)]
                · obtain ⟨f', rfl⟩ : ∃ j, f' = j + 1 := ⟨f' - 1, by omega⟩
                  unfold f_X11_translate_9 fb_X11_translate_9
                  rw [if_pos (by rw [qI_le (by omega) (by omega)]; omega)]
                  exact e_tr253 hn (by omega)
                · rw [upd_ne _ _ (by omega), upd_ne _ _ (by omega), upd_ne _ _ (by omega), upd_same]
              | some w =>
                have hb := h4_lt 4 u 0 w hw
                have hw2 : w < 65536 := by have := hb.1; omega
                have hu4 : u + 4 ≤ T := by have := hb.2; rw [if_neg (by decide)] at this; exact this
                simp only []
                rw [e_add (by omega) hw2, bd_s]
                simp only [bd_s]
                have := ih (T - (u + 4)) (by omega) (u + 4) (k + 1) 0 f f' (upd Sc k (nI w)) (upd Ms k (nI w)) (by omega) (by omega) (by omega) (hC.add hw2) (by omega) (by omega)
                rw [c2]
                exact this
            · rw [if_neg c4, if_neg c4]; exact one
        · rw [if_neg c2, if_neg c2]; exact one
      · rw [if_neg c1, if_neg c1]; exact one
theorem e_fill {S_count S_cutShort M_length : Int32} {Sc Ms : Nat → Int32} (hn : 100000 ≤ n) (hT : T ≤ 81920) (hY : ∀ i, i < T → Mt i = Y i ∧ 0 < Y i ∧ Y i < 128) :
    ∃ (c len : Nat) (cut : Int32) (Sc' Ms' : Nat → Int32), f_X6_fill n (nI T) S_count S_cutShort Sc Y = some (nI c, cut, Sc') ∧ f_X11_translate n M_came (nI T) M_length M_at M_laid M_tokens M_looked M_thrown M_wrong M_kind M_value M_good Mt Ms = some (nI len, Ms') ∧ See 0 c len Sc' Ms' ∧ (∀ j, j < c → Sc' j < 65536) ∧ Cut c len Ms' ∧ ((cut = 0 ∧ len = c) ∨ (cut = 1 ∧ len = c + 1)) := by
  obtain ⟨c, len, cut, Sc', Ms', a1, a2, a3, a4, a5⟩ := e_fill_loop (M_came := M_came) (M_at := M_at) (M_laid := M_laid) (M_tokens := M_tokens) (M_looked := M_looked) (M_thrown := M_thrown) (M_wrong := M_wrong) (M_kind := M_kind) (M_good := M_good) (M_value := M_value) (n := n) (T := T) (Y := Y) (Mt := Mt) hn hT hY T 0 0 0 n n Sc Ms (by omega) (Nat.le_refl _) (Nat.le_refl _) (fun j hj => absurd hj (by omega)) (by omega) (by omega)
  refine ⟨c, len, cut, Sc', Ms', a1, a2, ⟨by omega, by rcases a5 with h | h <;> omega, by rcases a5 with h | h <;> omega, ?_, fun i _ hi => (a4 i hi).1⟩, fun j hj => (a4 j hj).2.2, ?_, ?_⟩
  · intro i _
    by_cases hi : i < c
    · have hil : i < len := by rcases a5 with h | h <;> omega
      rw [lk_in hil, lk_in hi, (a4 i hi).1, nz_pos (a4 i hi).2.1]
    · rw [lk_out (show c ≤ i by omega)]
      rcases a5 with h | h
      · rw [lk_out (by omega)]; rfl
      · by_cases hic : i = c
        · rw [lk_in (by omega), hic, h.2.2.2]; rfl
        · rw [lk_out (by omega)]; rfl
  · rcases a5 with h | h
    · exact Or.inl h.2
    · exact Or.inr ⟨h.2.1, h.2.2.2⟩
  · rcases a5 with h | h
    · exact Or.inl h
    · exact Or.inr ⟨h.1, h.2.1⟩
end
