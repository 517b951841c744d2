/-! PURE 75: the translation of escapes into the source. -/
def h4 (T : Nat) (Y : Nat → Int32) : Nat → Nat → Nat → Option Nat
  | 0, _, v => some v
  | m + 1, i, v => if i < T ∧ dv (Y i) < 16 then h4 T Y m (i + 1) (v * 16 + dv (Y i)) else none
theorem h4_lt {T : Nat} {Y : Nat → Int32} : ∀ (m i v w : Nat), h4 T Y m i v = some w → w < (v + 1) * 16 ^ m ∧ i + m ≤ (if m = 0 then i else T)
  | 0, i, v, w, h => by
    simp [h4] at h
    rw [← h]; simp
  | m + 1, i, v, w, h => by
    unfold h4 at h
    by_cases c1 : i < T ∧ dv (Y i) < 16
    · rw [if_pos c1] at h
      have ih := h4_lt m (i + 1) _ w h
      rw [if_neg (by omega)]
      constructor
      · refine Nat.lt_of_lt_of_le ih.1 ?_
        rw [Nat.pow_succ, Nat.mul_comm (16 ^ m) 16, ← Nat.mul_assoc]
        exact Nat.mul_le_mul_right _ (by omega)
      · have := ih.2
        split at this <;> omega
    · rw [if_neg c1] at h; exact absurd h (by simp)
theorem ex_u {T : Nat} {Y : Nat → Int32} : ∀ (m i : Nat), i + m = T → ∃ u, i ≤ u ∧ u ≤ T ∧ (∀ j, i ≤ j → j < u → Y j = 117) ∧ (u < T → ¬ Y u = 117)
  | 0, i, h => ⟨i, Nat.le_refl _, by omega, fun j a b => absurd b (by omega), fun h2 => absurd h2 (by omega)⟩
  | m + 1, i, h => by
    by_cases c1 : Y i = 117
    · obtain ⟨u, u1, u2, u3, u4⟩ := ex_u (T := T) (Y := Y) m (i + 1) (by omega)
      refine ⟨u, by omega, u2, fun j a b => ?_, u4⟩
      by_cases hj : j = i
      · rw [hj]; exact c1
      · exact u3 j (by omega) b
    · exact ⟨i, Nat.le_refl _, by omega, fun j a b => absurd b (by omega), fun _ => c1⟩
section
variable {M_came M_at M_laid M_tokens M_looked M_thrown M_wrong M_kind M_good : Int32} {M_value : Int64} {Y Mt : Nat → Int32} {n T : Nat}
theorem e_add {v k : Nat} {cut : Int32} {Sc : Nat → Int32} (hk : k < 81920) (hv : v < 65536) : f_X6_add n (nI v) (nI k) cut Sc = some (nI (k + 1), upd Sc k (nI v)) := by
  unfold f_X6_add f_X6_add_0
  rw [if_neg (by rw [show (81920 : Int32) = nI 81920 from rfl, qI_le (by omega) (by omega)]; omega)]
  simp only [lt_e]
  rw [gd_nI hk (by omega), gu_t, qI_toNat (by omega), nar_c hv, show nI k + 1 = nI (k + 1) from qI_add k 1]
theorem e_esc33 {u k : Nat} {cut : Int32} {Sc : Nat → Int32} (hT : T ≤ 81920) (hu : u ≤ T) : ∀ (m f i v : Nat), i + m = u + 4 → m < f → f_X6_addEscape_33 n Y f (nI k) cut Sc (nI T) (nI i) (nI (u + 4)) (nI v) = (match h4 T Y m i v with | some w => bd (f_X6_add n (nI w) (nI k) cut Sc) fun u3 => some (nI (u + 4), u3.1, cut, u3.2) | none => some (nI T, nI k, 1, Sc)) := by
  intro m
  induction m with
  | zero =>
    intro f i v hm hf
    obtain ⟨f, rfl⟩ : ∃ f', f = f' + 1 := ⟨f - 1, by omega⟩
    unfold f_X6_addEscape_33 fb_X6_addEscape_33
    rw [if_pos (by rw [qI_le (by omega) (by omega)]; omega)]
    rfl
  | succ m ih =>
    intro f i v hm hf
    obtain ⟨f, rfl⟩ : ∃ f', f = f' + 1 := ⟨f - 1, by omega⟩
    show fb_X6_addEscape_33 n _ Y (nI k) cut Sc (nI T) (nI i) (nI (u + 4)) (nI v) = _
    unfold fb_X6_addEscape_33 f_X6_addEscape_58
    simp only [lt_e]
    rw [if_neg (by rw [qI_le (by omega) (by omega)]; omega), show nI i + 1 = nI (i + 1) from qI_add i 1, show nI v * 16 = nI (v * 16) from qI_mul v 16]
    unfold h4
    have hq : (nI T ≤ nI i) = (T ≤ i) := qI_le (by omega) (by omega)
    by_cases c1 : i < T
    · have hd := dv_le (Y i)
      rw [if_neg (by rw [hq]; omega), gd_nI (by omega) (by omega), gu_t, qI_toNat (by omega), e_digitOf, bd_s]
      have h16 : (nI (dv (Y i)) = 16) = (dv (Y i) = 16) := qI_eq_lit (by omega) (by decide)
      by_cases c2 : dv (Y i) < 16
      · rw [if_neg (by rw [h16]; omega), if_pos ⟨c1, c2⟩, qI_add]
        exact ih f (i + 1) _ (by omega) (by omega)
      · rw [if_pos (by rw [h16]; omega), if_neg (fun h => c2 h.2)]
    · rw [if_pos (by rw [hq]; omega), if_pos trivial, if_neg (fun h => c1 h.1)]
theorem e_esc3 {u k i0 : Nat} {cut : Int32} {Sc : Nat → Int32} (hn : 100000 ≤ n) (hT : T ≤ 81920) (hu : u ≤ T) (h1 : ∀ j, i0 ≤ j → j < u → Y j = 117) (h2 : u < T → ¬ Y u = 117) : ∀ (m f i : Nat), i + m = u → i0 ≤ i → m < f → f_X6_addEscape_3 n Y f (nI k) cut Sc (nI T) (nI i) = f_X6_addEscape_33 n Y n (nI k) cut Sc (nI T) (nI u) (nI (u + 4)) (nI 0) := by
  intro m
  induction m with
  | zero =>
    intro f i hm hi hf
    obtain ⟨f, rfl⟩ : ∃ f', f = f' + 1 := ⟨f - 1, by omega⟩
    have hiu : i = u := by omega
    rw [hiu]
    show fb_X6_addEscape_3 n _ Y (nI k) cut Sc (nI T) (nI u) = _
    unfold fb_X6_addEscape_3 f_X6_addEscape_24
    simp only [lt_e]
    rw [show nI u + 4 = nI (u + 4) from qI_add u 4]
    have hq : (nI T ≤ nI u) = (T ≤ u) := qI_le (by omega) (by omega)
    by_cases c1 : T ≤ u
    · rw [if_pos (by rw [hq]; exact c1)]; rfl
    · rw [if_neg (by rw [hq]; exact c1), gd_nI (by omega) (by omega), gu_t, qI_toNat (by omega), if_neg (h2 (by omega))]; rfl
  | succ m ih =>
    intro f i hm hi hf
    obtain ⟨f, rfl⟩ : ∃ f', f = f' + 1 := ⟨f - 1, by omega⟩
    show fb_X6_addEscape_3 n _ Y (nI k) cut Sc (nI T) (nI i) = _
    unfold fb_X6_addEscape_3
    rw [if_neg (by rw [qI_le (by omega) (by omega)]; omega), gd_nI (by omega) (by omega), gu_t, qI_toNat (by omega), if_pos (h1 i hi (by omega))]
    simp only [lt_e]
    rw [show nI i + 1 = nI (i + 1) from qI_add i 1]
    exact ih f (i + 1) (by omega) (by omega) (by omega)
variable {r9 : Int32 → (Nat → Int32) → Int32 → Int32 → Option (Int32 × (Nat → Int32))}
theorem e_tr99_bad {u k : Nat} {Ms : Nat → Int32} {x2 : Int32} (hT : T ≤ 81920) (hu : u ≤ T) (hk : k < 81920) : ∀ (m f i : Nat) (x5 : Int32), i + m = u + 4 → m < f → f_X11_translate_99 n r9 M_came (nI T) M_at M_laid M_tokens M_looked M_thrown M_wrong M_kind M_value M_good Mt f (nI k) Ms x2 (nI u) x5 0 (nI i) = r9 (nI (k + 1)) (upd Ms k (-2)) (nI T) x2 := by
  intro m
  induction m with
  | zero =>
    intro f i x5 hm hf
    obtain ⟨f, rfl⟩ : ∃ f', f = f' + 1 := ⟨f - 1, by omega⟩
    show fb_X11_translate_99 n r9 _ M_came (nI T) M_at M_laid M_tokens M_looked M_thrown M_wrong M_kind M_value M_good Mt (nI k) Ms x2 (nI u) x5 0 (nI i) = _
    unfold fb_X11_translate_99 f_X11_translate_188 f_X11_translate_205 f_X11_translate_238
    simp only [lt_e]
    rw [show nI u + 4 = nI (u + 4) from qI_add u 4, if_pos (by rw [qI_le (by omega) (by omega)]; omega), if_pos trivial, gd_nI (by omega) (by omega), gu_t, if_pos trivial, qI_toNat (by omega), show nI k + 1 = nI (k + 1) from qI_add k 1]
  | succ m ih =>
    intro f i x5 hm hf
    obtain ⟨f, rfl⟩ : ∃ f', f = f' + 1 := ⟨f - 1, by omega⟩
    show fb_X11_translate_99 n r9 _ M_came (nI T) M_at M_laid M_tokens M_looked M_thrown M_wrong M_kind M_value M_good Mt (nI k) Ms x2 (nI u) x5 0 (nI i) = _
    unfold fb_X11_translate_99 f_X11_translate_133 f_X11_translate_149 f_X11_translate_150
    simp only [lt_e]
    rw [show nI u + 4 = nI (u + 4) from qI_add u 4, if_neg (by rw [qI_le (by omega) (by omega)]; omega), if_pos trivial, show nI i + 1 = nI (i + 1) from qI_add i 1]
    have hq : (nI T ≤ nI i) = (T ≤ i) := qI_le (by omega) (by omega)
    by_cases c1 : i < T
    · rw [if_neg (by rw [hq]; omega), gd_nI (by omega) (by omega), gu_t, qI_toNat (by omega), show (16 : Int32) = nI 16 from rfl, e_digit _ (by decide), bd_s, if_pos trivial]
      exact ih f (i + 1) _ (by omega) (by omega)
    · rw [if_pos (by rw [hq]; omega)]
      exact ih f (i + 1) _ (by omega) (by omega)
theorem e_tr99 {u k : Nat} {Ms : Nat → Int32} {x2 : Int32} (hT : T ≤ 81920) (hu : u ≤ T) (hk : k < 81920) : ∀ (m f i v : Nat), i + m = u + 4 → m < f → f_X11_translate_99 n r9 M_came (nI T) M_at M_laid M_tokens M_looked M_thrown M_wrong M_kind M_value M_good Mt f (nI k) Ms x2 (nI u) (nI v) 1 (nI i) = (match h4 T Mt m i v with | some w => r9 (nI (k + 1)) (upd Ms k (nI w)) (nI (u + 4)) x2 | none => r9 (nI (k + 1)) (upd Ms k (-2)) (nI T) x2) := by
  intro m
  induction m with
  | zero =>
    intro f i v hm hf
    obtain ⟨f, rfl⟩ : ∃ f', f = f' + 1 := ⟨f - 1, by omega⟩
    show fb_X11_translate_99 n r9 _ M_came (nI T) M_at M_laid M_tokens M_looked M_thrown M_wrong M_kind M_value M_good Mt (nI k) Ms x2 (nI u) (nI v) 1 (nI i) = _
    unfold fb_X11_translate_99 f_X11_translate_188 f_X11_translate_205 f_X11_translate_238
    simp only [lt_e]
    rw [show nI u + 4 = nI (u + 4) from qI_add u 4, if_pos (by rw [qI_le (by omega) (by omega)]; omega), if_neg (show ¬ (1 : Int32) = 0 by decide), gd_nI (by omega) (by omega), gu_t, if_neg (show ¬ (1 : Int32) = 0 by decide), qI_toNat (by omega), show nI k + 1 = nI (k + 1) from qI_add k 1]
    rfl
  | succ m ih =>
    intro f i v hm hf
    obtain ⟨f, rfl⟩ : ∃ f', f = f' + 1 := ⟨f - 1, by omega⟩
    show fb_X11_translate_99 n r9 _ M_came (nI T) M_at M_laid M_tokens M_looked M_thrown M_wrong M_kind M_value M_good Mt (nI k) Ms x2 (nI u) (nI v) 1 (nI i) = _
    unfold fb_X11_translate_99 f_X11_translate_133 f_X11_translate_149 f_X11_translate_150
    simp only [lt_e]
    rw [show nI u + 4 = nI (u + 4) from qI_add u 4, if_neg (by rw [qI_le (by omega) (by omega)]; omega), show nI i + 1 = nI (i + 1) from qI_add i 1, show (16 : Int32) * nI v = nI (16 * v) from qI_mul 16 v]
    simp only [if_neg (show ¬ (1 : Int32) = 0 by decide)]
    unfold h4
    have hq : (nI T ≤ nI i) = (T ≤ i) := qI_le (by omega) (by omega)
    by_cases c1 : i < T
    · have hd := dv_le (Mt i)
      rw [if_neg (by rw [hq]; omega), gd_nI (by omega) (by omega), gu_t, qI_toNat (by omega), show (16 : Int32) = nI 16 from rfl, e_digit _ (by decide), bd_s]
      by_cases c2 : dv (Mt i) < 16
      · rw [if_pos c2, if_neg (by rw [show (0 : Int32) = nI 0 from rfl, qI_lt (by omega) (by omega)]; omega), if_pos ⟨c1, c2⟩, qI_add, Nat.mul_comm 16 v]
        exact ih f (i + 1) _ (by omega) (by omega)
      · rw [if_neg c2, if_pos (by decide), if_neg (fun h => c2 h.2)]
        exact e_tr99_bad hT hu hk m f (i + 1) _ (by omega) (by omega)
    · rw [if_pos (by rw [hq]; omega), if_pos (by decide), if_neg (fun h => c1 h.1)]
      exact e_tr99_bad hT hu hk m f (i + 1) _ (by omega) (by omega)
theorem e_tr65 {u k i0 : Nat} {Ms : Nat → Int32} {x2 : Int32} (hT : T ≤ 81920) (hu : u ≤ T) (h1 : ∀ j, i0 ≤ j → j < u → Mt j = 117) (h2 : u < T → ¬ Mt u = 117) : ∀ (m f i : Nat), i + m = u → i0 ≤ i → m < f → f_X11_translate_65 n r9 M_came (nI T) M_at M_laid M_tokens M_looked M_thrown M_wrong M_kind M_value M_good Mt f (nI k) Ms x2 (nI i) 0 = f_X11_translate_99 n r9 M_came (nI T) M_at M_laid M_tokens M_looked M_thrown M_wrong M_kind M_value M_good Mt n (nI k) Ms x2 (nI u) (nI 0) 1 (nI u) := by
  intro m
  induction m with
  | zero =>
    intro f i hm hi hf
    obtain ⟨f, rfl⟩ : ∃ f', f = f' + 1 := ⟨f - 1, by omega⟩
    have hiu : i = u := by omega
    rw [hiu]
    show fb_X11_translate_65 n r9 _ M_came (nI T) M_at M_laid M_tokens M_looked M_thrown M_wrong M_kind M_value M_good Mt (nI k) Ms x2 (nI u) 0 = _
    unfold fb_X11_translate_65 f_X11_translate_92
    have hq : (nI T ≤ nI u) = (T ≤ u) := qI_le (by omega) (by omega)
    by_cases c1 : T ≤ u
    · rw [if_pos (by rw [hq]; exact c1)]; rfl
    · rw [if_neg (by rw [hq]; exact c1), gd_nI (by omega) (by omega), gu_t, qI_toNat (by omega), if_neg (h2 (by omega))]; rfl
  | succ m ih =>
    intro f i hm hi hf
    obtain ⟨f, rfl⟩ : ∃ f', f = f' + 1 := ⟨f - 1, by omega⟩
    show fb_X11_translate_65 n r9 _ M_came (nI T) M_at M_laid M_tokens M_looked M_thrown M_wrong M_kind M_value M_good Mt (nI k) Ms x2 (nI i) 0 = _
    unfold fb_X11_translate_65
    rw [if_neg (by rw [qI_le (by omega) (by omega)]; omega), gd_nI (by omega) (by omega), gu_t, qI_toNat (by omega), if_pos (h1 i hi (by omega))]
    simp only [lt_e]
    rw [show nI i + 1 = nI (i + 1) from qI_add i 1]
    exact ih f (i + 1) (by omega) (by omega) (by omega)
/-- behind the source the reference lays three marks -/
theorem e_tr253 {k : Nat} {Ms : Nat → Int32} (hn : 100000 ≤ n) (hk : k ≤ 81921) : f_X11_translate_253 n M_came (nI T) M_at M_laid M_tokens M_looked M_thrown M_wrong M_kind M_value M_good Mt n (nI k) Ms 0 = some (nI k, upd (upd (upd Ms k (-1)) (k + 1) (-1)) (k + 2) (-1)) := by
  obtain ⟨n', hn'⟩ : ∃ n', n = n' + 4 := ⟨n - 4, by omega⟩
  have st : ∀ (f x : Nat) (X : Nat → Int32), x < 3 → f_X11_translate_253 n M_came (nI T) M_at M_laid M_tokens M_looked M_thrown M_wrong M_kind M_value M_good Mt (f + 1) (nI k) X (nI x) = f_X11_translate_253 n M_came (nI T) M_at M_laid M_tokens M_looked M_thrown M_wrong M_kind M_value M_good Mt f (nI k) (upd X (k + x) (-1)) (nI (x + 1)) := by
    intro f x X hx
    show fb_X11_translate_253 n _ M_came (nI T) M_at M_laid M_tokens M_looked M_thrown M_wrong M_kind M_value M_good Mt (nI k) X (nI x) = _
    unfold fb_X11_translate_253
    simp only [lt_e]
    rw [if_neg (by rw [show (3 : Int32) = nI 3 from rfl, qI_le (by omega) (by omega)]; omega), qI_add, gd_nI (by omega) (by omega), gu_t, qI_toNat (by omega), show nI x + 1 = nI (x + 1) from qI_add x 1]
  have a1 := st (n' + 3) 0 Ms (by omega)
  have a2 := st (n' + 2) 1 (upd Ms k (-1)) (by omega)
  have a3 := st (n' + 1) 2 (upd (upd Ms k (-1)) (k + 1) (-1)) (by omega)
  have a0 : f_X11_translate_253 n M_came (nI T) M_at M_laid M_tokens M_looked M_thrown M_wrong M_kind M_value M_good Mt n (nI k) Ms 0 = f_X11_translate_253 n M_came (nI T) M_at M_laid M_tokens M_looked M_thrown M_wrong M_kind M_value M_good Mt (n' + 3 + 1) (nI k) Ms (nI 0) := by
    rw [show n' + 3 + 1 = n from by omega]; rfl
  refine a0.trans (a1.trans (a2.trans (a3.trans ?_)))
  show fb_X11_translate_253 n _ M_came (nI T) M_at M_laid M_tokens M_looked M_thrown M_wrong M_kind M_value M_good Mt (nI k) _ (nI 3) = _
  unfold fb_X11_translate_253
  rw [if_pos (by decide)]
end
