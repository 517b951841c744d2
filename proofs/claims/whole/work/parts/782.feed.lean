/-! PURE 78.2: feeding and ending. -/
def Com (k : Nat) (Y Mt : Nat → Int32) : Prop := ∀ i, i < k → Mt i = Y i ∧ Y i < 128
section
variable {M_size M_length M_at M_laid M_tokens M_looked M_thrown M_wrong M_kind M_good : Int32} {M_value : Int64} {n : Nat} {tl gw : Int32}
theorem e_gather {k : Nat} {x : Int32} {Y Mt : Nat → Int32} (hn : 100000 ≤ n) (hk : k + 4 ≤ 81920) (h : Com k Y Mt) : ∃ Y' Mt', f_X9_gather n x (nI k) tl gw Y = some (nI (k + 4), Y') ∧ f_X11_add n x (nI k) M_size M_length M_at M_laid M_tokens M_looked M_thrown M_wrong M_kind M_value M_good Mt = some (nI (k + 4), Mt') ∧ Com (k + 4) Y' Mt' := by
  obtain ⟨n', hn'⟩ : ∃ n', n = n' + 5 := ⟨n - 5, by omega⟩
  have st1 : ∀ (f m : Nat) (s : Int32) (X : Nat → Int32), ¬ s < 0 → m < 81920 → f_X9_gather_3 n tl gw (f + 1) (nI m) X x s = f_X9_gather_3 n tl gw f (nI (m + 1)) (upd X m (vp_nar .byte ((x >>> (s &&& 31)).toInt8.toInt32))) x (s + -8) := by
    intro f m s X hs hm
    show fb_X9_gather_3 n _ tl gw (nI m) X x s = _
    unfold fb_X9_gather_3
    simp only [lt_e]
    rw [if_neg hs, gd_nI hm (by omega), gu_t, qI_toNat (by omega), show nI m + 1 = nI (m + 1) from qI_add m 1]
  have st2 : ∀ (f m : Nat) (s : Int32) (X : Nat → Int32), ¬ s < 0 → m < 81920 → f_X11_add_3 n M_size M_length M_at M_laid M_tokens M_looked M_thrown M_wrong M_kind M_value M_good (f + 1) (nI m) X x s = f_X11_add_3 n M_size M_length M_at M_laid M_tokens M_looked M_thrown M_wrong M_kind M_value M_good f (nI (m + 1)) (upd X m (vp_nar .byte ((x >>> (s &&& 31)).toInt8.toInt32))) x (s + -8) := by
    intro f m s X hs hm
    show fb_X11_add_3 n _ M_size M_length M_at M_laid M_tokens M_looked M_thrown M_wrong M_kind M_value M_good (nI m) X x s = _
    unfold fb_X11_add_3
    simp only [lt_e]
    rw [if_neg hs, gd_nI hm (by omega), gu_t, qI_toNat (by omega), show nI m + 1 = nI (m + 1) from qI_add m 1]
  have cm : ∀ (m : Nat) (X Z : Nat → Int32) (z : Int32), Com m X Z → Com (m + 1) (upd X m (vp_nar .byte (z.toInt8.toInt32))) (upd Z m (vp_nar .byte (z.toInt8.toInt32))) := by
    intro m X Z z hc i hi
    by_cases he : i = m
    · rw [he, upd_same, upd_same]; exact ⟨rfl, byte_lt z⟩
    · rw [upd_ne _ _ he, upd_ne _ _ he]; exact hc i (by omega)
  have e1 : (24 : Int32) + -8 = 16 := by decide
  have e2 : (16 : Int32) + -8 = 8 := by decide
  have e3 : (8 : Int32) + -8 = 0 := by decide
  have o1 := st1 (n' + 4) k 24 Y (by decide) (by omega)
  have o2 := st1 (n' + 3) (k + 1) 16 (upd Y k (vp_nar .byte ((x >>> ((24 : Int32) &&& 31)).toInt8.toInt32))) (by decide) (by omega)
  have o3 := st1 (n' + 2) (k + 2) 8 (upd (upd Y k (vp_nar .byte ((x >>> ((24 : Int32) &&& 31)).toInt8.toInt32))) (k + 1) (vp_nar .byte ((x >>> ((16 : Int32) &&& 31)).toInt8.toInt32))) (by decide) (by omega)
  have o4 := st1 (n' + 1) (k + 3) 0 (upd (upd (upd Y k (vp_nar .byte ((x >>> ((24 : Int32) &&& 31)).toInt8.toInt32))) (k + 1) (vp_nar .byte ((x >>> ((16 : Int32) &&& 31)).toInt8.toInt32))) (k + 2) (vp_nar .byte ((x >>> ((8 : Int32) &&& 31)).toInt8.toInt32))) (by decide) (by omega)
  have r1 := st2 (n' + 4) k 24 Mt (by decide) (by omega)
  have r2 := st2 (n' + 3) (k + 1) 16 (upd Mt k (vp_nar .byte ((x >>> ((24 : Int32) &&& 31)).toInt8.toInt32))) (by decide) (by omega)
  have r3 := st2 (n' + 2) (k + 2) 8 (upd (upd Mt k (vp_nar .byte ((x >>> ((24 : Int32) &&& 31)).toInt8.toInt32))) (k + 1) (vp_nar .byte ((x >>> ((16 : Int32) &&& 31)).toInt8.toInt32))) (by decide) (by omega)
  have r4 := st2 (n' + 1) (k + 3) 0 (upd (upd (upd Mt k (vp_nar .byte ((x >>> ((24 : Int32) &&& 31)).toInt8.toInt32))) (k + 1) (vp_nar .byte ((x >>> ((16 : Int32) &&& 31)).toInt8.toInt32))) (k + 2) (vp_nar .byte ((x >>> ((8 : Int32) &&& 31)).toInt8.toInt32))) (by decide) (by omega)
  rw [e1] at o1 r1
  rw [e2] at o2 r2
  rw [e3] at o3 r3
  refine ⟨_, _, ?_, ?_, cm (k + 3) _ _ (x >>> ((0 : Int32) &&& 31)) (cm (k + 2) _ _ (x >>> ((8 : Int32) &&& 31)) (cm (k + 1) _ _ (x >>> ((16 : Int32) &&& 31)) (cm k _ _ (x >>> ((24 : Int32) &&& 31)) h)))⟩
  · have o0 : f_X9_gather n x (nI k) tl gw Y = f_X9_gather_3 n tl gw (n' + 4 + 1) (nI k) Y x 24 := by
      rw [show n' + 4 + 1 = n from by omega]; rfl
    refine o0.trans (o1.trans (o2.trans (o3.trans (o4.trans ?_))))
    show fb_X9_gather_3 n _ tl gw (nI (k + 4)) _ x (0 + -8) = _
    unfold fb_X9_gather_3
    rw [if_pos (by decide)]
  · have r0 : f_X11_add n x (nI k) M_size M_length M_at M_laid M_tokens M_looked M_thrown M_wrong M_kind M_value M_good Mt = f_X11_add_3 n M_size M_length M_at M_laid M_tokens M_looked M_thrown M_wrong M_kind M_value M_good (n' + 4 + 1) (nI k) Mt x 24 := by
      rw [show n' + 4 + 1 = n from by omega]; rfl
    refine r0.trans (r1.trans (r2.trans (r3.trans (r4.trans ?_))))
    show fb_X11_add_3 n _ M_size M_length M_at M_laid M_tokens M_looked M_thrown M_wrong M_kind M_value M_good (nI (k + 4)) _ x (0 + -8) = _
    unfold fb_X11_add_3
    rw [if_pos (by decide)]
theorem e_feed {k : Nat} {x1 x2 x3 x4 x5 : Int32} {Y Mt : Nat → Int32} (hn : 100000 ≤ n) (hk : k ≤ 81920) (h : Com k Y Mt) :
    (∃ (k' : Nat) (Y' Mt' : Nat → Int32), k' ≤ 81920 ∧ f_X9_feed n x1 x2 x3 x4 x5 (nI k) tl gw Y = some (some (nI k'), nI k', Y') ∧ f_X11_feed n x1 x2 x3 x4 x5 (nI k) M_size M_length M_at M_laid M_tokens M_looked M_thrown M_wrong M_kind M_value M_good Mt = some (nI k', nI k', 0, Mt') ∧ Com k' Y' Mt') ∨
    (f_X9_feed n x1 x2 x3 x4 x5 (nI k) tl gw Y = some (none, nI k, Y) ∧ ∃ v, f_X11_feed n x1 x2 x3 x4 x5 (nI k) M_size M_length M_at M_laid M_tokens M_looked M_thrown M_wrong M_kind M_value M_good Mt = some (v, nI k, 1, Mt)) := by
  unfold f_X9_feed f_X9_feed_0 f_X11_feed f_X11_feed_0 f_X11_fails f_X11_fails_0
  have q1 : (nI k ≤ 81900) = (k ≤ 81900) := qI_le_lit (by omega) (by decide)
  have q2 : (nI k + 20 ≤ 81920) = (k ≤ 81900) := by
    rw [show nI k + 20 = nI (k + 20) from qI_add k 20, show (81920 : Int32) = nI 81920 from rfl, qI_le (by omega) (by omega)]; apply propext; omega
  by_cases c1 : k ≤ 81900
  · left
    rw [if_pos (by rw [q1]; exact c1), if_pos (by rw [q2]; exact c1)]
    obtain ⟨Y1, M1, a1, a2, a3⟩ := e_gather (n := n) (x := x1) (tl := tl) (gw := gw) (M_size := M_size) (M_length := M_length) (M_at := M_at) (M_laid := M_laid) (M_tokens := M_tokens) (M_looked := M_looked) (M_thrown := 0) (M_wrong := M_wrong) (M_kind := M_kind) (M_good := M_good) (M_value := M_value) hn (by omega) h
    obtain ⟨Y2, M2, b1, b2, b3⟩ := e_gather (n := n) (x := x2) (tl := tl) (gw := gw) (M_size := M_size) (M_length := M_length) (M_at := M_at) (M_laid := M_laid) (M_tokens := M_tokens) (M_looked := M_looked) (M_thrown := 0) (M_wrong := M_wrong) (M_kind := M_kind) (M_good := M_good) (M_value := M_value) hn (by omega) a3
    obtain ⟨Y3, M3, c1, c2, c3⟩ := e_gather (n := n) (x := x3) (tl := tl) (gw := gw) (M_size := M_size) (M_length := M_length) (M_at := M_at) (M_laid := M_laid) (M_tokens := M_tokens) (M_looked := M_looked) (M_thrown := 0) (M_wrong := M_wrong) (M_kind := M_kind) (M_good := M_good) (M_value := M_value) hn (by omega) b3
    obtain ⟨Y4, M4, d1, d2, d3⟩ := e_gather (n := n) (x := x4) (tl := tl) (gw := gw) (M_size := M_size) (M_length := M_length) (M_at := M_at) (M_laid := M_laid) (M_tokens := M_tokens) (M_looked := M_looked) (M_thrown := 0) (M_wrong := M_wrong) (M_kind := M_kind) (M_good := M_good) (M_value := M_value) hn (by omega) c3
    obtain ⟨Y5, M5, e1, e2, e3⟩ := e_gather (n := n) (x := x5) (tl := tl) (gw := gw) (M_size := M_size) (M_length := M_length) (M_at := M_at) (M_laid := M_laid) (M_tokens := M_tokens) (M_looked := M_looked) (M_thrown := 0) (M_wrong := M_wrong) (M_kind := M_kind) (M_good := M_good) (M_value := M_value) hn (by omega) d3
    rw [a1, bd_s, b1, bd_s, c1, bd_s, d1, bd_s, e1, bd_s, a2, bd_s, b2, bd_s, c2, bd_s, d2, bd_s, e2, bd_s]
    exact ⟨_, Y5, M5, by omega, rfl, rfl, e3⟩
  · right
    rw [if_neg (by rw [q1]; exact c1), if_neg (by rw [q2]; exact c1)]
    exact ⟨rfl, _, rfl⟩
end
/-- what the reference reads is what the own text says -/
def Src (n T : Nat) (Z : Nat → Int32) (len : Nat) (Ms : Nat → Int32) : Prop := ∀ (S_count S_cutShort : Int32) (Sc : Nat → Int32), ∃ (c : Nat) (cut : Int32) (Sc' : Nat → Int32), f_X6_fill n (nI T) S_count S_cutShort Sc Z = some (nI c, cut, Sc') ∧ See 0 c len Sc' Ms ∧ (∀ j, j < c → Sc' j < 65536) ∧ Cut c len Ms ∧ ((cut = 0 ∧ len = c) ∨ (cut = 1 ∧ len = c + 1))
section
variable {M_came M_size M_length M_at M_laid M_tokens M_looked M_thrown M_wrong M_kind M_good : Int32} {M_value : Int64} {n T : Nat} {Y Mt Ms : Nat → Int32}
theorem e_src (hn : 100000 ≤ n) (hT : T ≤ 81920) (hY : ∀ i, i < T → Mt i = Y i ∧ 0 < Y i ∧ Y i < 128) : ∃ (len : Nat) (Ms' : Nat → Int32), f_X11_translate n M_came (nI T) M_length M_at M_laid M_tokens M_looked M_thrown M_wrong M_kind M_value M_good Mt Ms = some (nI len, Ms') ∧ len ≤ 81921 ∧ Src n T Y len Ms' := by
  obtain ⟨c0, len, cut0, Sc0, Ms', a1, a2, a3, a4, a5, a6⟩ := e_fill (M_came := M_came) (M_at := M_at) (M_laid := M_laid) (M_tokens := M_tokens) (M_looked := M_looked) (M_thrown := M_thrown) (M_wrong := M_wrong) (M_kind := M_kind) (M_good := M_good) (M_value := M_value) (M_length := M_length) (Ms := Ms) (S_count := 0) (S_cutShort := 0) (Sc := fun _ => 0) hn hT hY
  refine ⟨len, Ms', a2, a3.2.1, ?_⟩
  intro S_count S_cutShort Sc
  obtain ⟨c1, len1, cut1, Sc1, Ms1, b1, b2, b3, b4, b5, b6⟩ := e_fill (M_came := M_came) (M_at := M_at) (M_laid := M_laid) (M_tokens := M_tokens) (M_looked := M_looked) (M_thrown := M_thrown) (M_wrong := M_wrong) (M_kind := M_kind) (M_good := M_good) (M_value := M_value) (M_length := M_length) (Ms := Ms) (S_count := S_count) (S_cutShort := S_cutShort) (Sc := Sc) hn hT hY
  rw [a2] at b2
  injection b2 with e
  injection e with e1 e2
  have hl : len = len1 := qI_inj (by have := a3.2.1; omega) (by have := b3.2.1; omega) e1
  rw [hl, e2]
  exact ⟨c1, cut1, Sc1, b1, b3, b4, b5, b6⟩
variable {k : Nat} {x tl gw : Int32}
theorem e_end (hn : 100000 ≤ n) (hk : k ≤ 81920) (h : Com k Y Mt) :
    (∃ (T len : Nat) (Ms' : Nat → Int32), T ≤ 81920 ∧ len ≤ 81921 ∧ f_X9_end n x (nI k) tl gw Y = some (some (nI T), 0, nI T) ∧ f_X11_end n x (nI k) M_size M_length M_at M_laid M_tokens M_looked M_thrown M_wrong M_kind M_value M_good Mt Ms = some (nI T, 0, nI T, nI len, 0, Ms') ∧ Src n T Y len Ms') ∨
    (f_X9_end n x (nI k) tl gw Y = some (none, nI k, tl) ∧ ∃ v, f_X11_end n x (nI k) M_size M_length M_at M_laid M_tokens M_looked M_thrown M_wrong M_kind M_value M_good Mt Ms = some (v, nI k, M_size, M_length, 1, Ms)) := by
  unfold f_X9_end f_X9_end_0 f_X9_end_23 f_X11_end f_X11_end_0 f_X11_end_12 f_X11_fails f_X11_fails_0
  simp only [bd_s, lt_e]
  by_cases c1 : x < 0
  · right
    rw [if_pos c1, if_pos c1]
    exact ⟨rfl, _, rfl⟩
  · obtain ⟨T, hT, hx⟩ := qI_of (x := x) (by grind)
    rw [if_neg c1, if_neg c1, hx]
    have q1 : (nI k < nI T) = (k < T) := qI_lt (by omega) hT
    have q2 : (nI T ≤ nI k) = (T ≤ k) := qI_le hT (by omega)
    by_cases c2 : k < T
    · right
      rw [if_pos (by rw [q1]; exact c2), if_neg (by rw [q2]; omega)]
      exact ⟨rfl, _, rfl⟩
    · rw [if_neg (by rw [q1]; exact c2), if_pos (by rw [q2]; omega)]
      have own : ∀ (m f i : Nat), i + m = T → m < f → ((∀ j, i ≤ j → j < T → 0 < Y j) ∧ f_X9_areCharacters_2 n Y f (nI T) (nI i) = some 1) ∨ (¬ (∀ j, i ≤ j → j < T → 0 < Y j) ∧ f_X9_areCharacters_2 n Y f (nI T) (nI i) = some 0) := by
        intro m
        induction m with
        | zero =>
          intro f i hm hf
          obtain ⟨f, rfl⟩ : ∃ j, f = j + 1 := ⟨f - 1, by omega⟩
          left
          refine ⟨fun j p q => absurd q (by omega), ?_⟩
          unfold f_X9_areCharacters_2 fb_X9_areCharacters_2
          rw [if_pos (by rw [qI_le (by omega) (by omega)]; omega)]
        | succ m ih =>
          intro f i hm hf
          obtain ⟨f, rfl⟩ : ∃ j, f = j + 1 := ⟨f - 1, by omega⟩
          have hst : f_X9_areCharacters_2 n Y (f + 1) (nI T) (nI i) = if 0 < Y i then f_X9_areCharacters_2 n Y f (nI T) (nI (i + 1)) else some 0 := by
            show fb_X9_areCharacters_2 n _ Y (nI T) (nI i) = _
            unfold fb_X9_areCharacters_2
            simp only [lt_e]
            rw [if_neg (by rw [qI_le (by omega) (by omega)]; omega), gd_nI (by omega) (by omega), gu_t, qI_toNat (by omega), show nI i + 1 = nI (i + 1) from qI_add i 1]
          rw [hst]
          by_cases c3 : 0 < Y i
          · rw [if_pos c3]
            rcases ih f (i + 1) (by omega) (by omega) with ⟨a1, a2⟩ | ⟨a1, a2⟩
            · left
              refine ⟨fun j p q => ?_, a2⟩
              by_cases hj : j = i
              · rw [hj]; exact c3
              · exact a1 j (by omega) q
            · right
              exact ⟨fun g => a1 (fun j p q => g j (by omega) q), a2⟩
          · rw [if_neg c3]
            right
            exact ⟨fun g => c3 (g i (Nat.le_refl _) (by omega)), rfl⟩
      have ref : ∀ (m f i : Nat), i + m = T → m < f → ((∀ j, i ≤ j → j < T → 0 < Y j) ∧ f_X11_end_20 n M_at M_laid M_tokens M_looked M_wrong M_kind M_value M_good Mt f (nI k) M_size M_length M_thrown Ms (nI T) (nI i) = (bd (f_X11_translate n 0 (nI T) M_length M_at M_laid M_tokens M_looked 0 M_wrong M_kind M_value M_good Mt Ms) fun u6 => some (nI T, 0, nI T, u6.1, 0, u6.2))) ∨ (¬ (∀ j, i ≤ j → j < T → 0 < Y j) ∧ f_X11_end_20 n M_at M_laid M_tokens M_looked M_wrong M_kind M_value M_good Mt f (nI k) M_size M_length M_thrown Ms (nI T) (nI i) = some (0, nI k, M_size, M_length, 1, Ms)) := by
        intro m
        induction m with
        | zero =>
          intro f i hm hf
          obtain ⟨f, rfl⟩ : ∃ j, f = j + 1 := ⟨f - 1, by omega⟩
          left
          refine ⟨fun j p q => absurd q (by omega), ?_⟩
          unfold f_X11_end_20 fb_X11_end_20
          rw [if_pos (by rw [qI_le (by omega) (by omega)]; omega)]
        | succ m ih =>
          intro f i hm hf
          obtain ⟨f, rfl⟩ : ∃ j, f = j + 1 := ⟨f - 1, by omega⟩
          have hst : f_X11_end_20 n M_at M_laid M_tokens M_looked M_wrong M_kind M_value M_good Mt (f + 1) (nI k) M_size M_length M_thrown Ms (nI T) (nI i) = if 0 < Y i then f_X11_end_20 n M_at M_laid M_tokens M_looked M_wrong M_kind M_value M_good Mt f (nI k) M_size M_length M_thrown Ms (nI T) (nI (i + 1)) else some (0, nI k, M_size, M_length, 1, Ms) := by
            show fb_X11_end_20 n _ M_at M_laid M_tokens M_looked M_wrong M_kind M_value M_good Mt (nI k) M_size M_length M_thrown Ms (nI T) (nI i) = _
            unfold fb_X11_end_20 f_X11_fails f_X11_fails_0
            simp only [lt_e, bd_s]
            rw [if_neg (by rw [qI_le (by omega) (by omega)]; omega), gd_nI (by omega) (by omega), gu_t, qI_toNat (by omega), (h i (by omega)).1, show nI i + 1 = nI (i + 1) from qI_add i 1]
          rw [hst]
          by_cases c3 : 0 < Y i
          · rw [if_pos c3]
            rcases ih f (i + 1) (by omega) (by omega) with ⟨a1, a2⟩ | ⟨a1, a2⟩
            · left
              refine ⟨fun j p q => ?_, a2⟩
              by_cases hj : j = i
              · rw [hj]; exact c3
              · exact a1 j (by omega) q
            · right
              exact ⟨fun g => a1 (fun j p q => g j (by omega) q), a2⟩
          · rw [if_neg c3]
            right
            exact ⟨fun g => c3 (g i (Nat.le_refl _) (by omega)), rfl⟩
      unfold f_X9_areCharacters f_X9_areCharacters_0
      rcases own T n 0 (by omega) (by omega) with ⟨a1, a2⟩ | ⟨a1, a2⟩ <;> rcases ref T n 0 (by omega) (by omega) with ⟨b1, b2⟩ | ⟨b1, b2⟩
      · left
        obtain ⟨len, Ms', s1, s2, s3⟩ := e_src (n := n) (T := T) (Y := Y) (Mt := Mt) (Ms := Ms) (M_came := 0) (M_length := M_length) (M_at := M_at) (M_laid := M_laid) (M_tokens := M_tokens) (M_looked := M_looked) (M_thrown := 0) (M_wrong := M_wrong) (M_kind := M_kind) (M_good := M_good) (M_value := M_value) hn (by omega) (fun i hi => ⟨(h i (by omega)).1, a1 i (Nat.zero_le _) hi, (h i (by omega)).2⟩)
        refine ⟨T, len, Ms', by omega, s2, ?_, ?_, s3⟩
        · rw [show f_X9_areCharacters_2 n Y n (nI T) 0 = some 1 from a2, bd_s, if_neg (by decide)]
        · rw [show f_X11_end_20 n M_at M_laid M_tokens M_looked M_wrong M_kind M_value M_good Mt n (nI k) M_size M_length M_thrown Ms (nI T) 0 = _ from b2, s1, bd_s]
      · exact absurd a1 b1
      · exact absurd b1 a1
      · right
        refine ⟨?_, 0, ?_⟩
        · rw [show f_X9_areCharacters_2 n Y n (nI T) 0 = some 0 from a2, bd_s, if_pos rfl]
        · rw [show f_X11_end_20 n M_at M_laid M_tokens M_looked M_wrong M_kind M_value M_good Mt n (nI k) M_size M_length M_thrown Ms (nI T) 0 = _ from b2]
end
