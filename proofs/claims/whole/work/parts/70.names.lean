/-! PURE 70: names and signs. -/
def nc (x : Int32) : Prop := lr x ∨ dv x < 10
theorem lr_nz (x : Int32) : lr (nz x) = lr x := by
  by_cases h : x < 0
  · rw [nz_neg h]
    apply propext
    constructor
    · intro g; unfold lr at g; exact absurd g (by decide)
    · intro g; unfold lr at g; exfalso; rcases g with g | g | g | g <;> grind
  · rw [nz_pos (by grind)]
theorem nc_out {c i : Nat} {S : Nat → Int32} (h : c ≤ i) : ¬ nc (lk c S i) := by
  rw [lk_out h]; unfold nc lr; decide
theorem ex_nm {c : Nat} {Sc : Nat → Int32} : ∀ (m i : Nat), i + m = c → ∃ e, i ≤ e ∧ e ≤ c ∧ (∀ j, i ≤ j → j < e → nc (lk c Sc j)) ∧ ¬ nc (lk c Sc e)
  | 0, i, h => ⟨i, Nat.le_refl _, by omega, fun j a b => absurd b (by omega), nc_out (by omega)⟩
  | m + 1, i, h => by
    by_cases c1 : nc (lk c Sc i)
    · obtain ⟨e, e1, e2, e3, e4⟩ := ex_nm (c := c) (Sc := Sc) m (i + 1) (by omega)
      refine ⟨e, by omega, e2, fun j a b => ?_, e4⟩
      by_cases hj : j = i
      · rw [hj]; exact c1
      · exact e3 j (by omega) b
    · exact ⟨i, Nat.le_refl _, by omega, fun j a b => absurd b (by omega), c1⟩
def Laid (tk lo K : Nat) (src Ml Ml' : Nat → Int32) (lo' : Nat) : Prop := lo' = (if tk < 8192 then lo + K else lo) ∧ (∀ j, j < lo → Ml' j = Ml j) ∧ (tk < 8192 → ∀ j, j < K → Ml' (lo + j) = src j)
section
variable {M_came M_size M_at M_looked M_thrown M_wrong M_kind M_good : Int32} {M_value : Int64} {Sc Ms Ml : Nat → Int32} {n c len p tk lo : Nat}
theorem e_letter {x : Int32} {M_length : Int32} (htk : tk ≤ 8193) (hlo : lo < 81920) : f_X11_letter n x M_came M_size M_length M_at (nI lo) (nI tk) M_looked M_thrown M_wrong M_kind M_value M_good Ml = some (nI (if tk < 8192 then lo + 1 else lo), if tk < 8192 then upd Ml lo x else Ml) := by
  unfold f_X11_letter f_X11_letter_0 f_X11_letter_20
  have hq : ((8192 : Int32) ≤ nI tk) = (8192 ≤ tk) := qI_lit_le (by omega) (by decide)
  by_cases c1 : tk < 8192
  · have hno : ¬ (8192 : Int32) ≤ nI tk := by rw [hq]; omega
    rw [if_neg hno, if_neg hno, if_pos c1, if_pos c1, gd_nI hlo (by omega), gu_t, qI_toNat (by omega)]
    simp only [lt_e]
    rw [show nI lo + 1 = nI (lo + 1) from qI_add lo 1]
  · have hyes : (8192 : Int32) ≤ nI tk := by rw [hq]; omega
    rw [if_pos hyes, if_pos hyes, if_neg c1, if_neg c1]
theorem e_lay {e x2 : Nat} {kd g : Int32} {v : Int64} {M_length : Int32} (htk : tk ≤ 8193) (he : e ≤ 81920) (hMs : ∀ j, p ≤ j → j < e → Ms j = Sc j) : ∀ (m k i lo : Nat) (Ml : Nat → Int32), i + m = e → p ≤ i → lo ≤ i → m < k → ∃ Ml' lo', f_X11_name_86 n M_came M_size M_length (nI tk) M_looked M_thrown M_wrong Ms k M_at (nI lo) kd v g Ml (nI e) (nI x2) (nI i) = some (nI e, nI lo', kd, (nI x2).toInt64, g, Ml') ∧ Laid tk lo m (fun j => Sc (i + j)) Ml Ml' lo' := by
  intro m
  induction m with
  | zero =>
    intro k i lo Ml hm hp hlo hk
    obtain ⟨k, rfl⟩ : ∃ k', k = k' + 1 := ⟨k - 1, by omega⟩
    refine ⟨Ml, lo, ?_, by split <;> omega, fun j _ => rfl, fun _ j hj => absurd hj (by omega)⟩
    unfold f_X11_name_86 fb_X11_name_86
    rw [if_pos (by rw [qI_le (by omega) (by omega)]; omega)]
  | succ m ih =>
    intro k i lo Ml hm hp hlo hk
    obtain ⟨k, rfl⟩ : ∃ k', k = k' + 1 := ⟨k - 1, by omega⟩
    have hst : f_X11_name_86 n M_came M_size M_length (nI tk) M_looked M_thrown M_wrong Ms (k + 1) M_at (nI lo) kd v g Ml (nI e) (nI x2) (nI i) = f_X11_name_86 n M_came M_size M_length (nI tk) M_looked M_thrown M_wrong Ms k M_at (nI (if tk < 8192 then lo + 1 else lo)) kd v g (if tk < 8192 then upd Ml lo (Sc i) else Ml) (nI e) (nI x2) (nI (i + 1)) := by
      show fb_X11_name_86 n _ M_came M_size M_length (nI tk) M_looked M_thrown M_wrong Ms M_at (nI lo) kd v g Ml (nI e) (nI x2) (nI i) = _
      unfold fb_X11_name_86
      rw [if_neg (by rw [qI_le (by omega) (by omega)]; omega), gd_nI (by omega) (by omega), gu_t, qI_toNat (by omega), hMs i hp (by omega), e_letter htk (by omega), bd_s]
      simp only [lt_e]
      rw [show nI i + 1 = nI (i + 1) from qI_add i 1]
    rw [hst]
    by_cases c1 : tk < 8192
    · rw [if_pos c1, if_pos c1]
      obtain ⟨Ml', lo', a1, a2, a3, a4⟩ := ih k (i + 1) (lo + 1) (upd Ml lo (Sc i)) (by omega) (by omega) (by omega) (by omega)
      refine ⟨Ml', lo', a1, ?_, ?_, ?_⟩
      · rw [a2, if_pos c1, if_pos c1]; omega
      · intro j hj
        rw [a3 j (by omega), upd_ne _ _ (by omega)]
      · intro _ j hj
        by_cases hj0 : j = 0
        · rw [hj0, Nat.add_zero, a3 lo (by omega), upd_same]; rfl
        · have := a4 c1 (j - 1) (by omega)
          rw [show lo + 1 + (j - 1) = lo + j from by omega] at this
          rw [this]
          show Sc (i + 1 + (j - 1)) = Sc (i + j)
          rw [show i + 1 + (j - 1) = i + j from by omega]
    · rw [if_neg c1, if_neg c1]
      obtain ⟨Ml', lo', a1, a2, a3, a4⟩ := ih k (i + 1) lo Ml (by omega) (by omega) (by omega) (by omega)
      exact ⟨Ml', lo', a1, by rw [a2, if_neg c1, if_neg c1], a3, fun h => absurd h c1⟩
variable {cnt S_cutShort F_kind F_start F_behind : Int32} {F_says : Int64} {Pc Ps : Nat → Int32}
theorem Mw_Ms {w : List Int32} (hS : See p c len Sc Ms) (h : p + w.length ≤ len) (hw : ∀ x ∈ w, 0 ≤ x) : Mw Ms p w ↔ Mw (lk c Sc) p w := by
  unfold Mw
  have key : ∀ j, j < w.length → (Ms (p + j) = w.getD j 0 ↔ lk c Sc (p + j) = w.getD j 0) := by
    intro j hj
    have h0 : 0 ≤ w.getD j 0 := hw _ (by rw [List.getD_eq_getElem?_getD, List.getElem?_eq_getElem hj]; exact List.getElem_mem hj)
    rw [← hS.eq (by omega) h0, lk_in (by omega)]
  exact ⟨fun g j hj => (key j hj).mp (g j hj), fun g j hj => (key j hj).mpr (g j hj)⟩
theorem Mw_same {L : Nat → Int32} {u v : List Int32} (h : u.length = v.length) (h1 : Mw L p u) (h2 : Mw L p v) : u = v := wd_ext h (fun j hj => by rw [← h1 j hj, ← h2 j (by omega)])
theorem e_name (hn : 100000 ≤ n) (hS : See p c len Sc Ms) (hp : p < c) (hnc : nc (lk c Sc p)) (hT : Tab kwL cnt Pc Ps) (htk : tk ≤ 8193) (hlo : lo ≤ p) :
    ∃ (g kd : Int32) (e lo' : Nat) (Ml' : Nat → Int32), p < e ∧ e ≤ c ∧ f_X4_takeName n (nI p) (nI c) S_cutShort Sc F_kind F_says F_start F_behind cnt Pc Ps = some (g, kd, (nI (e - p)).toInt64, nI p, nI e) ∧
      f_X11_name n M_came M_size (nI len) (nI p) (nI lo) (nI tk) M_looked M_thrown M_wrong M_kind M_value M_good Ms Ml = some (nI e, nI lo', kd, (nI (e - p)).toInt64, g, Ml') ∧ (g = 0 ∨ g = 1) ∧ Laid tk lo (e - p) (fun j => Sc (p + j)) Ml Ml' lo' ∧ (1 ≤ kd ∧ kd ≤ 60) := by
  have hc := hS.1
  have hl := hS.2.1
  have hcl := hS.2.2.1
  obtain ⟨e, e1, e2, e3, e4⟩ := ex_nm (c := c) (Sc := Sc) (c - p) p (by omega)
  have hpe : p < e := by
    by_cases h : p = e
    · rw [h] at hnc; exact absurd hnc e4
    · omega
  -- the kind
  have hmax : ∀ k, k < kwL.length → Mw (lk c Sc) p (wd kwL k) → (wd kwL k).length ≤ e - p := by
    intro k hk hM
    by_cases h : (wd kwL k).length ≤ e - p
    · exact h
    · exfalso
      apply e4
      have h1 := hM (e - p) (by omega)
      rw [show p + (e - p) = e from by omega] at h1
      have h2 := kw_lr _ (wd_mem hk) ((wd kwL k).getD (e - p) 0) (by rw [List.getD_eq_getElem?_getD, List.getElem?_eq_getElem (by omega)]; exact List.getElem_mem _)
      rw [h1]
      exact Or.inl (Or.inl h2)
  have hMs : ∀ k, k < kwL.length → (wd kwL k).length = e - p → (Mw Ms p (wd kwL k) ↔ Mw (lk c Sc) p (wd kwL k)) := fun k hk hl => Mw_Ms hS (by omega) (fun x hx => ((kw_ok.2.2.1 _ (wd_mem hk)).2.2 x hx).2)
  have h64 := kw_ok.1
  have ham := e_among (n := n) (s := 6) (W := kwL) (t := p) (x2 := e - p) (Ms := Ms) (M_came := M_came) (M_size := M_size) (M_length := nI len) (M_laid := nI lo) (M_tokens := nI tk) (M_looked := M_looked) (M_thrown := M_thrown) (M_wrong := M_wrong) (M_kind := M_kind) (M_good := M_good) (M_value := M_value) hn okS_6 kw_ok kw_cat (by omega) (by omega)
  have hlg := e_longest (n := n) (W := kwL) (p := p) (c := c) (Sc := Sc) (S_cutShort := S_cutShort) hn hT kw_ok hc (by omega)
  have hsub : nI e - nI p = nI (e - p) := qI_sub (by omega)
  have kinds : ∃ kd r : Int32, (1 ≤ kd ∧ kd ≤ 60) ∧ f_X11_among n 6 (nI (e - p)) M_came M_size (nI len) (nI p) (nI lo) (nI tk) M_looked M_thrown M_wrong M_kind M_value M_good Ms = some r ∧ (if r ≤ 0 then (60 : Int32) else r) = kd ∧ f_X4_takeName_33 n (nI c) S_cutShort Sc cnt Pc Ps F_kind F_says F_start F_behind (nI p) (nI e) = f_X4_takeName_95 n (nI c) S_cutShort Sc cnt Pc Ps F_kind F_says F_start F_behind (nI p) (nI e) (nI (e - p)) kd := by
    unfold f_X4_takeName_33 f_X4_takeName_74 f_X4_takeName_75
    rw [hsub]
    simp only [lt_e]
    rcases hlg with ⟨a1, a2⟩ | ⟨k, a1, a2, a3, a4⟩
    · -- no word
      rw [a1, bd_s, if_pos rfl, if_pos trivial]
      rcases ham with ⟨b1, b2⟩ | ⟨m, b1, b2, b3, b4⟩
      · exact ⟨60, 0, by decide, b1, by decide, rfl⟩
      · exact absurd ((hMs m b1 b3).mp b4) (a2 m b1)
    · rw [a2, bd_s, if_neg (by rw [qI_ne_neg1 (by omega)]; exact fun h => h), e_lengthOf hT kw_ok a1, bd_s]
      have hwk := kw_ok.2.2.1 _ (wd_mem a1)
      have hq : (nI (wd kwL k).length = nI (e - p)) = ((wd kwL k).length = e - p) := qI_eq (by omega) (by omega)
      by_cases c1 : (wd kwL k).length = e - p
      · rw [if_pos (by rw [hq]; exact c1), if_neg (by decide)]
        rcases ham with ⟨b1, b2⟩ | ⟨m, b1, b2, b3, b4⟩
        · exact absurd ⟨c1, (hMs k a1 c1).mpr a3⟩ (b2 k a1)
        · have hmk : m = k := kw_ok.2.2.2 m b1 k a1 (Mw_same (by omega) ((hMs m b1 b3).mp b4) a3)
          rw [hmk] at b2
          have hkl : kwL.length = 53 := by decide
          have h1k : (1 : Int32) + nI k = nI (k + 1) := by rw [show (1 : Int32) + nI k = nI (1 + k) from qI_add 1 k, Nat.add_comm]
          refine ⟨nI (k + 1), nI (k + 1), ⟨?_, ?_⟩, b2, ?_, by rw [h1k]⟩
          · rw [show (1 : Int32) = nI 1 from rfl, qI_le (by omega) (by omega)]; omega
          · rw [show (60 : Int32) = nI 60 from rfl, qI_le (by omega) (by omega)]; omega
          · rw [if_neg (by rw [show (0 : Int32) = nI 0 from rfl, qI_le (by omega) (by omega)]; omega)]
      · rw [if_neg (by rw [hq]; exact c1), if_pos trivial]
        rcases ham with ⟨b1, b2⟩ | ⟨m, b1, b2, b3, b4⟩
        · exact ⟨60, 0, by decide, b1, by decide, rfl⟩
        · exfalso
          have := a4 m b1 ((hMs m b1 b3).mp b4)
          have := hmax k a1 a3
          omega
  obtain ⟨kd, r, k0, k1, k2, k3⟩ := kinds
  -- the own way to the end
  have own : ∀ (m f i : Nat), i + m = e → p ≤ i → m < f → f_X4_takeName_2 n (nI c) S_cutShort Sc cnt Pc Ps f F_kind F_says F_start F_behind (nI p) (nI i) = f_X4_takeName_33 n (nI c) S_cutShort Sc cnt Pc Ps F_kind F_says F_start F_behind (nI p) (nI e) := by
    intro m
    induction m with
    | zero =>
      intro f i hm hpi hf
      obtain ⟨f, rfl⟩ : ∃ f', f = f' + 1 := ⟨f - 1, by omega⟩
      have hie : i = e := by omega
      rw [hie]
      unfold f_X4_takeName_2 fb_X4_takeName_2
      rw [e_count, bd_s, e_look hc (by omega), bd_s]
      have hq : (nI c ≤ nI e) = (c ≤ e) := qI_le (by omega) (by omega)
      by_cases c1 : c ≤ e
      · rw [if_pos (by rw [hq]; exact c1)]
      · rw [if_neg (by rw [hq]; exact c1)]
        rcases e_isNamePart (n := n) (lk c Sc e) with ⟨h, _⟩ | ⟨h, h1⟩
        · exact absurd h e4
        · rw [h1, bd_s, if_pos rfl]
    | succ m ih =>
      intro f i hm hpi hf
      obtain ⟨f, rfl⟩ : ∃ f', f = f' + 1 := ⟨f - 1, by omega⟩
      show fb_X4_takeName_2 n _ (nI c) S_cutShort Sc cnt Pc Ps F_kind F_says F_start F_behind (nI p) (nI i) = _
      unfold fb_X4_takeName_2
      rw [e_count, bd_s, if_neg (by rw [qI_le (by omega) (by omega)]; omega), e_look hc (by omega), bd_s]
      rcases e_isNamePart (n := n) (lk c Sc i) with ⟨h, h1⟩ | ⟨h, h1⟩
      · rw [h1, bd_s, if_neg (by decide)]
        simp only [lt_e]
        rw [show nI i + 1 = nI (i + 1) from qI_add i 1]
        exact ih f (i + 1) (by omega) (by omega) (by omega)
      · exact absurd (e3 i hpi (by omega)) h
  -- the reference's
  have ref : ∀ (m f i : Nat), i + m = e → p ≤ i → m < f → f_X11_name_5 n M_came M_size (nI len) (nI tk) M_looked M_thrown M_wrong Ms f (nI p) (nI lo) M_kind M_value M_good Ml (nI i) = (if (200 : Int32) < nI (e - p) then f_X11_name_63 n M_came M_size (nI len) (nI tk) M_looked M_thrown M_wrong Ms (nI p) (nI lo) M_kind M_value M_good Ml (nI e) (nI (e - p)) r 0 else f_X11_name_63 n M_came M_size (nI len) (nI tk) M_looked M_thrown M_wrong Ms (nI p) (nI lo) M_kind M_value M_good Ml (nI e) (nI (e - p)) r 1) := by
    intro m
    induction m with
    | zero =>
      intro f i hm hpi hf
      obtain ⟨f, rfl⟩ : ∃ f', f = f' + 1 := ⟨f - 1, by omega⟩
      have hie : i = e := by omega
      rw [hie]
      have hz := hS.2.2.2.1 e (by omega)
      have hnl : ¬ lr (lk len Ms e) := by rw [← lr_nz, hz]; exact fun h => e4 (Or.inl h)
      have hnd : ¬ dv (lk len Ms e) < 10 := by rw [← dv_nz, hz]; exact fun h => e4 (Or.inr h)
      unfold f_X11_name_5 fb_X11_name_5
      rw [e_see (by omega) (by omega), bd_s]
      rcases e_isLetter (n := n) (lk len Ms e) with ⟨h, _⟩ | ⟨h, h1⟩
      · exact absurd h hnl
      · rw [h1, bd_s, if_pos rfl, bd_s, show (10 : Int32) = nI 10 from rfl, e_digit _ (by decide), bd_s, if_neg hnd, if_pos (by decide), hsub]
        simp only [lt_e]
        rw [k1, bd_s]
    | succ m ih =>
      intro f i hm hpi hf
      obtain ⟨f, rfl⟩ : ∃ f', f = f' + 1 := ⟨f - 1, by omega⟩
      have hz : lk len Ms i = lk c Sc i := by rw [lk_in (show i < len by omega), lk_in (show i < c by omega)]; exact hS.2.2.2.2 i hpi (by omega)
      have hnx := ih f (i + 1) (by omega) (by omega) (by omega)
      show fb_X11_name_5 n _ M_came M_size (nI len) (nI tk) M_looked M_thrown M_wrong Ms (nI p) (nI lo) M_kind M_value M_good Ml (nI i) = _
      unfold fb_X11_name_5 f_X11_name_29
      rw [e_see (by omega) (by omega), bd_s, hz]
      simp only [lt_e]
      rw [show nI i + 1 = nI (i + 1) from qI_add i 1]
      rcases e_isLetter (n := n) (lk c Sc i) with ⟨h, h1⟩ | ⟨h, h1⟩
      · rw [h1, bd_s, if_neg (by decide)]; exact hnx
      · have hd : dv (lk c Sc i) < 10 := by
          rcases e3 i hpi (by omega) with g | g
          · exact absurd g h
          · exact g
        rw [h1, bd_s, if_pos rfl, bd_s, show (10 : Int32) = nI 10 from rfl, e_digit _ (by decide), bd_s, if_pos hd, if_neg (by rw [show (0 : Int32) = nI 0 from rfl, qI_lt (by omega) (by omega)]; omega)]
        exact hnx
  have h63 : ∀ g : Int32, g = 0 ∨ g = 1 → ∃ lo' Ml', f_X11_name_63 n M_came M_size (nI len) (nI tk) M_looked M_thrown M_wrong Ms (nI p) (nI lo) M_kind M_value M_good Ml (nI e) (nI (e - p)) r g = some (nI e, nI lo', kd, (nI (e - p)).toInt64, g, Ml') ∧ Laid tk lo (e - p) (fun j => Sc (p + j)) Ml Ml' lo' := by
    intro g hg
    have hz : zb g = true := by rcases hg with h | h <;> rw [h] <;> rfl
    unfold f_X11_name_63 f_X11_name_77
    rw [hz, gu_t]
    have hpull : ∀ F : Int32 → Option (Int32 × Int32 × Int32 × Int64 × Int32 × (Nat → Int32)), (if r ≤ 0 then F 60 else F r) = F kd := by
      intro F; rw [← k2]; split <;> rfl
    rw [hpull (fun t => f_X11_name_86 n M_came M_size (nI len) (nI tk) M_looked M_thrown M_wrong Ms n (nI p) (nI lo) t M_value g Ml (nI e) (nI (e - p)) (nI p))]
    obtain ⟨Ml', lo', a1, a2⟩ := e_lay (n := n) (p := p) (tk := tk) (e := e) (x2 := e - p) (kd := kd) (g := g) (v := M_value) (M_came := M_came) (M_size := M_size) (M_length := nI len) (M_at := nI p) (M_looked := M_looked) (M_thrown := M_thrown) (M_wrong := M_wrong) (Sc := Sc) (Ms := Ms) htk (by omega) (fun j x y => hS.2.2.2.2 j x (by omega)) (e - p) n p lo Ml (by omega) (Nat.le_refl _) hlo (by omega)
    exact ⟨lo', Ml', a1, a2⟩
  have own0 := own (e - p) n p (by omega) (Nat.le_refl _) (by omega)
  have ref0 := ref (e - p) n p (by omega) (Nat.le_refl _) (by omega)
  unfold f_X4_takeName f_X4_takeName_0 f_X11_name f_X11_name_0
  rw [own0, ref0, k3]
  unfold f_X4_takeName_95 f_X1_set f_X1_set_0
  rw [bd_s]
  have hq : ((200 : Int32) < nI (e - p)) = (200 < e - p) := qI_lit_lt (by omega) (by decide)
  by_cases c1 : 200 < e - p
  · rw [if_pos (by rw [hq]; exact c1), if_pos (by rw [hq]; exact c1)]
    obtain ⟨lo', Ml', a1, a2⟩ := h63 0 (Or.inl rfl)
    exact ⟨0, kd, e, lo', Ml', hpe, e2, rfl, a1, Or.inl rfl, a2, k0⟩
  · rw [if_neg (by rw [hq]; exact c1), if_neg (by rw [hq]; exact c1)]
    obtain ⟨lo', Ml', a1, a2⟩ := h63 1 (Or.inr rfl)
    exact ⟨1, kd, e, lo', Ml', hpe, e2, rfl, a1, Or.inr rfl, a2, k0⟩
theorem e_sign {M_laid M_tokens : Int32} (hn : 100000 ≤ n) (hS : See p c len Sc Ms) (hp : p ≤ c) (hT : Tab sgL cnt Pc Ps) :
    (f_X4_takeSign n (nI p) (nI c) S_cutShort Sc F_kind F_says F_start F_behind cnt Pc Ps = some (0, F_kind, F_says, F_start, F_behind) ∧ ∃ a b, f_X11_sign n M_came M_size (nI len) (nI p) M_laid M_tokens M_looked M_thrown M_wrong M_kind M_value M_good Ms = some (a, b, 0)) ∨
    (∃ (k e : Nat), k < 45 ∧ p < e ∧ e ≤ c ∧ f_X4_takeSign n (nI p) (nI c) S_cutShort Sc F_kind F_says F_start F_behind cnt Pc Ps = some (1, nI (70 + k), 0, nI p, nI e) ∧ f_X11_sign n M_came M_size (nI len) (nI p) M_laid M_tokens M_looked M_thrown M_wrong M_kind M_value M_good Ms = some (nI e, nI (70 + k), 1)) := by
  have hc := hS.1
  have hl := hS.2.1
  have hcl := hS.2.2.1
  have hkl : sgL.length = 45 := by decide
  have hlg := e_longest (n := n) (W := sgL) (p := p) (c := c) (Sc := Sc) (S_cutShort := S_cutShort) hn hT sg_ok hc (by omega)
  have hnn : ∀ k, k < sgL.length → ∀ x ∈ wd sgL k, 0 ≤ x := fun k hk x hx => ((sg_ok.2.2.1 _ (wd_mem hk)).2.2 x hx).2
  -- a sign of that length
  have hA : ∀ k, k < sgL.length → Mw (lk c Sc) p (wd sgL k) → p + (wd sgL k).length ≤ c := by
    intro k hk hM
    have hw := sg_ok.2.2.1 _ (wd_mem hk)
    by_cases h : p + (wd sgL k).length ≤ c
    · exact h
    · exfalso
      have h1 := hM ((wd sgL k).length - 1) (by omega)
      rw [lk_out (by omega)] at h1
      have h2 := hnn k hk ((wd sgL k).getD ((wd sgL k).length - 1) 0) (by rw [List.getD_eq_getElem?_getD, List.getElem?_eq_getElem (by omega)]; exact List.getElem_mem _)
      rw [← h1] at h2
      exact absurd h2 (by decide)
  have step : ∀ (x2 f x1 : Nat), 1 ≤ x2 → x2 ≤ 3 → ∃ x1' : Nat, f_X11_sign_4 n M_came M_size (nI len) M_laid M_tokens M_looked M_thrown M_wrong M_value Ms (f + 1) (nI p) M_kind M_good (nI x1) (nI x2) = f_X11_sign_4 n M_came M_size (nI len) M_laid M_tokens M_looked M_thrown M_wrong M_value Ms f (nI p) M_kind M_good (nI x1') (nI (x2 + 1)) ∧ ((x1' = x2 ∧ ∃ k, k < sgL.length ∧ (wd sgL k).length = x2 ∧ Mw (lk c Sc) p (wd sgL k)) ∨ (x1' = x1 ∧ ∀ k, k < sgL.length → ¬ ((wd sgL k).length = x2 ∧ Mw (lk c Sc) p (wd sgL k)))) := by
    intro x2 f x1 h1 h2
    have hst : f_X11_sign_4 n M_came M_size (nI len) M_laid M_tokens M_looked M_thrown M_wrong M_value Ms (f + 1) (nI p) M_kind M_good (nI x1) (nI x2) = if len < p + x2 then f_X11_sign_4 n M_came M_size (nI len) M_laid M_tokens M_looked M_thrown M_wrong M_value Ms f (nI p) M_kind M_good (nI x1) (nI (x2 + 1)) else (bd (f_X11_among n 7 (nI x2) M_came M_size (nI len) (nI p) M_laid M_tokens M_looked M_thrown M_wrong M_kind M_value M_good Ms) fun o1 => if o1 ≤ 0 then f_X11_sign_4 n M_came M_size (nI len) M_laid M_tokens M_looked M_thrown M_wrong M_value Ms f (nI p) M_kind M_good (nI x1) (nI (x2 + 1)) else f_X11_sign_4 n M_came M_size (nI len) M_laid M_tokens M_looked M_thrown M_wrong M_value Ms f (nI p) M_kind M_good (nI x2) (nI (x2 + 1))) := by
      show fb_X11_sign_4 n _ M_came M_size (nI len) M_laid M_tokens M_looked M_thrown M_wrong M_value Ms (nI p) M_kind M_good (nI x1) (nI x2) = _
      unfold fb_X11_sign_4 f_X11_sign_34
      rw [if_neg (by rw [show (3 : Int32) = nI 3 from rfl, qI_lt (by omega) (by omega)]; omega), qI_add]
      simp only [lt_e]
      rw [show nI x2 + 1 = nI (x2 + 1) from qI_add x2 1]
      have hq : (nI len < nI (p + x2)) = (len < p + x2) := qI_lt (by omega) (by omega)
      simp only [hq]
    rw [hst]
    by_cases c1 : len < p + x2
    · rw [if_pos c1]
      refine ⟨x1, rfl, Or.inr ⟨rfl, fun k hk h => ?_⟩⟩
      have := hA k hk h.2
      omega
    · rw [if_neg c1]
      rcases e_among (n := n) (s := 7) (W := sgL) (t := p) (x2 := x2) (Ms := Ms) (M_came := M_came) (M_size := M_size) (M_length := nI len) (M_laid := M_laid) (M_tokens := M_tokens) (M_looked := M_looked) (M_thrown := M_thrown) (M_wrong := M_wrong) (M_kind := M_kind) (M_good := M_good) (M_value := M_value) hn okS_7 sg_ok sg_cat (by omega) (by omega) with ⟨b1, b2⟩ | ⟨m, b1, b2, b3, b4⟩
      · rw [b1, bd_s, if_pos (by decide)]
        refine ⟨x1, rfl, Or.inr ⟨rfl, fun k hk h => b2 k hk ⟨h.1, (Mw_Ms hS (by omega) (hnn k hk)).mpr h.2⟩⟩⟩
      · rw [b2, bd_s, if_neg (by rw [show (0 : Int32) = nI 0 from rfl, qI_le (by omega) (by omega)]; omega)]
        exact ⟨x2, rfl, Or.inl ⟨rfl, m, b1, b3, (Mw_Ms hS (by omega) (hnn m b1)).mp b4⟩⟩
  obtain ⟨n', hn'⟩ : ∃ n', n = n' + 4 := ⟨n - 4, by omega⟩
  obtain ⟨a1, s1, t1⟩ := step 1 (n' + 3) 0 (by omega) (by omega)
  obtain ⟨a2, s2, t2⟩ := step 2 (n' + 2) a1 (by omega) (by omega)
  obtain ⟨a3, s3, t3⟩ := step 3 (n' + 1) a2 (by omega) (by omega)
  have hend : f_X11_sign n M_came M_size (nI len) (nI p) M_laid M_tokens M_looked M_thrown M_wrong M_kind M_value M_good Ms = if a3 = 0 then f_X11_sign_50 n M_came M_size (nI len) M_laid M_tokens M_looked M_thrown M_wrong M_value Ms (nI p) M_kind M_good (nI a3) 0 else f_X11_sign_50 n M_came M_size (nI len) M_laid M_tokens M_looked M_thrown M_wrong M_value Ms (nI p) M_kind M_good (nI a3) 1 := by
    unfold f_X11_sign f_X11_sign_0
    have s1' : f_X11_sign_4 n M_came M_size (nI len) M_laid M_tokens M_looked M_thrown M_wrong M_value Ms n (nI p) M_kind M_good 0 1 = f_X11_sign_4 n M_came M_size (nI len) M_laid M_tokens M_looked M_thrown M_wrong M_value Ms (n' + 3) (nI p) M_kind M_good (nI a1) (nI 2) := by
      rw [← s1]
      have : n = n' + 3 + 1 := by omega
      rw [← this]; rfl
    rw [s1', s2, s3]
    show fb_X11_sign_4 n _ M_came M_size (nI len) M_laid M_tokens M_looked M_thrown M_wrong M_value Ms (nI p) M_kind M_good (nI a3) (nI 4) = _
    unfold fb_X11_sign_4
    rw [if_pos (by decide)]
    have ha3 : a3 ≤ 3 := by
      rcases t1 with ⟨h, _⟩ | ⟨h, _⟩ <;> rcases t2 with ⟨h', _⟩ | ⟨h', _⟩ <;> rcases t3 with ⟨h'', _⟩ | ⟨h'', _⟩ <;> omega
    have hq : (nI a3 ≤ 0) = (a3 = 0) := by
      rw [show (0 : Int32) = nI 0 from rfl, qI_le (by omega) (by omega)]; apply propext; omega
    simp only [hq]
  rw [hend]
  unfold f_X4_takeSign f_X4_takeSign_0
  rcases hlg with ⟨l1, l2⟩ | ⟨k, l1, l2, l3, l4⟩
  · left
    have z1 : a1 = 0 := by rcases t1 with ⟨_, m, m1, m2, m3⟩ | ⟨h, _⟩; exact absurd m3 (l2 m m1); exact h
    have z2 : a2 = 0 := by rcases t2 with ⟨_, m, m1, m2, m3⟩ | ⟨h, _⟩; exact absurd m3 (l2 m m1); omega
    have z3 : a3 = 0 := by rcases t3 with ⟨_, m, m1, m2, m3⟩ | ⟨h, _⟩; exact absurd m3 (l2 m m1); omega
    rw [l1, bd_s, if_pos rfl, if_pos z3]
    unfold f_X11_sign_50
    rw [zb_0, gu_t, if_pos rfl]
    exact ⟨rfl, _, _, rfl⟩
  · right
    have hw := sg_ok.2.2.1 _ (wd_mem l1)
    have h3 := sg_3 _ (wd_mem l1)
    have hlen : a3 = (wd sgL k).length := by
      have up : ∀ x, (∃ m, m < sgL.length ∧ (wd sgL m).length = x ∧ Mw (lk c Sc) p (wd sgL m)) → x ≤ (wd sgL k).length := by
        rintro x ⟨m, m1, m2, m3⟩
        have := l4 m m1 m3; omega
      have h1 : ∀ x, (∀ m, m < sgL.length → ¬ ((wd sgL m).length = x ∧ Mw (lk c Sc) p (wd sgL m))) → (wd sgL k).length ≠ x := fun x h g => h k l1 ⟨g, l3⟩
      rcases t1 with ⟨u1, v1⟩ | ⟨u1, v1⟩ <;> rcases t2 with ⟨u2, v2⟩ | ⟨u2, v2⟩ <;> rcases t3 with ⟨u3, v3⟩ | ⟨u3, v3⟩ <;>
        first
        | (have w3 := up _ v3; omega)
        | (have w2 := up _ v2; have w3 := h1 _ v3; omega)
        | (have w1 := up _ v1; have w2 := h1 _ v2; have w3 := h1 _ v3; omega)
        | (have w1 := h1 _ v1; have w2 := h1 _ v2; have w3 := h1 _ v3; omega)
    have hpc := hA k l1 l3
    rw [l2, bd_s, if_neg (by rw [qI_ne_neg1 (by omega)]; exact fun h => h), e_lengthOf hT sg_ok l1, bd_s, if_neg (by omega)]
    unfold f_X1_set f_X1_set_0 f_X11_sign_50
    rw [bd_s, zb_1, gu_t, if_neg (by decide), hlen]
    rcases e_among (n := n) (s := 7) (W := sgL) (t := p) (x2 := (wd sgL k).length) (Ms := Ms) (M_came := M_came) (M_size := M_size) (M_length := nI len) (M_laid := M_laid) (M_tokens := M_tokens) (M_looked := M_looked) (M_thrown := M_thrown) (M_wrong := M_wrong) (M_kind := M_kind) (M_good := 1) (M_value := M_value) hn okS_7 sg_ok sg_cat (by omega) (by omega) with ⟨b1, b2⟩ | ⟨m, b1, b2, b3, b4⟩
    · exact absurd ⟨rfl, (Mw_Ms hS (by omega) (hnn k l1)).mpr l3⟩ (b2 k l1)
    · have hmk : m = k := sg_ok.2.2.2 m b1 k l1 (Mw_same b3 ((Mw_Ms hS (by omega) (hnn m b1)).mp b4) l3)
      rw [b2, bd_s, hmk]
      simp only [lt_e]
      refine ⟨k, p + (wd sgL k).length, by omega, by omega, hpc, ?_, ?_⟩
      · rw [qI_add, show (70 : Int32) + nI k = nI (70 + k) from qI_add 70 k]
      · rw [qI_add, show (69 : Int32) + nI (k + 1) = nI (70 + k) from by rw [show (69 : Int32) + nI (k + 1) = nI (69 + (k + 1)) from qI_add 69 _]; congr 1; omega]
end
