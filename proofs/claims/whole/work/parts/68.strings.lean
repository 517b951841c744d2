/-! PURE 68: the strings of words and signs, and the own tables made of them. -/
def spS (s : Nat) : List Int32 := bytS.getD s []
def okS (s : Nat) : Prop := s < 8 ∧ lenS.getD s 0 = (spS s).length ∧ (spS s).length < 1000 ∧ ∀ x ∈ spS s, 0 ≤ x ∧ x < 128
set_option maxRecDepth 100000 in
theorem okS_0 : okS 0 := ⟨by decide, by decide, by decide, by unfold spS bytS; decide⟩
set_option maxRecDepth 100000 in
theorem okS_1 : okS 1 := ⟨by decide, by decide, by decide, by unfold spS bytS; decide⟩
set_option maxRecDepth 100000 in
theorem okS_2 : okS 2 := ⟨by decide, by decide, by decide, by unfold spS bytS; decide⟩
set_option maxRecDepth 100000 in
theorem okS_3 : okS 3 := ⟨by decide, by decide, by decide, by unfold spS bytS; decide⟩
set_option maxRecDepth 100000 in
theorem okS_4 : okS 4 := ⟨by decide, by decide, by decide, by unfold spS bytS; decide⟩
set_option maxRecDepth 100000 in
theorem okS_5 : okS 5 := ⟨by decide, by decide, by decide, by unfold spS bytS; decide⟩
set_option maxRecDepth 100000 in
theorem okS_6 : okS 6 := ⟨by decide, by decide, by decide, by unfold spS bytS; decide⟩
set_option maxRecDepth 100000 in
theorem okS_7 : okS 7 := ⟨by decide, by decide, by decide, by unfold spS bytS; decide⟩
theorem of_128 {x : Int32} (h1 : 0 ≤ x) (h2 : x < 128) : ∃ a : Fin 128, x = nI a.1 := by
  obtain ⟨a, h3, h4⟩ := qI_of h1
  rw [h4, qI_lt_lit h3 (by decide)] at h2
  exact ⟨⟨a, h2⟩, h4⟩
theorem by_ch {x : Int32} (h1 : 0 ≤ x) (h2 : x < 128) : ((x &&& 255).toUInt32 % 65536).toInt32 = x := by
  obtain ⟨a, h⟩ := of_128 h1 h2
  have : ∀ a : Fin 128, ((nI a.1 &&& 255).toUInt32 % 65536).toInt32 = nI a.1 := by decide
  rw [h]; exact this a
theorem zc_ok {x : Int32} (h1 : 0 ≤ x) (h2 : x < 128) : zc x = true := by
  obtain ⟨a, h⟩ := of_128 h1 h2
  have : ∀ a : Fin 128, zc (nI a.1) = true := by decide
  rw [h]; exact this a
theorem nar_128 {x : Int32} (h1 : 0 ≤ x) (h2 : x < 128) : vp_nar .char x = x := by
  obtain ⟨a, h⟩ := of_128 h1 h2
  have : ∀ a : Fin 128, vp_nar .char (nI a.1) = nI a.1 := by decide
  rw [h]; exact this a
theorem e_strlen {n s : Nat} (h : okS s) : f_J0_length_8abf5 n s = some (nI (spS s).length) := by
  have h8 := h.1
  unfold f_J0_length_8abf5 f_J0_length_8abf5_0 f_J0_coder_7d493 f_J0_coder_7d493_0
  rw [decide_eq_true h8, gu_t, gu_t, gu_t, if_neg (by decide), gu_t, show zy 0 = true from rfl, gu_t, bd_s, h.2.1]
  have hl := h.2.2.1
  congr 1
  show nI _ >>> (0 : Int32) = _
  simp
theorem e_charAt {n s i : Nat} (h : okS s) (hi : i < (spS s).length) : f_J0_charAt_5068e n s (nI i) = some ((spS s).getD i 0) := by
  have h8 := h.1
  have hl := h.2.2.1
  have hx := h.2.2.2 ((spS s).getD i 0) (by rw [List.getD_eq_getElem?_getD, List.getElem?_eq_getElem hi]; exact List.getElem_mem hi)
  unfold f_J0_charAt_5068e f_J0_charAt_5068e_0 f_J0_isLatin1_aae02 f_J0_isLatin1_aae02_0 f_J1_charAt_3b067 f_J1_charAt_3b067_0 f_J0_checkIndex_df160
  rw [decide_eq_true h8, gu_t, gu_t, gu_t, if_neg (by decide), if_pos rfl, bd_s, if_neg (by decide), gu_t, h.2.1]
  rw [decide_eq_true (show ¬ nI i < 0 by rw [show (0 : Int32) = nI 0 from rfl, qI_lt (by omega) (by omega)]; omega), decide_eq_true (show nI i < nI (spS s).length by rw [qI_lt (by omega) (by omega)]; exact hi)]
  rw [show (true && true) = true from rfl, gu_t, bd_s, gu_t, gd_nI hi (by omega), gu_t, qI_toNat (by omega)]
  show bd (gu (zc (((((spS s).getD i 0) &&& 255).toUInt32 % 65536).toInt32)) (some (((((spS s).getD i 0) &&& 255).toUInt32 % 65536).toInt32))) _ = _
  rw [by_ch hx.1 hx.2, zc_ok hx.1 hx.2, gu_t, bd_s, zc_ok hx.1 hx.2, gu_t]
theorem get_mid {pre w post : List Int32} {i : Nat} (h : i < w.length) : (pre ++ w ++ post).getD (pre.length + i) 0 = w.getD i 0 := by
  simp only [List.getD_eq_getElem?_getD]
  rw [List.append_assoc, List.getElem?_append_right (by omega), List.getElem?_append_left (by omega), Nat.add_sub_cancel_left]
theorem e_indexOf {n s : Nat} {pre w post : List Int32} (hn : 100000 ≤ n) (h : okS s) (hS : spS s = pre ++ w ++ 32 :: post) (hw : ∀ x ∈ w, x ≠ 32) : f_J0_indexOf_7cf53 n s 32 (nI pre.length) = some (nI (pre.length + w.length)) := by
  have h8 := h.1
  have hl := h.2.2.1
  have hlen : (spS s).length = pre.length + w.length + (post.length + 1) := by rw [hS]; simp; omega
  have loop : ∀ (v : List Int32) (k : Nat) (u : List Int32), w = u ++ v → v.length < k → f_J1_indexOfChar_4cfef_7 n s k (nI (spS s).length) 32 (nI (pre.length + u.length)) = some (nI (pre.length + w.length)) := by
    intro v
    induction v with
    | nil =>
      intro k u hu hk
      obtain ⟨k, rfl⟩ : ∃ k', k = k' + 1 := ⟨k - 1, by omega⟩
      have huw : u = w := by rw [hu]; simp
      unfold f_J1_indexOfChar_4cfef_7 fb_J1_indexOfChar_4cfef_7
      rw [huw, if_neg (by rw [qI_le (by omega) (by omega)]; omega), decide_eq_true h8, gu_t, h.2.1, gd_nI (by omega) (by omega), gu_t, qI_toNat (by omega)]
      have : (spS s).getD (pre.length + w.length) 0 = 32 := by
        rw [hS, show pre ++ w ++ 32 :: post = (pre ++ w) ++ [32] ++ post from by simp]
        have := get_mid (pre := pre ++ w) (w := [32]) (post := post) (i := 0) (by simp)
        rw [show (pre ++ w).length + 0 = pre.length + w.length from by simp] at this
        exact this
      rw [show bytS.getD s [] = spS s from rfl, this, if_pos rfl]
    | cons x v ih =>
      intro k u hu hk
      obtain ⟨k, rfl⟩ : ∃ k', k = k' + 1 := ⟨k - 1, by omega⟩
      have hwl : w.length = u.length + (v.length + 1) := by rw [hu]; simp
      unfold f_J1_indexOfChar_4cfef_7 fb_J1_indexOfChar_4cfef_7
      rw [if_neg (by rw [qI_le (by omega) (by omega)]; omega), decide_eq_true h8, gu_t, h.2.1, gd_nI (by omega) (by omega), gu_t, qI_toNat (by omega)]
      have hx : (spS s).getD (pre.length + u.length) 0 = x := by
        have := get_mid (pre := pre) (w := w) (post := 32 :: post) (i := u.length) (by omega)
        rw [hS, this, hu]
        have := get_mid (pre := u) (w := [x]) (post := v) (i := 0) (by simp)
        simpa using this
      rw [show bytS.getD s [] = spS s from rfl, hx, if_neg (hw x (by rw [hu]; simp))]
      simp only [lt_e]
      rw [show nI (pre.length + u.length) + 1 = nI (pre.length + (u ++ [x]).length) from by rw [show nI (pre.length + u.length) + 1 = nI (pre.length + u.length + 1) from qI_add _ 1]; congr 1; simp; omega]
      exact ih k (u ++ [x]) (by rw [hu]; simp) (by simp at hk; omega)
  unfold f_J0_indexOf_7cf53 f_J0_indexOf_7cf53_0 f_J0_isLatin1_aae02 f_J0_isLatin1_aae02_0 f_J1_indexOf_4cfef f_J1_indexOf_4cfef_0 f_J1_canEncode_9a6ad f_J1_canEncode_9a6ad_0 f_J1_indexOfChar_4cfef f_J1_indexOfChar_4cfef_0
  rw [decide_eq_true h8, gu_t, gu_t, if_neg (by decide), if_pos rfl, bd_s, if_neg (by decide), gu_t, gu_t, e_strlen h, bd_s, if_neg (by decide), if_neg (by decide), bd_s, if_neg (by decide)]
  simp only [lt_e]
  rw [gu_t, h.2.1, if_neg (show ¬ nI pre.length < 0 by rw [show (0 : Int32) = nI 0 from rfl, qI_lt (by omega) (by omega)]; omega)]
  rw [if_neg (show ¬ nI (spS s).length < nI (spS s).length by rw [qI_lt (by omega) (by omega)]; omega), if_pos (show nI pre.length < nI (spS s).length by rw [qI_lt (by omega) (by omega)]; omega)]
  have := loop w n [] rfl (by omega)
  rw [show pre.length + ([] : List Int32).length = pre.length from rfl] at this
  rw [show (Int32.toInt8 32).toInt32 = 32 from rfl, this, bd_s, bd_s]
-- the words of a string
def wds (d : List (List Int32)) (cur : List Int32) : List Int32 → List (List Int32)
  | [] => d ++ [cur]
  | c :: r => if c = 32 then wds (d ++ [cur]) [] r else wds d (cur ++ [c]) r
theorem wds_len : ∀ (r : List Int32) (d : List (List Int32)) (cur : List Int32), d.length + 1 ≤ (wds d cur r).length ∧ d.flatten.length + cur.length ≤ (wds d cur r).flatten.length
  | [], d, cur => by unfold wds; simp
  | c :: r, d, cur => by
    unfold wds
    split
    · have := wds_len r (d ++ [cur]) []
      simp at this ⊢; omega
    · have := wds_len r d (cur ++ [c])
      simp at this ⊢; omega
def off (W : List (List Int32)) (i : Nat) : Nat := (W.take i).flatten.length
def Tab (W : List (List Int32)) (cnt : Int32) (Pc Ps : Nat → Int32) : Prop := cnt = nI W.length ∧ (∀ i, i ≤ W.length → Ps i = nI (off W i)) ∧ ∀ j, j < W.flatten.length → Pc j = W.flatten.getD j 0
theorem off_all (W : List (List Int32)) : off W W.length = W.flatten.length := by unfold off; rw [List.take_length]
theorem off_app {W : List (List Int32)} {w : List Int32} {i : Nat} (h : i ≤ W.length) : off (W ++ [w]) i = off W i := by
  unfold off; rw [List.take_append_of_le_length h]
theorem off_le (W : List (List Int32)) (i : Nat) : off W i ≤ W.flatten.length := by
  unfold off
  have : W.flatten.length = (W.take i).flatten.length + (W.drop i).flatten.length := by
    rw [← List.length_append, ← List.flatten_append, List.take_append_drop]
  omega
theorem e_addAll {n s : Nat} {W : List (List Int32)} {cnt : Int32} {Pc Ps : Nat → Int32} (hn : 100000 ≤ n) (hs : okS s) (hT : Tab W cnt Pc Ps) (h1 : (wds W [] (spS s)).length ≤ 64) (h2 : (wds W [] (spS s)).flatten.length ≤ 512) :
    ∃ cnt' Pc' Ps', f_X7_addAll n s cnt Pc Ps = some (cnt', Pc', Ps') ∧ Tab (wds W [] (spS s)) cnt' Pc' Ps' := by
  have h8 := hs.1
  have hl := hs.2.2.1
  have close : ∀ (d : List (List Int32)) (cur : List Int32) (Pc Ps : Nat → Int32), d.length + 1 ≤ 64 → (d.flatten.length + cur.length ≤ 512) → (∀ i, i ≤ d.length → Ps i = nI (off d i)) → ∃ Ps', f_X7_close n (nI (d.flatten.length + cur.length)) (nI d.length) Ps = some (nI (d ++ [cur]).length, Ps') ∧ ∀ i, i ≤ (d ++ [cur]).length → Ps' i = nI (off (d ++ [cur]) i) := by
    intro d cur Pc Ps a1 a2 a3
    unfold f_X7_close f_X7_close_0
    rw [show nI d.length + 1 = nI (d.length + 1) from qI_add _ 1]
    rw [if_neg (by rw [show (65 : Int32) = nI 65 from rfl, qI_le (by omega) (by omega)]; omega)]
    simp only [lt_e]
    rw [gd_nI (by omega) (by omega), gu_t, qI_toNat (by omega)]
    refine ⟨upd Ps (d.length + 1) (nI (d.flatten.length + cur.length)), by simp, ?_⟩
    intro i hi
    by_cases hi2 : i = d.length + 1
    · rw [hi2, upd_same]
      have := off_all (d ++ [cur])
      rw [show (d ++ [cur]).length = d.length + 1 from by simp] at this
      rw [this]; simp
    · have hi3 : i ≤ d.length := by simp at hi; omega
      rw [upd_ne _ _ hi2, off_app hi3, a3 i hi3]
  have loop : ∀ (r : List Int32) (k x3 : Nat) (d : List (List Int32)) (cur : List Int32) (Pc Ps : Nat → Int32), (spS s).drop x3 = r → x3 ≤ (spS s).length → r.length < k → (wds d cur r).length ≤ 64 → (wds d cur r).flatten.length ≤ 512 → (∀ i, i ≤ d.length → Ps i = nI (off d i)) → (∀ j, j < d.flatten.length + cur.length → Pc j = (d.flatten ++ cur).getD j 0) →
      ∃ cnt' Pc' Ps', f_X7_addAll_12 n s k (nI d.length) Pc Ps (nI (d.flatten.length + cur.length)) (nI x3) = some (cnt', Pc', Ps') ∧ Tab (wds d cur r) cnt' Pc' Ps' := by
    intro r
    induction r with
    | nil =>
      intro k x3 d cur Pc Ps hr hx hk a1 a2 a3 a4
      obtain ⟨k, rfl⟩ : ∃ k', k = k' + 1 := ⟨k - 1, by omega⟩
      have hx3 : x3 = (spS s).length := by
        have := congrArg List.length hr
        simp at this; omega
      have hw := wds_len [] d cur
      obtain ⟨Ps', c1, c2⟩ := close d cur Pc Ps (by omega) (by omega) a3
      unfold f_X7_addAll_12 fb_X7_addAll_12
      rw [decide_eq_true h8, gu_t, e_strlen hs, bd_s, if_pos (by rw [qI_le (by omega) (by omega)]; omega), c1, bd_s]
      refine ⟨_, _, _, rfl, rfl, c2, ?_⟩
      intro j hj
      unfold wds at hj ⊢
      rw [show (d ++ [cur]).flatten = d.flatten ++ cur from by simp] at hj ⊢
      exact a4 j (by simpa using hj)
    | cons x r ih =>
      intro k x3 d cur Pc Ps hr hx hk a1 a2 a3 a4
      obtain ⟨k, rfl⟩ : ∃ k', k = k' + 1 := ⟨k - 1, by omega⟩
      have hx3 : x3 < (spS s).length := by
        have := congrArg List.length hr
        simp at this; omega
      have hget : (spS s).getD x3 0 = x := by
        rw [List.getD_eq_getElem?_getD]
        have := congrArg (fun l => l[0]?) hr
        simp at this
        rw [this]; rfl
      have hdr : (spS s).drop (x3 + 1) = r := by
        have := congrArg List.tail hr
        simpa using this
      have hxr := hs.2.2.2 x (by rw [← List.take_append_drop x3 (spS s), hr]; simp)
      have hw := wds_len (x :: r) d cur
      unfold f_X7_addAll_12 fb_X7_addAll_12 f_X7_addAll_61
      rw [decide_eq_true h8, gu_t, e_strlen hs, bd_s, if_neg (by rw [qI_le (by omega) (by omega)]; omega), gu_t, e_charAt hs hx3, bd_s, hget]
      simp only [lt_e]
      rw [show nI x3 + 1 = nI (x3 + 1) from qI_add _ 1]
      unfold wds at a1 a2 ⊢
      by_cases c0 : x = 32
      · rw [if_pos c0] at a1 a2 ⊢
        rw [if_pos c0]
        have hw2 := wds_len r (d ++ [cur]) []
        have e1 : (d ++ [cur]).flatten.length = d.flatten.length + cur.length := by rw [show (d ++ [cur]).flatten = d.flatten ++ cur from by simp, List.length_append]
        rw [e1, List.length_append, List.length_singleton, List.length_nil] at hw2
        obtain ⟨Ps', c1, c2⟩ := close d cur Pc Ps (by omega) (by omega) a3
        rw [c1, bd_s]
        have := ih k (x3 + 1) (d ++ [cur]) [] Pc Ps' hdr (by omega) (by simp at hk; omega) a1 a2 c2 (fun j hj => by
          rw [show (d ++ [cur]).flatten = d.flatten ++ cur from by simp] at hj ⊢
          rw [List.append_nil]
          exact a4 j (by simpa using hj))
        rw [show (d ++ [cur]).flatten.length + ([] : List Int32).length = d.flatten.length + cur.length from by simp] at this
        exact this
      · rw [if_neg c0] at a1 a2 ⊢
        have hw2 := wds_len r d (cur ++ [x])
        have e2 : (cur ++ [x]).length = cur.length + 1 := by simp
        rw [e2] at hw2
        have hfl : d.flatten.length + cur.length < 512 := by omega
        rw [if_neg c0, if_neg (by rw [show (512 : Int32) = nI 512 from rfl, qI_le (by omega) (by omega)]; omega)]
        rw [gu_t, bd_s, gd_nI hfl (by omega), gu_t, qI_toNat (by omega), nar_128 hxr.1 hxr.2]
        rw [show nI (d.flatten.length + cur.length) + 1 = nI (d.flatten.length + (cur ++ [x]).length) from by rw [show nI (d.flatten.length + cur.length) + 1 = nI (d.flatten.length + cur.length + 1) from qI_add _ 1]; congr 1; simp; omega]
        apply ih k (x3 + 1) d (cur ++ [x]) _ Ps hdr (by omega) (by simp at hk; omega) a1 a2 a3
        intro j hj
        by_cases hj2 : j = d.flatten.length + cur.length
        · rw [hj2, upd_same]
          have := get_mid (pre := d.flatten ++ cur) (w := [x]) (post := []) (i := 0) (by simp)
          rw [show (d.flatten ++ cur).length + 0 = d.flatten.length + cur.length from by simp, List.append_nil, List.append_assoc] at this
          rw [this]; rfl
        · have hj3 : j < d.flatten.length + cur.length := by rw [e2] at hj; omega
          rw [upd_ne _ _ hj2, a4 j hj3]
          rw [← List.append_assoc]
          simp only [List.getD_eq_getElem?_getD]
          rw [List.getElem?_append_left (l₁ := d.flatten ++ cur) (l₂ := [x]) (by simpa using hj3)]
  obtain ⟨t1, t2, t3⟩ := hT
  have hw := wds_len (spS s) W []
  unfold f_X7_addAll f_X7_addAll_0
  rw [t1, gd_nI (by omega) (by omega), gu_t, qI_toNat (by omega), t2 _ (Nat.le_refl _), off_all]
  simp only [lt_e]
  have := loop (spS s) n 0 W [] Pc Ps rfl (by omega) (by omega) h1 h2 t2 (fun j hj => by rw [List.append_nil]; exact t3 j (by simpa using hj))
  exact this
