/-! PURE 69: words and signs: the longest of the own tables, the reference's place in its string. -/
def kwL : List (List Int32) := [[97, 98, 115, 116, 114, 97, 99, 116], [97, 115, 115, 101, 114, 116], [98, 111, 111, 108, 101, 97, 110], [98, 114, 101, 97, 107], [98, 121, 116, 101], [99, 97, 115, 101], [99, 97, 116, 99, 104], [99, 104, 97, 114], [99, 108, 97, 115, 115], [99, 111, 110, 115, 116], [99, 111, 110, 116, 105, 110, 117, 101], [100, 101, 102, 97, 117, 108, 116], [100, 111], [100, 111, 117, 98, 108, 101], [101, 108, 115, 101], [101, 110, 117, 109], [101, 120, 116, 101, 110, 100, 115], [102, 105, 110, 97, 108], [102, 105, 110, 97, 108, 108, 121], [102, 108, 111, 97, 116], [102, 111, 114], [103, 111, 116, 111], [105, 102], [105, 109, 112, 108, 101, 109, 101, 110, 116, 115], [105, 109, 112, 111, 114, 116], [105, 110, 115, 116, 97, 110, 99, 101, 111, 102], [105, 110, 116], [105, 110, 116, 101, 114, 102, 97, 99, 101], [108, 111, 110, 103], [110, 97, 116, 105, 118, 101], [110, 101, 119], [112, 97, 99, 107, 97, 103, 101], [112, 114, 105, 118, 97, 116, 101], [112, 114, 111, 116, 101, 99, 116, 101, 100], [112, 117, 98, 108, 105, 99], [114, 101, 116, 117, 114, 110], [115, 104, 111, 114, 116], [115, 116, 97, 116, 105, 99], [115, 116, 114, 105, 99, 116, 102, 112], [115, 117, 112, 101, 114], [115, 119, 105, 116, 99, 104], [115, 121, 110, 99, 104, 114, 111, 110, 105, 122, 101, 100], [116, 104, 105, 115], [116, 104, 114, 111, 119], [116, 104, 114, 111, 119, 115], [116, 114, 97, 110, 115, 105, 101, 110, 116], [116, 114, 121], [118, 111, 105, 100], [118, 111, 108, 97, 116, 105, 108, 101], [119, 104, 105, 108, 101], [116, 114, 117, 101], [102, 97, 108, 115, 101], [110, 117, 108, 108]]
def sgL : List (List Int32) := [[40], [41], [123], [125], [91], [93], [59], [44], [46], [46, 46, 46], [64], [58, 58], [61], [62], [60], [33], [126], [63], [58], [45, 62], [61, 61], [60, 61], [33, 61], [38, 38], [124, 124], [43, 43], [45, 45], [43], [45], [42], [47], [38], [124], [94], [37], [60, 60], [43, 61], [45, 61], [42, 61], [47, 61], [38, 61], [124, 61], [94, 61], [37, 61], [60, 60, 61]]
def cat : List (List Int32) → List Int32
  | [] => []
  | w :: ws => w ++ 32 :: cat ws
set_option maxRecDepth 100000 in
theorem kw_eq : wds (wds (wds (wds [] [] (spS 0)) [] (spS 1)) [] (spS 2)) [] (spS 3) = kwL := by decide +kernel
set_option maxRecDepth 100000 in
theorem sg_eq : wds (wds [] [] (spS 4)) [] (spS 5) = sgL := by decide +kernel
set_option maxRecDepth 100000 in
theorem kw_cat : spS 6 = [32] ++ cat kwL := by decide +kernel
set_option maxRecDepth 100000 in
theorem sg_cat : spS 7 = [32] ++ cat sgL := by decide +kernel
def wd (W : List (List Int32)) (k : Nat) : List Int32 := W.getD k []
def okW (W : List (List Int32)) : Prop := W.length ≤ 63 ∧ W.flatten.length ≤ 512 ∧ (∀ w ∈ W, 0 < w.length ∧ w.length < 20 ∧ ∀ x ∈ w, x ≠ 32 ∧ 0 ≤ x) ∧ ∀ k, k < W.length → ∀ m, m < W.length → wd W k = wd W m → k = m
set_option maxRecDepth 100000 in
theorem kw_ok : okW kwL := ⟨by decide +kernel, by decide +kernel, by decide +kernel, by decide +kernel⟩
set_option maxRecDepth 100000 in
theorem sg_ok : okW sgL := ⟨by decide +kernel, by decide +kernel, by decide +kernel, by decide +kernel⟩
set_option maxRecDepth 100000 in
theorem kw_lr : ∀ w ∈ kwL, ∀ x ∈ w, 97 ≤ x ∧ x ≤ 122 := by decide +kernel
set_option maxRecDepth 100000 in
theorem sg_3 : ∀ w ∈ sgL, w.length ≤ 3 := by decide +kernel
set_option maxRecDepth 100000 in
theorem bd_0 : (wds [] [] (spS 0)).length ≤ 64 ∧ (wds [] [] (spS 0)).flatten.length ≤ 512 := by decide +kernel
set_option maxRecDepth 100000 in
theorem bd_1 : (wds (wds [] [] (spS 0)) [] (spS 1)).length ≤ 64 ∧ (wds (wds [] [] (spS 0)) [] (spS 1)).flatten.length ≤ 512 := by decide +kernel
set_option maxRecDepth 100000 in
theorem bd_2 : (wds (wds (wds [] [] (spS 0)) [] (spS 1)) [] (spS 2)).length ≤ 64 ∧ (wds (wds (wds [] [] (spS 0)) [] (spS 1)) [] (spS 2)).flatten.length ≤ 512 := by decide +kernel
set_option maxRecDepth 100000 in
theorem bd_3 : (wds (wds (wds (wds [] [] (spS 0)) [] (spS 1)) [] (spS 2)) [] (spS 3)).length ≤ 64 ∧ (wds (wds (wds (wds [] [] (spS 0)) [] (spS 1)) [] (spS 2)) [] (spS 3)).flatten.length ≤ 512 := by decide +kernel
set_option maxRecDepth 100000 in
theorem bd_4 : (wds [] [] (spS 4)).length ≤ 64 ∧ (wds [] [] (spS 4)).flatten.length ≤ 512 := by decide +kernel
set_option maxRecDepth 100000 in
theorem bd_5 : (wds (wds [] [] (spS 4)) [] (spS 5)).length ≤ 64 ∧ (wds (wds [] [] (spS 4)) [] (spS 5)).flatten.length ≤ 512 := by decide +kernel
theorem Tab_0 : Tab [] 0 (fun _ => 0) (fun _ => 0) := ⟨rfl, fun i hi => by unfold off; simp; rfl, fun j hj => by simp at hj⟩
theorem e_init {n : Nat} (hn : 100000 ≤ n) : ∃ pc pC pS gc gC gS, f_X9_init n = some (pc, pC, pS, gc, gC, gS) ∧ Tab kwL pc pC pS ∧ Tab sgL gc gC gS := by
  obtain ⟨a0, b0, c0, e0, t0⟩ := e_addAll hn okS_0 Tab_0 bd_0.1 bd_0.2
  obtain ⟨a1, b1, c1, e1, t1⟩ := e_addAll hn okS_1 t0 bd_1.1 bd_1.2
  obtain ⟨a2, b2, c2, e2, t2⟩ := e_addAll hn okS_2 t1 bd_2.1 bd_2.2
  obtain ⟨a3, b3, c3, e3, t3⟩ := e_addAll hn okS_3 t2 bd_3.1 bd_3.2
  obtain ⟨a4, b4, c4, e4, t4⟩ := e_addAll hn okS_4 Tab_0 bd_4.1 bd_4.2
  obtain ⟨a5, b5, c5, e5, t5⟩ := e_addAll hn okS_5 t4 bd_5.1 bd_5.2
  unfold f_X9_init f_X4_init
  rw [e0, bd_s, e1, bd_s, e2, bd_s, e3, bd_s, e4, bd_s, e5, bd_s, bd_s]
  rw [kw_eq] at t3
  rw [sg_eq] at t5
  exact ⟨_, _, _, _, _, _, rfl, t3, t5⟩
def Mw (L : Nat → Int32) (p : Nat) (w : List Int32) : Prop := ∀ j, j < w.length → L (p + j) = w.getD j 0
theorem wd_mem {W : List (List Int32)} {k : Nat} (h : k < W.length) : wd W k ∈ W := by
  unfold wd; rw [List.getD_eq_getElem?_getD, List.getElem?_eq_getElem h]; exact List.getElem_mem h
theorem off_s : ∀ {W : List (List Int32)} {k : Nat}, k < W.length → off W (k + 1) = off W k + (wd W k).length
  | [], k, h => by simp at h
  | w :: ws, 0, _ => by unfold off wd; simp
  | w :: ws, k + 1, h => by
    have ih := off_s (W := ws) (k := k) (by simpa using h)
    unfold off at ih ⊢
    show (w :: ws.take (k + 1)).flatten.length = (w :: ws.take k).flatten.length + (wd ws k).length
    rw [List.flatten_cons, List.flatten_cons, List.length_append, List.length_append, ih]; omega
theorem flat_get : ∀ {W : List (List Int32)} {k j : Nat}, k < W.length → j < (wd W k).length → W.flatten.getD (off W k + j) 0 = (wd W k).getD j 0
  | [], k, j, h, _ => by simp at h
  | w :: ws, 0, j, _, hj => by
    have hj' : j < w.length := hj
    show (w ++ ws.flatten).getD (0 + j) 0 = w.getD j 0
    rw [Nat.zero_add]
    simp only [List.getD_eq_getElem?_getD]
    rw [List.getElem?_append_left hj']
  | w :: ws, k + 1, j, h, hj => by
    have ih := flat_get (W := ws) (k := k) (j := j) (by simpa using h) hj
    have ho : off (w :: ws) (k + 1) = w.length + off ws k := by
      unfold off
      show (w :: ws.take k).flatten.length = _
      rw [List.flatten_cons, List.length_append]
    show (w ++ ws.flatten).getD _ 0 = (wd ws k).getD j 0
    rw [ho, ← ih]
    simp only [List.getD_eq_getElem?_getD]
    rw [List.getElem?_append_right (by omega)]
    congr 2; omega
theorem wd_ext {u v : List Int32} (h1 : u.length = v.length) (h2 : ∀ j, j < u.length → u.getD j 0 = v.getD j 0) : u = v := by
  apply List.ext_getElem h1
  intro j a b
  have := h2 j a
  rw [List.getD_eq_getElem?_getD, List.getElem?_eq_getElem a, List.getD_eq_getElem?_getD, List.getElem?_eq_getElem b] at this
  exact this
section
variable {W : List (List Int32)} {cnt S_cutShort : Int32} {Pc Ps Sc Ms : Nat → Int32} {n c p : Nat}
theorem e_lengthOf {k : Nat} (hT : Tab W cnt Pc Ps) (hW : okW W) (hk : k < W.length) : f_X7_lengthOf n (nI k) cnt Ps = some (nI (wd W k).length) := by
  have h1 := hW.1
  have h2 := hW.2.1
  have o1 := off_le W (k + 1)
  have o2 := off_s hk
  unfold f_X7_lengthOf f_X7_lengthOf_0
  rw [show nI k + 1 = nI (k + 1) from qI_add k 1, gd_nI (by omega) (by omega), gu_t, gd_nI (by omega) (by omega), gu_t, qI_toNat (by omega), qI_toNat (by omega), hT.2.1 _ (by omega), hT.2.1 _ (by omega), qI_sub (by omega), o2, Nat.add_sub_cancel_left]
theorem e_isThere {k : Nat} (hn : 100000 ≤ n) (hT : Tab W cnt Pc Ps) (hW : okW W) (hk : k < W.length) (hc : c ≤ 81920) (hp : p ≤ 81921) :
    (Mw (lk c Sc) p (wd W k) ∧ f_X7_isThere n (nI k) (nI p) cnt Pc Ps (nI c) S_cutShort Sc = some 1) ∨ (¬ Mw (lk c Sc) p (wd W k) ∧ f_X7_isThere n (nI k) (nI p) cnt Pc Ps (nI c) S_cutShort Sc = some 0) := by
  have h1 := hW.1
  have h2 := hW.2.1
  have o1 := off_le W (k + 1)
  have o2 := off_s hk
  have loop : ∀ (m f j : Nat), j + m = (wd W k).length → m < f →
      ((∀ i, j ≤ i → i < (wd W k).length → lk c Sc (p + i) = (wd W k).getD i 0) ∧ f_X7_isThere_12 n cnt Pc Ps (nI c) S_cutShort Sc f (nI k) (nI p) (nI (off W k)) (nI (off W k + j)) = some 1) ∨ (¬ (∀ i, j ≤ i → i < (wd W k).length → lk c Sc (p + i) = (wd W k).getD i 0) ∧ f_X7_isThere_12 n cnt Pc Ps (nI c) S_cutShort Sc f (nI k) (nI p) (nI (off W k)) (nI (off W k + j)) = some 0) := by
    intro m
    induction m with
    | zero =>
      intro f j hm hf
      obtain ⟨f, rfl⟩ : ∃ f', f = f' + 1 := ⟨f - 1, by omega⟩
      left
      refine ⟨fun i a b => absurd b (by omega), ?_⟩
      unfold f_X7_isThere_12 fb_X7_isThere_12
      rw [show nI k + 1 = nI (k + 1) from qI_add k 1, gd_nI (by omega) (by omega), gu_t, qI_toNat (by omega), hT.2.1 _ (by omega), if_pos (by rw [qI_le (by omega) (by omega)]; omega)]
    | succ m ih =>
      intro f j hm hf
      obtain ⟨f, rfl⟩ : ∃ f', f = f' + 1 := ⟨f - 1, by omega⟩
      have hst : f_X7_isThere_12 n cnt Pc Ps (nI c) S_cutShort Sc (f + 1) (nI k) (nI p) (nI (off W k)) (nI (off W k + j)) = if lk c Sc (p + j) = (wd W k).getD j 0 then f_X7_isThere_12 n cnt Pc Ps (nI c) S_cutShort Sc f (nI k) (nI p) (nI (off W k)) (nI (off W k + (j + 1))) else some 0 := by
        show fb_X7_isThere_12 n _ cnt Pc Ps (nI c) S_cutShort Sc _ _ _ _ = _
        unfold fb_X7_isThere_12
        rw [show nI k + 1 = nI (k + 1) from qI_add k 1, gd_nI (by omega) (by omega), gu_t, qI_toNat (by omega), hT.2.1 _ (by omega), if_neg (by rw [qI_le (by omega) (by omega)]; omega)]
        rw [qI_add, qI_sub (by omega), show p + (off W k + j) - off W k = p + j from by omega, e_look hc (by omega), bd_s, gd_nI (by omega) (by omega), gu_t, qI_toNat (by omega), hT.2.2 _ (by omega), flat_get hk (by omega)]
        simp only [lt_e]
        rw [show nI (off W k + j) + 1 = nI (off W k + (j + 1)) from qI_add _ 1]
      rw [hst]
      by_cases c1 : lk c Sc (p + j) = (wd W k).getD j 0
      · rw [if_pos c1]
        rcases ih f (j + 1) (by omega) (by omega) with ⟨a1, a2⟩ | ⟨a1, a2⟩
        · left
          refine ⟨fun i x y => ?_, a2⟩
          by_cases hij : i = j
          · rw [hij]; exact c1
          · exact a1 i (by omega) y
        · right
          exact ⟨fun h => a1 (fun i x y => h i (by omega) y), a2⟩
      · rw [if_neg c1]
        right
        exact ⟨fun h => c1 (h j (Nat.le_refl _) (by omega)), rfl⟩
  have := loop (wd W k).length n 0 (by omega) (by omega)
  unfold f_X7_isThere f_X7_isThere_0 Mw
  rw [gd_nI (by omega) (by omega), gu_t, qI_toNat (by omega), hT.2.1 _ (by omega)]
  simp only [lt_e]
  rw [Nat.add_zero] at this
  rcases this with ⟨a1, a2⟩ | ⟨a1, a2⟩
  · left; exact ⟨fun j hj => a1 j (Nat.zero_le _) hj, a2⟩
  · right; exact ⟨fun h => a1 (fun i _ y => h i y), a2⟩
theorem e_longest (hn : 100000 ≤ n) (hT : Tab W cnt Pc Ps) (hW : okW W) (hc : c ≤ 81920) (hp : p ≤ 81921) :
    (f_X7_longest n (nI p) cnt Pc Ps (nI c) S_cutShort Sc = some (-1) ∧ ∀ k, k < W.length → ¬ Mw (lk c Sc) p (wd W k)) ∨ (∃ k, k < W.length ∧ f_X7_longest n (nI p) cnt Pc Ps (nI c) S_cutShort Sc = some (nI k) ∧ Mw (lk c Sc) p (wd W k) ∧ ∀ m, m < W.length → Mw (lk c Sc) p (wd W m) → (wd W m).length ≤ (wd W k).length) := by
  have h1 := hW.1
  have h2 := hW.2.1
  have loop : ∀ (d f i : Nat) (b : Int32), i + d = W.length → d < f → ((b = -1 ∧ ∀ k, k < i → ¬ Mw (lk c Sc) p (wd W k)) ∨ (∃ k, k < i ∧ b = nI k ∧ Mw (lk c Sc) p (wd W k) ∧ ∀ m, m < i → Mw (lk c Sc) p (wd W m) → (wd W m).length ≤ (wd W k).length)) →
      (f_X7_longest_12 n cnt Pc Ps (nI c) S_cutShort Sc f (nI p) (lk c Sc p) b (nI i) = some (-1) ∧ ∀ k, k < W.length → ¬ Mw (lk c Sc) p (wd W k)) ∨ (∃ k, k < W.length ∧ f_X7_longest_12 n cnt Pc Ps (nI c) S_cutShort Sc f (nI p) (lk c Sc p) b (nI i) = some (nI k) ∧ Mw (lk c Sc) p (wd W k) ∧ ∀ m, m < W.length → Mw (lk c Sc) p (wd W m) → (wd W m).length ≤ (wd W k).length) := by
    intro d
    induction d with
    | zero =>
      intro f i b hd hf hb
      obtain ⟨f, rfl⟩ : ∃ f', f = f' + 1 := ⟨f - 1, by omega⟩
      have hi : i = W.length := by omega
      have hst : f_X7_longest_12 n cnt Pc Ps (nI c) S_cutShort Sc (f + 1) (nI p) (lk c Sc p) b (nI i) = some b := by
        unfold f_X7_longest_12 fb_X7_longest_12
        rw [hT.1, if_pos (by rw [qI_le (by omega) (by omega)]; omega)]
      rw [hst]
      rw [hi] at hb
      rcases hb with ⟨a1, a2⟩ | ⟨k, a1, a2, a3, a4⟩
      · left; exact ⟨by rw [a1], a2⟩
      · right; exact ⟨k, a1, by rw [a2], a3, a4⟩
    | succ d ih =>
      intro f i b hd hf hb
      obtain ⟨f, rfl⟩ : ∃ f', f = f' + 1 := ⟨f - 1, by omega⟩
      have hi : i < W.length := by omega
      have hwi := hW.2.2.1 _ (wd_mem hi)
      have o1 := off_le W (i + 1)
      have o2 := off_s hi
      -- the next best
      have key : ∃ b' : Int32, f_X7_longest_12 n cnt Pc Ps (nI c) S_cutShort Sc (f + 1) (nI p) (lk c Sc p) b (nI i) = f_X7_longest_12 n cnt Pc Ps (nI c) S_cutShort Sc f (nI p) (lk c Sc p) b' (nI (i + 1)) ∧ ((b' = -1 ∧ ∀ k, k < i + 1 → ¬ Mw (lk c Sc) p (wd W k)) ∨ (∃ k, k < i + 1 ∧ b' = nI k ∧ Mw (lk c Sc) p (wd W k) ∧ ∀ m, m < i + 1 → Mw (lk c Sc) p (wd W m) → (wd W m).length ≤ (wd W k).length)) := by
        have hpc : Pc (off W i) = (wd W i).getD 0 0 := by
          rw [hT.2.2 _ (by omega)]
          exact flat_get hi hwi.1
        have hst : f_X7_longest_12 n cnt Pc Ps (nI c) S_cutShort Sc (f + 1) (nI p) (lk c Sc p) b (nI i) = if (wd W i).getD 0 0 = lk c Sc p then (bd (f_X7_isThere n (nI i) (nI p) cnt Pc Ps (nI c) S_cutShort Sc) fun o1 => if o1 = 0 then f_X7_longest_12 n cnt Pc Ps (nI c) S_cutShort Sc f (nI p) (lk c Sc p) b (nI (i + 1)) else (if b = -1 then f_X7_longest_12 n cnt Pc Ps (nI c) S_cutShort Sc f (nI p) (lk c Sc p) (nI i) (nI (i + 1)) else (bd (f_X7_lengthOf n (nI i) cnt Ps) fun o2 => bd (f_X7_lengthOf n b cnt Ps) fun o3 => if o2 ≤ o3 then f_X7_longest_12 n cnt Pc Ps (nI c) S_cutShort Sc f (nI p) (lk c Sc p) b (nI (i + 1)) else f_X7_longest_12 n cnt Pc Ps (nI c) S_cutShort Sc f (nI p) (lk c Sc p) (nI i) (nI (i + 1))))) else f_X7_longest_12 n cnt Pc Ps (nI c) S_cutShort Sc f (nI p) (lk c Sc p) b (nI (i + 1)) := by
          show fb_X7_longest_12 n _ cnt Pc Ps (nI c) S_cutShort Sc _ _ _ _ = _
          unfold fb_X7_longest_12 f_X7_longest_69 f_X7_longest_73
          have hno : ¬ cnt ≤ nI i := by rw [hT.1, qI_le (by omega) (by omega)]; omega
          rw [if_neg hno, gd_nI (by omega) (by omega), gu_t, qI_toNat (by omega), hT.2.1 _ (by omega), gd_nI (by omega) (by omega), gu_t, qI_toNat (by omega), hpc]
          simp only [lt_e]
          rw [show nI i + 1 = nI (i + 1) from qI_add i 1]
        -- where the word is not there
        have skip : ¬ Mw (lk c Sc) p (wd W i) → ((b = -1 ∧ ∀ k, k < i + 1 → ¬ Mw (lk c Sc) p (wd W k)) ∨ (∃ k, k < i + 1 ∧ b = nI k ∧ Mw (lk c Sc) p (wd W k) ∧ ∀ m, m < i + 1 → Mw (lk c Sc) p (wd W m) → (wd W m).length ≤ (wd W k).length)) := by
          intro hno
          rcases hb with ⟨a1, a2⟩ | ⟨k, a1, a2, a3, a4⟩
          · left
            refine ⟨a1, fun k hk => ?_⟩
            by_cases hki : k = i
            · rw [hki]; exact hno
            · exact a2 k (by omega)
          · right
            refine ⟨k, by omega, a2, a3, fun m hm hM => ?_⟩
            by_cases hmi : m = i
            · rw [hmi] at hM; exact absurd hM hno
            · exact a4 m (by omega) hM
        rw [hst]
        by_cases c1 : (wd W i).getD 0 0 = lk c Sc p
        · rw [if_pos c1]
          rcases e_isThere (Sc := Sc) (S_cutShort := S_cutShort) (p := p) hn hT hW hi hc hp with ⟨m1, m2⟩ | ⟨m1, m2⟩
          · rw [m2, bd_s, if_neg (by decide)]
            rcases hb with ⟨a1, a2⟩ | ⟨k, a1, a2, a3, a4⟩
            · rw [if_pos a1]
              refine ⟨nI i, rfl, Or.inr ⟨i, by omega, rfl, m1, fun m hm hM => ?_⟩⟩
              by_cases hmi : m = i
              · rw [hmi]; exact Nat.le_refl _
              · exact absurd hM (a2 m (by omega))
            · rw [if_neg (by rw [a2, qI_ne_neg1 (by omega)]; exact fun h => h), a2, e_lengthOf hT hW hi, bd_s, e_lengthOf hT hW (by omega), bd_s]
              have hwk := hW.2.2.1 _ (wd_mem (show k < W.length by omega))
              have hq : (nI (wd W i).length ≤ nI (wd W k).length) = ((wd W i).length ≤ (wd W k).length) := qI_le (by omega) (by omega)
              by_cases c2 : (wd W i).length ≤ (wd W k).length
              · rw [if_pos (by rw [hq]; exact c2)]
                refine ⟨nI k, rfl, Or.inr ⟨k, by omega, rfl, a3, fun m hm hM => ?_⟩⟩
                by_cases hmi : m = i
                · rw [hmi]; exact c2
                · exact a4 m (by omega) hM
              · rw [if_neg (by rw [hq]; exact c2)]
                refine ⟨nI i, rfl, Or.inr ⟨i, by omega, rfl, m1, fun m hm hM => ?_⟩⟩
                by_cases hmi : m = i
                · rw [hmi]; exact Nat.le_refl _
                · have := a4 m (by omega) hM; omega
          · rw [m2, bd_s, if_pos rfl]
            exact ⟨b, rfl, skip m1⟩
        · rw [if_neg c1]
          refine ⟨b, rfl, skip (fun h => c1 ?_)⟩
          have := h 0 hwi.1
          rw [Nat.add_zero] at this
          exact this.symm
      obtain ⟨b', k1, k2⟩ := key
      rw [k1]
      exact ih f (i + 1) b' (by omega) (by omega) k2
  unfold f_X7_longest f_X7_longest_0
  rw [e_look hc (by omega), bd_s]
  exact loop W.length n 0 (-1) (by omega) (by omega) (Or.inl ⟨rfl, fun k hk => absurd hk (by omega)⟩)
variable {M_came M_size M_length M_laid M_tokens M_looked M_thrown M_wrong M_kind M_good : Int32} {M_value : Int64} {s t x2 : Nat}
theorem cat_len (w : List Int32) (ws : List (List Int32)) : (cat (w :: ws)).length = w.length + 1 + (cat ws).length := by
  show (w ++ 32 :: cat ws).length = _
  rw [List.length_append, List.length_cons]; omega
theorem e_isAt {pre w post : List Int32} (hn : 100000 ≤ n) (hs : okS s) (hS : spS s = pre ++ w ++ post) (hx2 : x2 ≤ 81921) (ht : t + x2 ≤ 81924) :
    ((w.length = x2 ∧ Mw Ms t w) ∧ f_X11_isAt n s (nI pre.length) (nI (pre.length + w.length)) (nI t) (nI x2) Ms = some 1) ∨ (¬ (w.length = x2 ∧ Mw Ms t w) ∧ f_X11_isAt n s (nI pre.length) (nI (pre.length + w.length)) (nI t) (nI x2) Ms = some 0) := by
  have h8 := hs.1
  have hl := hs.2.2.1
  have hlen : (spS s).length = pre.length + (w.length + post.length) := by rw [hS]; simp
  have loop : w.length = x2 → ∀ (m f j : Nat), j + m = w.length → m < f →
      ((∀ i, j ≤ i → i < w.length → Ms (t + i) = w.getD i 0) ∧ f_X11_isAt_13 n s Ms f (nI pre.length) (nI t) (nI w.length) (nI j) = some 1) ∨ (¬ (∀ i, j ≤ i → i < w.length → Ms (t + i) = w.getD i 0) ∧ f_X11_isAt_13 n s Ms f (nI pre.length) (nI t) (nI w.length) (nI j) = some 0) := by
    intro hwx m
    induction m with
    | zero =>
      intro f j hm hf
      obtain ⟨f, rfl⟩ : ∃ f', f = f' + 1 := ⟨f - 1, by omega⟩
      left
      refine ⟨fun i a b => absurd b (by omega), ?_⟩
      unfold f_X11_isAt_13 fb_X11_isAt_13
      rw [if_pos (by rw [qI_le (by omega) (by omega)]; omega)]
    | succ m ih =>
      intro f j hm hf
      obtain ⟨f, rfl⟩ : ∃ f', f = f' + 1 := ⟨f - 1, by omega⟩
      have hst : f_X11_isAt_13 n s Ms (f + 1) (nI pre.length) (nI t) (nI w.length) (nI j) = if w.getD j 0 = Ms (t + j) then f_X11_isAt_13 n s Ms f (nI pre.length) (nI t) (nI w.length) (nI (j + 1)) else some 0 := by
        show fb_X11_isAt_13 n _ s Ms _ _ _ _ = _
        unfold fb_X11_isAt_13
        rw [if_neg (by rw [qI_le (by omega) (by omega)]; omega), decide_eq_true h8, gu_t, qI_add, qI_add, e_charAt hs (by omega), bd_s, gd_nI (by omega) (by omega), gu_t, qI_toNat (by omega)]
        have : (spS s).getD (pre.length + j) 0 = w.getD j 0 := by rw [hS]; exact get_mid (by omega)
        rw [this]
        simp only [lt_e]
        rw [show nI j + 1 = nI (j + 1) from qI_add j 1]
      rw [hst]
      by_cases c1 : w.getD j 0 = Ms (t + j)
      · rw [if_pos c1]
        rcases ih f (j + 1) (by omega) (by omega) with ⟨a1, a2⟩ | ⟨a1, a2⟩
        · left
          refine ⟨fun i x y => ?_, a2⟩
          by_cases hij : i = j
          · rw [hij]; exact c1.symm
          · exact a1 i (by omega) y
        · right
          exact ⟨fun h => a1 (fun i x y => h i (by omega) y), a2⟩
      · rw [if_neg c1]
        right
        exact ⟨fun h => c1 (h j (Nat.le_refl _) (by omega)).symm, rfl⟩
  unfold f_X11_isAt f_X11_isAt_0
  rw [qI_sub (by omega), Nat.add_sub_cancel_left]
  have hq : (nI w.length = nI x2) = (w.length = x2) := qI_eq (by omega) (by omega)
  by_cases c1 : w.length = x2
  · rw [if_pos (by rw [hq]; exact c1), ← c1]
    rcases loop c1 w.length n 0 (by omega) (by omega) with ⟨a1, a2⟩ | ⟨a1, a2⟩
    · left; exact ⟨⟨rfl, fun j hj => a1 j (Nat.zero_le _) hj⟩, a2⟩
    · right; exact ⟨fun h => a1 (fun i _ y => h.2 i y), a2⟩
  · rw [if_neg (by rw [hq]; exact c1)]
    right; exact ⟨fun h => c1 h.1, rfl⟩
theorem e_among (hn : 100000 ≤ n) (hs : okS s) (hW : okW W) (hS : spS s = [32] ++ cat W) (hx2 : x2 ≤ 81921) (ht : t + x2 ≤ 81924) :
    (f_X11_among n s (nI x2) M_came M_size M_length (nI t) M_laid M_tokens M_looked M_thrown M_wrong M_kind M_value M_good Ms = some 0 ∧ ∀ k, k < W.length → ¬ ((wd W k).length = x2 ∧ Mw Ms t (wd W k))) ∨ (∃ k, k < W.length ∧ f_X11_among n s (nI x2) M_came M_size M_length (nI t) M_laid M_tokens M_looked M_thrown M_wrong M_kind M_value M_good Ms = some (nI (k + 1)) ∧ (wd W k).length = x2 ∧ Mw Ms t (wd W k)) := by
  have h8 := hs.1
  have hl := hs.2.2.1
  have h1 := hW.1
  have loop : ∀ (ws : List (List Int32)) (f i : Nat) (pre : List Int32), W.drop i = ws → spS s = pre ++ cat ws → ws.length < f → i ≤ W.length →
      (f_X11_among_5 n s M_came M_size M_length (nI t) M_laid M_tokens M_looked M_thrown M_wrong M_kind M_value M_good Ms f (nI x2) (nI i) (nI pre.length) = some 0 ∧ ∀ k, i ≤ k → k < W.length → ¬ ((wd W k).length = x2 ∧ Mw Ms t (wd W k))) ∨ (∃ k, i ≤ k ∧ k < W.length ∧ f_X11_among_5 n s M_came M_size M_length (nI t) M_laid M_tokens M_looked M_thrown M_wrong M_kind M_value M_good Ms f (nI x2) (nI i) (nI pre.length) = some (nI (k + 1)) ∧ (wd W k).length = x2 ∧ Mw Ms t (wd W k)) := by
    intro ws
    induction ws with
    | nil =>
      intro f i pre hd hp hf hi
      obtain ⟨f, rfl⟩ : ∃ f', f = f' + 1 := ⟨f - 1, by omega⟩
      have hiW : i = W.length := by
        have := congrArg List.length hd
        simp at this; omega
      have hpl : pre.length = (spS s).length := by rw [hp]; simp [cat]
      left
      refine ⟨?_, fun k a b => absurd b (by omega)⟩
      unfold f_X11_among_5 fb_X11_among_5
      rw [decide_eq_true h8, gu_t, e_strlen hs, bd_s, if_pos (by rw [qI_le (by omega) (by omega)]; omega)]
    | cons w ws ih =>
      intro f i pre hd hp hf hi
      obtain ⟨f, rfl⟩ : ∃ f', f = f' + 1 := ⟨f - 1, by omega⟩
      have hiW : i < W.length := by
        have := congrArg List.length hd
        simp at this; omega
      have hwd : wd W i = w := by
        unfold wd
        rw [List.getD_eq_getElem?_getD]
        have := congrArg (fun l => l[0]?) hd
        simp at this
        rw [this]; rfl
      have hdr : W.drop (i + 1) = ws := by
        have := congrArg List.tail hd
        simpa using this
      have hp2 : spS s = pre ++ w ++ 32 :: cat ws := by rw [hp, List.append_assoc]; rfl
      have hpl : (spS s).length = pre.length + (w.length + 1 + (cat ws).length) := by rw [hp, List.length_append, cat_len]
      have hwi := hW.2.2.1 w (by rw [← hwd]; exact wd_mem hiW)
      have hio := e_indexOf hn hs hp2 (fun x hx => (hwi.2.2 x hx).1)
      have hst : f_X11_among_5 n s M_came M_size M_length (nI t) M_laid M_tokens M_looked M_thrown M_wrong M_kind M_value M_good Ms (f + 1) (nI x2) (nI i) (nI pre.length) = bd (f_X11_isAt n s (nI pre.length) (nI (pre.length + w.length)) (nI t) (nI x2) Ms) fun o4 => if o4 = 0 then f_X11_among_5 n s M_came M_size M_length (nI t) M_laid M_tokens M_looked M_thrown M_wrong M_kind M_value M_good Ms f (nI x2) (nI (i + 1)) (nI (pre ++ w ++ [32]).length) else some (nI (i + 1)) := by
        show fb_X11_among_5 n _ s M_came M_size M_length (nI t) M_laid M_tokens M_looked M_thrown M_wrong M_kind M_value M_good Ms _ _ _ = _
        unfold fb_X11_among_5
        rw [decide_eq_true h8, gu_t, e_strlen hs, bd_s, if_neg (by rw [qI_le (by omega) (by omega)]; omega), gu_t, hio, bd_s]
        simp only [lt_e]
        rw [show nI i + 1 = nI (i + 1) from qI_add i 1, show nI (pre.length + w.length) + 1 = nI (pre ++ w ++ [32]).length from by rw [show nI (pre.length + w.length) + 1 = nI (pre.length + w.length + 1) from qI_add _ 1]; congr 1; simp; omega]
      rw [hst]
      rcases e_isAt (Ms := Ms) (t := t) (x2 := x2) hn hs hp2 hx2 ht with ⟨a1, a2⟩ | ⟨a1, a2⟩
      · right
        refine ⟨i, Nat.le_refl _, hiW, ?_, by rw [hwd]; exact a1.1, by rw [hwd]; exact a1.2⟩
        rw [a2, bd_s, if_neg (by decide)]
      · rw [a2, bd_s, if_pos rfl]
        rcases ih f (i + 1) (pre ++ w ++ [32]) hdr (by rw [hp2]; simp) (by simp at hf; omega) (by omega) with ⟨b1, b2⟩ | ⟨k, b1, b2, b3, b4⟩
        · left
          refine ⟨b1, fun k x y => ?_⟩
          by_cases hki : k = i
          · rw [hki, hwd]; exact a1
          · exact b2 k (by omega) y
        · right; exact ⟨k, by omega, b2, b3, b4⟩
  unfold f_X11_among f_X11_among_0
  rcases loop W n 0 [32] rfl hS (by omega) (by omega) with ⟨b1, b2⟩ | ⟨k, b1, b2, b3, b4⟩
  · left; exact ⟨b1, fun k hk => b2 k (Nat.zero_le _) hk⟩
  · right; exact ⟨k, b2, b3, b4⟩
end
