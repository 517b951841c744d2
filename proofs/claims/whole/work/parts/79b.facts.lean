def LF : List Cond := flatC (Jvm.Cond.and given_1 narrow_1)
def tmS : Nat → Term := fun i => ([.string RX4 33, .string RX4 39, .string RX4 41, .string RX4 43, .string RX4 48, .string RX4 50, .string RX11 103, .string RX11 129] : List Term).getD i .null
def elS (i j : Nat) : Cond := Cond.eq (.elem (.field (tmS i) "java/lang/String" "value" "[B") (.int (Int32.ofNat j))) (.int ((bytS.getD i []).getD j 0))
set_option maxRecDepth 100000 in
theorem s_ex : ∀ i, i < 8 → Cond.exactly (tmS i) "java/lang/String" ∈ LF := by decide +kernel
set_option maxRecDepth 100000 in
theorem s_co : ∀ i, i < 8 → Cond.eq (.field (tmS i) "java/lang/String" "coder" "B") (.int 0) ∈ LF := by decide +kernel
set_option maxRecDepth 100000 in
theorem s_ar : ∀ i, i < 8 → Cond.arrayOf (.field (tmS i) "java/lang/String" "value" "[B") .byte ∈ LF := by decide +kernel
set_option maxRecDepth 100000 in
theorem s_le : ∀ i, i < 8 → Cond.eq (.length (.field (tmS i) "java/lang/String" "value" "[B")) (.int (Int32.ofNat (lenS.getD i 0))) ∈ LF := by decide +kernel
set_option maxRecDepth 100000 in
theorem s_ne : ∀ j, j < 8 → ∀ i, i < j → Cond.not (Cond.eq (tmS i) (tmS j)) ∈ LF := by decide +kernel
set_option maxRecDepth 100000 in
theorem s_run0 : (List.range 89).map (elS 0) = (LF.drop 75).take 89 := by decide +kernel
set_option maxRecDepth 100000 in
theorem s_run1 : (List.range 92).map (elS 1) = (LF.drop 168).take 92 := by decide +kernel
set_option maxRecDepth 100000 in
theorem s_run2 : (List.range 90).map (elS 2) = (LF.drop 265).take 90 := by decide +kernel
set_option maxRecDepth 100000 in
theorem s_run3 : (List.range 80).map (elS 3) = (LF.drop 361).take 80 := by decide +kernel
set_option maxRecDepth 100000 in
theorem s_run4 : (List.range 80).map (elS 4) = (LF.drop 448).take 80 := by decide +kernel
set_option maxRecDepth 100000 in
theorem s_run5 : (List.range 30).map (elS 5) = (LF.drop 536).take 30 := by decide +kernel
set_option maxRecDepth 100000 in
theorem s_run6 : (List.range 356).map (elS 6) = (LF.drop 575).take 356 := by decide +kernel
set_option maxRecDepth 100000 in
theorem s_run7 : (List.range 113).map (elS 7) = (LF.drop 941).take 113 := by decide +kernel
theorem s_el : ∀ i, i < 8 → ∀ j, j < lenS.getD i 0 → elS i j ∈ LF := by
  intro i hi
  rcases (show i = 0 ∨ i = 1 ∨ i = 2 ∨ i = 3 ∨ i = 4 ∨ i = 5 ∨ i = 6 ∨ i = 7 by omega) with rfl | rfl | rfl | rfl | rfl | rfl | rfl | rfl
  · exact fun j hj => va_run s_run0 j hj
  · exact fun j hj => va_run s_run1 j hj
  · exact fun j hj => va_run s_run2 j hj
  · exact fun j hj => va_run s_run3 j hj
  · exact fun j hj => va_run s_run4 j hj
  · exact fun j hj => va_run s_run5 j hj
  · exact fun j hj => va_run s_run6 j hj
  · exact fun j hj => va_run s_run7 j hj
theorem st_S {args : Array Value} {s : State} {A : Nat → Prop} (hts : ∀ w ∈ lw_tbl, w.before args s = true) (hgv : (Jvm.Cond.and given_1 narrow_1).before args s = true) (hA : ∀ a : Nat, a < s.heap.size → ¬ A a) : ∃ adK adV : Nat → Nat, vS adK adV A s s.heap := by
  have hs : ∀ w ∈ LF, w.before args s = true := flat_of_before _ hgv
  obtain ⟨adK, adV, hvk, had⟩ := vk_Sof (args := args) (s := s) (N := 8) (tm := tmS) (len := lenS) (byt := bytS) (A := A) (by decide +kernel) (fun i hi => hs _ (s_ex i hi)) (fun i hi => hs _ (s_co i hi)) (fun i hi => hs _ (s_ar i hi)) (fun i hi => hs _ (s_le i hi)) (fun i hi j hj => hs _ (s_el i hi j hj)) (fun i j hi hj hij => (Nat.lt_or_gt_of_ne hij).elim (fun h => Or.inl (hs _ (s_ne j hj i h))) (fun h => Or.inr (hs _ (s_ne i hi j h)))) hA
  refine ⟨adK, adV, hvk, va_Zof (hts (.laysStatic "java/lang/String" "COMPACT_STRINGS" "Z") (List.mem_append_right _ (List.mem_append_left _ (List.mem_of_getElem? (i := 139) rfl)))) (hts (.initialized "java/lang/String") (List.mem_append_right _ (List.mem_append_left _ (List.mem_of_getElem? (i := 7) rfl)))) (va_eqi (hs (Cond.eq (.static "java/lang/String" "COMPACT_STRINGS" "Z") (.int 1)) (by decide +kernel))) hA, va_Zqof (hts (.laysStatic "jdk/internal/util/Preconditions" "SIOOBE_FORMATTER" "Ljava/util/function/BiFunction;") (List.mem_append_right _ (List.mem_append_left _ (List.mem_of_getElem? (i := 155) rfl)))) (hts (.initialized "jdk/internal/util/Preconditions") (List.mem_append_right _ (List.mem_append_left _ (List.mem_of_getElem? (i := 9) rfl)))) (hs (Cond.isRef (.static "jdk/internal/util/Preconditions" "SIOOBE_FORMATTER" "Ljava/util/function/BiFunction;")) (by decide +kernel)) hA, ?_⟩
  intro i own k tx h
  simp only [refS, List.mem_cons, List.not_mem_nil, or_false, Prod.mk.injEq] at h
  rcases h with ⟨rfl, rfl, rfl, rfl⟩ | ⟨rfl, rfl, rfl, rfl⟩ | ⟨rfl, rfl, rfl, rfl⟩ | ⟨rfl, rfl, rfl, rfl⟩ | ⟨rfl, rfl, rfl, rfl⟩ | ⟨rfl, rfl, rfl, rfl⟩ | ⟨rfl, rfl, rfl, rfl⟩ | ⟨rfl, rfl, rfl, rfl⟩
  · exact vk_R.of (hts (.stringRef RX4 33 "abstract assert boolean break byte case catch char class const continue default do double") (List.mem_append_right _ (List.mem_append_left _ (List.mem_of_getElem? (i := 125) rfl)))) (had 0 (by decide))
  · exact vk_R.of (hts (.stringRef RX4 39 "else enum extends final finally float for goto if implements import instanceof int interface") (List.mem_append_right _ (List.mem_append_left _ (List.mem_of_getElem? (i := 182) rfl)))) (had 1 (by decide))
  · exact vk_R.of (hts (.stringRef RX4 41 "long native new package private protected public return short static strictfp super switch") (List.mem_append_right _ (List.mem_append_left _ (List.mem_of_getElem? (i := 183) rfl)))) (had 2 (by decide))
  · exact vk_R.of (hts (.stringRef RX4 43 "synchronized this throw throws transient try void volatile while true false null") (List.mem_append_right _ (List.mem_append_left _ (List.mem_of_getElem? (i := 184) rfl)))) (had 3 (by decide))
  · exact vk_R.of (hts (.stringRef RX4 48 "( ) { } [ ] ; , . ... @ :: = > < ! ~ ? : -> == <= != && || ++ -- + - * / & | ^ %") (List.mem_append_right _ (List.mem_append_left _ (List.mem_of_getElem? (i := 185) rfl)))) (had 4 (by decide))
  · exact vk_R.of (hts (.stringRef RX4 50 "<< += -= *= /= &= |= ^= %= <<=") (List.mem_append_right _ (List.mem_append_left _ (List.mem_of_getElem? (i := 186) rfl)))) (had 5 (by decide))
  · exact vk_R.of (hts (.stringRef RX11 103 " abstract assert boolean break byte case catch char class const continue default do double else enum extends final finally float for goto if implements import instanceof int interface long native new package private protected public return short static strictfp super switch synchronized this throw throws transient try void volatile while true false null ") (List.mem_append_right _ (List.mem_append_right _ (List.mem_append_right _ (List.mem_append_right _ (List.mem_append_right _ (List.mem_append_left _ (List.mem_of_getElem? (i := 45) rfl)))))))) (had 6 (by decide))
  · exact vk_R.of (hts (.stringRef RX11 129 " ( ) { } [ ] ; , . ... @ :: = > < ! ~ ? : -> == <= != && || ++ -- + - * / & | ^ % << += -= *= /= &= |= ^= %= <<= ") (List.mem_append_right _ (List.mem_append_right _ (List.mem_append_right _ (List.mem_append_right _ (List.mem_append_right _ (List.mem_append_left _ (List.mem_of_getElem? (i := 233) rfl)))))))) (had 7 (by decide))
theorem st_T {args : Array Value} {s : State} {A : Nat → Prop} (hts : ∀ w ∈ lw_tbl, w.before args s = true) (hgv : (Jvm.Cond.and given_1 narrow_1).before args s = true) (hA : ∀ a : Nat, a < s.heap.size → ¬ A a) : vT A s s.heap := by
  have hs : ∀ w ∈ LF, w.before args s = true := flat_of_before _ hgv
  exact ⟨vx_Zqof (hts _ (List.mem_append_right _ (by decide +kernel : Cond.laysStatic Bundle.tN "UNASSIGNED_STACK" Bundle.steD ∈ tables_1))) (hts _ (List.mem_append_right _ (by decide +kernel : Cond.initialized Bundle.tN ∈ tables_1))) (hs (Cond.isRef (.static Bundle.tN "UNASSIGNED_STACK" Bundle.steD)) (by decide +kernel)) hA, vx_Zqof (hts _ (List.mem_append_right _ (by decide +kernel : Cond.laysStatic Bundle.tN "SUPPRESSED_SENTINEL" Bundle.listD ∈ tables_1))) (hts _ (List.mem_append_right _ (by decide +kernel : Cond.initialized Bundle.tN ∈ tables_1))) (hs (Cond.isRef (.static Bundle.tN "SUPPRESSED_SENTINEL" Bundle.listD)) (by decide +kernel)) hA⟩
theorem st_N {args : Array Value} {s : State} (hts : ∀ w ∈ lw_tbl, w.before args s = true) : vN s := by
  intro w hw
  have h1 := hts w (nw_in w hw)
  rcases vN_form w hw with ⟨a, i, b, n, d, h', rfl⟩ | ⟨a, i, x, h', rfl⟩ | ⟨a, b, rfl⟩ | ⟨x, rfl⟩
  · exact va_Nw.of rfl h1
  · exact va_Nw.of rfl h1
  · exact va_Nw.of rfl h1
  · exact va_Nw.of rfl h1
theorem st_arr {args : Array Value} {s : State} {ty : FieldType} (h : (Cond.arrayClass ty).before args s = true) (hty : ∀ C, ty ≠ .object C) : ∃ cA : ClassId, ArrOfT s cA ty ∧ va_RA s cA ty := by
  obtain ⟨cA, kA, comp, h1, h2, h3⟩ := Cond.arrayClass_spec h
  refine ⟨cA, fun n z => ⟨fun k h => (by cases h), kA, h2, comp, h3⟩, ?_⟩
  cases ty <;> first | exact h1 | exact absurd rfl (hty _)
theorem st_K {args : Array Value} {s : State} (hts : ∀ w ∈ lw_tbl, w.before args s = true) : ∃ (dC : Nat → ClassId) (dI : Nat → Nat → Nat) (cyB cyC cyI cyJ cyZ : ClassId), va_K (dC, dI) vwCl (TY cyB cyC cyI cyJ cyZ) s := by
  obtain ⟨c0, iS0, hK0⟩ := u_known (C := RX0) (T := TX0) (N := 2) (n := 2) hts inX0 (hts (.instantiable RX0 2) (List.mem_append_right _ (List.mem_append_left _ (List.mem_of_getElem? (i := 194) rfl))))
  obtain ⟨c1, iS1, hK1⟩ := u_known (C := RX1) (T := TX1) (N := 4) (n := 4) hts inX1 (hts (.instantiable RX1 4) (List.mem_append_right _ (List.mem_append_left _ (List.mem_of_getElem? (i := 87) rfl))))
  obtain ⟨c2, iS2, hK2⟩ := u_known (C := RX2) (T := TX2) (N := 8) (n := 8) hts inX2 (hts (.instantiable RX2 8) (List.mem_append_right _ (List.mem_append_left _ (List.mem_of_getElem? (i := 188) rfl))))
  obtain ⟨c3, iS3, hK3⟩ := u_known (C := RX3) (T := TX3) (N := 3) (n := 3) hts inX3 (hts (.instantiable RX3 3) (List.mem_append_right _ (List.mem_append_right _ (List.mem_append_left _ (List.mem_of_getElem? (i := 10) rfl)))))
  obtain ⟨c4, iS4, hK4⟩ := u_known (C := RX4) (T := TX4) (N := 7) (n := 7) hts inX4 (hts (.instantiable RX4 7) (List.mem_append_right _ (List.mem_append_left _ (List.mem_of_getElem? (i := 81) rfl))))
  obtain ⟨c5, iS5, hK5⟩ := u_known (C := RX5) (T := TX5) (N := 3) (n := 3) hts inX5 (hts (.instantiable RX5 3) (List.mem_append_right _ (List.mem_append_left _ (List.mem_of_getElem? (i := 207) rfl))))
  obtain ⟨c6, iS6, hK6⟩ := u_known (C := RX6) (T := TX6) (N := 3) (n := 3) hts inX6 (hts (.instantiable RX6 3) (List.mem_append_right _ (List.mem_append_left _ (List.mem_of_getElem? (i := 37) rfl))))
  obtain ⟨c7, iS7, hK7⟩ := u_known (C := RX7) (T := TX7) (N := 3) (n := 3) hts inX7 (hts (.instantiable RX7 3) (List.mem_append_right _ (List.mem_append_left _ (List.mem_of_getElem? (i := 110) rfl))))
  obtain ⟨c8, iS8, hK8⟩ := u_known (C := RX8) (T := TX8) (N := 5) (n := 5) hts inX8 (hts (.instantiable RX8 5) (List.mem_append_right _ (List.mem_append_left _ (List.mem_of_getElem? (i := 56) rfl))))
  obtain ⟨c9, iS9, hK9⟩ := u_known (C := RX9) (T := TX9) (N := 8) (n := 8) hts inX9 (hts (.instantiable RX9 8) (List.mem_append_right _ (List.mem_append_left _ (List.mem_of_getElem? (i := 28) rfl))))
  obtain ⟨c10, iS10, hK10⟩ := u_known (C := RX10) (T := TX10) (N := 26) (n := 26) hts inX10 (hts (.instantiable RX10 26) (List.mem_append_right _ (List.mem_append_right _ (List.mem_append_right _ (List.mem_append_right _ (List.mem_append_left _ (List.mem_of_getElem? (i := 89) rfl)))))))
  obtain ⟨c11, iS11, hK11⟩ := u_known (C := RX11) (T := TX11) (N := 21) (n := 21) hts inX11 (hts (.instantiable RX11 21) (List.mem_append_right _ (List.mem_append_right _ (List.mem_append_right _ (List.mem_append_right _ (List.mem_append_left _ (List.mem_of_getElem? (i := 83) rfl)))))))
  obtain ⟨cyB, h1cyB, h2cyB⟩ := st_arr (hts (.arrayClass .byte) (List.mem_append_right _ (List.mem_append_left _ (List.mem_of_getElem? (i := 53) rfl)))) (fun _ h => by cases h)
  obtain ⟨cyC, h1cyC, h2cyC⟩ := st_arr (hts (.arrayClass .char) (List.mem_append_right _ (List.mem_append_left _ (List.mem_of_getElem? (i := 54) rfl)))) (fun _ h => by cases h)
  obtain ⟨cyI, h1cyI, h2cyI⟩ := st_arr (hts (.arrayClass .int) (List.mem_append_right _ (List.mem_append_left _ (List.mem_of_getElem? (i := 77) rfl)))) (fun _ h => by cases h)
  obtain ⟨cyJ, h1cyJ, h2cyJ⟩ := st_arr (hts (.arrayClass .long) (List.mem_append_right _ (List.mem_append_left _ (List.mem_of_getElem? (i := 79) rfl)))) (fun _ h => by cases h)
  obtain ⟨cyZ, h1cyZ, h2cyZ⟩ := st_arr (hts (.arrayClass .boolean) (List.mem_append_right _ (List.mem_append_left _ (List.mem_of_getElem? (i := 78) rfl)))) (fun _ h => by cases h)
  refine ⟨fun k => ([c0, c1, c2, c3, c4, c5, c6, c7, c8, c9, c10, c11] : List ClassId).getD k 0, fun k => ([iS0, iS1, iS2, iS3, iS4, iS5, iS6, iS7, iS8, iS9, iS10, iS11] : List (Nat → Nat)).getD k (fun _ => 0), cyB, cyC, cyI, cyJ, cyZ, ?_, ?_⟩
  · intro k q hq
    match k, hq with
    | 0, hq => cases hq; exact hK0
    | 1, hq => cases hq; exact hK1
    | 2, hq => cases hq; exact hK2
    | 3, hq => cases hq; exact hK3
    | 4, hq => cases hq; exact hK4
    | 5, hq => cases hq; exact hK5
    | 6, hq => cases hq; exact hK6
    | 7, hq => cases hq; exact hK7
    | 8, hq => cases hq; exact hK8
    | 9, hq => cases hq; exact hK9
    | 10, hq => cases hq; exact hK10
    | 11, hq => cases hq; exact hK11
    | k + 12, hq => simp [vwCl] at hq
  · intro k q hq
    match k, hq with
    | 0, hq => cases hq; exact ⟨h1cyB, h2cyB⟩
    | 1, hq => cases hq; exact ⟨h1cyC, h2cyC⟩
    | 2, hq => cases hq; exact ⟨h1cyI, h2cyI⟩
    | 3, hq => cases hq; exact ⟨h1cyJ, h2cyJ⟩
    | 4, hq => cases hq; exact ⟨h1cyZ, h2cyZ⟩
    | k + 5, hq => simp [TY] at hq
