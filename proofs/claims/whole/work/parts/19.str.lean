/-! STRINGS: the eight String constants by their places, and the JDK's members over them. -/
def lenS : List Nat := [89, 92, 90, 80, 80, 30, 356, 113]
def bytS : List (List Int32) := [[97, 98, 115, 116, 114, 97, 99, 116, 32, 97, 115, 115, 101, 114, 116, 32, 98, 111, 111, 108, 101, 97, 110, 32, 98, 114, 101, 97, 107, 32, 98, 121, 116, 101, 32, 99, 97, 115, 101, 32, 99, 97, 116, 99, 104, 32, 99, 104, 97, 114, 32, 99, 108, 97, 115, 115, 32, 99, 111, 110, 115, 116, 32, 99, 111, 110, 116, 105, 110, 117, 101, 32, 100, 101, 102, 97, 117, 108, 116, 32, 100, 111, 32, 100, 111, 117, 98, 108, 101],
  [101, 108, 115, 101, 32, 101, 110, 117, 109, 32, 101, 120, 116, 101, 110, 100, 115, 32, 102, 105, 110, 97, 108, 32, 102, 105, 110, 97, 108, 108, 121, 32, 102, 108, 111, 97, 116, 32, 102, 111, 114, 32, 103, 111, 116, 111, 32, 105, 102, 32, 105, 109, 112, 108, 101, 109, 101, 110, 116, 115, 32, 105, 109, 112, 111, 114, 116, 32, 105, 110, 115, 116, 97, 110, 99, 101, 111, 102, 32, 105, 110, 116, 32, 105, 110, 116, 101, 114, 102, 97, 99, 101],
  [108, 111, 110, 103, 32, 110, 97, 116, 105, 118, 101, 32, 110, 101, 119, 32, 112, 97, 99, 107, 97, 103, 101, 32, 112, 114, 105, 118, 97, 116, 101, 32, 112, 114, 111, 116, 101, 99, 116, 101, 100, 32, 112, 117, 98, 108, 105, 99, 32, 114, 101, 116, 117, 114, 110, 32, 115, 104, 111, 114, 116, 32, 115, 116, 97, 116, 105, 99, 32, 115, 116, 114, 105, 99, 116, 102, 112, 32, 115, 117, 112, 101, 114, 32, 115, 119, 105, 116, 99, 104],
  [115, 121, 110, 99, 104, 114, 111, 110, 105, 122, 101, 100, 32, 116, 104, 105, 115, 32, 116, 104, 114, 111, 119, 32, 116, 104, 114, 111, 119, 115, 32, 116, 114, 97, 110, 115, 105, 101, 110, 116, 32, 116, 114, 121, 32, 118, 111, 105, 100, 32, 118, 111, 108, 97, 116, 105, 108, 101, 32, 119, 104, 105, 108, 101, 32, 116, 114, 117, 101, 32, 102, 97, 108, 115, 101, 32, 110, 117, 108, 108],
  [40, 32, 41, 32, 123, 32, 125, 32, 91, 32, 93, 32, 59, 32, 44, 32, 46, 32, 46, 46, 46, 32, 64, 32, 58, 58, 32, 61, 32, 62, 32, 60, 32, 33, 32, 126, 32, 63, 32, 58, 32, 45, 62, 32, 61, 61, 32, 60, 61, 32, 33, 61, 32, 38, 38, 32, 124, 124, 32, 43, 43, 32, 45, 45, 32, 43, 32, 45, 32, 42, 32, 47, 32, 38, 32, 124, 32, 94, 32, 37],
  [60, 60, 32, 43, 61, 32, 45, 61, 32, 42, 61, 32, 47, 61, 32, 38, 61, 32, 124, 61, 32, 94, 61, 32, 37, 61, 32, 60, 60, 61],
  [32, 97, 98, 115, 116, 114, 97, 99, 116, 32, 97, 115, 115, 101, 114, 116, 32, 98, 111, 111, 108, 101, 97, 110, 32, 98, 114, 101, 97, 107, 32, 98, 121, 116, 101, 32, 99, 97, 115, 101, 32, 99, 97, 116, 99, 104, 32, 99, 104, 97, 114, 32, 99, 108, 97, 115, 115, 32, 99, 111, 110, 115, 116, 32, 99, 111, 110, 116, 105, 110, 117, 101, 32, 100, 101, 102, 97, 117, 108, 116, 32, 100, 111, 32, 100, 111, 117, 98, 108, 101, 32, 101, 108, 115, 101, 32, 101, 110, 117, 109, 32, 101, 120, 116, 101, 110, 100, 115, 32, 102, 105, 110, 97, 108, 32, 102, 105, 110, 97, 108, 108, 121, 32, 102, 108, 111, 97, 116, 32, 102, 111, 114, 32, 103, 111, 116, 111, 32, 105, 102, 32, 105, 109, 112, 108, 101, 109, 101, 110, 116, 115, 32, 105, 109, 112, 111, 114, 116, 32, 105, 110, 115, 116, 97, 110, 99, 101, 111, 102, 32, 105, 110, 116, 32, 105, 110, 116, 101, 114, 102, 97, 99, 101, 32, 108, 111, 110, 103, 32, 110, 97, 116, 105, 118, 101, 32, 110, 101, 119, 32, 112, 97, 99, 107, 97, 103, 101, 32, 112, 114, 105, 118, 97, 116, 101, 32, 112, 114, 111, 116, 101, 99, 116, 101, 100, 32, 112, 117, 98, 108, 105, 99, 32, 114, 101, 116, 117, 114, 110, 32, 115, 104, 111, 114, 116, 32, 115, 116, 97, 116, 105, 99, 32, 115, 116, 114, 105, 99, 116, 102, 112, 32, 115, 117, 112, 101, 114, 32, 115, 119, 105, 116, 99, 104, 32, 115, 121, 110, 99, 104, 114, 111, 110, 105, 122, 101, 100, 32, 116, 104, 105, 115, 32, 116, 104, 114, 111, 119, 32, 116, 104, 114, 111, 119, 115, 32, 116, 114, 97, 110, 115, 105, 101, 110, 116, 32, 116, 114, 121, 32, 118, 111, 105, 100, 32, 118, 111, 108, 97, 116, 105, 108, 101, 32, 119, 104, 105, 108, 101, 32, 116, 114, 117, 101, 32, 102, 97, 108, 115, 101, 32, 110, 117, 108, 108, 32],
  [32, 40, 32, 41, 32, 123, 32, 125, 32, 91, 32, 93, 32, 59, 32, 44, 32, 46, 32, 46, 46, 46, 32, 64, 32, 58, 58, 32, 61, 32, 62, 32, 60, 32, 33, 32, 126, 32, 63, 32, 58, 32, 45, 62, 32, 61, 61, 32, 60, 61, 32, 33, 61, 32, 38, 38, 32, 124, 124, 32, 43, 43, 32, 45, 45, 32, 43, 32, 45, 32, 42, 32, 47, 32, 38, 32, 124, 32, 94, 32, 37, 32, 60, 60, 32, 43, 61, 32, 45, 61, 32, 42, 61, 32, 47, 61, 32, 38, 61, 32, 124, 61, 32, 94, 61, 32, 37, 61, 32, 60, 60, 61, 32]]
/-- where the constants stand in the pools -/
def refS : List (Nat × String × Nat × String) := [(0, RX4, 33, "abstract assert boolean break byte case catch char class const continue default do double"), (1, RX4, 39, "else enum extends final finally float for goto if implements import instanceof int interface"), (2, RX4, 41, "long native new package private protected public return short static strictfp super switch"), (3, RX4, 43, "synchronized this throw throws transient try void volatile while true false null"), (4, RX4, 48, "( ) { } [ ] ; , . ... @ :: = > < ! ~ ? : -> == <= != && || ++ -- + - * / & | ^ %"), (5, RX4, 50, "<< += -= *= /= &= |= ^= %= <<="), (6, RX11, 103, " abstract assert boolean break byte case catch char class const continue default do double else enum extends final finally float for goto if implements import instanceof int interface long native new package private protected public return short static strictfp super switch synchronized this throw throws transient try void volatile while true false null "), (7, RX11, 129, " ( ) { } [ ] ; , . ... @ :: = > < ! ~ ? : -> == <= != && || ++ -- + - * / & | ^ % << += -= *= /= &= |= ^= %= <<= ")]
/-- what is known of them: the objects, COMPACT_STRINGS, the formatter (some reference or null), the pools' entries -/
def vS (adK adV : Nat → Nat) (A : Nat → Prop) (U : State) (H : Heap) : Prop := vk_S 8 lenS bytS adK adV A U H ∧ va_Z "java/lang/String" "COMPACT_STRINGS" "Z" (.int 1) A U H ∧ va_Zq "jdk/internal/util/Preconditions" "SIOOBE_FORMATTER" "Ljava/util/function/BiFunction;" A U H ∧ ∀ i own k tx, (i, own, k, tx) ∈ refS → vk_R own k tx (adK i) U
theorem vS_to {adK adV : Nat → Nat} {A B : Nat → Prop} {s U : State} {H : Heap} {locs : List Loc} (hE : vS adK adV A s s.heap) (hS : va_S A s.heap H locs) (hBA : ∀ q, B q → A q) (hU : U.heap = H) (hW : s.WarmedH U.vm) : vS adK adV B U U.heap := by
  obtain ⟨h1, h2, h3, h4⟩ := hE
  rw [hU]
  exact ⟨((vk_S.moved hW.alike h1).kept hS.2.1).narrow hBA, ((va_Z.moved hW.alike h2).kept hS.2.1).narrow hBA, ((va_Zq.moved hW.alike h3).kept hS.2.1).narrow hBA, fun i own k tx h => vk_R.warm hW (h4 i own k tx h)⟩
theorem vS_same {adK adV : Nat → Nat} {A : Nat → Prop} {u U : State} {H : Heap} (hv : u.vm = U.vm) (h : vS adK adV A u H) : vS adK adV A U H := by
  obtain ⟨h1, h2, h3, h4⟩ := h
  have ha : u.vm.Alike U.vm := by rw [hv]; exact Vm.Alike.refl _
  exact ⟨vk_S.moved ha h1, va_Z.moved ha h2, va_Zq.moved ha h3, fun i own k tx h => vk_R.same hv.symm (h4 i own k tx h)⟩
def Pros (adK adV : Nat → Nat) (D : va_G) (ty : List (ClassId × FieldType)) (av : List Value) (ws : va_W) : Array Value → State → Prop := va_Pc av (fun U => va_P D vwCl ws U.heap ∧ va_K D vwCl ty U ∧ vN U ∧ vS adK adV (fun _ => False) U U.heap)
def Prws (adK adV : Nat → Nat) (D : va_G) (ty : List (ClassId × FieldType)) (av : List Value) (sz : Nat) (ws : va_W) : Array Value → State → Prop := va_Pc av (fun U => U.heap.size = sz ∧ va_P D vwCl ws U.heap ∧ va_K D vwCl ty U ∧ va_D (fun _ => True) ws ∧ vN U ∧ vS adK adV (va_A ws sz) U U.heap)
theorem Pros_fb {adK adV : Nat → Nat} {D : va_G} {ty : List (ClassId × FieldType)} {av : List Value} {ws : va_W} : FrameBlind (Pros adK adV D ty av ws) := fun a U g mk q => by
  obtain ⟨q0, qP, qK, qN, qS⟩ := q
  exact ⟨q0, qP, va_K.moved (u := U) (U := U.calling g mk a) (Vm.Alike.refl U.vm) qK, vN_same (u := U) rfl qN, vS_same (u := U) rfl qS⟩
theorem Prws_fb {adK adV : Nat → Nat} {D : va_G} {ty : List (ClassId × FieldType)} {av : List Value} {sz : Nat} {ws : va_W} : FrameBlind (Prws adK adV D ty av sz ws) := fun a U g mk q => by
  obtain ⟨q0, q1, qP, qK, qD, qN, qS⟩ := q
  exact ⟨q0, q1, qP, va_K.moved (u := U) (U := U.calling g mk a) (Vm.Alike.refl U.vm) qK, qD, vN_same (u := U) rfl qN, vS_same (u := U) rfl qS⟩
theorem proVs {adK adV : Nat → Nat} {D : va_G} {ty : List (ClassId × FieldType)} {s : State} {H : Heap} {C : String} {b : Addr} {As : List Value} {ws : va_W} (hrec : ∃ cell : Cell, H[b]? = some cell ∧ cell.vm.isStatics = false ∧ s.vm.findClass C = some cell.cls) (hP : va_P D vwCl ws H) (hK : va_K D vwCl ty s) (hN : vN s) (hE : ∀ U : State, U.heap = H → s.WarmedH U.vm → vS adK adV (fun _ => False) U U.heap) : PreV s H C b (Pros adK adV D ty (.ref b :: As) ws) As :=
  ⟨Pros_fb, hrec, fun U hU hW => ⟨rfl, by rw [hU]; exact hP, va_K.moved hW.alike hK, vN_w hW hN, hE U hU hW⟩⟩
theorem proSs {adK adV : Nat → Nat} {D : va_G} {ty : List (ClassId × FieldType)} {s : State} {H : Heap} {As : List Value} {ws : va_W} (hP : va_P D vwCl ws H) (hK : va_K D vwCl ty s) (hN : vN s) (hE : ∀ U : State, U.heap = H → s.WarmedH U.vm → vS adK adV (fun _ => False) U U.heap) : PreS s H (Pros adK adV D ty As ws) As :=
  ⟨Pros_fb, fun U hU hW => ⟨rfl, by rw [hU]; exact hP, va_K.moved hW.alike hK, vN_w hW hN, hE U hU hW⟩⟩
theorem prwVs {adK adV : Nat → Nat} {D : va_G} {ty : List (ClassId × FieldType)} {A : Nat → Prop} {s : State} {H : Heap} {C : String} {b : Addr} {As : List Value} {ws : va_W} (hrec : ∃ cell : Cell, H[b]? = some cell ∧ cell.vm.isStatics = false ∧ s.vm.findClass C = some cell.cls) (hP : va_P D vwCl ws H) (hK : va_K D vwCl ty s) (hD : va_D A ws) (hN : vN s) (hE : ∀ U : State, U.heap = H → s.WarmedH U.vm → vS adK adV (va_A ws H.size) U U.heap) : PreV s H C b (Prws adK adV D ty (.ref b :: As) H.size ws) As :=
  ⟨Prws_fb, hrec, fun U hU hW => ⟨rfl, by rw [hU], by rw [hU]; exact hP, va_K.moved hW.alike hK, hD.weaken (fun _ _ _ _ => trivial), vN_w hW hN, hE U hU hW⟩⟩
/-- a char, a byte -/
def zc (x : Int32) : Bool := decide (vp_nar .char x = x)
theorem zc_n {x : Int32} (h : zc x = true) : narrow .char (.int x) = .int x := congrArg Value.int (of_decide_eq_true h : vp_nar .char x = x)
def zy (x : Int32) : Bool := decide (vp_nar .byte x = x)
theorem zy_n {x : Int32} (h : zy x = true) : narrow .byte (.int x) = .int x := congrArg Value.int (of_decide_eq_true h : vp_nar .byte x = x)
abbrev rm_J3_checkIndex_8e157 : Room := { frames := 0, cells := 0, slots := 0, locals := 0 }
set_option maxHeartbeats 4000000 in
theorem m_J3_checkIndex_8e157 (l : Launch) (D : va_G) (ty : List (ClassId × FieldType)) (p0 p1 : Int32) (v : Value) (hv : v = .null ∨ ∃ a, v = .ref a) (h0 : ¬ p0 < 0) (h1 : p0 < p1) : Met l yJ3_checkIndex_8e157 wsJ3_checkIndex_8e157 rm_J3_checkIndex_8e157 (Pro D ty [.int p0, .int p1, v] []) (vp_Si (fun r => r = p0)) 0 0 (fun _ => False) := by
  refine Met.ofW (cc := cJ3_checkIndex_8e157) (maxL := 3) (ret := (some .int)) (by decide) rfl ?_
  intro p e s m args below meth c s₁ B hml hq
  obtain ⟨rfl, hP, hK, hN⟩ := hq
  have hx := B.exec
  have hb := B.bytes
  have hr := B.returns
  have hlocks := B.notSynchronized
  rcases hv with rfl | ⟨a, rfl⟩
  · have hl := lv_entry ([.int p0, .int p1, .null]) (n := 3) (Nat.le_of_ble_eq_true rfl)
    rw [lg_entry_eq]
    generalize (lg_sl ([.int p0, .int p1, .null]) ++ List.replicate (3 - (lg_sl ([.int p0, .int p1, .null])).length) Slot.unset).toArray = ls at hl ⊢
    have hl : lv_has ls 3 [(0, .int p0), (1, .int p1), (2, .null)] := hl
    refine lv_iload_n hx hb dJ3_checkIndex_8e157_0 rfl (lv_at hl 0 rfl) ?_
    refine lv_if_lt (tgt := 9) hx hb dJ3_checkIndex_8e157_1 (by decide) (fun hc => absurd hc h0) (fun hc => ?_)
    refine lv_iload_n hx hb dJ3_checkIndex_8e157_4 rfl (lv_at hl 0 rfl) ?_
    refine lv_iload_n hx hb dJ3_checkIndex_8e157_5 rfl (lv_at hl 1 rfl) ?_
    refine lv_icmp_lt (tgt := 16) hx hb dJ3_checkIndex_8e157_6 (by decide) (fun hc => ?_) (fun hc => absurd h1 hc)
    refine lv_iload_n hx hb dJ3_checkIndex_8e157_16 rfl (lv_at hl 0 rfl) ?_
    exact W.iret (v := p0) hx hb hr (fun t ht hW => ⟨_, rfl, rfl, ht⟩) (fun _ h => nomatch h) dJ3_checkIndex_8e157_17
  · have hl := lv_entry ([.int p0, .int p1, .ref a]) (n := 3) (Nat.le_of_ble_eq_true rfl)
    rw [lg_entry_eq]
    generalize (lg_sl ([.int p0, .int p1, .ref a]) ++ List.replicate (3 - (lg_sl ([.int p0, .int p1, .ref a])).length) Slot.unset).toArray = ls at hl ⊢
    have hl : lv_has ls 3 [(0, .int p0), (1, .int p1), (2, .ref a)] := hl
    refine lv_iload_n hx hb dJ3_checkIndex_8e157_0 rfl (lv_at hl 0 rfl) ?_
    refine lv_if_lt (tgt := 9) hx hb dJ3_checkIndex_8e157_1 (by decide) (fun hc => absurd hc h0) (fun hc => ?_)
    refine lv_iload_n hx hb dJ3_checkIndex_8e157_4 rfl (lv_at hl 0 rfl) ?_
    refine lv_iload_n hx hb dJ3_checkIndex_8e157_5 rfl (lv_at hl 1 rfl) ?_
    refine lv_icmp_lt (tgt := 16) hx hb dJ3_checkIndex_8e157_6 (by decide) (fun hc => ?_) (fun hc => absurd h1 hc)
    refine lv_iload_n hx hb dJ3_checkIndex_8e157_16 rfl (lv_at hl 0 rfl) ?_
    exact W.iret (v := p0) hx hb hr (fun t ht hW => ⟨_, rfl, rfl, ht⟩) (fun _ h => nomatch h) dJ3_checkIndex_8e157_17
abbrev rm_J0_checkIndex_df160 : Room := { frames := 1, cells := 0, slots := 0, locals := 22 }
def f_J0_checkIndex_df160 (n : Nat) (p0 p1 : Int32) : Option Unit := gu (decide (¬ p0 < 0) && decide (p0 < p1)) (some ())
set_option maxHeartbeats 4000000 in
theorem m_J0_checkIndex_df160 (l : Launch) (dC : Nat → ClassId) (dI : Nat → Nat → Nat) (cyB cyC cyI cyJ cyZ : ClassId) (adK adV : Nat → Nat) (p0 p1 : Int32) (n : Nat) (out : Unit) (hf : f_J0_checkIndex_df160 n p0 p1 = some out) : Met l yJ0_checkIndex_df160 wsJ0_checkIndex_df160 rm_J0_checkIndex_df160 (Pros adK adV (dC, dI) (TY cyB cyC cyI cyJ cyZ) [.int p0, .int p1] []) (va_Sv (fun _ => True)) 0 0 (fun _ => False) := by
  obtain ⟨hg, -⟩ := gu_ok hf
  rw [Bool.and_eq_true, decide_eq_true_eq, decide_eq_true_eq] at hg
  obtain ⟨h0, h1⟩ := hg
  refine Met.ofW (cc := cJ0_checkIndex_df160) (maxL := 2) (ret := none) (by decide) rfl ?_
  intro p e s m args below meth c s₁ B hml hq
  obtain ⟨rfl, hP, hK, hN, hE⟩ := hq
  have hx := B.exec
  have hb := B.bytes
  have hr := B.returns
  have hlocks := B.notSynchronized
  have hown : s.vm.findClass RJ0 = some m.cls := findClass_of_methodNamed B.named
  have hts := atoms_spec (ws := wsJ0_checkIndex_df160) B.pre
  have hl := lv_entry ([.int p0, .int p1]) (n := 2) (Nat.le_of_ble_eq_true rfl)
  rw [lg_entry_eq]
  generalize (lg_sl ([.int p0, .int p1]) ++ List.replicate (2 - (lg_sl ([.int p0, .int p1])).length) Slot.unset).toArray = ls at hl ⊢
  have hl : lv_has ls 2 [(0, .int p0), (1, .int p1)] := hl
  refine lv_iload_n hx hb dJ0_checkIndex_df160_0 rfl (lv_at hl 0 rfl) ?_
  refine lv_iload_n hx hb dJ0_checkIndex_df160_1 rfl (lv_at hl 1 rfl) ?_
  have key : ∀ v : Value, (v = .null ∨ ∃ a, v = .ref a) → va_Z "jdk/internal/util/Preconditions" "SIOOBE_FORMATTER" "Ljava/util/function/BiFunction;" v (fun _ => False) s s.heap → W p l e rm_J0_checkIndex_df160 s m ([.int p0, .int p1] : List Value).toArray below meth c s.heap [] 0 0 (MQ below (va_Sv (fun _ => True)) ([.int p0, .int p1] : List Value).toArray s 0 0 (fun _ => False)) (F0 m 2 ls [.int p1, .int p0]) := by
    intro v hv hz
    refine va_gets hx hb hz va_S.rf hown (hts (.fieldLink RJ0 1053 "jdk/internal/util/Preconditions" "SIOOBE_FORMATTER" "Ljava/util/function/BiFunction;") (List.mem_of_getElem? (i := 1) rfl)) (fun _ h9 => h9) dJ0_checkIndex_df160_2 ?_
    refine vp_callSi (va_Run.run (va_runS (As := [.int p0, .int p1, v]) (rest := []) ⟨hx, hb, hml, hown, hts⟩ (m_J3_checkIndex_8e157 l (dC, dI) (TY cyB cyC cyI cyJ cyZ) p0 p1 v hv h0 h1) (va_cwS 3 hts gJ0_checkIndex_df160_J3_checkIndex_8e157 rfl rfl rfl (by decide +kernel) ⟨Nat.le_of_ble_eq_true rfl, Nat.le_of_ble_eq_true rfl⟩) (proS hP hK hN) rfl rfl hl.1 rfl (lv_room (Nat.le_of_ble_eq_true rfl)) dJ0_checkIndex_df160_5 ⟨Nat.le_of_ble_eq_true rfl, Nat.le_of_ble_eq_true rfl⟩)) (fun r9 hr9 => ?_)
    refine lv_pop hx hb dJ0_checkIndex_df160_8 rfl ?_
    exact W.vret hx hb hr (fun t ht hW => ⟨rfl, trivial, ht⟩) (fun _ h => nomatch h) dJ0_checkIndex_df160_9
  rcases hE.2.2.1 with hz | ⟨t9, hz⟩
  · exact key .null (Or.inl rfl) hz
  · exact key (.ref t9) (Or.inr ⟨t9, rfl⟩) hz
abbrev rm_J1_canEncode_9a6ad : Room := { frames := 0, cells := 0, slots := 0, locals := 0 }
def J_J1_canEncode_9a6ad_0 (p : Program) (l : Launch) (e : Env) (s : State) (m : MethodId) (args : Array Value) (below : List Frame) (meth : Method) (c : Code) (dC : Nat → ClassId) (dI : Nat → Nat → Nat) (cyB cyC cyI cyJ cyZ : ClassId) (out : Int32) (g : Int32 → Option (Int32)) : Prop := ∀ (x0 : Int32), g x0 = some out → ∀ ls : Array Slot, lv_has ls 1 [(0, .int x0)] → W p l e rm_J1_canEncode_9a6ad s m args below meth c s.heap [] 0 0 (MQ below (vp_Si (fun r => r = out)) args s 0 0 (fun _ => False)) (F0 m 0 ls [])
def f_J1_canEncode_9a6ad_0 (n : Nat) (x0 : Int32) : Option (Int32) :=
  if x0 < 0 then
  (some (0 : Int32))
  else
  (if (255 : Int32) < x0 then
  (some (0 : Int32))
  else
  (some (1 : Int32)))
set_option maxHeartbeats 4000000 in
set_option maxRecDepth 100000 in
theorem k_J1_canEncode_9a6ad_0 {p : Program} {l : Launch} {e : Env} {s : State} {m : MethodId} {args : Array Value} {below : List Frame} {meth : Method} {c : Code} {dC : Nat → ClassId} {dI : Nat → Nat → Nat} {cyB cyC cyI cyJ cyZ : ClassId} {out : Int32} (CX : cx cJ1_canEncode_9a6ad (some .boolean) 1 RJ1 wsJ1_canEncode_9a6ad (dC, dI) (TY cyB cyC cyI cyJ cyZ) p s m args meth c) (hP : va_P (dC, dI) vwCl [] s.heap) (n : Nat) : J_J1_canEncode_9a6ad_0 p l e s m args below meth c dC dI cyB cyC cyI cyJ cyZ out (f_J1_canEncode_9a6ad_0 n) := by
  intro x0 hf ls hl
  obtain ⟨hx, hb, hr, hml, hown, hts, hlocks, hK, hN⟩ := id CX
  unfold f_J1_canEncode_9a6ad_0 at hf
  refine lv_iload_n hx hb dJ1_canEncode_9a6ad_0 rfl (lv_at hl 0 rfl) ?_
  refine lv_if_lt (tgt := 15) hx hb dJ1_canEncode_9a6ad_1 (by decide) (fun hc => ?_) (fun hc => ?_)
  · have hf := (if_pos hc).symm.trans hf
    refine lv_iconst (v := (0 : Int32)) hx hb dJ1_canEncode_9a6ad_15 (by decide) ?_
    exact W.zret (v := (0 : Int32)) (ty := .boolean) hx hb hr rfl (fun t ht hW => ⟨_, rfl, Option.some.inj hf, ht⟩) (fun _ h => nomatch h) dJ1_canEncode_9a6ad_16
  · have hf := (if_neg hc).symm.trans hf
    refine lv_iload_n hx hb dJ1_canEncode_9a6ad_4 rfl (lv_at hl 0 rfl) ?_
    refine lv_sipush (v := (255 : Int32)) hx hb dJ1_canEncode_9a6ad_5 (by decide) ?_
    refine lv_icmp_gt (tgt := 15) hx hb dJ1_canEncode_9a6ad_8 (by decide) (fun hc => ?_) (fun hc => ?_)
    · have hf := (if_pos hc).symm.trans hf
      refine lv_iconst (v := (0 : Int32)) hx hb dJ1_canEncode_9a6ad_15 (by decide) ?_
      exact W.zret (v := (0 : Int32)) (ty := .boolean) hx hb hr rfl (fun t ht hW => ⟨_, rfl, Option.some.inj hf, ht⟩) (fun _ h => nomatch h) dJ1_canEncode_9a6ad_16
    · have hf := (if_neg hc).symm.trans hf
      refine lv_iconst (v := (1 : Int32)) hx hb dJ1_canEncode_9a6ad_11 (by decide) ?_
      refine lv_goto (tgt := 16) hx hb dJ1_canEncode_9a6ad_12 (by decide) ?_
      exact W.zret (v := (1 : Int32)) (ty := .boolean) hx hb hr rfl (fun t ht hW => ⟨_, rfl, Option.some.inj hf, ht⟩) (fun _ h => nomatch h) dJ1_canEncode_9a6ad_16
def f_J1_canEncode_9a6ad (n : Nat) (p0 : Int32) : Option (Int32) := f_J1_canEncode_9a6ad_0 n p0
set_option maxHeartbeats 4000000 in
set_option maxRecDepth 100000 in
/-- java/lang/StringLatin1.canEncode(I)Z -/
theorem m_J1_canEncode_9a6ad (l : Launch) (dC : Nat → ClassId) (dI : Nat → Nat → Nat) (cyB cyC cyI cyJ cyZ : ClassId) (p0 : Int32) (n : Nat) (out : Int32) (hf : f_J1_canEncode_9a6ad n p0 = some out) : Met l yJ1_canEncode_9a6ad wsJ1_canEncode_9a6ad rm_J1_canEncode_9a6ad (Pro (dC, dI) (TY cyB cyC cyI cyJ cyZ) [.int p0] []) (vp_Si (fun r => r = out)) 0 0 (fun _ => False) := by
  refine Met.ofW (cc := cJ1_canEncode_9a6ad) (maxL := 1) (ret := (some .boolean)) (by decide) rfl ?_
  intro p e s m args below meth c s₁ B hml hv
  obtain ⟨rfl, hP, hK, hN⟩ := hv
  have CX : cx cJ1_canEncode_9a6ad (some .boolean) 1 RJ1 wsJ1_canEncode_9a6ad (dC, dI) (TY cyB cyC cyI cyJ cyZ) p s m ([.int p0] : List Value).toArray meth c := ⟨B.exec, B.bytes, B.returns, hml, findClass_of_methodNamed B.named, atoms_spec (ws := wsJ1_canEncode_9a6ad) B.pre, B.notSynchronized, hK, hN⟩
  have hl := lv_entry ([.int p0]) (n := 1) (Nat.le_of_ble_eq_true rfl)
  rw [lg_entry_eq]
  exact k_J1_canEncode_9a6ad_0 CX hP n _ hf _ hl
abbrev rm_J0_coder_7d493 : Room := { frames := 0, cells := 0, slots := 0, locals := 0 }
def J_J0_coder_7d493_0 (p : Program) (l : Launch) (e : Env) (s : State) (m : MethodId) (args : Array Value) (below : List Frame) (meth : Method) (c : Code) (dC : Nat → ClassId) (dI : Nat → Nat → Nat) (cyB cyC cyI cyJ cyZ : ClassId) (adK adV : Nat → Nat) (s0 : Nat) (out : Int32) (g : Option (Int32)) : Prop := g = some out → ∀ ls : Array Slot, lv_has ls 1 [(0, .ref (adK s0))] → W p l e rm_J0_coder_7d493 s m args below meth c s.heap [] 0 0 (MQ below (vp_Si (fun r => r = out)) args s 0 0 (fun _ => False)) (F0 m 0 ls [])
def f_J0_coder_7d493_0 (n : Nat) (s0 : Nat) : Option (Int32) :=
  if (1 : Int32) = 0 then
  (gu (zy (1 : Int32)) (
  some (1 : Int32)))
  else
  (gu (decide (s0 < 8)) (
  gu (zy (0 : Int32)) (
  some (0 : Int32))))
set_option maxHeartbeats 4000000 in
set_option maxRecDepth 100000 in
theorem k_J0_coder_7d493_0 {p : Program} {l : Launch} {e : Env} {s : State} {m : MethodId} {args : Array Value} {below : List Frame} {meth : Method} {c : Code} {dC : Nat → ClassId} {dI : Nat → Nat → Nat} {cyB cyC cyI cyJ cyZ : ClassId} {adK adV : Nat → Nat} {s0 : Nat} {out : Int32} (CX : cx cJ0_coder_7d493 (some .byte) 1 RJ0 wsJ0_coder_7d493 (dC, dI) (TY cyB cyC cyI cyJ cyZ) p s m args meth c) (hP : va_P (dC, dI) vwCl [] s.heap) (hE : vS adK adV (fun _ => False) s s.heap) (n : Nat) : J_J0_coder_7d493_0 p l e s m args below meth c dC dI cyB cyC cyI cyJ cyZ adK adV s0 out (f_J0_coder_7d493_0 n s0) := by
  intro hf ls hl
  obtain ⟨hx, hb, hr, hml, hown, hts, hlocks, hK, hN⟩ := id CX
  unfold f_J0_coder_7d493_0 at hf
  refine va_gets hx hb hE.2.1 va_S.rf hown (hts (.fieldLink RJ0 38 "java/lang/String" "COMPACT_STRINGS" "Z") (List.mem_of_getElem? (i := 1) rfl)) (fun _ h9 => h9) dJ0_coder_7d493_0 ?_
  refine lv_if_eq (tgt := 13) hx hb dJ0_coder_7d493_3 (by decide) (fun hc => ?_) (fun hc => ?_)
  · have hf := (if_pos hc).symm.trans hf
    refine lv_iconst (v := (1 : Int32)) hx hb dJ0_coder_7d493_13 (by decide) ?_
    obtain ⟨hg, hf⟩ := gu_ok hf
    exact W.zret (v := (1 : Int32)) (ty := .byte) hx hb hr (zy_n hg) (fun t ht hW => ⟨_, rfl, Option.some.inj hf, ht⟩) (fun _ h => nomatch h) dJ0_coder_7d493_14
  · have hf := (if_neg hc).symm.trans hf
    refine lv_aload_n hx hb dJ0_coder_7d493_6 rfl (lv_at hl 0 rfl) ?_
    obtain ⟨hg, hf⟩ := gu_ok hf
    refine vk_getf hx hb (hE.1.1 s0 (of_decide_eq_true hg)).2.1 va_S.rf hown (hts (.fieldLink RJ0 15 "java/lang/String" "coder" "B") (List.mem_of_getElem? (i := 2) rfl)) (fun _ h9 => h9) dJ0_coder_7d493_7 ?_
    refine lv_goto (tgt := 14) hx hb dJ0_coder_7d493_10 (by decide) ?_
    obtain ⟨hg, hf⟩ := gu_ok hf
    exact W.zret (v := (0 : Int32)) (ty := .byte) hx hb hr (zy_n hg) (fun t ht hW => ⟨_, rfl, Option.some.inj hf, ht⟩) (fun _ h => nomatch h) dJ0_coder_7d493_14
def f_J0_coder_7d493 (n : Nat) (s0 : Nat) : Option (Int32) := f_J0_coder_7d493_0 n s0 
set_option maxHeartbeats 4000000 in
set_option maxRecDepth 100000 in
/-- java/lang/String.coder()B -/
theorem m_J0_coder_7d493 (l : Launch) (dC : Nat → ClassId) (dI : Nat → Nat → Nat) (cyB cyC cyI cyJ cyZ : ClassId) (adK adV : Nat → Nat) (s0 : Nat) (n : Nat) (out : Int32) (hf : f_J0_coder_7d493 n s0 = some out) : Met l yJ0_coder_7d493 wsJ0_coder_7d493 rm_J0_coder_7d493 (Pros adK adV (dC, dI) (TY cyB cyC cyI cyJ cyZ) [.ref (adK s0)] []) (vp_Si (fun r => r = out)) 0 0 (fun _ => False) := by
  refine Met.ofW (cc := cJ0_coder_7d493) (maxL := 1) (ret := (some .byte)) (by decide) rfl ?_
  intro p e s m args below meth c s₁ B hml hv
  obtain ⟨rfl, hP, hK, hN, hE⟩ := hv
  have CX : cx cJ0_coder_7d493 (some .byte) 1 RJ0 wsJ0_coder_7d493 (dC, dI) (TY cyB cyC cyI cyJ cyZ) p s m ([.ref (adK s0)] : List Value).toArray meth c := ⟨B.exec, B.bytes, B.returns, hml, findClass_of_methodNamed B.named, atoms_spec (ws := wsJ0_coder_7d493) B.pre, B.notSynchronized, hK, hN⟩
  have hl := lv_entry ([.ref (adK s0)]) (n := 1) (Nat.le_of_ble_eq_true rfl)
  rw [lg_entry_eq]
  exact k_J0_coder_7d493_0 CX hP hE n  hf _ hl
abbrev rm_J0_isLatin1_aae02 : Room := { frames := 0, cells := 0, slots := 0, locals := 0 }
def J_J0_isLatin1_aae02_0 (p : Program) (l : Launch) (e : Env) (s : State) (m : MethodId) (args : Array Value) (below : List Frame) (meth : Method) (c : Code) (dC : Nat → ClassId) (dI : Nat → Nat → Nat) (cyB cyC cyI cyJ cyZ : ClassId) (adK adV : Nat → Nat) (s0 : Nat) (out : Int32) (g : Option (Int32)) : Prop := g = some out → ∀ ls : Array Slot, lv_has ls 1 [(0, .ref (adK s0))] → W p l e rm_J0_isLatin1_aae02 s m args below meth c s.heap [] 0 0 (MQ below (vp_Si (fun r => r = out)) args s 0 0 (fun _ => False)) (F0 m 0 ls [])
def f_J0_isLatin1_aae02_0 (n : Nat) (s0 : Nat) : Option (Int32) :=
  if (1 : Int32) = 0 then
  (some (0 : Int32))
  else
  (gu (decide (s0 < 8)) (
  if (0 : Int32) = 0 then
  (some (1 : Int32))
  else
  (some (0 : Int32))))
set_option maxHeartbeats 4000000 in
set_option maxRecDepth 100000 in
theorem k_J0_isLatin1_aae02_0 {p : Program} {l : Launch} {e : Env} {s : State} {m : MethodId} {args : Array Value} {below : List Frame} {meth : Method} {c : Code} {dC : Nat → ClassId} {dI : Nat → Nat → Nat} {cyB cyC cyI cyJ cyZ : ClassId} {adK adV : Nat → Nat} {s0 : Nat} {out : Int32} (CX : cx cJ0_isLatin1_aae02 (some .boolean) 1 RJ0 wsJ0_isLatin1_aae02 (dC, dI) (TY cyB cyC cyI cyJ cyZ) p s m args meth c) (hP : va_P (dC, dI) vwCl [] s.heap) (hE : vS adK adV (fun _ => False) s s.heap) (n : Nat) : J_J0_isLatin1_aae02_0 p l e s m args below meth c dC dI cyB cyC cyI cyJ cyZ adK adV s0 out (f_J0_isLatin1_aae02_0 n s0) := by
  intro hf ls hl
  obtain ⟨hx, hb, hr, hml, hown, hts, hlocks, hK, hN⟩ := id CX
  unfold f_J0_isLatin1_aae02_0 at hf
  refine va_gets hx hb hE.2.1 va_S.rf hown (hts (.fieldLink RJ0 38 "java/lang/String" "COMPACT_STRINGS" "Z") (List.mem_of_getElem? (i := 1) rfl)) (fun _ h9 => h9) dJ0_isLatin1_aae02_0 ?_
  refine lv_if_eq (tgt := 17) hx hb dJ0_isLatin1_aae02_3 (by decide) (fun hc => ?_) (fun hc => ?_)
  · have hf := (if_pos hc).symm.trans hf
    refine lv_iconst (v := (0 : Int32)) hx hb dJ0_isLatin1_aae02_17 (by decide) ?_
    exact W.zret (v := (0 : Int32)) (ty := .boolean) hx hb hr rfl (fun t ht hW => ⟨_, rfl, Option.some.inj hf, ht⟩) (fun _ h => nomatch h) dJ0_isLatin1_aae02_18
  · have hf := (if_neg hc).symm.trans hf
    refine lv_aload_n hx hb dJ0_isLatin1_aae02_6 rfl (lv_at hl 0 rfl) ?_
    obtain ⟨hg, hf⟩ := gu_ok hf
    refine vk_getf hx hb (hE.1.1 s0 (of_decide_eq_true hg)).2.1 va_S.rf hown (hts (.fieldLink RJ0 15 "java/lang/String" "coder" "B") (List.mem_of_getElem? (i := 2) rfl)) (fun _ h9 => h9) dJ0_isLatin1_aae02_7 ?_
    refine lv_if_ne (tgt := 17) hx hb dJ0_isLatin1_aae02_10 (by decide) (fun hc => ?_) (fun hc => ?_)
    · have hf := (if_neg hc).symm.trans hf
      refine lv_iconst (v := (0 : Int32)) hx hb dJ0_isLatin1_aae02_17 (by decide) ?_
      exact W.zret (v := (0 : Int32)) (ty := .boolean) hx hb hr rfl (fun t ht hW => ⟨_, rfl, Option.some.inj hf, ht⟩) (fun _ h => nomatch h) dJ0_isLatin1_aae02_18
    · have hf := (if_pos hc).symm.trans hf
      refine lv_iconst (v := (1 : Int32)) hx hb dJ0_isLatin1_aae02_13 (by decide) ?_
      refine lv_goto (tgt := 18) hx hb dJ0_isLatin1_aae02_14 (by decide) ?_
      exact W.zret (v := (1 : Int32)) (ty := .boolean) hx hb hr rfl (fun t ht hW => ⟨_, rfl, Option.some.inj hf, ht⟩) (fun _ h => nomatch h) dJ0_isLatin1_aae02_18
def f_J0_isLatin1_aae02 (n : Nat) (s0 : Nat) : Option (Int32) := f_J0_isLatin1_aae02_0 n s0 
set_option maxHeartbeats 4000000 in
set_option maxRecDepth 100000 in
/-- java/lang/String.isLatin1()Z -/
theorem m_J0_isLatin1_aae02 (l : Launch) (dC : Nat → ClassId) (dI : Nat → Nat → Nat) (cyB cyC cyI cyJ cyZ : ClassId) (adK adV : Nat → Nat) (s0 : Nat) (n : Nat) (out : Int32) (hf : f_J0_isLatin1_aae02 n s0 = some out) : Met l yJ0_isLatin1_aae02 wsJ0_isLatin1_aae02 rm_J0_isLatin1_aae02 (Pros adK adV (dC, dI) (TY cyB cyC cyI cyJ cyZ) [.ref (adK s0)] []) (vp_Si (fun r => r = out)) 0 0 (fun _ => False) := by
  refine Met.ofW (cc := cJ0_isLatin1_aae02) (maxL := 1) (ret := (some .boolean)) (by decide) rfl ?_
  intro p e s m args below meth c s₁ B hml hv
  obtain ⟨rfl, hP, hK, hN, hE⟩ := hv
  have CX : cx cJ0_isLatin1_aae02 (some .boolean) 1 RJ0 wsJ0_isLatin1_aae02 (dC, dI) (TY cyB cyC cyI cyJ cyZ) p s m ([.ref (adK s0)] : List Value).toArray meth c := ⟨B.exec, B.bytes, B.returns, hml, findClass_of_methodNamed B.named, atoms_spec (ws := wsJ0_isLatin1_aae02) B.pre, B.notSynchronized, hK, hN⟩
  have hl := lv_entry ([.ref (adK s0)]) (n := 1) (Nat.le_of_ble_eq_true rfl)
  rw [lg_entry_eq]
  exact k_J0_isLatin1_aae02_0 CX hP hE n  hf _ hl
abbrev rm_J0_length_8abf5 : Room := { frames := 1, cells := 0, slots := 0, locals := 20 }
def J_J0_length_8abf5_0 (p : Program) (l : Launch) (e : Env) (s : State) (m : MethodId) (args : Array Value) (below : List Frame) (meth : Method) (c : Code) (dC : Nat → ClassId) (dI : Nat → Nat → Nat) (cyB cyC cyI cyJ cyZ : ClassId) (adK adV : Nat → Nat) (s0 : Nat) (out : Int32) (g : Option (Int32)) : Prop := g = some out → ∀ ls : Array Slot, lv_has ls 1 [(0, .ref (adK s0))] → W p l e rm_J0_length_8abf5 s m args below meth c s.heap [] 0 0 (MQ below (vp_Si (fun r => r = out)) args s 0 0 (fun _ => False)) (F0 m 0 ls [])
def f_J0_length_8abf5_0 (n : Nat) (s0 : Nat) : Option (Int32) :=
  gu (decide (s0 < 8)) (
  gu (decide (s0 < 8)) (
  gu (decide (s0 < 8)) (
  bd (f_J0_coder_7d493 n s0  ) fun o1 =>
  some ((nI (lenS.getD s0 0)) >>> (o1 &&& 31)))))
set_option maxHeartbeats 4000000 in
set_option maxRecDepth 100000 in
theorem k_J0_length_8abf5_0 {p : Program} {l : Launch} {e : Env} {s : State} {m : MethodId} {args : Array Value} {below : List Frame} {meth : Method} {c : Code} {dC : Nat → ClassId} {dI : Nat → Nat → Nat} {cyB cyC cyI cyJ cyZ : ClassId} {adK adV : Nat → Nat} {s0 : Nat} {out : Int32} (CX : cx cJ0_length_8abf5 (some .int) 1 RJ0 wsJ0_length_8abf5 (dC, dI) (TY cyB cyC cyI cyJ cyZ) p s m args meth c) (hP : va_P (dC, dI) vwCl [] s.heap) (hE : vS adK adV (fun _ => False) s s.heap) (n : Nat) : J_J0_length_8abf5_0 p l e s m args below meth c dC dI cyB cyC cyI cyJ cyZ adK adV s0 out (f_J0_length_8abf5_0 n s0) := by
  intro hf ls hl
  obtain ⟨hx, hb, hr, hml, hown, hts, hlocks, hK, hN⟩ := id CX
  unfold f_J0_length_8abf5_0 at hf
  refine lv_aload_n hx hb dJ0_length_8abf5_0 rfl (lv_at hl 0 rfl) ?_
  obtain ⟨hg, hf⟩ := gu_ok hf
  refine vk_getf hx hb (hE.1.1 s0 (of_decide_eq_true hg)).2.2.1 va_S.rf hown (hts (.fieldLink RJ0 9 "java/lang/String" "value" "[B") (List.mem_of_getElem? (i := 1) rfl)) (fun _ h9 => h9) dJ0_length_8abf5_1 ?_
  obtain ⟨hg, hf⟩ := gu_ok hf
  refine va_tlen hx hb (hE.1.1 s0 (of_decide_eq_true hg)).2.2.2 va_S.rf (v := nI (lenS.getD s0 0)) rfl dJ0_length_8abf5_4 ?_
  refine lv_aload_n hx hb dJ0_length_8abf5_5 rfl (lv_at hl 0 rfl) ?_
  obtain ⟨hgr, hf⟩ := gu_ok hf
  obtain ⟨z1, hz1, hf⟩ := bd_ok hf
  have hPc := hP.sub (ws' := []) [] rfl
  refine vp_callSi (va_Run.run (va_runV (As := []) (rest := [.int (nI (lenS.getD s0 0))]) ⟨hx, hb, hml, hown, hts⟩ (m_J0_coder_7d493 l dC dI cyB cyC cyI cyJ cyZ  adK adV s0   n z1 hz1) (cwV 0 hts gJ0_length_8abf5_J0_coder_7d493 rfl rfl rfl (by decide +kernel) ⟨Nat.le_of_ble_eq_true rfl, Nat.le_of_ble_eq_true rfl⟩) (proVs (vk_recv hE.1 (of_decide_eq_true hgr) va_S.rf) hPc hK hN (fun U hU hW => vS_to hE va_S.rf (fun _ h => h.elim) hU hW)) rfl rfl hl.1 rfl (lv_room (Nat.le_of_ble_eq_true rfl)) dJ0_length_8abf5_6 ⟨Nat.le_of_ble_eq_true rfl, Nat.le_of_ble_eq_true rfl⟩)) (fun o1 hr9 => ?_)
  subst hr9
  refine lv_ishr hx hb dJ0_length_8abf5_9 ?_
  exact W.iret (v := (nI (lenS.getD s0 0)) >>> (o1 &&& 31)) hx hb hr (fun t ht hW => ⟨_, rfl, Option.some.inj hf, ht⟩) (fun _ h => nomatch h) dJ0_length_8abf5_10
def f_J0_length_8abf5 (n : Nat) (s0 : Nat) : Option (Int32) := f_J0_length_8abf5_0 n s0 
set_option maxHeartbeats 4000000 in
set_option maxRecDepth 100000 in
/-- java/lang/String.length()I -/
theorem m_J0_length_8abf5 (l : Launch) (dC : Nat → ClassId) (dI : Nat → Nat → Nat) (cyB cyC cyI cyJ cyZ : ClassId) (adK adV : Nat → Nat) (s0 : Nat) (n : Nat) (out : Int32) (hf : f_J0_length_8abf5 n s0 = some out) : Met l yJ0_length_8abf5 wsJ0_length_8abf5 rm_J0_length_8abf5 (Pros adK adV (dC, dI) (TY cyB cyC cyI cyJ cyZ) [.ref (adK s0)] []) (vp_Si (fun r => r = out)) 0 0 (fun _ => False) := by
  refine Met.ofW (cc := cJ0_length_8abf5) (maxL := 1) (ret := (some .int)) (by decide) rfl ?_
  intro p e s m args below meth c s₁ B hml hv
  obtain ⟨rfl, hP, hK, hN, hE⟩ := hv
  have CX : cx cJ0_length_8abf5 (some .int) 1 RJ0 wsJ0_length_8abf5 (dC, dI) (TY cyB cyC cyI cyJ cyZ) p s m ([.ref (adK s0)] : List Value).toArray meth c := ⟨B.exec, B.bytes, B.returns, hml, findClass_of_methodNamed B.named, atoms_spec (ws := wsJ0_length_8abf5) B.pre, B.notSynchronized, hK, hN⟩
  have hl := lv_entry ([.ref (adK s0)]) (n := 1) (Nat.le_of_ble_eq_true rfl)
  rw [lg_entry_eq]
  exact k_J0_length_8abf5_0 CX hP hE n  hf _ hl
abbrev rm_J1_charAt_3b067 : Room := { frames := 2, cells := 0, slots := 0, locals := 43 }
def J_J1_charAt_3b067_0 (p : Program) (l : Launch) (e : Env) (s : State) (m : MethodId) (args : Array Value) (below : List Frame) (meth : Method) (c : Code) (dC : Nat → ClassId) (dI : Nat → Nat → Nat) (cyB cyC cyI cyJ cyZ : ClassId) (adK adV : Nat → Nat) (s0 : Nat) (out : Int32) (g : Int32 → Option (Int32)) : Prop := ∀ (x1 : Int32), g x1 = some out → ∀ ls : Array Slot, lv_has ls 2 [(0, .ref (adV s0)), (1, .int x1)] → W p l e rm_J1_charAt_3b067 s m args below meth c s.heap [] 0 0 (MQ below (vp_Si (fun r => r = out)) args s 0 0 (fun _ => False)) (F0 m 0 ls [])
def f_J1_charAt_3b067_0 (n : Nat) (s0 : Nat) (x1 : Int32) : Option (Int32) :=
  gu (decide (s0 < 8)) (
  bd (f_J0_checkIndex_df160 n  x1 (nI (lenS.getD s0 0)) ) fun o1 =>
  gu (decide (s0 < 8)) (gu (gd x1 (lenS.getD s0 0)) (
  gu (zc (((((bytS.getD s0 []).getD (x1).toNatClampNeg 0) &&& (255 : Int32)).toUInt32 % 65536).toInt32)) (
  some (((((bytS.getD s0 []).getD (x1).toNatClampNeg 0) &&& (255 : Int32)).toUInt32 % 65536).toInt32)))))
set_option maxHeartbeats 4000000 in
set_option maxRecDepth 100000 in
theorem k_J1_charAt_3b067_0 {p : Program} {l : Launch} {e : Env} {s : State} {m : MethodId} {args : Array Value} {below : List Frame} {meth : Method} {c : Code} {dC : Nat → ClassId} {dI : Nat → Nat → Nat} {cyB cyC cyI cyJ cyZ : ClassId} {adK adV : Nat → Nat} {s0 : Nat} {out : Int32} (CX : cx cJ1_charAt_3b067 (some .char) 2 RJ1 wsJ1_charAt_3b067 (dC, dI) (TY cyB cyC cyI cyJ cyZ) p s m args meth c) (hP : va_P (dC, dI) vwCl [] s.heap) (hE : vS adK adV (fun _ => False) s s.heap) (n : Nat) : J_J1_charAt_3b067_0 p l e s m args below meth c dC dI cyB cyC cyI cyJ cyZ adK adV s0 out (f_J1_charAt_3b067_0 n s0) := by
  intro x1 hf ls hl
  obtain ⟨hx, hb, hr, hml, hown, hts, hlocks, hK, hN⟩ := id CX
  unfold f_J1_charAt_3b067_0 at hf
  refine lv_iload_n hx hb dJ1_charAt_3b067_0 rfl (lv_at hl 1 rfl) ?_
  refine lv_aload_n hx hb dJ1_charAt_3b067_1 rfl (lv_at hl 0 rfl) ?_
  obtain ⟨hg, hf⟩ := gu_ok hf
  refine va_tlen hx hb (hE.1.1 s0 (of_decide_eq_true hg)).2.2.2 va_S.rf (v := nI (lenS.getD s0 0)) rfl dJ1_charAt_3b067_2 ?_
  obtain ⟨z1, hz1, hf⟩ := bd_ok hf
  have hPc := hP.sub (ws' := []) [] rfl
  refine va_csv (va_Run.run (va_runS (As := [.int x1, .int (nI (lenS.getD s0 0))]) (rest := []) ⟨hx, hb, hml, hown, hts⟩ (m_J0_checkIndex_df160 l dC dI cyB cyC cyI cyJ cyZ  adK adV  x1 (nI (lenS.getD s0 0))  n z1 hz1) (va_cwS 2 hts gJ1_charAt_3b067_J0_checkIndex_df160 rfl rfl rfl (by decide +kernel) ⟨Nat.le_of_ble_eq_true rfl, Nat.le_of_ble_eq_true rfl⟩) (proSs hPc hK hN (fun U hU hW => vS_to hE va_S.rf (fun _ h => h.elim) hU hW)) rfl rfl hl.1 rfl (lv_room (Nat.le_of_ble_eq_true rfl)) dJ1_charAt_3b067_3 ⟨Nat.le_of_ble_eq_true rfl, Nat.le_of_ble_eq_true rfl⟩)) (fun _ => ?_)
  refine lv_aload_n hx hb dJ1_charAt_3b067_6 rfl (lv_at hl 0 rfl) ?_
  refine lv_iload_n hx hb dJ1_charAt_3b067_7 rfl (lv_at hl 1 rfl) ?_
  obtain ⟨hg, hf⟩ := gu_ok hf
  obtain ⟨hg2, hf⟩ := gu_ok hf
  refine va_tb hx hb (hE.1.1 s0 (of_decide_eq_true hg)).2.2.2 va_S.rf (gd_in hg2) rfl dJ1_charAt_3b067_8 ?_
  refine lv_sipush (v := (255 : Int32)) hx hb dJ1_charAt_3b067_9 (by decide) ?_
  refine lv_iand hx hb dJ1_charAt_3b067_12 ?_
  refine lv_i2c (v := ((((bytS.getD s0 []).getD (x1).toNatClampNeg 0) &&& (255 : Int32)).toUInt32 % 65536).toInt32) hx hb dJ1_charAt_3b067_13 rfl ?_
  obtain ⟨hg, hf⟩ := gu_ok hf
  exact W.zret (v := ((((bytS.getD s0 []).getD (x1).toNatClampNeg 0) &&& (255 : Int32)).toUInt32 % 65536).toInt32) (ty := .char) hx hb hr (zc_n hg) (fun t ht hW => ⟨_, rfl, Option.some.inj hf, ht⟩) (fun _ h => nomatch h) dJ1_charAt_3b067_14
def f_J1_charAt_3b067 (n : Nat) (s0 : Nat) (p1 : Int32) : Option (Int32) := f_J1_charAt_3b067_0 n s0 p1
set_option maxHeartbeats 4000000 in
set_option maxRecDepth 100000 in
/-- java/lang/StringLatin1.charAt([BI)C -/
theorem m_J1_charAt_3b067 (l : Launch) (dC : Nat → ClassId) (dI : Nat → Nat → Nat) (cyB cyC cyI cyJ cyZ : ClassId) (adK adV : Nat → Nat) (s0 : Nat) (p1 : Int32) (n : Nat) (out : Int32) (hf : f_J1_charAt_3b067 n s0 p1 = some out) : Met l yJ1_charAt_3b067 wsJ1_charAt_3b067 rm_J1_charAt_3b067 (Pros adK adV (dC, dI) (TY cyB cyC cyI cyJ cyZ) [.ref (adV s0), .int p1] []) (vp_Si (fun r => r = out)) 0 0 (fun _ => False) := by
  refine Met.ofW (cc := cJ1_charAt_3b067) (maxL := 2) (ret := (some .char)) (by decide) rfl ?_
  intro p e s m args below meth c s₁ B hml hv
  obtain ⟨rfl, hP, hK, hN, hE⟩ := hv
  have CX : cx cJ1_charAt_3b067 (some .char) 2 RJ1 wsJ1_charAt_3b067 (dC, dI) (TY cyB cyC cyI cyJ cyZ) p s m ([.ref (adV s0), .int p1] : List Value).toArray meth c := ⟨B.exec, B.bytes, B.returns, hml, findClass_of_methodNamed B.named, atoms_spec (ws := wsJ1_charAt_3b067) B.pre, B.notSynchronized, hK, hN⟩
  have hl := lv_entry ([.ref (adV s0), .int p1]) (n := 2) (Nat.le_of_ble_eq_true rfl)
  rw [lg_entry_eq]
  exact k_J1_charAt_3b067_0 CX hP hE n _ hf _ hl
abbrev rm_J0_charAt_5068e : Room := { frames := 3, cells := 0, slots := 0, locals := 64 }
def J_J0_charAt_5068e_0 (p : Program) (l : Launch) (e : Env) (s : State) (m : MethodId) (args : Array Value) (below : List Frame) (meth : Method) (c : Code) (dC : Nat → ClassId) (dI : Nat → Nat → Nat) (cyB cyC cyI cyJ cyZ : ClassId) (adK adV : Nat → Nat) (s0 : Nat) (out : Int32) (g : Int32 → Option (Int32)) : Prop := ∀ (x1 : Int32), g x1 = some out → ∀ ls : Array Slot, lv_has ls 2 [(0, .ref (adK s0)), (1, .int x1)] → W p l e rm_J0_charAt_5068e s m args below meth c s.heap [] 0 0 (MQ below (vp_Si (fun r => r = out)) args s 0 0 (fun _ => False)) (F0 m 0 ls [])
def f_J0_charAt_5068e_0 (n : Nat) (s0 : Nat) (x1 : Int32) : Option (Int32) :=
  gu (decide (s0 < 8)) (
  bd (f_J0_isLatin1_aae02 n s0  ) fun o1 =>
  if o1 = 0 then
  (none)
  else
  (gu (decide (s0 < 8)) (
  bd (f_J1_charAt_3b067 n s0 x1 ) fun o2 =>
  gu (zc o2) (
  some o2))))
set_option maxHeartbeats 4000000 in
set_option maxRecDepth 100000 in
theorem k_J0_charAt_5068e_0 {p : Program} {l : Launch} {e : Env} {s : State} {m : MethodId} {args : Array Value} {below : List Frame} {meth : Method} {c : Code} {dC : Nat → ClassId} {dI : Nat → Nat → Nat} {cyB cyC cyI cyJ cyZ : ClassId} {adK adV : Nat → Nat} {s0 : Nat} {out : Int32} (CX : cx cJ0_charAt_5068e (some .char) 2 RJ0 wsJ0_charAt_5068e (dC, dI) (TY cyB cyC cyI cyJ cyZ) p s m args meth c) (hP : va_P (dC, dI) vwCl [] s.heap) (hE : vS adK adV (fun _ => False) s s.heap) (n : Nat) : J_J0_charAt_5068e_0 p l e s m args below meth c dC dI cyB cyC cyI cyJ cyZ adK adV s0 out (f_J0_charAt_5068e_0 n s0) := by
  intro x1 hf ls hl
  obtain ⟨hx, hb, hr, hml, hown, hts, hlocks, hK, hN⟩ := id CX
  unfold f_J0_charAt_5068e_0 at hf
  refine lv_aload_n hx hb dJ0_charAt_5068e_0 rfl (lv_at hl 0 rfl) ?_
  obtain ⟨hgr, hf⟩ := gu_ok hf
  obtain ⟨z1, hz1, hf⟩ := bd_ok hf
  have hPc := hP.sub (ws' := []) [] rfl
  refine vp_callSi (va_Run.run (va_runV (As := []) (rest := []) ⟨hx, hb, hml, hown, hts⟩ (m_J0_isLatin1_aae02 l dC dI cyB cyC cyI cyJ cyZ  adK adV s0   n z1 hz1) (cwV 0 hts gJ0_charAt_5068e_J0_isLatin1_aae02 rfl rfl rfl (by decide +kernel) ⟨Nat.le_of_ble_eq_true rfl, Nat.le_of_ble_eq_true rfl⟩) (proVs (vk_recv hE.1 (of_decide_eq_true hgr) va_S.rf) hPc hK hN (fun U hU hW => vS_to hE va_S.rf (fun _ h => h.elim) hU hW)) rfl rfl hl.1 rfl (lv_room (Nat.le_of_ble_eq_true rfl)) dJ0_charAt_5068e_1 ⟨Nat.le_of_ble_eq_true rfl, Nat.le_of_ble_eq_true rfl⟩)) (fun o1 hr9 => ?_)
  subst hr9
  refine lv_if_eq (tgt := 16) hx hb dJ0_charAt_5068e_4 (by decide) (fun hc => ?_) (fun hc => ?_)
  · have hf := (if_pos hc).symm.trans hf
    exact absurd hf (by simp)
  · have hf := (if_neg hc).symm.trans hf
    refine lv_aload_n hx hb dJ0_charAt_5068e_7 rfl (lv_at hl 0 rfl) ?_
    obtain ⟨hg, hf⟩ := gu_ok hf
    refine vk_getf hx hb (hE.1.1 s0 (of_decide_eq_true hg)).2.2.1 va_S.rf hown (hts (.fieldLink RJ0 9 "java/lang/String" "value" "[B") (List.mem_of_getElem? (i := 1) rfl)) (fun _ h9 => h9) dJ0_charAt_5068e_8 ?_
    refine lv_iload_n hx hb dJ0_charAt_5068e_11 rfl (lv_at hl 1 rfl) ?_
    obtain ⟨z2, hz2, hf⟩ := bd_ok hf
    have hPc := hP.sub (ws' := []) [] rfl
    refine vp_callSi (va_Run.run (va_runS (As := [.ref (adV s0), .int x1]) (rest := []) ⟨hx, hb, hml, hown, hts⟩ (m_J1_charAt_3b067 l dC dI cyB cyC cyI cyJ cyZ  adK adV s0 x1  n z2 hz2) (va_cwS 2 hts gJ0_charAt_5068e_J1_charAt_3b067 rfl rfl rfl (by decide +kernel) ⟨Nat.le_of_ble_eq_true rfl, Nat.le_of_ble_eq_true rfl⟩) (proSs hPc hK hN (fun U hU hW => vS_to hE va_S.rf (fun _ h => h.elim) hU hW)) rfl rfl hl.1 rfl (lv_room (Nat.le_of_ble_eq_true rfl)) dJ0_charAt_5068e_12 ⟨Nat.le_of_ble_eq_true rfl, Nat.le_of_ble_eq_true rfl⟩)) (fun o2 hr9 => ?_)
    subst hr9
    obtain ⟨hg, hf⟩ := gu_ok hf
    exact W.zret (v := o2) (ty := .char) hx hb hr (zc_n hg) (fun t ht hW => ⟨_, rfl, Option.some.inj hf, ht⟩) (fun _ h => nomatch h) dJ0_charAt_5068e_15
def f_J0_charAt_5068e (n : Nat) (s0 : Nat) (p1 : Int32) : Option (Int32) := f_J0_charAt_5068e_0 n s0 p1
set_option maxHeartbeats 4000000 in
set_option maxRecDepth 100000 in
/-- java/lang/String.charAt(I)C -/
theorem m_J0_charAt_5068e (l : Launch) (dC : Nat → ClassId) (dI : Nat → Nat → Nat) (cyB cyC cyI cyJ cyZ : ClassId) (adK adV : Nat → Nat) (s0 : Nat) (p1 : Int32) (n : Nat) (out : Int32) (hf : f_J0_charAt_5068e n s0 p1 = some out) : Met l yJ0_charAt_5068e wsJ0_charAt_5068e rm_J0_charAt_5068e (Pros adK adV (dC, dI) (TY cyB cyC cyI cyJ cyZ) [.ref (adK s0), .int p1] []) (vp_Si (fun r => r = out)) 0 0 (fun _ => False) := by
  refine Met.ofW (cc := cJ0_charAt_5068e) (maxL := 2) (ret := (some .char)) (by decide) rfl ?_
  intro p e s m args below meth c s₁ B hml hv
  obtain ⟨rfl, hP, hK, hN, hE⟩ := hv
  have CX : cx cJ0_charAt_5068e (some .char) 2 RJ0 wsJ0_charAt_5068e (dC, dI) (TY cyB cyC cyI cyJ cyZ) p s m ([.ref (adK s0), .int p1] : List Value).toArray meth c := ⟨B.exec, B.bytes, B.returns, hml, findClass_of_methodNamed B.named, atoms_spec (ws := wsJ0_charAt_5068e) B.pre, B.notSynchronized, hK, hN⟩
  have hl := lv_entry ([.ref (adK s0), .int p1]) (n := 2) (Nat.le_of_ble_eq_true rfl)
  rw [lg_entry_eq]
  exact k_J0_charAt_5068e_0 CX hP hE n _ hf _ hl
abbrev rm_J1_indexOfChar_4cfef : Room := { frames := 0, cells := 0, slots := 0, locals := 0 }
def J_J1_indexOfChar_4cfef_7 (p : Program) (l : Launch) (e : Env) (s : State) (m : MethodId) (args : Array Value) (below : List Frame) (meth : Method) (c : Code) (dC : Nat → ClassId) (dI : Nat → Nat → Nat) (cyB cyC cyI cyJ cyZ : ClassId) (adK adV : Nat → Nat) (s0 : Nat) (out : Int32) (g : Int32 → Int32 → Int32 → Option (Int32)) : Prop := ∀ (x3 : Int32) (x4 : Int32) (x5 : Int32), g x3 x4 x5 = some out → ∀ ls : Array Slot, lv_has ls 6 [(0, .ref (adV s0)), (3, .int x3), (4, .int x4), (5, .int x5)] → W p l e rm_J1_indexOfChar_4cfef s m args below meth c s.heap [] 0 0 (MQ below (vp_Si (fun r => r = out)) args s 0 0 (fun _ => False)) (F0 m 7 ls [])
def J_J1_indexOfChar_4cfef_0 (p : Program) (l : Launch) (e : Env) (s : State) (m : MethodId) (args : Array Value) (below : List Frame) (meth : Method) (c : Code) (dC : Nat → ClassId) (dI : Nat → Nat → Nat) (cyB cyC cyI cyJ cyZ : ClassId) (adK adV : Nat → Nat) (s0 : Nat) (out : Int32) (g : Int32 → Int32 → Int32 → Option (Int32)) : Prop := ∀ (x1 : Int32) (x2 : Int32) (x3 : Int32), g x1 x2 x3 = some out → ∀ ls : Array Slot, lv_has ls 6 [(0, .ref (adV s0)), (1, .int x1), (2, .int x2), (3, .int x3)] → W p l e rm_J1_indexOfChar_4cfef s m args below meth c s.heap [] 0 0 (MQ below (vp_Si (fun r => r = out)) args s 0 0 (fun _ => False)) (F0 m 0 ls [])
def fb_J1_indexOfChar_4cfef_7 (n : Nat) (r7 : Int32 → Int32 → Int32 → Option (Int32)) (s0 : Nat) (x3 : Int32) (x4 : Int32) (x5 : Int32) : Option (Int32) :=
  if x3 ≤ x5 then
  (some (-1 : Int32))
  else
  (gu (decide (s0 < 8)) (gu (gd x5 (lenS.getD s0 0)) (
  if ((bytS.getD s0 []).getD (x5).toNatClampNeg 0) = x4 then
  (some x5)
  else
  (lt_ (x5 + (1 : Int32)) fun y1 =>
  r7 x3 x4 y1))))
set_option maxHeartbeats 4000000 in
set_option maxRecDepth 100000 in
theorem kb_J1_indexOfChar_4cfef_7 {p : Program} {l : Launch} {e : Env} {s : State} {m : MethodId} {args : Array Value} {below : List Frame} {meth : Method} {c : Code} {dC : Nat → ClassId} {dI : Nat → Nat → Nat} {cyB cyC cyI cyJ cyZ : ClassId} {adK adV : Nat → Nat} {s0 : Nat} {out : Int32} (CX : cx cJ1_indexOfChar_4cfef (some .int) 6 RJ1 wsJ1_indexOfChar_4cfef (dC, dI) (TY cyB cyC cyI cyJ cyZ) p s m args meth c) (hP : va_P (dC, dI) vwCl [] s.heap) (hE : vS adK adV (fun _ => False) s s.heap) (n : Nat) {r7 : Int32 → Int32 → Int32 → Option (Int32)} (hr7 : J_J1_indexOfChar_4cfef_7 p l e s m args below meth c dC dI cyB cyC cyI cyJ cyZ adK adV s0 out r7) : J_J1_indexOfChar_4cfef_7 p l e s m args below meth c dC dI cyB cyC cyI cyJ cyZ adK adV s0 out (fb_J1_indexOfChar_4cfef_7 n r7 s0) := by
  intro x3 x4 x5 hf ls hl
  obtain ⟨hx, hb, hr, hml, hown, hts, hlocks, hK, hN⟩ := id CX
  unfold fb_J1_indexOfChar_4cfef_7 at hf
  refine lv_iload hx hb dJ1_indexOfChar_4cfef_7 (lv_at hl 3 rfl) ?_
  refine lv_iload_n hx hb dJ1_indexOfChar_4cfef_9 rfl (lv_at hl 1 rfl) ?_
  refine lv_icmp_ge (tgt := 31) hx hb dJ1_indexOfChar_4cfef_10 (by decide) (fun hc => ?_) (fun hc => ?_)
  · have hf := (if_pos hc).symm.trans hf
    refine lv_iconst (v := (-1 : Int32)) hx hb dJ1_indexOfChar_4cfef_31 (by decide) ?_
    exact W.iret (v := (-1 : Int32)) hx hb hr (fun t ht hW => ⟨_, rfl, Option.some.inj hf, ht⟩) (fun _ h => nomatch h) dJ1_indexOfChar_4cfef_32
  · have hf := (if_neg hc).symm.trans hf
    refine lv_aload_n hx hb dJ1_indexOfChar_4cfef_13 rfl (lv_at hl 0 rfl) ?_
    refine lv_iload hx hb dJ1_indexOfChar_4cfef_14 (lv_at hl 3 rfl) ?_
    obtain ⟨hg, hf⟩ := gu_ok hf
    obtain ⟨hg2, hf⟩ := gu_ok hf
    refine va_tb hx hb (hE.1.1 s0 (of_decide_eq_true hg)).2.2.2 va_S.rf (gd_in hg2) rfl dJ1_indexOfChar_4cfef_16 ?_
    refine lv_iload hx hb dJ1_indexOfChar_4cfef_17 (lv_at hl 2 rfl) ?_
    refine lv_icmp_ne (tgt := 25) hx hb dJ1_indexOfChar_4cfef_19 (by decide) (fun hc => ?_) (fun hc => ?_)
    · have hf := (if_neg hc).symm.trans hf
      obtain ⟨y1, ey1⟩ : ∃ y : Int32, y = x5 + (1 : Int32) := ⟨_, rfl⟩
      have hf := lt_ok hf y1 ey1
      refine lv_iinc (v := y1) (lv' := [(5, .int y1), (0, .ref (adV s0)), (3, .int x3), (4, .int x4)]) hx hb dJ1_indexOfChar_4cfef_25 hl (k := 3) rfl (by rw [ey1]; rfl) (by decide) rfl (fun ls hl => ?_)
      refine lv_goto (tgt := 7) hx hb dJ1_indexOfChar_4cfef_28 (by decide) ?_
      exact hr7 _ _ _ hf ls (lv_sub hl [1, 2, 3, 0] rfl)
    · have hf := (if_pos hc).symm.trans hf
      refine lv_iload hx hb dJ1_indexOfChar_4cfef_22 (lv_at hl 3 rfl) ?_
      exact W.iret (v := x5) hx hb hr (fun t ht hW => ⟨_, rfl, Option.some.inj hf, ht⟩) (fun _ h => nomatch h) dJ1_indexOfChar_4cfef_24
def f_J1_indexOfChar_4cfef_7 (n : Nat) (s0 : Nat) : Nat → Int32 → Int32 → Int32 → Option (Int32)
  | 0 => fun _ _ _ => none
  | k + 1 => fun x3 x4 x5 => fb_J1_indexOfChar_4cfef_7 n (f_J1_indexOfChar_4cfef_7 n s0 k) s0 x3 x4 x5
set_option maxHeartbeats 4000000 in
set_option maxRecDepth 100000 in
theorem k_J1_indexOfChar_4cfef_7 {p : Program} {l : Launch} {e : Env} {s : State} {m : MethodId} {args : Array Value} {below : List Frame} {meth : Method} {c : Code} {dC : Nat → ClassId} {dI : Nat → Nat → Nat} {cyB cyC cyI cyJ cyZ : ClassId} {adK adV : Nat → Nat} {s0 : Nat} {out : Int32} (CX : cx cJ1_indexOfChar_4cfef (some .int) 6 RJ1 wsJ1_indexOfChar_4cfef (dC, dI) (TY cyB cyC cyI cyJ cyZ) p s m args meth c) (hP : va_P (dC, dI) vwCl [] s.heap) (hE : vS adK adV (fun _ => False) s s.heap) (n : Nat) : ∀ k : Nat, J_J1_indexOfChar_4cfef_7 p l e s m args below meth c dC dI cyB cyC cyI cyJ cyZ adK adV s0 out (f_J1_indexOfChar_4cfef_7 n s0 k) := by
  intro k
  induction k with
  | zero =>
    intro x3 x4 x5 hf
    exact absurd (show (none : Option (Int32)) = some out from hf) (by simp)
  | succ k ih =>
    exact kb_J1_indexOfChar_4cfef_7 CX hP hE n ih
def f_J1_indexOfChar_4cfef_0 (n : Nat) (s0 : Nat) (x1 : Int32) (x2 : Int32) (x3 : Int32) : Option (Int32) :=
  f_J1_indexOfChar_4cfef_7 n s0 n x3 x1.toInt8.toInt32 x2
set_option maxHeartbeats 4000000 in
set_option maxRecDepth 100000 in
theorem k_J1_indexOfChar_4cfef_0 {p : Program} {l : Launch} {e : Env} {s : State} {m : MethodId} {args : Array Value} {below : List Frame} {meth : Method} {c : Code} {dC : Nat → ClassId} {dI : Nat → Nat → Nat} {cyB cyC cyI cyJ cyZ : ClassId} {adK adV : Nat → Nat} {s0 : Nat} {out : Int32} (CX : cx cJ1_indexOfChar_4cfef (some .int) 6 RJ1 wsJ1_indexOfChar_4cfef (dC, dI) (TY cyB cyC cyI cyJ cyZ) p s m args meth c) (hP : va_P (dC, dI) vwCl [] s.heap) (hE : vS adK adV (fun _ => False) s s.heap) (n : Nat) : J_J1_indexOfChar_4cfef_0 p l e s m args below meth c dC dI cyB cyC cyI cyJ cyZ adK adV s0 out (f_J1_indexOfChar_4cfef_0 n s0) := by
  intro x1 x2 x3 hf ls hl
  obtain ⟨hx, hb, hr, hml, hown, hts, hlocks, hK, hN⟩ := id CX
  unfold f_J1_indexOfChar_4cfef_0 at hf
  refine lv_iload_n hx hb dJ1_indexOfChar_4cfef_0 rfl (lv_at hl 1 rfl) ?_
  refine lv_i2b (v := x1.toInt8.toInt32) hx hb dJ1_indexOfChar_4cfef_1 rfl ?_
  refine lv_istore (lv' := [(4, .int x1.toInt8.toInt32), (0, .ref (adV s0)), (1, .int x1), (2, .int x2), (3, .int x3)]) hx hb dJ1_indexOfChar_4cfef_2 hl (by decide) rfl (fun ls hl => ?_)
  refine lv_iload_n hx hb dJ1_indexOfChar_4cfef_4 rfl (lv_at hl 3 rfl) ?_
  refine lv_istore (lv' := [(5, .int x2), (4, .int x1.toInt8.toInt32), (0, .ref (adV s0)), (1, .int x1), (2, .int x2), (3, .int x3)]) hx hb dJ1_indexOfChar_4cfef_5 hl (by decide) rfl (fun ls hl => ?_)
  exact k_J1_indexOfChar_4cfef_7 CX hP hE n n _ _ _ hf ls (lv_sub hl [2, 5, 1, 0] rfl)
def f_J1_indexOfChar_4cfef (n : Nat) (s0 : Nat) (p1 : Int32) (p2 : Int32) (p3 : Int32) : Option (Int32) := f_J1_indexOfChar_4cfef_0 n s0 p1 p2 p3
set_option maxHeartbeats 4000000 in
set_option maxRecDepth 100000 in
/-- java/lang/StringLatin1.indexOfChar([BIII)I -/
theorem m_J1_indexOfChar_4cfef (l : Launch) (dC : Nat → ClassId) (dI : Nat → Nat → Nat) (cyB cyC cyI cyJ cyZ : ClassId) (adK adV : Nat → Nat) (s0 : Nat) (p1 : Int32) (p2 : Int32) (p3 : Int32) (n : Nat) (out : Int32) (hf : f_J1_indexOfChar_4cfef n s0 p1 p2 p3 = some out) : Met l yJ1_indexOfChar_4cfef wsJ1_indexOfChar_4cfef rm_J1_indexOfChar_4cfef (Pros adK adV (dC, dI) (TY cyB cyC cyI cyJ cyZ) [.ref (adV s0), .int p1, .int p2, .int p3] []) (vp_Si (fun r => r = out)) 0 0 (fun _ => False) := by
  refine Met.ofW (cc := cJ1_indexOfChar_4cfef) (maxL := 6) (ret := (some .int)) (by decide) rfl ?_
  intro p e s m args below meth c s₁ B hml hv
  obtain ⟨rfl, hP, hK, hN, hE⟩ := hv
  have CX : cx cJ1_indexOfChar_4cfef (some .int) 6 RJ1 wsJ1_indexOfChar_4cfef (dC, dI) (TY cyB cyC cyI cyJ cyZ) p s m ([.ref (adV s0), .int p1, .int p2, .int p3] : List Value).toArray meth c := ⟨B.exec, B.bytes, B.returns, hml, findClass_of_methodNamed B.named, atoms_spec (ws := wsJ1_indexOfChar_4cfef) B.pre, B.notSynchronized, hK, hN⟩
  have hl := lv_entry ([.ref (adV s0), .int p1, .int p2, .int p3]) (n := 6) (Nat.le_of_ble_eq_true rfl)
  rw [lg_entry_eq]
  exact k_J1_indexOfChar_4cfef_0 CX hP hE n _ _ _ hf _ hl
abbrev rm_J1_indexOf_4cfef : Room := { frames := 1, cells := 0, slots := 0, locals := 25 }
def J_J1_indexOf_4cfef_0 (p : Program) (l : Launch) (e : Env) (s : State) (m : MethodId) (args : Array Value) (below : List Frame) (meth : Method) (c : Code) (dC : Nat → ClassId) (dI : Nat → Nat → Nat) (cyB cyC cyI cyJ cyZ : ClassId) (adK adV : Nat → Nat) (s0 : Nat) (out : Int32) (g : Int32 → Int32 → Int32 → Option (Int32)) : Prop := ∀ (x1 : Int32) (x2 : Int32) (x3 : Int32), g x1 x2 x3 = some out → ∀ ls : Array Slot, lv_has ls 4 [(0, .ref (adV s0)), (1, .int x1), (2, .int x2), (3, .int x3)] → W p l e rm_J1_indexOf_4cfef s m args below meth c s.heap [] 0 0 (MQ below (vp_Si (fun r => r = out)) args s 0 0 (fun _ => False)) (F0 m 0 ls [])
def f_J1_indexOf_4cfef_0 (n : Nat) (s0 : Nat) (x1 : Int32) (x2 : Int32) (x3 : Int32) : Option (Int32) :=
  bd (f_J1_canEncode_9a6ad n x1 ) fun o1 =>
  if o1 = 0 then
  (some (-1 : Int32))
  else
  (lt_ (if x2 < (0 : Int32) then (0 : Int32) else x2) fun y2 =>
  gu (decide (s0 < 8)) (
  lt_ (if (nI (lenS.getD s0 0)) < x3 then nI (lenS.getD s0 0) else x3) fun y3 =>
  if y2 < y3 then
  (bd (f_J1_indexOfChar_4cfef n s0 x1 y2 y3 ) fun o4 =>
  some o4)
  else
  (some (-1 : Int32))))
set_option maxHeartbeats 4000000 in
set_option maxRecDepth 100000 in
theorem k_J1_indexOf_4cfef_0 {p : Program} {l : Launch} {e : Env} {s : State} {m : MethodId} {args : Array Value} {below : List Frame} {meth : Method} {c : Code} {dC : Nat → ClassId} {dI : Nat → Nat → Nat} {cyB cyC cyI cyJ cyZ : ClassId} {adK adV : Nat → Nat} {s0 : Nat} {out : Int32} (CX : cx cJ1_indexOf_4cfef (some .int) 4 RJ1 wsJ1_indexOf_4cfef (dC, dI) (TY cyB cyC cyI cyJ cyZ) p s m args meth c) (hP : va_P (dC, dI) vwCl [] s.heap) (hE : vS adK adV (fun _ => False) s s.heap) (n : Nat) : J_J1_indexOf_4cfef_0 p l e s m args below meth c dC dI cyB cyC cyI cyJ cyZ adK adV s0 out (f_J1_indexOf_4cfef_0 n s0) := by
  intro x1 x2 x3 hf ls hl
  obtain ⟨hx, hb, hr, hml, hown, hts, hlocks, hK, hN⟩ := id CX
  unfold f_J1_indexOf_4cfef_0 at hf
  refine lv_iload_n hx hb dJ1_indexOf_4cfef_0 rfl (lv_at hl 1 rfl) ?_
  obtain ⟨z1, hz1, hf⟩ := bd_ok hf
  have hPc := hP.sub (ws' := []) [] rfl
  refine vp_callSi (va_Run.run (va_runS (As := [.int x1]) (rest := []) ⟨hx, hb, hml, hown, hts⟩ (m_J1_canEncode_9a6ad l dC dI cyB cyC cyI cyJ cyZ   x1  n z1 hz1) (va_cwS 1 hts gJ1_indexOf_4cfef_J1_canEncode_9a6ad rfl rfl rfl (by decide +kernel) ⟨Nat.le_of_ble_eq_true rfl, Nat.le_of_ble_eq_true rfl⟩) (proS hPc hK hN) rfl rfl hl.1 rfl (lv_room (Nat.le_of_ble_eq_true rfl)) dJ1_indexOf_4cfef_1 ⟨Nat.le_of_ble_eq_true rfl, Nat.le_of_ble_eq_true rfl⟩)) (fun o1 hr9 => ?_)
  subst hr9
  refine lv_if_ne (tgt := 9) hx hb dJ1_indexOf_4cfef_4 (by decide) (fun hc => ?_) (fun hc => ?_)
  · have hf := (if_neg hc).symm.trans hf
    refine lv_iload_n hx hb dJ1_indexOf_4cfef_9 rfl (lv_at hl 2 rfl) ?_
    refine lv_iconst (v := (0 : Int32)) hx hb dJ1_indexOf_4cfef_10 (by decide) ?_
    refine va_mmax hx hb (hml.trans hl.1.symm) hown (hts (.methodLink RJ1 92 Lib.Math.max.name) (List.mem_of_getElem? (i := 1) rfl)) (hts (.static Lib.Math.max.name) (List.mem_of_getElem? (i := 2) rfl)) (hts (.initialized "java/lang/Math") (List.mem_of_getElem? (i := 3) rfl)) (hts (.code Lib.Math.max.name Lib.Math.max.code 2 (some .int)) (List.mem_of_getElem? (i := 4) rfl)) (Nat.le_of_ble_eq_true rfl) (Nat.le_of_ble_eq_true rfl) (Nat.le_of_ble_eq_true rfl) (Nat.le_of_ble_eq_true rfl) dJ1_indexOf_4cfef_11 ?_
    refine lv_topi (fun y2 ey2 => ?_)
    have hf := lt_ok hf y2 ey2
    refine lv_istore_n (lv' := [(2, .int y2), (0, .ref (adV s0)), (1, .int x1), (3, .int x3)]) hx hb dJ1_indexOf_4cfef_14 rfl hl (by decide) rfl (fun ls hl => ?_)
    refine lv_iload_n hx hb dJ1_indexOf_4cfef_15 rfl (lv_at hl 3 rfl) ?_
    refine lv_aload_n hx hb dJ1_indexOf_4cfef_16 rfl (lv_at hl 1 rfl) ?_
    obtain ⟨hg, hf⟩ := gu_ok hf
    refine va_tlen hx hb (hE.1.1 s0 (of_decide_eq_true hg)).2.2.2 va_S.rf (v := nI (lenS.getD s0 0)) rfl dJ1_indexOf_4cfef_17 ?_
    refine va_mmin hx hb (hml.trans hl.1.symm) hown (hts (.methodLink RJ1 38 Lib.Math.min.name) (List.mem_of_getElem? (i := 5) rfl)) (hts (.static Lib.Math.min.name) (List.mem_of_getElem? (i := 6) rfl)) (hts (.initialized "java/lang/Math") (List.mem_of_getElem? (i := 3) rfl)) (hts (.code Lib.Math.min.name Lib.Math.min.code 2 (some .int)) (List.mem_of_getElem? (i := 7) rfl)) (Nat.le_of_ble_eq_true rfl) (Nat.le_of_ble_eq_true rfl) (Nat.le_of_ble_eq_true rfl) (Nat.le_of_ble_eq_true rfl) dJ1_indexOf_4cfef_18 ?_
    refine lv_topi (fun y3 ey3 => ?_)
    have hf := lt_ok hf y3 ey3
    refine lv_istore_n (lv' := [(3, .int y3), (2, .int y2), (0, .ref (adV s0)), (1, .int x1)]) hx hb dJ1_indexOf_4cfef_21 rfl hl (by decide) rfl (fun ls hl => ?_)
    refine lv_iload_n hx hb dJ1_indexOf_4cfef_22 rfl (lv_at hl 1 rfl) ?_
    refine lv_iload_n hx hb dJ1_indexOf_4cfef_23 rfl (lv_at hl 0 rfl) ?_
    refine lv_icmp_lt (tgt := 29) hx hb dJ1_indexOf_4cfef_24 (by decide) (fun hc => ?_) (fun hc => ?_)
    · have hf := (if_pos hc).symm.trans hf
      refine lv_aload_n hx hb dJ1_indexOf_4cfef_29 rfl (lv_at hl 2 rfl) ?_
      refine lv_iload_n hx hb dJ1_indexOf_4cfef_30 rfl (lv_at hl 3 rfl) ?_
      refine lv_iload_n hx hb dJ1_indexOf_4cfef_31 rfl (lv_at hl 1 rfl) ?_
      refine lv_iload_n hx hb dJ1_indexOf_4cfef_32 rfl (lv_at hl 0 rfl) ?_
      obtain ⟨z4, hz4, hf⟩ := bd_ok hf
      have hPc := hP.sub (ws' := []) [] rfl
      refine vp_callSi (va_Run.run (va_runS (As := [.ref (adV s0), .int x1, .int y2, .int y3]) (rest := []) ⟨hx, hb, hml, hown, hts⟩ (m_J1_indexOfChar_4cfef l dC dI cyB cyC cyI cyJ cyZ  adK adV s0 x1 y2 y3  n z4 hz4) (va_cwS 4 hts gJ1_indexOf_4cfef_J1_indexOfChar_4cfef rfl rfl rfl (by decide +kernel) ⟨Nat.le_of_ble_eq_true rfl, Nat.le_of_ble_eq_true rfl⟩) (proSs hPc hK hN (fun U hU hW => vS_to hE va_S.rf (fun _ h => h.elim) hU hW)) rfl rfl hl.1 rfl (lv_room (Nat.le_of_ble_eq_true rfl)) dJ1_indexOf_4cfef_33 ⟨Nat.le_of_ble_eq_true rfl, Nat.le_of_ble_eq_true rfl⟩)) (fun o4 hr9 => ?_)
      subst hr9
      exact W.iret (v := o4) hx hb hr (fun t ht hW => ⟨_, rfl, Option.some.inj hf, ht⟩) (fun _ h => nomatch h) dJ1_indexOf_4cfef_36
    · have hf := (if_neg hc).symm.trans hf
      refine lv_iconst (v := (-1 : Int32)) hx hb dJ1_indexOf_4cfef_27 (by decide) ?_
      exact W.iret (v := (-1 : Int32)) hx hb hr (fun t ht hW => ⟨_, rfl, Option.some.inj hf, ht⟩) (fun _ h => nomatch h) dJ1_indexOf_4cfef_28
  · have hf := (if_pos hc).symm.trans hf
    refine lv_iconst (v := (-1 : Int32)) hx hb dJ1_indexOf_4cfef_7 (by decide) ?_
    exact W.iret (v := (-1 : Int32)) hx hb hr (fun t ht hW => ⟨_, rfl, Option.some.inj hf, ht⟩) (fun _ h => nomatch h) dJ1_indexOf_4cfef_8
def f_J1_indexOf_4cfef (n : Nat) (s0 : Nat) (p1 : Int32) (p2 : Int32) (p3 : Int32) : Option (Int32) := f_J1_indexOf_4cfef_0 n s0 p1 p2 p3
set_option maxHeartbeats 4000000 in
set_option maxRecDepth 100000 in
/-- java/lang/StringLatin1.indexOf([BIII)I -/
theorem m_J1_indexOf_4cfef (l : Launch) (dC : Nat → ClassId) (dI : Nat → Nat → Nat) (cyB cyC cyI cyJ cyZ : ClassId) (adK adV : Nat → Nat) (s0 : Nat) (p1 : Int32) (p2 : Int32) (p3 : Int32) (n : Nat) (out : Int32) (hf : f_J1_indexOf_4cfef n s0 p1 p2 p3 = some out) : Met l yJ1_indexOf_4cfef wsJ1_indexOf_4cfef rm_J1_indexOf_4cfef (Pros adK adV (dC, dI) (TY cyB cyC cyI cyJ cyZ) [.ref (adV s0), .int p1, .int p2, .int p3] []) (vp_Si (fun r => r = out)) 0 0 (fun _ => False) := by
  refine Met.ofW (cc := cJ1_indexOf_4cfef) (maxL := 4) (ret := (some .int)) (by decide) rfl ?_
  intro p e s m args below meth c s₁ B hml hv
  obtain ⟨rfl, hP, hK, hN, hE⟩ := hv
  have CX : cx cJ1_indexOf_4cfef (some .int) 4 RJ1 wsJ1_indexOf_4cfef (dC, dI) (TY cyB cyC cyI cyJ cyZ) p s m ([.ref (adV s0), .int p1, .int p2, .int p3] : List Value).toArray meth c := ⟨B.exec, B.bytes, B.returns, hml, findClass_of_methodNamed B.named, atoms_spec (ws := wsJ1_indexOf_4cfef) B.pre, B.notSynchronized, hK, hN⟩
  have hl := lv_entry ([.ref (adV s0), .int p1, .int p2, .int p3]) (n := 4) (Nat.le_of_ble_eq_true rfl)
  rw [lg_entry_eq]
  exact k_J1_indexOf_4cfef_0 CX hP hE n _ _ _ hf _ hl
abbrev rm_J0_indexOf_7cf53 : Room := { frames := 2, cells := 0, slots := 0, locals := 48 }
def J_J0_indexOf_7cf53_0 (p : Program) (l : Launch) (e : Env) (s : State) (m : MethodId) (args : Array Value) (below : List Frame) (meth : Method) (c : Code) (dC : Nat → ClassId) (dI : Nat → Nat → Nat) (cyB cyC cyI cyJ cyZ : ClassId) (adK adV : Nat → Nat) (s0 : Nat) (out : Int32) (g : Int32 → Int32 → Option (Int32)) : Prop := ∀ (x1 : Int32) (x2 : Int32), g x1 x2 = some out → ∀ ls : Array Slot, lv_has ls 3 [(0, .ref (adK s0)), (1, .int x1), (2, .int x2)] → W p l e rm_J0_indexOf_7cf53 s m args below meth c s.heap [] 0 0 (MQ below (vp_Si (fun r => r = out)) args s 0 0 (fun _ => False)) (F0 m 0 ls [])
def f_J0_indexOf_7cf53_0 (n : Nat) (s0 : Nat) (x1 : Int32) (x2 : Int32) : Option (Int32) :=
  gu (decide (s0 < 8)) (
  bd (f_J0_isLatin1_aae02 n s0  ) fun o1 =>
  if o1 = 0 then
  (none)
  else
  (gu (decide (s0 < 8)) (
  gu (decide (s0 < 8)) (
  bd (f_J0_length_8abf5 n s0  ) fun o2 =>
  bd (f_J1_indexOf_4cfef n s0 x1 x2 o2 ) fun o3 =>
  some o3))))
set_option maxHeartbeats 4000000 in
set_option maxRecDepth 100000 in
theorem k_J0_indexOf_7cf53_0 {p : Program} {l : Launch} {e : Env} {s : State} {m : MethodId} {args : Array Value} {below : List Frame} {meth : Method} {c : Code} {dC : Nat → ClassId} {dI : Nat → Nat → Nat} {cyB cyC cyI cyJ cyZ : ClassId} {adK adV : Nat → Nat} {s0 : Nat} {out : Int32} (CX : cx cJ0_indexOf_7cf53 (some .int) 3 RJ0 wsJ0_indexOf_7cf53 (dC, dI) (TY cyB cyC cyI cyJ cyZ) p s m args meth c) (hP : va_P (dC, dI) vwCl [] s.heap) (hE : vS adK adV (fun _ => False) s s.heap) (n : Nat) : J_J0_indexOf_7cf53_0 p l e s m args below meth c dC dI cyB cyC cyI cyJ cyZ adK adV s0 out (f_J0_indexOf_7cf53_0 n s0) := by
  intro x1 x2 hf ls hl
  obtain ⟨hx, hb, hr, hml, hown, hts, hlocks, hK, hN⟩ := id CX
  unfold f_J0_indexOf_7cf53_0 at hf
  refine lv_aload_n hx hb dJ0_indexOf_7cf53_0 rfl (lv_at hl 0 rfl) ?_
  obtain ⟨hgr, hf⟩ := gu_ok hf
  obtain ⟨z1, hz1, hf⟩ := bd_ok hf
  have hPc := hP.sub (ws' := []) [] rfl
  refine vp_callSi (va_Run.run (va_runV (As := []) (rest := []) ⟨hx, hb, hml, hown, hts⟩ (m_J0_isLatin1_aae02 l dC dI cyB cyC cyI cyJ cyZ  adK adV s0   n z1 hz1) (cwV 0 hts gJ0_indexOf_7cf53_J0_isLatin1_aae02 rfl rfl rfl (by decide +kernel) ⟨Nat.le_of_ble_eq_true rfl, Nat.le_of_ble_eq_true rfl⟩) (proVs (vk_recv hE.1 (of_decide_eq_true hgr) va_S.rf) hPc hK hN (fun U hU hW => vS_to hE va_S.rf (fun _ h => h.elim) hU hW)) rfl rfl hl.1 rfl (lv_room (Nat.le_of_ble_eq_true rfl)) dJ0_indexOf_7cf53_1 ⟨Nat.le_of_ble_eq_true rfl, Nat.le_of_ble_eq_true rfl⟩)) (fun o1 hr9 => ?_)
  subst hr9
  refine lv_if_eq (tgt := 23) hx hb dJ0_indexOf_7cf53_4 (by decide) (fun hc => ?_) (fun hc => ?_)
  · have hf := (if_pos hc).symm.trans hf
    exact absurd hf (by simp)
  · have hf := (if_neg hc).symm.trans hf
    refine lv_aload_n hx hb dJ0_indexOf_7cf53_7 rfl (lv_at hl 0 rfl) ?_
    obtain ⟨hg, hf⟩ := gu_ok hf
    refine vk_getf hx hb (hE.1.1 s0 (of_decide_eq_true hg)).2.2.1 va_S.rf hown (hts (.fieldLink RJ0 9 "java/lang/String" "value" "[B") (List.mem_of_getElem? (i := 1) rfl)) (fun _ h9 => h9) dJ0_indexOf_7cf53_8 ?_
    refine lv_iload_n hx hb dJ0_indexOf_7cf53_11 rfl (lv_at hl 1 rfl) ?_
    refine lv_iload_n hx hb dJ0_indexOf_7cf53_12 rfl (lv_at hl 2 rfl) ?_
    refine lv_aload_n hx hb dJ0_indexOf_7cf53_13 rfl (lv_at hl 0 rfl) ?_
    obtain ⟨hgr, hf⟩ := gu_ok hf
    obtain ⟨z2, hz2, hf⟩ := bd_ok hf
    have hPc := hP.sub (ws' := []) [] rfl
    refine vp_callSi (va_Run.run (va_runV (As := []) (rest := [.int x2, .int x1, .ref (adV s0)]) ⟨hx, hb, hml, hown, hts⟩ (m_J0_length_8abf5 l dC dI cyB cyC cyI cyJ cyZ  adK adV s0   n z2 hz2) (cwV 0 hts gJ0_indexOf_7cf53_J0_length_8abf5 rfl rfl rfl (by decide +kernel) ⟨Nat.le_of_ble_eq_true rfl, Nat.le_of_ble_eq_true rfl⟩) (proVs (vk_recv hE.1 (of_decide_eq_true hgr) va_S.rf) hPc hK hN (fun U hU hW => vS_to hE va_S.rf (fun _ h => h.elim) hU hW)) rfl rfl hl.1 rfl (lv_room (Nat.le_of_ble_eq_true rfl)) dJ0_indexOf_7cf53_14 ⟨Nat.le_of_ble_eq_true rfl, Nat.le_of_ble_eq_true rfl⟩)) (fun o2 hr9 => ?_)
    subst hr9
    obtain ⟨z3, hz3, hf⟩ := bd_ok hf
    have hPc := hP.sub (ws' := []) [] rfl
    refine vp_callSi (va_Run.run (va_runS (As := [.ref (adV s0), .int x1, .int x2, .int o2]) (rest := []) ⟨hx, hb, hml, hown, hts⟩ (m_J1_indexOf_4cfef l dC dI cyB cyC cyI cyJ cyZ  adK adV s0 x1 x2 o2  n z3 hz3) (va_cwS 4 hts gJ0_indexOf_7cf53_J1_indexOf_4cfef rfl rfl rfl (by decide +kernel) ⟨Nat.le_of_ble_eq_true rfl, Nat.le_of_ble_eq_true rfl⟩) (proSs hPc hK hN (fun U hU hW => vS_to hE va_S.rf (fun _ h => h.elim) hU hW)) rfl rfl hl.1 rfl (lv_room (Nat.le_of_ble_eq_true rfl)) dJ0_indexOf_7cf53_17 ⟨Nat.le_of_ble_eq_true rfl, Nat.le_of_ble_eq_true rfl⟩)) (fun o3 hr9 => ?_)
    subst hr9
    refine lv_goto (tgt := 36) hx hb dJ0_indexOf_7cf53_20 (by decide) ?_
    exact W.iret (v := o3) hx hb hr (fun t ht hW => ⟨_, rfl, Option.some.inj hf, ht⟩) (fun _ h => nomatch h) dJ0_indexOf_7cf53_36
def f_J0_indexOf_7cf53 (n : Nat) (s0 : Nat) (p1 : Int32) (p2 : Int32) : Option (Int32) := f_J0_indexOf_7cf53_0 n s0 p1 p2
set_option maxHeartbeats 4000000 in
set_option maxRecDepth 100000 in
/-- java/lang/String.indexOf(II)I -/
theorem m_J0_indexOf_7cf53 (l : Launch) (dC : Nat → ClassId) (dI : Nat → Nat → Nat) (cyB cyC cyI cyJ cyZ : ClassId) (adK adV : Nat → Nat) (s0 : Nat) (p1 : Int32) (p2 : Int32) (n : Nat) (out : Int32) (hf : f_J0_indexOf_7cf53 n s0 p1 p2 = some out) : Met l yJ0_indexOf_7cf53 wsJ0_indexOf_7cf53 rm_J0_indexOf_7cf53 (Pros adK adV (dC, dI) (TY cyB cyC cyI cyJ cyZ) [.ref (adK s0), .int p1, .int p2] []) (vp_Si (fun r => r = out)) 0 0 (fun _ => False) := by
  refine Met.ofW (cc := cJ0_indexOf_7cf53) (maxL := 3) (ret := (some .int)) (by decide) rfl ?_
  intro p e s m args below meth c s₁ B hml hv
  obtain ⟨rfl, hP, hK, hN, hE⟩ := hv
  have CX : cx cJ0_indexOf_7cf53 (some .int) 3 RJ0 wsJ0_indexOf_7cf53 (dC, dI) (TY cyB cyC cyI cyJ cyZ) p s m ([.ref (adK s0), .int p1, .int p2] : List Value).toArray meth c := ⟨B.exec, B.bytes, B.returns, hml, findClass_of_methodNamed B.named, atoms_spec (ws := wsJ0_indexOf_7cf53) B.pre, B.notSynchronized, hK, hN⟩
  have hl := lv_entry ([.ref (adK s0), .int p1, .int p2]) (n := 3) (Nat.le_of_ble_eq_true rfl)
  rw [lg_entry_eq]
  exact k_J0_indexOf_7cf53_0 CX hP hE n _ _ hf _ hl
