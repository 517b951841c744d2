abbrev rm_X3_escaped : Room := { frames := 0, cells := 0, slots := 0, locals := 0 }
def J_X3_escaped_0 (p : Program) (l : Launch) (e : Env) (s : State) (m : MethodId) (args : Array Value) (below : List Frame) (meth : Method) (c : Code) (dC : Nat → ClassId) (dI : Nat → Nat → Nat) (cyB cyC cyI cyJ cyZ : ClassId) (out : Int32) (g : Int32 → Option (Int32)) : Prop := ∀ (x0 : Int32), g x0 = some out → ∀ ls : Array Slot, lv_has ls 1 [(0, .int x0)] → W p l e rm_X3_escaped s m args below meth c s.heap [] 0 0 (MQ below (vp_Si (fun r => r = out)) args s 0 0 (fun _ => False)) (F0 m 0 ls [])
def f_X3_escaped_0 (n : Nat) (x0 : Int32) : Option (Int32) :=
  if x0 = (34 : Int32) then
  (some x0)
  else
  (if x0 = (39 : Int32) then
  (some x0)
  else
  (if x0 = (92 : Int32) then
  (some x0)
  else
  (if x0 = (98 : Int32) then
  (some (8 : Int32))
  else
  (if x0 = (102 : Int32) then
  (some (12 : Int32))
  else
  (if x0 = (110 : Int32) then
  (some (10 : Int32))
  else
  (if x0 = (114 : Int32) then
  (some (13 : Int32))
  else
  (if x0 = (116 : Int32) then
  (some (9 : Int32))
  else
  (some (-1 : Int32)))))))))
set_option maxHeartbeats 4000000 in
set_option maxRecDepth 100000 in
theorem k_X3_escaped_0 {p : Program} {l : Launch} {e : Env} {s : State} {m : MethodId} {args : Array Value} {below : List Frame} {meth : Method} {c : Code} {dC : Nat → ClassId} {dI : Nat → Nat → Nat} {cyB cyC cyI cyJ cyZ : ClassId} {out : Int32} (CX : cx cX3_escaped (some .int) 1 RX3 wsX3_escaped (dC, dI) (TY cyB cyC cyI cyJ cyZ) p s m args meth c) (hP : va_P (dC, dI) vwCl [] s.heap) (n : Nat) : J_X3_escaped_0 p l e s m args below meth c dC dI cyB cyC cyI cyJ cyZ out (f_X3_escaped_0 n) := by
  intro x0 hf ls hl
  obtain ⟨hx, hb, hr, hml, hown, hts, hlocks, hK, hN⟩ := id CX
  unfold f_X3_escaped_0 at hf
  refine lv_iload_n hx hb dX3_escaped_0 rfl (lv_at hl 0 rfl) ?_
  by_cases hc34 : x0 = (34 : Int32)
  · have hf := (if_pos hc34).symm.trans hf
    refine lv_lookup (off := 90) (tgt := 91) hx hb dX3_escaped_1 (by decide) (by rw [hc34]; decide) (by decide) ?_
    refine lv_iload_n hx hb dX3_escaped_91 rfl (lv_at hl 0 rfl) ?_
    exact W.iret (v := x0) hx hb hr (fun t ht hW => ⟨_, rfl, Option.some.inj hf, ht⟩) (fun _ h => nomatch h) dX3_escaped_92
  have hf := (if_neg hc34).symm.trans hf
  by_cases hc39 : x0 = (39 : Int32)
  · have hf := (if_pos hc39).symm.trans hf
    refine lv_lookup (off := 90) (tgt := 91) hx hb dX3_escaped_1 (by decide) (by rw [hc39]; decide) (by decide) ?_
    refine lv_iload_n hx hb dX3_escaped_91 rfl (lv_at hl 0 rfl) ?_
    exact W.iret (v := x0) hx hb hr (fun t ht hW => ⟨_, rfl, Option.some.inj hf, ht⟩) (fun _ h => nomatch h) dX3_escaped_92
  have hf := (if_neg hc39).symm.trans hf
  by_cases hc92 : x0 = (92 : Int32)
  · have hf := (if_pos hc92).symm.trans hf
    refine lv_lookup (off := 90) (tgt := 91) hx hb dX3_escaped_1 (by decide) (by rw [hc92]; decide) (by decide) ?_
    refine lv_iload_n hx hb dX3_escaped_91 rfl (lv_at hl 0 rfl) ?_
    exact W.iret (v := x0) hx hb hr (fun t ht hW => ⟨_, rfl, Option.some.inj hf, ht⟩) (fun _ h => nomatch h) dX3_escaped_92
  have hf := (if_neg hc92).symm.trans hf
  by_cases hc98 : x0 = (98 : Int32)
  · have hf := (if_pos hc98).symm.trans hf
    refine lv_lookup (off := 75) (tgt := 76) hx hb dX3_escaped_1 (by decide) (by rw [hc98]; decide) (by decide) ?_
    refine lv_bipush (v := (8 : Int32)) hx hb dX3_escaped_76 (by decide) ?_
    exact W.iret (v := (8 : Int32)) hx hb hr (fun t ht hW => ⟨_, rfl, Option.some.inj hf, ht⟩) (fun _ h => nomatch h) dX3_escaped_78
  have hf := (if_neg hc98).symm.trans hf
  by_cases hc102 : x0 = (102 : Int32)
  · have hf := (if_pos hc102).symm.trans hf
    refine lv_lookup (off := 84) (tgt := 85) hx hb dX3_escaped_1 (by decide) (by rw [hc102]; decide) (by decide) ?_
    refine lv_bipush (v := (12 : Int32)) hx hb dX3_escaped_85 (by decide) ?_
    exact W.iret (v := (12 : Int32)) hx hb hr (fun t ht hW => ⟨_, rfl, Option.some.inj hf, ht⟩) (fun _ h => nomatch h) dX3_escaped_87
  have hf := (if_neg hc102).symm.trans hf
  by_cases hc110 : x0 = (110 : Int32)
  · have hf := (if_pos hc110).symm.trans hf
    refine lv_lookup (off := 81) (tgt := 82) hx hb dX3_escaped_1 (by decide) (by rw [hc110]; decide) (by decide) ?_
    refine lv_bipush (v := (10 : Int32)) hx hb dX3_escaped_82 (by decide) ?_
    exact W.iret (v := (10 : Int32)) hx hb hr (fun t ht hW => ⟨_, rfl, Option.some.inj hf, ht⟩) (fun _ h => nomatch h) dX3_escaped_84
  have hf := (if_neg hc110).symm.trans hf
  by_cases hc114 : x0 = (114 : Int32)
  · have hf := (if_pos hc114).symm.trans hf
    refine lv_lookup (off := 87) (tgt := 88) hx hb dX3_escaped_1 (by decide) (by rw [hc114]; decide) (by decide) ?_
    refine lv_bipush (v := (13 : Int32)) hx hb dX3_escaped_88 (by decide) ?_
    exact W.iret (v := (13 : Int32)) hx hb hr (fun t ht hW => ⟨_, rfl, Option.some.inj hf, ht⟩) (fun _ h => nomatch h) dX3_escaped_90
  have hf := (if_neg hc114).symm.trans hf
  by_cases hc116 : x0 = (116 : Int32)
  · have hf := (if_pos hc116).symm.trans hf
    refine lv_lookup (off := 78) (tgt := 79) hx hb dX3_escaped_1 (by decide) (by rw [hc116]; decide) (by decide) ?_
    refine lv_bipush (v := (9 : Int32)) hx hb dX3_escaped_79 (by decide) ?_
    exact W.iret (v := (9 : Int32)) hx hb hr (fun t ht hW => ⟨_, rfl, Option.some.inj hf, ht⟩) (fun _ h => nomatch h) dX3_escaped_81
  have hf := (if_neg hc116).symm.trans hf
  refine lv_lookup (off := 92) (tgt := 93) hx hb dX3_escaped_1 (by decide) (by show Op.lookupswitch.offset [(34, 90), (39, 90), (92, 90), (98, 75), (102, 84), (110, 81), (114, 87), (116, 78)] _ _ = _; rw [lv_osw hc34 (by decide), lv_osw hc39 (by decide), lv_osw hc92 (by decide), lv_osw hc98 (by decide), lv_osw hc102 (by decide), lv_osw hc110 (by decide), lv_osw hc114 (by decide), lv_osw hc116 (by decide)]; rfl) (by decide) ?_
  refine lv_iconst (v := (-1 : Int32)) hx hb dX3_escaped_93 (by decide) ?_
  exact W.iret (v := (-1 : Int32)) hx hb hr (fun t ht hW => ⟨_, rfl, Option.some.inj hf, ht⟩) (fun _ h => nomatch h) dX3_escaped_94
def f_X3_escaped (n : Nat) (p0 : Int32) : Option (Int32) := f_X3_escaped_0 n p0
set_option maxHeartbeats 4000000 in
set_option maxRecDepth 100000 in
/-- TokenRow$Quotes.escaped(I)I -/
theorem m_X3_escaped (l : Launch) (dC : Nat → ClassId) (dI : Nat → Nat → Nat) (cyB cyC cyI cyJ cyZ : ClassId) (p0 : Int32) (n : Nat) (out : Int32) (hf : f_X3_escaped n p0 = some out) : Met l yX3_escaped wsX3_escaped rm_X3_escaped (Pro (dC, dI) (TY cyB cyC cyI cyJ cyZ) [.int p0] []) (vp_Si (fun r => r = out)) 0 0 (fun _ => False) := by
  refine Met.ofW (cc := cX3_escaped) (maxL := 1) (ret := (some .int)) (by decide) rfl ?_
  intro p e s m args below meth c s₁ B hml hv
  obtain ⟨rfl, hP, hK, hN⟩ := hv
  have CX : cx cX3_escaped (some .int) 1 RX3 wsX3_escaped (dC, dI) (TY cyB cyC cyI cyJ cyZ) p s m ([.int p0] : List Value).toArray meth c := ⟨B.exec, B.bytes, B.returns, hml, findClass_of_methodNamed B.named, atoms_spec (ws := wsX3_escaped) B.pre, B.notSynchronized, hK, hN⟩
  have hl := lv_entry ([.int p0]) (n := 1) (Nat.le_of_ble_eq_true rfl)
  rw [lg_entry_eq]
  exact k_X3_escaped_0 CX hP n _ hf _ hl
abbrev rm_X3_behindOctal : Room := { frames := 1, cells := 0, slots := 0, locals := 21 }
theorem i_X3_behindOctal_X3 : ∀ w ∈ u_ws RX3 TX3 3, w ∈ wsX3_behindOctal := fun _ h => (List.mem_cons_of_mem _ (List.mem_append_left _ (List.mem_append_right _ h)))
theorem i_X3_behindOctal_X6 : ∀ w ∈ u_ws RX6 TX6 3, w ∈ wsX3_behindOctal := fun _ h => (List.mem_cons_of_mem _ (List.mem_append_right _ h))
def J_X3_behindOctal_26 (p : Program) (l : Launch) (e : Env) (s : State) (m : MethodId) (args : Array Value) (below : List Frame) (meth : Method) (c : Code) (dC : Nat → ClassId) (dI : Nat → Nat → Nat) (cyB cyC cyI cyJ cyZ : ClassId) (aQ aS aF aSc : Nat) (S_count : Int32) (S_cutShort : Int32) (Sc : Nat → Int32) (A : Nat → Prop) (out : Int32 × Int32) (g : Int32 → Int32 → Int32 → Int32 → Option (Int32 × Int32)) : Prop := ∀ (Q_character : Int32) (x1 : Int32) (x2 : Int32) (x3 : Int32) (H : Heap) (locs : List Loc), g Q_character x1 x2 x3 = some out → va_P (dC, dI) vwCl [(aQ, .inr (3, [.ref aS, .ref aF, .int Q_character])), (aS, .inr (6, [.ref aSc, .int S_count, .int S_cutShort])), (aSc, .inl (cyC, 81920, .inl Sc))] H → va_D A [(aQ, .inr (3, [.ref aS, .ref aF, .int Q_character])), (aS, .inr (6, [.ref aSc, .int S_count, .int S_cutShort])), (aSc, .inl (cyC, 81920, .inl Sc))] → va_S A s.heap H locs → ∀ ls : Array Slot, lv_has ls 4 [(0, .ref aQ), (1, .int x1), (2, .int x2), (3, .int x3)] → W p l e rm_X3_behindOctal s m args below meth c H locs 0 0 (MQ below (va_Qi (fun (r : Int32) (u : Int32) => (r, u) = out) (Bw (dC, dI) A (fun u => [(aQ, .inr (3, [.ref aS, .ref aF, .int u])), (aS, .inr (6, [.ref aSc, .int S_count, .int S_cutShort])), (aSc, .inl (cyC, 81920, .inl Sc))])) A) args s 0 0 A) (F0 m 26 ls [])
def J_X3_behindOctal_18 (p : Program) (l : Launch) (e : Env) (s : State) (m : MethodId) (args : Array Value) (below : List Frame) (meth : Method) (c : Code) (dC : Nat → ClassId) (dI : Nat → Nat → Nat) (cyB cyC cyI cyJ cyZ : ClassId) (aQ aS aF aSc : Nat) (S_count : Int32) (S_cutShort : Int32) (Sc : Nat → Int32) (A : Nat → Prop) (out : Int32 × Int32) (g : Int32 → Int32 → Int32 → Option (Int32 × Int32)) : Prop := ∀ (Q_character : Int32) (x1 : Int32) (t0 : Int32) (H : Heap) (locs : List Loc), g Q_character x1 t0 = some out → va_P (dC, dI) vwCl [(aQ, .inr (3, [.ref aS, .ref aF, .int Q_character])), (aS, .inr (6, [.ref aSc, .int S_count, .int S_cutShort])), (aSc, .inl (cyC, 81920, .inl Sc))] H → va_D A [(aQ, .inr (3, [.ref aS, .ref aF, .int Q_character])), (aS, .inr (6, [.ref aSc, .int S_count, .int S_cutShort])), (aSc, .inl (cyC, 81920, .inl Sc))] → va_S A s.heap H locs → ∀ ls : Array Slot, lv_has ls 4 [(0, .ref aQ), (1, .int x1)] → W p l e rm_X3_behindOctal s m args below meth c H locs 0 0 (MQ below (va_Qi (fun (r : Int32) (u : Int32) => (r, u) = out) (Bw (dC, dI) A (fun u => [(aQ, .inr (3, [.ref aS, .ref aF, .int u])), (aS, .inr (6, [.ref aSc, .int S_count, .int S_cutShort])), (aSc, .inl (cyC, 81920, .inl Sc))])) A) args s 0 0 A) (F0 m 18 ls [.int t0])
def J_X3_behindOctal_0 (p : Program) (l : Launch) (e : Env) (s : State) (m : MethodId) (args : Array Value) (below : List Frame) (meth : Method) (c : Code) (dC : Nat → ClassId) (dI : Nat → Nat → Nat) (cyB cyC cyI cyJ cyZ : ClassId) (aQ aS aF aSc : Nat) (S_count : Int32) (S_cutShort : Int32) (Sc : Nat → Int32) (A : Nat → Prop) (out : Int32 × Int32) (g : Int32 → Int32 → Option (Int32 × Int32)) : Prop := ∀ (Q_character : Int32) (x1 : Int32) (H : Heap) (locs : List Loc), g Q_character x1 = some out → va_P (dC, dI) vwCl [(aQ, .inr (3, [.ref aS, .ref aF, .int Q_character])), (aS, .inr (6, [.ref aSc, .int S_count, .int S_cutShort])), (aSc, .inl (cyC, 81920, .inl Sc))] H → va_D A [(aQ, .inr (3, [.ref aS, .ref aF, .int Q_character])), (aS, .inr (6, [.ref aSc, .int S_count, .int S_cutShort])), (aSc, .inl (cyC, 81920, .inl Sc))] → va_S A s.heap H locs → ∀ ls : Array Slot, lv_has ls 4 [(0, .ref aQ), (1, .int x1)] → W p l e rm_X3_behindOctal s m args below meth c H locs 0 0 (MQ below (va_Qi (fun (r : Int32) (u : Int32) => (r, u) = out) (Bw (dC, dI) A (fun u => [(aQ, .inr (3, [.ref aS, .ref aF, .int u])), (aS, .inr (6, [.ref aSc, .int S_count, .int S_cutShort])), (aSc, .inl (cyC, 81920, .inl Sc))])) A) args s 0 0 A) (F0 m 0 ls [])
def fb_X3_behindOctal_26 (n : Nat) (r26 : Int32 → Int32 → Int32 → Int32 → Option (Int32 × Int32)) (S_count : Int32) (S_cutShort : Int32) (Sc : Nat → Int32) (Q_character : Int32) (x1 : Int32) (x2 : Int32) (x3 : Int32) : Option (Int32 × Int32) :=
  if (x1 + x2) ≤ x3 then
  (some (x3, Q_character))
  else
  (bd (f_X6_look n x3 S_count S_cutShort Sc) fun o1 =>
  bd (f_X9_digitOf n o1 ) fun o2 =>
  if (8 : Int32) ≤ o2 then
  (some (x3, Q_character))
  else
  (bd (f_X6_look n x3 S_count S_cutShort Sc) fun o3 =>
  bd (f_X9_digitOf n o3 ) fun o4 =>
  lt_ ((Q_character * (8 : Int32)) + o4) fun y5 =>
  lt_ (x3 + (1 : Int32)) fun y7 =>
  r26 y5 x1 x2 y7))
set_option maxHeartbeats 4000000 in
set_option maxRecDepth 100000 in
theorem kb_X3_behindOctal_26 {p : Program} {l : Launch} {e : Env} {s : State} {m : MethodId} {args : Array Value} {below : List Frame} {meth : Method} {c : Code} {dC : Nat → ClassId} {dI : Nat → Nat → Nat} {cyB cyC cyI cyJ cyZ : ClassId} {aQ aS aF aSc : Nat} {S_count : Int32} {S_cutShort : Int32} {Sc : Nat → Int32} {A : Nat → Prop} {out : Int32 × Int32} (CX : cx cX3_behindOctal (some .int) 4 RX3 wsX3_behindOctal (dC, dI) (TY cyB cyC cyI cyJ cyZ) p s m args meth c) (hA : ∀ q : Nat, s.heap.size ≤ q → A q) (n : Nat) {r26 : Int32 → Int32 → Int32 → Int32 → Option (Int32 × Int32)} (hr26 : J_X3_behindOctal_26 p l e s m args below meth c dC dI cyB cyC cyI cyJ cyZ aQ aS aF aSc S_count S_cutShort Sc A out r26) : J_X3_behindOctal_26 p l e s m args below meth c dC dI cyB cyC cyI cyJ cyZ aQ aS aF aSc S_count S_cutShort Sc A out (fb_X3_behindOctal_26 n r26 S_count S_cutShort Sc) := by
  intro Q_character x1 x2 x3 H locs hf hP hD hS ls hl
  obtain ⟨hx, hb, hr, hml, hown, hts, hlocks, hK, hN⟩ := id CX
  unfold fb_X3_behindOctal_26 at hf
  refine lv_iload_n hx hb dX3_behindOctal_26 rfl (lv_at hl 3 rfl) ?_
  refine lv_iload_n hx hb dX3_behindOctal_27 rfl (lv_at hl 1 rfl) ?_
  refine lv_iload_n hx hb dX3_behindOctal_28 rfl (lv_at hl 2 rfl) ?_
  refine lv_iadd hx hb dX3_behindOctal_29 ?_
  refine lv_icmp_ge (tgt := 78) hx hb dX3_behindOctal_30 (by decide) (fun hc => ?_) (fun hc => ?_)
  · have hf := (if_pos hc).symm.trans hf
    refine lv_iload_n hx hb dX3_behindOctal_78 rfl (lv_at hl 3 rfl) ?_
    exact W.iret (v := x3) hx hb hr (fun t ht hW => ⟨⟨_, Q_character, rfl, Option.some.inj hf, by rw [ht]; exact hP, hD⟩, hS.F ht⟩) hS.2.2 dX3_behindOctal_79
  · have hf := (if_neg hc).symm.trans hf
    refine lv_aload_n hx hb dX3_behindOctal_33 rfl (lv_at hl 0 rfl) ?_
    refine va_get (D := (dC, dI)) (ci := 3) (v := .ref aS) (C := RX3) (T := TX3) (N := 3) hx hb hts i_X3_behindOctal_X3 hown hK hP 0 rfl rfl 0 (by decide) (hts (.fieldLink RX3 9 "TokenRow$Quotes" "source" "LTokenRow$Source;") (List.mem_of_getElem? (i := 1) rfl)) (fun _ h9 => h9) rfl dX3_behindOctal_34 ?_
    refine lv_iload_n hx hb dX3_behindOctal_37 rfl (lv_at hl 3 rfl) ?_
    obtain ⟨z1, hz1, hf⟩ := bd_ok hf
    have hPc := hP.sub (ws' := [(aS, .inr (6, [.ref aSc, .int S_count, .int S_cutShort])), (aSc, .inl (cyC, 81920, .inl Sc))]) [1, 2] rfl
    refine vp_callSi (va_Run.run (va_runV (As := [.int x3]) (rest := []) ⟨hx, hb, hml, hown, hts⟩ (m_X6_look l dC dI cyB cyC cyI cyJ cyZ aS aSc  x3 S_count S_cutShort Sc n z1 hz1) (cwV 1 hts gX3_behindOctal_X6_look rfl rfl rfl (by decide +kernel) ⟨Nat.le_of_ble_eq_true rfl, Nat.le_of_ble_eq_true rfl⟩) (proV (va_recv hK hP (ci := 6) (q0 := 1) rfl rfl) hPc hK hN) rfl rfl hl.1 rfl (lv_room (Nat.le_of_ble_eq_true rfl)) dX3_behindOctal_38 ⟨Nat.le_of_ble_eq_true rfl, Nat.le_of_ble_eq_true rfl⟩)) (fun o1 hr9 => ?_)
    subst hr9
    obtain ⟨z2, hz2, hf⟩ := bd_ok hf
    have hPc := hP.sub (ws' := []) [] rfl
    refine vp_callSi (va_Run.run (va_runSN (As := [.int o1]) (rest := []) ⟨hx, hb, hml, hown, hts⟩ (m_X9_digitOf l dC dI cyB cyC cyI cyJ cyZ   o1  n z2 hz2) ⟨va_cnB 1 hts ggX3_behindOctal_X9_digitOf rfl rfl rfl (hN (.methodLinkNest RX3 49 yX9_digitOf RX9) (List.mem_of_getElem? (i := 12) rfl)) (hts (.initialized RX9) (List.mem_of_getElem? (i := 11) rfl)) (by decide +kernel) ⟨Nat.le_of_ble_eq_true rfl, Nat.le_of_ble_eq_true rfl⟩, (hts (.static yX9_digitOf) (List.mem_of_getElem? (i := 10) rfl)), trivial⟩ (proS hPc hK hN) rfl rfl hl.1 rfl (lv_room (Nat.le_of_ble_eq_true rfl)) dX3_behindOctal_41 ⟨Nat.le_of_ble_eq_true rfl, Nat.le_of_ble_eq_true rfl⟩)) (fun o2 hr9 => ?_)
    subst hr9
    refine lv_bipush (v := (8 : Int32)) hx hb dX3_behindOctal_44 (by decide) ?_
    refine lv_icmp_ge (tgt := 78) hx hb dX3_behindOctal_46 (by decide) (fun hc => ?_) (fun hc => ?_)
    · have hf := (if_pos hc).symm.trans hf
      refine lv_iload_n hx hb dX3_behindOctal_78 rfl (lv_at hl 3 rfl) ?_
      exact W.iret (v := x3) hx hb hr (fun t ht hW => ⟨⟨_, Q_character, rfl, Option.some.inj hf, by rw [ht]; exact hP, hD⟩, hS.F ht⟩) hS.2.2 dX3_behindOctal_79
    · have hf := (if_neg hc).symm.trans hf
      refine lv_aload_n hx hb dX3_behindOctal_49 rfl (lv_at hl 0 rfl) ?_
      refine lv_aload_n hx hb dX3_behindOctal_50 rfl (lv_at hl 0 rfl) ?_
      refine va_get (D := (dC, dI)) (ci := 3) (v := .int Q_character) (C := RX3) (T := TX3) (N := 3) hx hb hts i_X3_behindOctal_X3 hown hK hP 0 rfl rfl 2 (by decide) (hts (.fieldLink RX3 28 "TokenRow$Quotes" "character" "I") (List.mem_of_getElem? (i := 2) rfl)) (fun _ h9 => h9) rfl dX3_behindOctal_51 ?_
      refine lv_bipush (v := (8 : Int32)) hx hb dX3_behindOctal_54 (by decide) ?_
      refine lv_imul hx hb dX3_behindOctal_56 ?_
      refine lv_aload_n hx hb dX3_behindOctal_57 rfl (lv_at hl 0 rfl) ?_
      refine va_get (D := (dC, dI)) (ci := 3) (v := .ref aS) (C := RX3) (T := TX3) (N := 3) hx hb hts i_X3_behindOctal_X3 hown hK hP 0 rfl rfl 0 (by decide) (hts (.fieldLink RX3 9 "TokenRow$Quotes" "source" "LTokenRow$Source;") (List.mem_of_getElem? (i := 1) rfl)) (fun _ h9 => h9) rfl dX3_behindOctal_58 ?_
      refine lv_iload_n hx hb dX3_behindOctal_61 rfl (lv_at hl 3 rfl) ?_
      obtain ⟨z3, hz3, hf⟩ := bd_ok hf
      have hPc := hP.sub (ws' := [(aS, .inr (6, [.ref aSc, .int S_count, .int S_cutShort])), (aSc, .inl (cyC, 81920, .inl Sc))]) [1, 2] rfl
      refine vp_callSi (va_Run.run (va_runV (As := [.int x3]) (rest := [.int (Q_character * (8 : Int32)), .ref aQ]) ⟨hx, hb, hml, hown, hts⟩ (m_X6_look l dC dI cyB cyC cyI cyJ cyZ aS aSc  x3 S_count S_cutShort Sc n z3 hz3) (cwV 1 hts gX3_behindOctal_X6_look rfl rfl rfl (by decide +kernel) ⟨Nat.le_of_ble_eq_true rfl, Nat.le_of_ble_eq_true rfl⟩) (proV (va_recv hK hP (ci := 6) (q0 := 1) rfl rfl) hPc hK hN) rfl rfl hl.1 rfl (lv_room (Nat.le_of_ble_eq_true rfl)) dX3_behindOctal_62 ⟨Nat.le_of_ble_eq_true rfl, Nat.le_of_ble_eq_true rfl⟩)) (fun o3 hr9 => ?_)
      subst hr9
      obtain ⟨z4, hz4, hf⟩ := bd_ok hf
      have hPc := hP.sub (ws' := []) [] rfl
      refine vp_callSi (va_Run.run (va_runSN (As := [.int o3]) (rest := [.int (Q_character * (8 : Int32)), .ref aQ]) ⟨hx, hb, hml, hown, hts⟩ (m_X9_digitOf l dC dI cyB cyC cyI cyJ cyZ   o3  n z4 hz4) ⟨va_cnB 1 hts ggX3_behindOctal_X9_digitOf rfl rfl rfl (hN (.methodLinkNest RX3 49 yX9_digitOf RX9) (List.mem_of_getElem? (i := 12) rfl)) (hts (.initialized RX9) (List.mem_of_getElem? (i := 11) rfl)) (by decide +kernel) ⟨Nat.le_of_ble_eq_true rfl, Nat.le_of_ble_eq_true rfl⟩, (hts (.static yX9_digitOf) (List.mem_of_getElem? (i := 10) rfl)), trivial⟩ (proS hPc hK hN) rfl rfl hl.1 rfl (lv_room (Nat.le_of_ble_eq_true rfl)) dX3_behindOctal_65 ⟨Nat.le_of_ble_eq_true rfl, Nat.le_of_ble_eq_true rfl⟩)) (fun o4 hr9 => ?_)
      subst hr9
      refine lv_iadd hx hb dX3_behindOctal_68 ?_
      refine lv_topi (fun y5 ey5 => ?_)
      have hf := lt_ok hf y5 ey5
      refine va_put (D := (dC, dI)) (ci := 3) (v := .int y5) (ty := .int) (C := RX3) (T := TX3) (N := 3) hx hb hts i_X3_behindOctal_X3 tyX3 tyX3_ok nmX3 hown hK hP hD hS 0 rfl rfl 2 (by decide) (hts (.fieldLink RX3 28 "TokenRow$Quotes" "character" "I") (List.mem_of_getElem? (i := 2) rfl)) (fun _ h9 => h9) rfl (by decide +kernel) rfl rfl (Nat.le_of_ble_eq_true rfl) dX3_behindOctal_69 (fun H6 locs hP hD hS => ?_)
      have hP : va_P (dC, dI) vwCl [(aQ, .inr (3, [.ref aS, .ref aF, .int y5])), (aS, .inr (6, [.ref aSc, .int S_count, .int S_cutShort])), (aSc, .inl (cyC, 81920, .inl Sc))] H6 := hP
      have hD : va_D A [(aQ, .inr (3, [.ref aS, .ref aF, .int y5])), (aS, .inr (6, [.ref aSc, .int S_count, .int S_cutShort])), (aSc, .inl (cyC, 81920, .inl Sc))] := hD
      obtain ⟨y7, ey7⟩ : ∃ y : Int32, y = x3 + (1 : Int32) := ⟨_, rfl⟩
      have hf := lt_ok hf y7 ey7
      refine lv_iinc (v := y7) (lv' := [(3, .int y7), (0, .ref aQ), (1, .int x1), (2, .int x2)]) hx hb dX3_behindOctal_72 hl (k := 3) rfl (by rw [ey7]; rfl) (by decide) rfl (fun ls hl => ?_)
      refine lv_goto (tgt := 26) hx hb dX3_behindOctal_75 (by decide) ?_
      exact hr26 _ _ _ _ _ _ hf hP hD hS ls (lv_sub hl [1, 2, 3, 0] rfl)
def f_X3_behindOctal_26 (n : Nat) (S_count : Int32) (S_cutShort : Int32) (Sc : Nat → Int32) : Nat → Int32 → Int32 → Int32 → Int32 → Option (Int32 × Int32)
  | 0 => fun _ _ _ _ => none
  | k + 1 => fun Q_character x1 x2 x3 => fb_X3_behindOctal_26 n (f_X3_behindOctal_26 n S_count S_cutShort Sc k) S_count S_cutShort Sc Q_character x1 x2 x3
set_option maxHeartbeats 4000000 in
set_option maxRecDepth 100000 in
theorem k_X3_behindOctal_26 {p : Program} {l : Launch} {e : Env} {s : State} {m : MethodId} {args : Array Value} {below : List Frame} {meth : Method} {c : Code} {dC : Nat → ClassId} {dI : Nat → Nat → Nat} {cyB cyC cyI cyJ cyZ : ClassId} {aQ aS aF aSc : Nat} {S_count : Int32} {S_cutShort : Int32} {Sc : Nat → Int32} {A : Nat → Prop} {out : Int32 × Int32} (CX : cx cX3_behindOctal (some .int) 4 RX3 wsX3_behindOctal (dC, dI) (TY cyB cyC cyI cyJ cyZ) p s m args meth c) (hA : ∀ q : Nat, s.heap.size ≤ q → A q) (n : Nat) : ∀ k : Nat, J_X3_behindOctal_26 p l e s m args below meth c dC dI cyB cyC cyI cyJ cyZ aQ aS aF aSc S_count S_cutShort Sc A out (f_X3_behindOctal_26 n S_count S_cutShort Sc k) := by
  intro k
  induction k with
  | zero =>
    intro Q_character x1 x2 x3 H locs hf
    exact absurd (show (none : Option (Int32 × Int32)) = some out from hf) (by simp)
  | succ k ih =>
    exact kb_X3_behindOctal_26 (aF := aF) CX hA n ih
def f_X3_behindOctal_18 (n : Nat) (S_count : Int32) (S_cutShort : Int32) (Sc : Nat → Int32) (Q_character : Int32) (x1 : Int32) (t0 : Int32) : Option (Int32 × Int32) :=
  f_X3_behindOctal_26 n S_count S_cutShort Sc n (0 : Int32) x1 t0 x1
set_option maxHeartbeats 4000000 in
set_option maxRecDepth 100000 in
theorem k_X3_behindOctal_18 {p : Program} {l : Launch} {e : Env} {s : State} {m : MethodId} {args : Array Value} {below : List Frame} {meth : Method} {c : Code} {dC : Nat → ClassId} {dI : Nat → Nat → Nat} {cyB cyC cyI cyJ cyZ : ClassId} {aQ aS aF aSc : Nat} {S_count : Int32} {S_cutShort : Int32} {Sc : Nat → Int32} {A : Nat → Prop} {out : Int32 × Int32} (CX : cx cX3_behindOctal (some .int) 4 RX3 wsX3_behindOctal (dC, dI) (TY cyB cyC cyI cyJ cyZ) p s m args meth c) (hA : ∀ q : Nat, s.heap.size ≤ q → A q) (n : Nat) : J_X3_behindOctal_18 p l e s m args below meth c dC dI cyB cyC cyI cyJ cyZ aQ aS aF aSc S_count S_cutShort Sc A out (f_X3_behindOctal_18 n S_count S_cutShort Sc) := by
  intro Q_character x1 t0 H locs hf hP hD hS ls hl
  obtain ⟨hx, hb, hr, hml, hown, hts, hlocks, hK, hN⟩ := id CX
  unfold f_X3_behindOctal_18 at hf
  refine lv_istore_n (lv' := [(2, .int t0), (0, .ref aQ), (1, .int x1)]) hx hb dX3_behindOctal_18 rfl hl (by decide) rfl (fun ls hl => ?_)
  refine lv_aload_n hx hb dX3_behindOctal_19 rfl (lv_at hl 1 rfl) ?_
  refine lv_iconst (v := (0 : Int32)) hx hb dX3_behindOctal_20 (by decide) ?_
  refine va_put (D := (dC, dI)) (ci := 3) (v := .int (0 : Int32)) (ty := .int) (C := RX3) (T := TX3) (N := 3) hx hb hts i_X3_behindOctal_X3 tyX3 tyX3_ok nmX3 hown hK hP hD hS 0 rfl rfl 2 (by decide) (hts (.fieldLink RX3 28 "TokenRow$Quotes" "character" "I") (List.mem_of_getElem? (i := 2) rfl)) (fun _ h9 => h9) rfl (by decide +kernel) rfl rfl (Nat.le_of_ble_eq_true rfl) dX3_behindOctal_21 (fun H1 locs hP hD hS => ?_)
  have hP : va_P (dC, dI) vwCl [(aQ, .inr (3, [.ref aS, .ref aF, .int (0 : Int32)])), (aS, .inr (6, [.ref aSc, .int S_count, .int S_cutShort])), (aSc, .inl (cyC, 81920, .inl Sc))] H1 := hP
  have hD : va_D A [(aQ, .inr (3, [.ref aS, .ref aF, .int (0 : Int32)])), (aS, .inr (6, [.ref aSc, .int S_count, .int S_cutShort])), (aSc, .inl (cyC, 81920, .inl Sc))] := hD
  refine lv_iload_n hx hb dX3_behindOctal_24 rfl (lv_at hl 2 rfl) ?_
  refine lv_istore_n (lv' := [(3, .int x1), (2, .int t0), (0, .ref aQ), (1, .int x1)]) hx hb dX3_behindOctal_25 rfl hl (by decide) rfl (fun ls hl => ?_)
  exact k_X3_behindOctal_26 (aF := aF) CX hA n n _ _ _ _ _ _ hf hP hD hS ls (lv_sub hl [2, 3, 1, 0] rfl)
def f_X3_behindOctal_0 (n : Nat) (S_count : Int32) (S_cutShort : Int32) (Sc : Nat → Int32) (Q_character : Int32) (x1 : Int32) : Option (Int32 × Int32) :=
  bd (f_X6_look n x1 S_count S_cutShort Sc) fun o1 =>
  if (51 : Int32) < o1 then
  (f_X3_behindOctal_18 n S_count S_cutShort Sc Q_character x1 (2 : Int32))
  else
  (f_X3_behindOctal_18 n S_count S_cutShort Sc Q_character x1 (3 : Int32))
set_option maxHeartbeats 4000000 in
set_option maxRecDepth 100000 in
theorem k_X3_behindOctal_0 {p : Program} {l : Launch} {e : Env} {s : State} {m : MethodId} {args : Array Value} {below : List Frame} {meth : Method} {c : Code} {dC : Nat → ClassId} {dI : Nat → Nat → Nat} {cyB cyC cyI cyJ cyZ : ClassId} {aQ aS aF aSc : Nat} {S_count : Int32} {S_cutShort : Int32} {Sc : Nat → Int32} {A : Nat → Prop} {out : Int32 × Int32} (CX : cx cX3_behindOctal (some .int) 4 RX3 wsX3_behindOctal (dC, dI) (TY cyB cyC cyI cyJ cyZ) p s m args meth c) (hA : ∀ q : Nat, s.heap.size ≤ q → A q) (n : Nat) : J_X3_behindOctal_0 p l e s m args below meth c dC dI cyB cyC cyI cyJ cyZ aQ aS aF aSc S_count S_cutShort Sc A out (f_X3_behindOctal_0 n S_count S_cutShort Sc) := by
  intro Q_character x1 H locs hf hP hD hS ls hl
  obtain ⟨hx, hb, hr, hml, hown, hts, hlocks, hK, hN⟩ := id CX
  unfold f_X3_behindOctal_0 at hf
  refine lv_aload_n hx hb dX3_behindOctal_0 rfl (lv_at hl 0 rfl) ?_
  refine va_get (D := (dC, dI)) (ci := 3) (v := .ref aS) (C := RX3) (T := TX3) (N := 3) hx hb hts i_X3_behindOctal_X3 hown hK hP 0 rfl rfl 0 (by decide) (hts (.fieldLink RX3 9 "TokenRow$Quotes" "source" "LTokenRow$Source;") (List.mem_of_getElem? (i := 1) rfl)) (fun _ h9 => h9) rfl dX3_behindOctal_1 ?_
  refine lv_iload_n hx hb dX3_behindOctal_4 rfl (lv_at hl 1 rfl) ?_
  obtain ⟨z1, hz1, hf⟩ := bd_ok hf
  have hPc := hP.sub (ws' := [(aS, .inr (6, [.ref aSc, .int S_count, .int S_cutShort])), (aSc, .inl (cyC, 81920, .inl Sc))]) [1, 2] rfl
  refine vp_callSi (va_Run.run (va_runV (As := [.int x1]) (rest := []) ⟨hx, hb, hml, hown, hts⟩ (m_X6_look l dC dI cyB cyC cyI cyJ cyZ aS aSc  x1 S_count S_cutShort Sc n z1 hz1) (cwV 1 hts gX3_behindOctal_X6_look rfl rfl rfl (by decide +kernel) ⟨Nat.le_of_ble_eq_true rfl, Nat.le_of_ble_eq_true rfl⟩) (proV (va_recv hK hP (ci := 6) (q0 := 1) rfl rfl) hPc hK hN) rfl rfl hl.1 rfl (lv_room (Nat.le_of_ble_eq_true rfl)) dX3_behindOctal_5 ⟨Nat.le_of_ble_eq_true rfl, Nat.le_of_ble_eq_true rfl⟩)) (fun o1 hr9 => ?_)
  subst hr9
  refine lv_bipush (v := (51 : Int32)) hx hb dX3_behindOctal_8 (by decide) ?_
  refine lv_icmp_gt (tgt := 17) hx hb dX3_behindOctal_10 (by decide) (fun hc => ?_) (fun hc => ?_)
  · have hf := (if_pos hc).symm.trans hf
    refine lv_iconst (v := (2 : Int32)) hx hb dX3_behindOctal_17 (by decide) ?_
    exact k_X3_behindOctal_18 (aF := aF) CX hA n _ _ _ _ _ hf hP hD hS ls (lv_sub hl [0, 1] rfl)
  · have hf := (if_neg hc).symm.trans hf
    refine lv_iconst (v := (3 : Int32)) hx hb dX3_behindOctal_13 (by decide) ?_
    refine lv_goto (tgt := 18) hx hb dX3_behindOctal_14 (by decide) ?_
    exact k_X3_behindOctal_18 (aF := aF) CX hA n _ _ _ _ _ hf hP hD hS ls (lv_sub hl [0, 1] rfl)
def f_X3_behindOctal (n : Nat) (p1 : Int32) (Q_character : Int32) (S_count : Int32) (S_cutShort : Int32) (Sc : Nat → Int32) : Option (Int32 × Int32) := f_X3_behindOctal_0 n S_count S_cutShort Sc Q_character p1
set_option maxHeartbeats 4000000 in
set_option maxRecDepth 100000 in
/-- TokenRow$Quotes.behindOctal(I)I -/
theorem m_X3_behindOctal (l : Launch) (dC : Nat → ClassId) (dI : Nat → Nat → Nat) (cyB cyC cyI cyJ cyZ : ClassId) (aQ aS aF aSc : Nat) (sz : Nat) (p1 : Int32) (Q_character : Int32) (S_count : Int32) (S_cutShort : Int32) (Sc : Nat → Int32) (n : Nat) (out : Int32 × Int32) (hf : f_X3_behindOctal n p1 Q_character S_count S_cutShort Sc = some out) : Met l yX3_behindOctal wsX3_behindOctal rm_X3_behindOctal (Prw (dC, dI) (TY cyB cyC cyI cyJ cyZ) [.ref aQ, .int p1] sz [(aQ, .inr (3, [.ref aS, .ref aF, .int Q_character])), (aS, .inr (6, [.ref aSc, .int S_count, .int S_cutShort])), (aSc, .inl (cyC, 81920, .inl Sc))]) (va_Qi (fun (r : Int32) (u : Int32) => (r, u) = out) (Bw (dC, dI) (va_A [(aQ, .inr (3, [.ref aS, .ref aF, .int Q_character])), (aS, .inr (6, [.ref aSc, .int S_count, .int S_cutShort])), (aSc, .inl (cyC, 81920, .inl Sc))] sz) (fun u => [(aQ, .inr (3, [.ref aS, .ref aF, .int u])), (aS, .inr (6, [.ref aSc, .int S_count, .int S_cutShort])), (aSc, .inl (cyC, 81920, .inl Sc))])) (va_A [(aQ, .inr (3, [.ref aS, .ref aF, .int Q_character])), (aS, .inr (6, [.ref aSc, .int S_count, .int S_cutShort])), (aSc, .inl (cyC, 81920, .inl Sc))] sz)) 0 0 (va_A [(aQ, .inr (3, [.ref aS, .ref aF, .int Q_character])), (aS, .inr (6, [.ref aSc, .int S_count, .int S_cutShort])), (aSc, .inl (cyC, 81920, .inl Sc))] sz) := by
  refine Met.ofW (cc := cX3_behindOctal) (maxL := 4) (ret := (some .int)) (by decide) rfl ?_
  intro p e s m args below meth c s₁ B hml hv
  obtain ⟨rfl, hsz, hP, hK, hD0, hN⟩ := hv
  subst hsz
  have hD := hD0.self (sz := s.heap.size)
  have CX : cx cX3_behindOctal (some .int) 4 RX3 wsX3_behindOctal (dC, dI) (TY cyB cyC cyI cyJ cyZ) p s m ([.ref aQ, .int p1] : List Value).toArray meth c := ⟨B.exec, B.bytes, B.returns, hml, findClass_of_methodNamed B.named, atoms_spec (ws := wsX3_behindOctal) B.pre, B.notSynchronized, hK, hN⟩
  have hl := lv_entry ([.ref aQ, .int p1]) (n := 4) (Nat.le_of_ble_eq_true rfl)
  rw [lg_entry_eq]
  exact k_X3_behindOctal_0 (aF := aF) CX (fun q h => Or.inr h) n _ _ _ _ hf hP hD va_S.rf _ hl
abbrev rm_X3_behindEscape : Room := { frames := 2, cells := 0, slots := 0, locals := 44 }
theorem i_X3_behindEscape_X3 : ∀ w ∈ u_ws RX3 TX3 3, w ∈ wsX3_behindEscape := fun _ h => (List.mem_cons_of_mem _ (List.mem_append_left _ (List.mem_append_right _ h)))
theorem i_X3_behindEscape_X6 : ∀ w ∈ u_ws RX6 TX6 3, w ∈ wsX3_behindEscape := fun _ h => (List.mem_cons_of_mem _ (List.mem_append_right _ h))
def J_X3_behindEscape_0 (p : Program) (l : Launch) (e : Env) (s : State) (m : MethodId) (args : Array Value) (below : List Frame) (meth : Method) (c : Code) (dC : Nat → ClassId) (dI : Nat → Nat → Nat) (cyB cyC cyI cyJ cyZ : ClassId) (aQ aS aF aSc : Nat) (S_count : Int32) (S_cutShort : Int32) (Sc : Nat → Int32) (A : Nat → Prop) (out : Int32 × Int32) (g : Int32 → Int32 → Option (Int32 × Int32)) : Prop := ∀ (Q_character : Int32) (x1 : Int32) (H : Heap) (locs : List Loc), g Q_character x1 = some out → va_P (dC, dI) vwCl [(aQ, .inr (3, [.ref aS, .ref aF, .int Q_character])), (aS, .inr (6, [.ref aSc, .int S_count, .int S_cutShort])), (aSc, .inl (cyC, 81920, .inl Sc))] H → va_D A [(aQ, .inr (3, [.ref aS, .ref aF, .int Q_character])), (aS, .inr (6, [.ref aSc, .int S_count, .int S_cutShort])), (aSc, .inl (cyC, 81920, .inl Sc))] → va_S A s.heap H locs → ∀ ls : Array Slot, lv_has ls 3 [(0, .ref aQ), (1, .int x1)] → W p l e rm_X3_behindEscape s m args below meth c H locs 0 0 (MQ below (va_Qi (fun (r : Int32) (u : Int32) => (r, u) = out) (Bw (dC, dI) A (fun u => [(aQ, .inr (3, [.ref aS, .ref aF, .int u])), (aS, .inr (6, [.ref aSc, .int S_count, .int S_cutShort])), (aSc, .inl (cyC, 81920, .inl Sc))])) A) args s 0 0 A) (F0 m 0 ls [])
def f_X3_behindEscape_0 (n : Nat) (S_count : Int32) (S_cutShort : Int32) (Sc : Nat → Int32) (Q_character : Int32) (x1 : Int32) : Option (Int32 × Int32) :=
  bd (f_X6_look n x1 S_count S_cutShort Sc) fun o1 =>
  bd (f_X9_digitOf n o1 ) fun o2 =>
  if (8 : Int32) ≤ o2 then
  (bd (f_X3_escaped n o1 ) fun o3 =>
  if o3 = (-1 : Int32) then
  (some ((-1 : Int32), o3))
  else
  (some (x1 + (1 : Int32), o3)))
  else
  (bd (f_X3_behindOctal n x1 Q_character S_count S_cutShort Sc) fun qu7 =>
  lt_ qu7.1 fun r8 => lt_ qu7.2 fun u7 =>
  some (r8, u7))
set_option maxHeartbeats 4000000 in
set_option maxRecDepth 100000 in
theorem k_X3_behindEscape_0 {p : Program} {l : Launch} {e : Env} {s : State} {m : MethodId} {args : Array Value} {below : List Frame} {meth : Method} {c : Code} {dC : Nat → ClassId} {dI : Nat → Nat → Nat} {cyB cyC cyI cyJ cyZ : ClassId} {aQ aS aF aSc : Nat} {S_count : Int32} {S_cutShort : Int32} {Sc : Nat → Int32} {A : Nat → Prop} {out : Int32 × Int32} (CX : cx cX3_behindEscape (some .int) 3 RX3 wsX3_behindEscape (dC, dI) (TY cyB cyC cyI cyJ cyZ) p s m args meth c) (hA : ∀ q : Nat, s.heap.size ≤ q → A q) (n : Nat) : J_X3_behindEscape_0 p l e s m args below meth c dC dI cyB cyC cyI cyJ cyZ aQ aS aF aSc S_count S_cutShort Sc A out (f_X3_behindEscape_0 n S_count S_cutShort Sc) := by
  intro Q_character x1 H locs hf hP hD hS ls hl
  obtain ⟨hx, hb, hr, hml, hown, hts, hlocks, hK, hN⟩ := id CX
  unfold f_X3_behindEscape_0 at hf
  refine lv_aload_n hx hb dX3_behindEscape_0 rfl (lv_at hl 0 rfl) ?_
  refine va_get (D := (dC, dI)) (ci := 3) (v := .ref aS) (C := RX3) (T := TX3) (N := 3) hx hb hts i_X3_behindEscape_X3 hown hK hP 0 rfl rfl 0 (by decide) (hts (.fieldLink RX3 9 "TokenRow$Quotes" "source" "LTokenRow$Source;") (List.mem_of_getElem? (i := 1) rfl)) (fun _ h9 => h9) rfl dX3_behindEscape_1 ?_
  refine lv_iload_n hx hb dX3_behindEscape_4 rfl (lv_at hl 1 rfl) ?_
  obtain ⟨z1, hz1, hf⟩ := bd_ok hf
  have hPc := hP.sub (ws' := [(aS, .inr (6, [.ref aSc, .int S_count, .int S_cutShort])), (aSc, .inl (cyC, 81920, .inl Sc))]) [1, 2] rfl
  refine vp_callSi (va_Run.run (va_runV (As := [.int x1]) (rest := []) ⟨hx, hb, hml, hown, hts⟩ (m_X6_look l dC dI cyB cyC cyI cyJ cyZ aS aSc  x1 S_count S_cutShort Sc n z1 hz1) (cwV 1 hts gX3_behindEscape_X6_look rfl rfl rfl (by decide +kernel) ⟨Nat.le_of_ble_eq_true rfl, Nat.le_of_ble_eq_true rfl⟩) (proV (va_recv hK hP (ci := 6) (q0 := 1) rfl rfl) hPc hK hN) rfl rfl hl.1 rfl (lv_room (Nat.le_of_ble_eq_true rfl)) dX3_behindEscape_5 ⟨Nat.le_of_ble_eq_true rfl, Nat.le_of_ble_eq_true rfl⟩)) (fun o1 hr9 => ?_)
  subst hr9
  refine lv_istore_n (lv' := [(2, .int o1), (0, .ref aQ), (1, .int x1)]) hx hb dX3_behindEscape_8 rfl hl (by decide) rfl (fun ls hl => ?_)
  refine lv_iload_n hx hb dX3_behindEscape_9 rfl (lv_at hl 0 rfl) ?_
  obtain ⟨z2, hz2, hf⟩ := bd_ok hf
  have hPc := hP.sub (ws' := []) [] rfl
  refine vp_callSi (va_Run.run (va_runSN (As := [.int o1]) (rest := []) ⟨hx, hb, hml, hown, hts⟩ (m_X9_digitOf l dC dI cyB cyC cyI cyJ cyZ   o1  n z2 hz2) ⟨va_cnB 1 hts ggX3_behindEscape_X9_digitOf rfl rfl rfl (hN (.methodLinkNest RX3 49 yX9_digitOf RX9) (List.mem_of_getElem? (i := 12) rfl)) (hts (.initialized RX9) (List.mem_of_getElem? (i := 11) rfl)) (by decide +kernel) ⟨Nat.le_of_ble_eq_true rfl, Nat.le_of_ble_eq_true rfl⟩, (hts (.static yX9_digitOf) (List.mem_of_getElem? (i := 10) rfl)), trivial⟩ (proS hPc hK hN) rfl rfl hl.1 rfl (lv_room (Nat.le_of_ble_eq_true rfl)) dX3_behindEscape_10 ⟨Nat.le_of_ble_eq_true rfl, Nat.le_of_ble_eq_true rfl⟩)) (fun o2 hr9 => ?_)
  subst hr9
  refine lv_bipush (v := (8 : Int32)) hx hb dX3_behindEscape_13 (by decide) ?_
  refine lv_icmp_ge (tgt := 24) hx hb dX3_behindEscape_15 (by decide) (fun hc => ?_) (fun hc => ?_)
  · have hf := (if_pos hc).symm.trans hf
    refine lv_aload_n hx hb dX3_behindEscape_24 rfl (lv_at hl 1 rfl) ?_
    refine lv_iload_n hx hb dX3_behindEscape_25 rfl (lv_at hl 0 rfl) ?_
    obtain ⟨z3, hz3, hf⟩ := bd_ok hf
    have hPc := hP.sub (ws' := []) [] rfl
    refine vp_callSi (va_Run.run (va_runS (As := [.int o1]) (rest := [.ref aQ]) ⟨hx, hb, hml, hown, hts⟩ (m_X3_escaped l dC dI cyB cyC cyI cyJ cyZ   o1  n z3 hz3) (va_cwS 1 hts gX3_behindEscape_X3_escaped rfl rfl rfl (by decide +kernel) ⟨Nat.le_of_ble_eq_true rfl, Nat.le_of_ble_eq_true rfl⟩) (proS hPc hK hN) rfl rfl hl.1 rfl (lv_room (Nat.le_of_ble_eq_true rfl)) dX3_behindEscape_26 ⟨Nat.le_of_ble_eq_true rfl, Nat.le_of_ble_eq_true rfl⟩)) (fun o3 hr9 => ?_)
    subst hr9
    refine va_put (D := (dC, dI)) (ci := 3) (v := .int o3) (ty := .int) (C := RX3) (T := TX3) (N := 3) hx hb hts i_X3_behindEscape_X3 tyX3 tyX3_ok nmX3 hown hK hP hD hS 0 rfl rfl 2 (by decide) (hts (.fieldLink RX3 28 "TokenRow$Quotes" "character" "I") (List.mem_of_getElem? (i := 2) rfl)) (fun _ h9 => h9) rfl (by decide +kernel) rfl rfl (Nat.le_of_ble_eq_true rfl) dX3_behindEscape_29 (fun H4 locs hP hD hS => ?_)
    have hP : va_P (dC, dI) vwCl [(aQ, .inr (3, [.ref aS, .ref aF, .int o3])), (aS, .inr (6, [.ref aSc, .int S_count, .int S_cutShort])), (aSc, .inl (cyC, 81920, .inl Sc))] H4 := hP
    have hD : va_D A [(aQ, .inr (3, [.ref aS, .ref aF, .int o3])), (aS, .inr (6, [.ref aSc, .int S_count, .int S_cutShort])), (aSc, .inl (cyC, 81920, .inl Sc))] := hD
    refine lv_aload_n hx hb dX3_behindEscape_32 rfl (lv_at hl 1 rfl) ?_
    refine va_get (D := (dC, dI)) (ci := 3) (v := .int o3) (C := RX3) (T := TX3) (N := 3) hx hb hts i_X3_behindEscape_X3 hown hK hP 0 rfl rfl 2 (by decide) (hts (.fieldLink RX3 28 "TokenRow$Quotes" "character" "I") (List.mem_of_getElem? (i := 2) rfl)) (fun _ h9 => h9) rfl dX3_behindEscape_33 ?_
    refine lv_iconst (v := (-1 : Int32)) hx hb dX3_behindEscape_36 (by decide) ?_
    refine lv_icmp_ne (tgt := 44) hx hb dX3_behindEscape_37 (by decide) (fun hc => ?_) (fun hc => ?_)
    · have hf := (if_neg hc).symm.trans hf
      refine lv_iload_n hx hb dX3_behindEscape_44 rfl (lv_at hl 2 rfl) ?_
      refine lv_iconst (v := (1 : Int32)) hx hb dX3_behindEscape_45 (by decide) ?_
      refine lv_iadd hx hb dX3_behindEscape_46 ?_
      exact W.iret (v := x1 + (1 : Int32)) hx hb hr (fun t ht hW => ⟨⟨_, o3, rfl, Option.some.inj hf, by rw [ht]; exact hP, hD⟩, hS.F ht⟩) hS.2.2 dX3_behindEscape_47
    · have hf := (if_pos hc).symm.trans hf
      refine lv_iconst (v := (-1 : Int32)) hx hb dX3_behindEscape_40 (by decide) ?_
      refine lv_goto (tgt := 47) hx hb dX3_behindEscape_41 (by decide) ?_
      exact W.iret (v := (-1 : Int32)) hx hb hr (fun t ht hW => ⟨⟨_, o3, rfl, Option.some.inj hf, by rw [ht]; exact hP, hD⟩, hS.F ht⟩) hS.2.2 dX3_behindEscape_47
  · have hf := (if_neg hc).symm.trans hf
    refine lv_aload_n hx hb dX3_behindEscape_18 rfl (lv_at hl 1 rfl) ?_
    refine lv_iload_n hx hb dX3_behindEscape_19 rfl (lv_at hl 2 rfl) ?_
    obtain ⟨z5, hz5, hf⟩ := bd_ok hf
    have hPc := hP.sub (ws' := [(aQ, .inr (3, [.ref aS, .ref aF, .int Q_character])), (aS, .inr (6, [.ref aSc, .int S_count, .int S_cutShort])), (aSc, .inl (cyC, 81920, .inl Sc))]) [0, 1, 2] rfl
    have hDc := hD.sub (ws' := [(aQ, .inr (3, [.ref aS, .ref aF, .int Q_character])), (aS, .inr (6, [.ref aSc, .int S_count, .int S_cutShort])), (aSc, .inl (cyC, 81920, .inl Sc))]) [0, 1, 2] (by decide) rfl
    have hFc := va_free (wc := [(aQ, .inr (3, [.ref aS, .ref aF, .int Q_character])), (aS, .inr (6, [.ref aSc, .int S_count, .int S_cutShort])), (aSc, .inl (cyC, 81920, .inl Sc))]) hD hS hA [0, 1, 2] rfl
    refine va_calli (va_runV (As := [.int x1]) (rest := []) ⟨hx, hb, hml, hown, hts⟩ (m_X3_behindOctal l dC dI cyB cyC cyI cyJ cyZ aQ aS aF aSc  H.size x1 Q_character S_count S_cutShort Sc n z5 hz5) (cwV 1 hts gX3_behindEscape_X3_behindOctal rfl rfl rfl (by decide +kernel) ⟨Nat.le_of_ble_eq_true rfl, Nat.le_of_ble_eq_true rfl⟩) (prwV (va_recv hK hP (ci := 3) (q0 := 0) rfl rfl) hPc hK hDc hN) rfl rfl hl.1 rfl (lv_room (Nat.le_of_ble_eq_true rfl)) dX3_behindEscape_20 ⟨Nat.le_of_ble_eq_true rfl, Nat.le_of_ble_eq_true rfl⟩) hS (fun q _ h => hFc q h) hFc (fun r8 u7 t9 H6 locs ht hvm hw hB hz1 hk1 hS => ?_)
    subst hw
    obtain ⟨hP1, hD1⟩ := hB
    rw [ht] at hP1
    have hf := lt_ok hf r8 rfl
    have hf := lt_ok hf u7 rfl
    obtain ⟨hP, hD⟩ := va_join (wr := []) (w1 := [(aQ, .inr (3, [.ref aS, .ref aF, .int u7])), (aS, .inr (6, [.ref aSc, .int S_count, .int S_cutShort])), (aSc, .inl (cyC, 81920, .inl Sc))]) hP hD [0, 1, 2] [] rfl rfl (by decide) (by decide) hk1 hFc hP1 hD1
    have hP := hP.sub (ws' := [(aQ, .inr (3, [.ref aS, .ref aF, .int u7])), (aS, .inr (6, [.ref aSc, .int S_count, .int S_cutShort])), (aSc, .inl (cyC, 81920, .inl Sc))]) [0, 1, 2] rfl
    have hD := hD.sub (ws' := [(aQ, .inr (3, [.ref aS, .ref aF, .int u7])), (aS, .inr (6, [.ref aSc, .int S_count, .int S_cutShort])), (aSc, .inl (cyC, 81920, .inl Sc))]) [0, 1, 2] (by decide) rfl
    exact W.iret (v := r8) hx hb hr (fun t ht hW => ⟨⟨_, u7, rfl, Option.some.inj hf, by rw [ht]; exact hP, hD⟩, hS.F ht⟩) hS.2.2 dX3_behindEscape_23
def f_X3_behindEscape (n : Nat) (p1 : Int32) (Q_character : Int32) (S_count : Int32) (S_cutShort : Int32) (Sc : Nat → Int32) : Option (Int32 × Int32) := f_X3_behindEscape_0 n S_count S_cutShort Sc Q_character p1
set_option maxHeartbeats 4000000 in
set_option maxRecDepth 100000 in
/-- TokenRow$Quotes.behindEscape(I)I -/
theorem m_X3_behindEscape (l : Launch) (dC : Nat → ClassId) (dI : Nat → Nat → Nat) (cyB cyC cyI cyJ cyZ : ClassId) (aQ aS aF aSc : Nat) (sz : Nat) (p1 : Int32) (Q_character : Int32) (S_count : Int32) (S_cutShort : Int32) (Sc : Nat → Int32) (n : Nat) (out : Int32 × Int32) (hf : f_X3_behindEscape n p1 Q_character S_count S_cutShort Sc = some out) : Met l yX3_behindEscape wsX3_behindEscape rm_X3_behindEscape (Prw (dC, dI) (TY cyB cyC cyI cyJ cyZ) [.ref aQ, .int p1] sz [(aQ, .inr (3, [.ref aS, .ref aF, .int Q_character])), (aS, .inr (6, [.ref aSc, .int S_count, .int S_cutShort])), (aSc, .inl (cyC, 81920, .inl Sc))]) (va_Qi (fun (r : Int32) (u : Int32) => (r, u) = out) (Bw (dC, dI) (va_A [(aQ, .inr (3, [.ref aS, .ref aF, .int Q_character])), (aS, .inr (6, [.ref aSc, .int S_count, .int S_cutShort])), (aSc, .inl (cyC, 81920, .inl Sc))] sz) (fun u => [(aQ, .inr (3, [.ref aS, .ref aF, .int u])), (aS, .inr (6, [.ref aSc, .int S_count, .int S_cutShort])), (aSc, .inl (cyC, 81920, .inl Sc))])) (va_A [(aQ, .inr (3, [.ref aS, .ref aF, .int Q_character])), (aS, .inr (6, [.ref aSc, .int S_count, .int S_cutShort])), (aSc, .inl (cyC, 81920, .inl Sc))] sz)) 0 0 (va_A [(aQ, .inr (3, [.ref aS, .ref aF, .int Q_character])), (aS, .inr (6, [.ref aSc, .int S_count, .int S_cutShort])), (aSc, .inl (cyC, 81920, .inl Sc))] sz) := by
  refine Met.ofW (cc := cX3_behindEscape) (maxL := 3) (ret := (some .int)) (by decide) rfl ?_
  intro p e s m args below meth c s₁ B hml hv
  obtain ⟨rfl, hsz, hP, hK, hD0, hN⟩ := hv
  subst hsz
  have hD := hD0.self (sz := s.heap.size)
  have CX : cx cX3_behindEscape (some .int) 3 RX3 wsX3_behindEscape (dC, dI) (TY cyB cyC cyI cyJ cyZ) p s m ([.ref aQ, .int p1] : List Value).toArray meth c := ⟨B.exec, B.bytes, B.returns, hml, findClass_of_methodNamed B.named, atoms_spec (ws := wsX3_behindEscape) B.pre, B.notSynchronized, hK, hN⟩
  have hl := lv_entry ([.ref aQ, .int p1]) (n := 3) (Nat.le_of_ble_eq_true rfl)
  rw [lg_entry_eq]
  exact k_X3_behindEscape_0 (aF := aF) CX (fun q h => Or.inr h) n _ _ _ _ hf hP hD va_S.rf _ hl
abbrev rm_X3_behindOne : Room := { frames := 3, cells := 0, slots := 0, locals := 66 }
theorem i_X3_behindOne_X3 : ∀ w ∈ u_ws RX3 TX3 3, w ∈ wsX3_behindOne := fun _ h => (List.mem_cons_of_mem _ (List.mem_append_left _ (List.mem_append_right _ h)))
theorem i_X3_behindOne_X6 : ∀ w ∈ u_ws RX6 TX6 3, w ∈ wsX3_behindOne := fun _ h => (List.mem_cons_of_mem _ (List.mem_append_right _ h))
def J_X3_behindOne_0 (p : Program) (l : Launch) (e : Env) (s : State) (m : MethodId) (args : Array Value) (below : List Frame) (meth : Method) (c : Code) (dC : Nat → ClassId) (dI : Nat → Nat → Nat) (cyB cyC cyI cyJ cyZ : ClassId) (aQ aS aF aSc : Nat) (S_count : Int32) (S_cutShort : Int32) (Sc : Nat → Int32) (A : Nat → Prop) (out : Int32 × Int32) (g : Int32 → Int32 → Option (Int32 × Int32)) : Prop := ∀ (Q_character : Int32) (x1 : Int32) (H : Heap) (locs : List Loc), g Q_character x1 = some out → va_P (dC, dI) vwCl [(aQ, .inr (3, [.ref aS, .ref aF, .int Q_character])), (aS, .inr (6, [.ref aSc, .int S_count, .int S_cutShort])), (aSc, .inl (cyC, 81920, .inl Sc))] H → va_D A [(aQ, .inr (3, [.ref aS, .ref aF, .int Q_character])), (aS, .inr (6, [.ref aSc, .int S_count, .int S_cutShort])), (aSc, .inl (cyC, 81920, .inl Sc))] → va_S A s.heap H locs → ∀ ls : Array Slot, lv_has ls 2 [(0, .ref aQ), (1, .int x1)] → W p l e rm_X3_behindOne s m args below meth c H locs 0 0 (MQ below (va_Qi (fun (r : Int32) (u : Int32) => (r, u) = out) (Bw (dC, dI) A (fun u => [(aQ, .inr (3, [.ref aS, .ref aF, .int u])), (aS, .inr (6, [.ref aSc, .int S_count, .int S_cutShort])), (aSc, .inl (cyC, 81920, .inl Sc))])) A) args s 0 0 A) (F0 m 0 ls [])
def f_X3_behindOne_0 (n : Nat) (S_count : Int32) (S_cutShort : Int32) (Sc : Nat → Int32) (Q_character : Int32) (x1 : Int32) : Option (Int32 × Int32) :=
  bd (f_X6_look n x1 S_count S_cutShort Sc) fun o1 =>
  if o1 = (-1 : Int32) then
  (some ((-1 : Int32), o1))
  else
  (bd (f_X9_isLineEnd n o1 ) fun o3 =>
  if o3 = 0 then
  (if o1 = (92 : Int32) then
  (bd (f_X3_behindEscape n (x1 + (1 : Int32)) o1 S_count S_cutShort Sc) fun qu6 =>
  lt_ qu6.1 fun r7 => lt_ qu6.2 fun u6 =>
  some (r7, u6))
  else
  (some (x1 + (1 : Int32), o1)))
  else
  (some ((-1 : Int32), o1)))
set_option maxHeartbeats 4000000 in
set_option maxRecDepth 100000 in
theorem k_X3_behindOne_0 {p : Program} {l : Launch} {e : Env} {s : State} {m : MethodId} {args : Array Value} {below : List Frame} {meth : Method} {c : Code} {dC : Nat → ClassId} {dI : Nat → Nat → Nat} {cyB cyC cyI cyJ cyZ : ClassId} {aQ aS aF aSc : Nat} {S_count : Int32} {S_cutShort : Int32} {Sc : Nat → Int32} {A : Nat → Prop} {out : Int32 × Int32} (CX : cx cX3_behindOne (some .int) 2 RX3 wsX3_behindOne (dC, dI) (TY cyB cyC cyI cyJ cyZ) p s m args meth c) (hA : ∀ q : Nat, s.heap.size ≤ q → A q) (n : Nat) : J_X3_behindOne_0 p l e s m args below meth c dC dI cyB cyC cyI cyJ cyZ aQ aS aF aSc S_count S_cutShort Sc A out (f_X3_behindOne_0 n S_count S_cutShort Sc) := by
  intro Q_character x1 H locs hf hP hD hS ls hl
  obtain ⟨hx, hb, hr, hml, hown, hts, hlocks, hK, hN⟩ := id CX
  unfold f_X3_behindOne_0 at hf
  refine lv_aload_n hx hb dX3_behindOne_0 rfl (lv_at hl 0 rfl) ?_
  refine lv_aload_n hx hb dX3_behindOne_1 rfl (lv_at hl 0 rfl) ?_
  refine va_get (D := (dC, dI)) (ci := 3) (v := .ref aS) (C := RX3) (T := TX3) (N := 3) hx hb hts i_X3_behindOne_X3 hown hK hP 0 rfl rfl 0 (by decide) (hts (.fieldLink RX3 9 "TokenRow$Quotes" "source" "LTokenRow$Source;") (List.mem_of_getElem? (i := 1) rfl)) (fun _ h9 => h9) rfl dX3_behindOne_2 ?_
  refine lv_iload_n hx hb dX3_behindOne_5 rfl (lv_at hl 1 rfl) ?_
  obtain ⟨z1, hz1, hf⟩ := bd_ok hf
  have hPc := hP.sub (ws' := [(aS, .inr (6, [.ref aSc, .int S_count, .int S_cutShort])), (aSc, .inl (cyC, 81920, .inl Sc))]) [1, 2] rfl
  refine vp_callSi (va_Run.run (va_runV (As := [.int x1]) (rest := [.ref aQ]) ⟨hx, hb, hml, hown, hts⟩ (m_X6_look l dC dI cyB cyC cyI cyJ cyZ aS aSc  x1 S_count S_cutShort Sc n z1 hz1) (cwV 1 hts gX3_behindOne_X6_look rfl rfl rfl (by decide +kernel) ⟨Nat.le_of_ble_eq_true rfl, Nat.le_of_ble_eq_true rfl⟩) (proV (va_recv hK hP (ci := 6) (q0 := 1) rfl rfl) hPc hK hN) rfl rfl hl.1 rfl (lv_room (Nat.le_of_ble_eq_true rfl)) dX3_behindOne_6 ⟨Nat.le_of_ble_eq_true rfl, Nat.le_of_ble_eq_true rfl⟩)) (fun o1 hr9 => ?_)
  subst hr9
  refine va_put (D := (dC, dI)) (ci := 3) (v := .int o1) (ty := .int) (C := RX3) (T := TX3) (N := 3) hx hb hts i_X3_behindOne_X3 tyX3 tyX3_ok nmX3 hown hK hP hD hS 0 rfl rfl 2 (by decide) (hts (.fieldLink RX3 28 "TokenRow$Quotes" "character" "I") (List.mem_of_getElem? (i := 2) rfl)) (fun _ h9 => h9) rfl (by decide +kernel) rfl rfl (Nat.le_of_ble_eq_true rfl) dX3_behindOne_9 (fun H2 locs hP hD hS => ?_)
  have hP : va_P (dC, dI) vwCl [(aQ, .inr (3, [.ref aS, .ref aF, .int o1])), (aS, .inr (6, [.ref aSc, .int S_count, .int S_cutShort])), (aSc, .inl (cyC, 81920, .inl Sc))] H2 := hP
  have hD : va_D A [(aQ, .inr (3, [.ref aS, .ref aF, .int o1])), (aS, .inr (6, [.ref aSc, .int S_count, .int S_cutShort])), (aSc, .inl (cyC, 81920, .inl Sc))] := hD
  refine lv_aload_n hx hb dX3_behindOne_12 rfl (lv_at hl 0 rfl) ?_
  refine va_get (D := (dC, dI)) (ci := 3) (v := .int o1) (C := RX3) (T := TX3) (N := 3) hx hb hts i_X3_behindOne_X3 hown hK hP 0 rfl rfl 2 (by decide) (hts (.fieldLink RX3 28 "TokenRow$Quotes" "character" "I") (List.mem_of_getElem? (i := 2) rfl)) (fun _ h9 => h9) rfl dX3_behindOne_13 ?_
  refine lv_iconst (v := (-1 : Int32)) hx hb dX3_behindOne_16 (by decide) ?_
  refine lv_icmp_eq (tgt := 30) hx hb dX3_behindOne_17 (by decide) (fun hc => ?_) (fun hc => ?_)
  · have hf := (if_pos hc).symm.trans hf
    refine lv_iconst (v := (-1 : Int32)) hx hb dX3_behindOne_30 (by decide) ?_
    exact W.iret (v := (-1 : Int32)) hx hb hr (fun t ht hW => ⟨⟨_, o1, rfl, Option.some.inj hf, by rw [ht]; exact hP, hD⟩, hS.F ht⟩) hS.2.2 dX3_behindOne_31
  · have hf := (if_neg hc).symm.trans hf
    refine lv_aload_n hx hb dX3_behindOne_20 rfl (lv_at hl 0 rfl) ?_
    refine va_get (D := (dC, dI)) (ci := 3) (v := .int o1) (C := RX3) (T := TX3) (N := 3) hx hb hts i_X3_behindOne_X3 hown hK hP 0 rfl rfl 2 (by decide) (hts (.fieldLink RX3 28 "TokenRow$Quotes" "character" "I") (List.mem_of_getElem? (i := 2) rfl)) (fun _ h9 => h9) rfl dX3_behindOne_21 ?_
    obtain ⟨z3, hz3, hf⟩ := bd_ok hf
    have hPc := hP.sub (ws' := []) [] rfl
    refine vp_callSi (va_Run.run (va_runSN (As := [.int o1]) (rest := []) ⟨hx, hb, hml, hown, hts⟩ (m_X9_isLineEnd l dC dI cyB cyC cyI cyJ cyZ   o1  n z3 hz3) ⟨va_cnB 1 hts ggX3_behindOne_X9_isLineEnd rfl rfl rfl (hN (.methodLinkNest RX3 42 yX9_isLineEnd RX9) (List.mem_of_getElem? (i := 11) rfl)) (hts (.initialized RX9) (List.mem_of_getElem? (i := 11) rfl)) (by decide +kernel) ⟨Nat.le_of_ble_eq_true rfl, Nat.le_of_ble_eq_true rfl⟩, (hts (.static yX9_isLineEnd) (List.mem_of_getElem? (i := 10) rfl)), trivial⟩ (proS hPc hK hN) rfl rfl hl.1 rfl (lv_room (Nat.le_of_ble_eq_true rfl)) dX3_behindOne_24 ⟨Nat.le_of_ble_eq_true rfl, Nat.le_of_ble_eq_true rfl⟩)) (fun o3 hr9 => ?_)
    subst hr9
    refine lv_if_eq (tgt := 32) hx hb dX3_behindOne_27 (by decide) (fun hc => ?_) (fun hc => ?_)
    · have hf := (if_pos hc).symm.trans hf
      refine lv_aload_n hx hb dX3_behindOne_32 rfl (lv_at hl 0 rfl) ?_
      refine va_get (D := (dC, dI)) (ci := 3) (v := .int o1) (C := RX3) (T := TX3) (N := 3) hx hb hts i_X3_behindOne_X3 hown hK hP 0 rfl rfl 2 (by decide) (hts (.fieldLink RX3 28 "TokenRow$Quotes" "character" "I") (List.mem_of_getElem? (i := 2) rfl)) (fun _ h9 => h9) rfl dX3_behindOne_33 ?_
      refine lv_bipush (v := (92 : Int32)) hx hb dX3_behindOne_36 (by decide) ?_
      refine lv_icmp_ne (tgt := 51) hx hb dX3_behindOne_38 (by decide) (fun hc => ?_) (fun hc => ?_)
      · have hf := (if_neg hc).symm.trans hf
        refine lv_iload_n hx hb dX3_behindOne_51 rfl (lv_at hl 1 rfl) ?_
        refine lv_iconst (v := (1 : Int32)) hx hb dX3_behindOne_52 (by decide) ?_
        refine lv_iadd hx hb dX3_behindOne_53 ?_
        exact W.iret (v := x1 + (1 : Int32)) hx hb hr (fun t ht hW => ⟨⟨_, o1, rfl, Option.some.inj hf, by rw [ht]; exact hP, hD⟩, hS.F ht⟩) hS.2.2 dX3_behindOne_54
      · have hf := (if_pos hc).symm.trans hf
        refine lv_aload_n hx hb dX3_behindOne_41 rfl (lv_at hl 0 rfl) ?_
        refine lv_iload_n hx hb dX3_behindOne_42 rfl (lv_at hl 1 rfl) ?_
        refine lv_iconst (v := (1 : Int32)) hx hb dX3_behindOne_43 (by decide) ?_
        refine lv_iadd hx hb dX3_behindOne_44 ?_
        obtain ⟨z4, hz4, hf⟩ := bd_ok hf
        have hPc := hP.sub (ws' := [(aQ, .inr (3, [.ref aS, .ref aF, .int o1])), (aS, .inr (6, [.ref aSc, .int S_count, .int S_cutShort])), (aSc, .inl (cyC, 81920, .inl Sc))]) [0, 1, 2] rfl
        have hDc := hD.sub (ws' := [(aQ, .inr (3, [.ref aS, .ref aF, .int o1])), (aS, .inr (6, [.ref aSc, .int S_count, .int S_cutShort])), (aSc, .inl (cyC, 81920, .inl Sc))]) [0, 1, 2] (by decide) rfl
        have hFc := va_free (wc := [(aQ, .inr (3, [.ref aS, .ref aF, .int o1])), (aS, .inr (6, [.ref aSc, .int S_count, .int S_cutShort])), (aSc, .inl (cyC, 81920, .inl Sc))]) hD hS hA [0, 1, 2] rfl
        refine va_calli (va_runV (As := [.int (x1 + (1 : Int32))]) (rest := []) ⟨hx, hb, hml, hown, hts⟩ (m_X3_behindEscape l dC dI cyB cyC cyI cyJ cyZ aQ aS aF aSc  H2.size (x1 + (1 : Int32)) o1 S_count S_cutShort Sc n z4 hz4) (cwV 1 hts gX3_behindOne_X3_behindEscape rfl rfl rfl (by decide +kernel) ⟨Nat.le_of_ble_eq_true rfl, Nat.le_of_ble_eq_true rfl⟩) (prwV (va_recv hK hP (ci := 3) (q0 := 0) rfl rfl) hPc hK hDc hN) rfl rfl hl.1 rfl (lv_room (Nat.le_of_ble_eq_true rfl)) dX3_behindOne_45 ⟨Nat.le_of_ble_eq_true rfl, Nat.le_of_ble_eq_true rfl⟩) hS (fun q _ h => hFc q h) hFc (fun r7 u6 t9 H5 locs ht hvm hw hB hz1 hk1 hS => ?_)
        subst hw
        obtain ⟨hP1, hD1⟩ := hB
        rw [ht] at hP1
        have hf := lt_ok hf r7 rfl
        have hf := lt_ok hf u6 rfl
        obtain ⟨hP, hD⟩ := va_join (wr := []) (w1 := [(aQ, .inr (3, [.ref aS, .ref aF, .int u6])), (aS, .inr (6, [.ref aSc, .int S_count, .int S_cutShort])), (aSc, .inl (cyC, 81920, .inl Sc))]) hP hD [0, 1, 2] [] rfl rfl (by decide) (by decide) hk1 hFc hP1 hD1
        have hP := hP.sub (ws' := [(aQ, .inr (3, [.ref aS, .ref aF, .int u6])), (aS, .inr (6, [.ref aSc, .int S_count, .int S_cutShort])), (aSc, .inl (cyC, 81920, .inl Sc))]) [0, 1, 2] rfl
        have hD := hD.sub (ws' := [(aQ, .inr (3, [.ref aS, .ref aF, .int u6])), (aS, .inr (6, [.ref aSc, .int S_count, .int S_cutShort])), (aSc, .inl (cyC, 81920, .inl Sc))]) [0, 1, 2] (by decide) rfl
        refine lv_goto (tgt := 54) hx hb dX3_behindOne_48 (by decide) ?_
        exact W.iret (v := r7) hx hb hr (fun t ht hW => ⟨⟨_, u6, rfl, Option.some.inj hf, by rw [ht]; exact hP, hD⟩, hS.F ht⟩) hS.2.2 dX3_behindOne_54
    · have hf := (if_neg hc).symm.trans hf
      refine lv_iconst (v := (-1 : Int32)) hx hb dX3_behindOne_30 (by decide) ?_
      exact W.iret (v := (-1 : Int32)) hx hb hr (fun t ht hW => ⟨⟨_, o1, rfl, Option.some.inj hf, by rw [ht]; exact hP, hD⟩, hS.F ht⟩) hS.2.2 dX3_behindOne_31
def f_X3_behindOne (n : Nat) (p1 : Int32) (Q_character : Int32) (S_count : Int32) (S_cutShort : Int32) (Sc : Nat → Int32) : Option (Int32 × Int32) := f_X3_behindOne_0 n S_count S_cutShort Sc Q_character p1
set_option maxHeartbeats 4000000 in
set_option maxRecDepth 100000 in
/-- TokenRow$Quotes.behindOne(I)I -/
theorem m_X3_behindOne (l : Launch) (dC : Nat → ClassId) (dI : Nat → Nat → Nat) (cyB cyC cyI cyJ cyZ : ClassId) (aQ aS aF aSc : Nat) (sz : Nat) (p1 : Int32) (Q_character : Int32) (S_count : Int32) (S_cutShort : Int32) (Sc : Nat → Int32) (n : Nat) (out : Int32 × Int32) (hf : f_X3_behindOne n p1 Q_character S_count S_cutShort Sc = some out) : Met l yX3_behindOne wsX3_behindOne rm_X3_behindOne (Prw (dC, dI) (TY cyB cyC cyI cyJ cyZ) [.ref aQ, .int p1] sz [(aQ, .inr (3, [.ref aS, .ref aF, .int Q_character])), (aS, .inr (6, [.ref aSc, .int S_count, .int S_cutShort])), (aSc, .inl (cyC, 81920, .inl Sc))]) (va_Qi (fun (r : Int32) (u : Int32) => (r, u) = out) (Bw (dC, dI) (va_A [(aQ, .inr (3, [.ref aS, .ref aF, .int Q_character])), (aS, .inr (6, [.ref aSc, .int S_count, .int S_cutShort])), (aSc, .inl (cyC, 81920, .inl Sc))] sz) (fun u => [(aQ, .inr (3, [.ref aS, .ref aF, .int u])), (aS, .inr (6, [.ref aSc, .int S_count, .int S_cutShort])), (aSc, .inl (cyC, 81920, .inl Sc))])) (va_A [(aQ, .inr (3, [.ref aS, .ref aF, .int Q_character])), (aS, .inr (6, [.ref aSc, .int S_count, .int S_cutShort])), (aSc, .inl (cyC, 81920, .inl Sc))] sz)) 0 0 (va_A [(aQ, .inr (3, [.ref aS, .ref aF, .int Q_character])), (aS, .inr (6, [.ref aSc, .int S_count, .int S_cutShort])), (aSc, .inl (cyC, 81920, .inl Sc))] sz) := by
  refine Met.ofW (cc := cX3_behindOne) (maxL := 2) (ret := (some .int)) (by decide) rfl ?_
  intro p e s m args below meth c s₁ B hml hv
  obtain ⟨rfl, hsz, hP, hK, hD0, hN⟩ := hv
  subst hsz
  have hD := hD0.self (sz := s.heap.size)
  have CX : cx cX3_behindOne (some .int) 2 RX3 wsX3_behindOne (dC, dI) (TY cyB cyC cyI cyJ cyZ) p s m ([.ref aQ, .int p1] : List Value).toArray meth c := ⟨B.exec, B.bytes, B.returns, hml, findClass_of_methodNamed B.named, atoms_spec (ws := wsX3_behindOne) B.pre, B.notSynchronized, hK, hN⟩
  have hl := lv_entry ([.ref aQ, .int p1]) (n := 2) (Nat.le_of_ble_eq_true rfl)
  rw [lg_entry_eq]
  exact k_X3_behindOne_0 (aF := aF) CX (fun q h => Or.inr h) n _ _ _ _ hf hP hD va_S.rf _ hl
abbrev rm_X3_takeCharacter : Room := { frames := 4, cells := 0, slots := 0, locals := 87 }
theorem i_X3_takeCharacter_X1 : ∀ w ∈ u_ws RX1 TX1 4, w ∈ wsX3_takeCharacter := fun _ h => (List.mem_cons_of_mem _ (List.mem_append_right _ h))
theorem i_X3_takeCharacter_X3 : ∀ w ∈ u_ws RX3 TX3 3, w ∈ wsX3_takeCharacter := fun _ h => (List.mem_cons_of_mem _ (List.mem_append_left _ (List.mem_append_left _ (List.mem_append_right _ h))))
theorem i_X3_takeCharacter_X6 : ∀ w ∈ u_ws RX6 TX6 3, w ∈ wsX3_takeCharacter := fun _ h => (List.mem_cons_of_mem _ (List.mem_append_left _ (List.mem_append_right _ h)))
def J_X3_takeCharacter_0 (p : Program) (l : Launch) (e : Env) (s : State) (m : MethodId) (args : Array Value) (below : List Frame) (meth : Method) (c : Code) (dC : Nat → ClassId) (dI : Nat → Nat → Nat) (cyB cyC cyI cyJ cyZ : ClassId) (aQ aS aF aSc : Nat) (S_count : Int32) (S_cutShort : Int32) (Sc : Nat → Int32) (A : Nat → Prop) (out : Int32 × Int32 × Int32 × Int64 × Int32 × Int32) (g : Int32 → Int32 → Int64 → Int32 → Int32 → Int32 → Option (Int32 × Int32 × Int32 × Int64 × Int32 × Int32)) : Prop := ∀ (Q_character : Int32) (F_kind : Int32) (F_says : Int64) (F_start : Int32) (F_behind : Int32) (x1 : Int32) (H : Heap) (locs : List Loc), g Q_character F_kind F_says F_start F_behind x1 = some out → va_P (dC, dI) vwCl [(aQ, .inr (3, [.ref aS, .ref aF, .int Q_character])), (aS, .inr (6, [.ref aSc, .int S_count, .int S_cutShort])), (aSc, .inl (cyC, 81920, .inl Sc)), (aF, .inr (1, [.int F_kind, .long F_says, .int F_start, .int F_behind]))] H → va_D A [(aQ, .inr (3, [.ref aS, .ref aF, .int Q_character])), (aS, .inr (6, [.ref aSc, .int S_count, .int S_cutShort])), (aSc, .inl (cyC, 81920, .inl Sc)), (aF, .inr (1, [.int F_kind, .long F_says, .int F_start, .int F_behind]))] → va_S A s.heap H locs → ∀ ls : Array Slot, lv_has ls 3 [(0, .ref aQ), (1, .int x1)] → W p l e rm_X3_takeCharacter s m args below meth c H locs 0 0 (MQ below (va_Qi (fun (r : Int32) (u : Int32 × Int32 × Int64 × Int32 × Int32) => (r, u) = out) (Bw (dC, dI) A (fun u => [(aQ, .inr (3, [.ref aS, .ref aF, .int u.1])), (aS, .inr (6, [.ref aSc, .int S_count, .int S_cutShort])), (aSc, .inl (cyC, 81920, .inl Sc)), (aF, .inr (1, [.int u.2.1, .long u.2.2.1, .int u.2.2.2.1, .int u.2.2.2.2]))])) A) args s 0 0 A) (F0 m 0 ls [])
def f_X3_takeCharacter_0 (n : Nat) (S_count : Int32) (S_cutShort : Int32) (Sc : Nat → Int32) (Q_character : Int32) (F_kind : Int32) (F_says : Int64) (F_start : Int32) (F_behind : Int32) (x1 : Int32) : Option (Int32 × Int32 × Int32 × Int64 × Int32 × Int32) :=
  bd (f_X6_look n (x1 + (1 : Int32)) S_count S_cutShort Sc) fun o1 =>
  if o1 = (39 : Int32) then
  (some ((0 : Int32), Q_character, F_kind, F_says, F_start, F_behind))
  else
  (bd (f_X3_behindOne n (x1 + (1 : Int32)) Q_character S_count S_cutShort Sc) fun qu4 =>
  lt_ qu4.1 fun r5 => lt_ qu4.2 fun u4 =>
  if r5 = (-1 : Int32) then
  (some ((0 : Int32), u4, F_kind, F_says, F_start, F_behind))
  else
  (bd (f_X6_look n r5 S_count S_cutShort Sc) fun o6 =>
  if o6 = (39 : Int32) then
  (bd (f_X1_set n (65 : Int32) u4.toInt64 x1 (r5 + (1 : Int32)) F_kind F_says F_start F_behind) fun u9 =>
  some ((1 : Int32), u4, u9.1, u9.2.1, u9.2.2.1, u9.2.2.2))
  else
  (some ((0 : Int32), u4, F_kind, F_says, F_start, F_behind))))
set_option maxHeartbeats 4000000 in
set_option maxRecDepth 100000 in
theorem k_X3_takeCharacter_0 {p : Program} {l : Launch} {e : Env} {s : State} {m : MethodId} {args : Array Value} {below : List Frame} {meth : Method} {c : Code} {dC : Nat → ClassId} {dI : Nat → Nat → Nat} {cyB cyC cyI cyJ cyZ : ClassId} {aQ aS aF aSc : Nat} {S_count : Int32} {S_cutShort : Int32} {Sc : Nat → Int32} {A : Nat → Prop} {out : Int32 × Int32 × Int32 × Int64 × Int32 × Int32} (CX : cx cX3_takeCharacter (some .boolean) 3 RX3 wsX3_takeCharacter (dC, dI) (TY cyB cyC cyI cyJ cyZ) p s m args meth c) (hA : ∀ q : Nat, s.heap.size ≤ q → A q) (n : Nat) : J_X3_takeCharacter_0 p l e s m args below meth c dC dI cyB cyC cyI cyJ cyZ aQ aS aF aSc S_count S_cutShort Sc A out (f_X3_takeCharacter_0 n S_count S_cutShort Sc) := by
  intro Q_character F_kind F_says F_start F_behind x1 H locs hf hP hD hS ls hl
  obtain ⟨hx, hb, hr, hml, hown, hts, hlocks, hK, hN⟩ := id CX
  unfold f_X3_takeCharacter_0 at hf
  refine lv_aload_n hx hb dX3_takeCharacter_0 rfl (lv_at hl 0 rfl) ?_
  refine va_get (D := (dC, dI)) (ci := 3) (v := .ref aS) (C := RX3) (T := TX3) (N := 3) hx hb hts i_X3_takeCharacter_X3 hown hK hP 0 rfl rfl 0 (by decide) (hts (.fieldLink RX3 9 "TokenRow$Quotes" "source" "LTokenRow$Source;") (List.mem_of_getElem? (i := 1) rfl)) (fun _ h9 => h9) rfl dX3_takeCharacter_1 ?_
  refine lv_iload_n hx hb dX3_takeCharacter_4 rfl (lv_at hl 1 rfl) ?_
  refine lv_iconst (v := (1 : Int32)) hx hb dX3_takeCharacter_5 (by decide) ?_
  refine lv_iadd hx hb dX3_takeCharacter_6 ?_
  obtain ⟨z1, hz1, hf⟩ := bd_ok hf
  have hPc := hP.sub (ws' := [(aS, .inr (6, [.ref aSc, .int S_count, .int S_cutShort])), (aSc, .inl (cyC, 81920, .inl Sc))]) [1, 2] rfl
  refine vp_callSi (va_Run.run (va_runV (As := [.int (x1 + (1 : Int32))]) (rest := []) ⟨hx, hb, hml, hown, hts⟩ (m_X6_look l dC dI cyB cyC cyI cyJ cyZ aS aSc  (x1 + (1 : Int32)) S_count S_cutShort Sc n z1 hz1) (cwV 1 hts gX3_takeCharacter_X6_look rfl rfl rfl (by decide +kernel) ⟨Nat.le_of_ble_eq_true rfl, Nat.le_of_ble_eq_true rfl⟩) (proV (va_recv hK hP (ci := 6) (q0 := 1) rfl rfl) hPc hK hN) rfl rfl hl.1 rfl (lv_room (Nat.le_of_ble_eq_true rfl)) dX3_takeCharacter_7 ⟨Nat.le_of_ble_eq_true rfl, Nat.le_of_ble_eq_true rfl⟩)) (fun o1 hr9 => ?_)
  subst hr9
  refine lv_bipush (v := (39 : Int32)) hx hb dX3_takeCharacter_10 (by decide) ?_
  refine lv_icmp_ne (tgt := 17) hx hb dX3_takeCharacter_12 (by decide) (fun hc => ?_) (fun hc => ?_)
  · have hf := (if_neg hc).symm.trans hf
    refine lv_aload_n hx hb dX3_takeCharacter_17 rfl (lv_at hl 0 rfl) ?_
    refine lv_iload_n hx hb dX3_takeCharacter_18 rfl (lv_at hl 1 rfl) ?_
    refine lv_iconst (v := (1 : Int32)) hx hb dX3_takeCharacter_19 (by decide) ?_
    refine lv_iadd hx hb dX3_takeCharacter_20 ?_
    obtain ⟨z2, hz2, hf⟩ := bd_ok hf
    have hPc := hP.sub (ws' := [(aQ, .inr (3, [.ref aS, .ref aF, .int Q_character])), (aS, .inr (6, [.ref aSc, .int S_count, .int S_cutShort])), (aSc, .inl (cyC, 81920, .inl Sc))]) [0, 1, 2] rfl
    have hDc := hD.sub (ws' := [(aQ, .inr (3, [.ref aS, .ref aF, .int Q_character])), (aS, .inr (6, [.ref aSc, .int S_count, .int S_cutShort])), (aSc, .inl (cyC, 81920, .inl Sc))]) [0, 1, 2] (by decide) rfl
    have hFc := va_free (wc := [(aQ, .inr (3, [.ref aS, .ref aF, .int Q_character])), (aS, .inr (6, [.ref aSc, .int S_count, .int S_cutShort])), (aSc, .inl (cyC, 81920, .inl Sc))]) hD hS hA [0, 1, 2] rfl
    refine va_calli (va_runV (As := [.int (x1 + (1 : Int32))]) (rest := []) ⟨hx, hb, hml, hown, hts⟩ (m_X3_behindOne l dC dI cyB cyC cyI cyJ cyZ aQ aS aF aSc  H.size (x1 + (1 : Int32)) Q_character S_count S_cutShort Sc n z2 hz2) (cwV 1 hts gX3_takeCharacter_X3_behindOne rfl rfl rfl (by decide +kernel) ⟨Nat.le_of_ble_eq_true rfl, Nat.le_of_ble_eq_true rfl⟩) (prwV (va_recv hK hP (ci := 3) (q0 := 0) rfl rfl) hPc hK hDc hN) rfl rfl hl.1 rfl (lv_room (Nat.le_of_ble_eq_true rfl)) dX3_takeCharacter_21 ⟨Nat.le_of_ble_eq_true rfl, Nat.le_of_ble_eq_true rfl⟩) hS (fun q _ h => hFc q h) hFc (fun r5 u4 t9 H3 locs ht hvm hw hB hz1 hk1 hS => ?_)
    subst hw
    obtain ⟨hP1, hD1⟩ := hB
    rw [ht] at hP1
    have hf := lt_ok hf r5 rfl
    have hf := lt_ok hf u4 rfl
    obtain ⟨hP, hD⟩ := va_join (wr := [(aF, .inr (1, [.int F_kind, .long F_says, .int F_start, .int F_behind]))]) (w1 := [(aQ, .inr (3, [.ref aS, .ref aF, .int u4])), (aS, .inr (6, [.ref aSc, .int S_count, .int S_cutShort])), (aSc, .inl (cyC, 81920, .inl Sc))]) hP hD [0, 1, 2] [3] rfl rfl (by decide) (by decide) hk1 hFc hP1 hD1
    have hP := hP.sub (ws' := [(aQ, .inr (3, [.ref aS, .ref aF, .int u4])), (aS, .inr (6, [.ref aSc, .int S_count, .int S_cutShort])), (aSc, .inl (cyC, 81920, .inl Sc)), (aF, .inr (1, [.int F_kind, .long F_says, .int F_start, .int F_behind]))]) [1, 2, 3, 0] rfl
    have hD := hD.sub (ws' := [(aQ, .inr (3, [.ref aS, .ref aF, .int u4])), (aS, .inr (6, [.ref aSc, .int S_count, .int S_cutShort])), (aSc, .inl (cyC, 81920, .inl Sc)), (aF, .inr (1, [.int F_kind, .long F_says, .int F_start, .int F_behind]))]) [1, 2, 3, 0] (by decide) rfl
    refine lv_istore_n (lv' := [(2, .int r5), (0, .ref aQ), (1, .int x1)]) hx hb dX3_takeCharacter_24 rfl hl (by decide) rfl (fun ls hl => ?_)
    refine lv_iload_n hx hb dX3_takeCharacter_25 rfl (lv_at hl 0 rfl) ?_
    refine lv_iconst (v := (-1 : Int32)) hx hb dX3_takeCharacter_26 (by decide) ?_
    refine lv_icmp_eq (tgt := 43) hx hb dX3_takeCharacter_27 (by decide) (fun hc => ?_) (fun hc => ?_)
    · have hf := (if_pos hc).symm.trans hf
      refine lv_iconst (v := (0 : Int32)) hx hb dX3_takeCharacter_43 (by decide) ?_
      exact W.zret (v := (0 : Int32)) (ty := .boolean) hx hb hr rfl (fun t ht hW => ⟨⟨_, (u4, F_kind, F_says, F_start, F_behind), rfl, Option.some.inj hf, by rw [ht]; exact hP, hD⟩, hS.F ht⟩) hS.2.2 dX3_takeCharacter_44
    · have hf := (if_neg hc).symm.trans hf
      refine lv_aload_n hx hb dX3_takeCharacter_30 rfl (lv_at hl 1 rfl) ?_
      refine va_get (D := (dC, dI)) (ci := 3) (v := .ref aS) (C := RX3) (T := TX3) (N := 3) hx hb hts i_X3_takeCharacter_X3 hown hK hP 0 rfl rfl 0 (by decide) (hts (.fieldLink RX3 9 "TokenRow$Quotes" "source" "LTokenRow$Source;") (List.mem_of_getElem? (i := 1) rfl)) (fun _ h9 => h9) rfl dX3_takeCharacter_31 ?_
      refine lv_iload_n hx hb dX3_takeCharacter_34 rfl (lv_at hl 0 rfl) ?_
      obtain ⟨z6, hz6, hf⟩ := bd_ok hf
      have hPc := hP.sub (ws' := [(aS, .inr (6, [.ref aSc, .int S_count, .int S_cutShort])), (aSc, .inl (cyC, 81920, .inl Sc))]) [1, 2] rfl
      refine vp_callSi (va_Run.run (va_runV (As := [.int r5]) (rest := []) ⟨hx, hb, hml, hown, hts⟩ (m_X6_look l dC dI cyB cyC cyI cyJ cyZ aS aSc  r5 S_count S_cutShort Sc n z6 hz6) (cwV 1 hts gX3_takeCharacter_X6_look rfl rfl rfl (by decide +kernel) ⟨Nat.le_of_ble_eq_true rfl, Nat.le_of_ble_eq_true rfl⟩) (proV (va_recv hK hP (ci := 6) (q0 := 1) rfl rfl) hPc hK hN) rfl rfl hl.1 rfl (lv_room (Nat.le_of_ble_eq_true rfl)) dX3_takeCharacter_35 ⟨Nat.le_of_ble_eq_true rfl, Nat.le_of_ble_eq_true rfl⟩)) (fun o6 hr9 => ?_)
      subst hr9
      refine lv_bipush (v := (39 : Int32)) hx hb dX3_takeCharacter_38 (by decide) ?_
      refine lv_icmp_eq (tgt := 45) hx hb dX3_takeCharacter_40 (by decide) (fun hc => ?_) (fun hc => ?_)
      · have hf := (if_pos hc).symm.trans hf
        refine lv_aload_n hx hb dX3_takeCharacter_45 rfl (lv_at hl 1 rfl) ?_
        refine va_get (D := (dC, dI)) (ci := 3) (v := .ref aF) (C := RX3) (T := TX3) (N := 3) hx hb hts i_X3_takeCharacter_X3 hown hK hP 0 rfl rfl 1 (by decide) (hts (.fieldLink RX3 15 "TokenRow$Quotes" "found" "LTokenRow$Found;") (List.mem_of_getElem? (i := 2) rfl)) (fun _ h9 => h9) rfl dX3_takeCharacter_46 ?_
        refine lv_bipush (v := (65 : Int32)) hx hb dX3_takeCharacter_49 (by decide) ?_
        refine lv_aload_n hx hb dX3_takeCharacter_51 rfl (lv_at hl 1 rfl) ?_
        refine va_get (D := (dC, dI)) (ci := 3) (v := .int u4) (C := RX3) (T := TX3) (N := 3) hx hb hts i_X3_takeCharacter_X3 hown hK hP 0 rfl rfl 2 (by decide) (hts (.fieldLink RX3 28 "TokenRow$Quotes" "character" "I") (List.mem_of_getElem? (i := 3) rfl)) (fun _ h9 => h9) rfl dX3_takeCharacter_52 ?_
        refine lv_i2l (v := u4.toInt64) hx hb dX3_takeCharacter_55 rfl ?_
        refine lv_iload_n hx hb dX3_takeCharacter_56 rfl (lv_at hl 2 rfl) ?_
        refine lv_iload_n hx hb dX3_takeCharacter_57 rfl (lv_at hl 0 rfl) ?_
        refine lv_iconst (v := (1 : Int32)) hx hb dX3_takeCharacter_58 (by decide) ?_
        refine lv_iadd hx hb dX3_takeCharacter_59 ?_
        obtain ⟨z7, hz7, hf⟩ := bd_ok hf
        have hPc := hP.sub (ws' := [(aF, .inr (1, [.int F_kind, .long F_says, .int F_start, .int F_behind]))]) [3] rfl
        have hDc := hD.sub (ws' := [(aF, .inr (1, [.int F_kind, .long F_says, .int F_start, .int F_behind]))]) [3] (by decide) rfl
        have hFc := va_free (wc := [(aF, .inr (1, [.int F_kind, .long F_says, .int F_start, .int F_behind]))]) hD hS hA [3] rfl
        refine va_callv (va_runV (As := [.int (65 : Int32), .long u4.toInt64, .int x1, .int (r5 + (1 : Int32))]) (rest := []) ⟨hx, hb, hml, hown, hts⟩ (m_X1_set l dC dI cyB cyC cyI cyJ cyZ aF  H3.size (65 : Int32) u4.toInt64 x1 (r5 + (1 : Int32)) F_kind F_says F_start F_behind n z7 hz7) (cwV 4 hts gX3_takeCharacter_X1_set rfl rfl rfl (by decide +kernel) ⟨Nat.le_of_ble_eq_true rfl, Nat.le_of_ble_eq_true rfl⟩) (prwV (va_recv hK hP (ci := 1) (q0 := 3) rfl rfl) hPc hK hDc hN) rfl rfl hl.1 rfl (lv_room (Nat.le_of_ble_eq_true rfl)) dX3_takeCharacter_60 ⟨Nat.le_of_ble_eq_true rfl, Nat.le_of_ble_eq_true rfl⟩) hS (fun q _ h => hFc q h) hFc (fun u9 t9 H8 locs ht hvm hw hB hz1 hk1 hS => ?_)
        subst hw
        obtain ⟨hP1, hD1⟩ := hB
        rw [ht] at hP1
        obtain ⟨hP, hD⟩ := va_join (wr := [(aQ, .inr (3, [.ref aS, .ref aF, .int u4])), (aS, .inr (6, [.ref aSc, .int S_count, .int S_cutShort])), (aSc, .inl (cyC, 81920, .inl Sc))]) (w1 := [(aF, .inr (1, [.int u9.1, .long u9.2.1, .int u9.2.2.1, .int u9.2.2.2]))]) hP hD [3] [0, 1, 2] rfl rfl (by decide) (by decide) hk1 hFc hP1 hD1
        have hP := hP.sub (ws' := [(aQ, .inr (3, [.ref aS, .ref aF, .int u4])), (aS, .inr (6, [.ref aSc, .int S_count, .int S_cutShort])), (aSc, .inl (cyC, 81920, .inl Sc)), (aF, .inr (1, [.int u9.1, .long u9.2.1, .int u9.2.2.1, .int u9.2.2.2]))]) [0, 1, 2, 3] rfl
        have hD := hD.sub (ws' := [(aQ, .inr (3, [.ref aS, .ref aF, .int u4])), (aS, .inr (6, [.ref aSc, .int S_count, .int S_cutShort])), (aSc, .inl (cyC, 81920, .inl Sc)), (aF, .inr (1, [.int u9.1, .long u9.2.1, .int u9.2.2.1, .int u9.2.2.2]))]) [0, 1, 2, 3] (by decide) rfl
        refine lv_iconst (v := (1 : Int32)) hx hb dX3_takeCharacter_63 (by decide) ?_
        exact W.zret (v := (1 : Int32)) (ty := .boolean) hx hb hr rfl (fun t ht hW => ⟨⟨_, (u4, u9.1, u9.2.1, u9.2.2.1, u9.2.2.2), rfl, Option.some.inj hf, by rw [ht]; exact hP, hD⟩, hS.F ht⟩) hS.2.2 dX3_takeCharacter_64
      · have hf := (if_neg hc).symm.trans hf
        refine lv_iconst (v := (0 : Int32)) hx hb dX3_takeCharacter_43 (by decide) ?_
        exact W.zret (v := (0 : Int32)) (ty := .boolean) hx hb hr rfl (fun t ht hW => ⟨⟨_, (u4, F_kind, F_says, F_start, F_behind), rfl, Option.some.inj hf, by rw [ht]; exact hP, hD⟩, hS.F ht⟩) hS.2.2 dX3_takeCharacter_44
  · have hf := (if_pos hc).symm.trans hf
    refine lv_iconst (v := (0 : Int32)) hx hb dX3_takeCharacter_15 (by decide) ?_
    exact W.zret (v := (0 : Int32)) (ty := .boolean) hx hb hr rfl (fun t ht hW => ⟨⟨_, (Q_character, F_kind, F_says, F_start, F_behind), rfl, Option.some.inj hf, by rw [ht]; exact hP, hD⟩, hS.F ht⟩) hS.2.2 dX3_takeCharacter_16
def f_X3_takeCharacter (n : Nat) (p1 : Int32) (Q_character : Int32) (S_count : Int32) (S_cutShort : Int32) (Sc : Nat → Int32) (F_kind : Int32) (F_says : Int64) (F_start : Int32) (F_behind : Int32) : Option (Int32 × Int32 × Int32 × Int64 × Int32 × Int32) := f_X3_takeCharacter_0 n S_count S_cutShort Sc Q_character F_kind F_says F_start F_behind p1
set_option maxHeartbeats 4000000 in
set_option maxRecDepth 100000 in
/-- TokenRow$Quotes.takeCharacter(I)Z -/
theorem m_X3_takeCharacter (l : Launch) (dC : Nat → ClassId) (dI : Nat → Nat → Nat) (cyB cyC cyI cyJ cyZ : ClassId) (aQ aS aF aSc : Nat) (sz : Nat) (p1 : Int32) (Q_character : Int32) (S_count : Int32) (S_cutShort : Int32) (Sc : Nat → Int32) (F_kind : Int32) (F_says : Int64) (F_start : Int32) (F_behind : Int32) (n : Nat) (out : Int32 × Int32 × Int32 × Int64 × Int32 × Int32) (hf : f_X3_takeCharacter n p1 Q_character S_count S_cutShort Sc F_kind F_says F_start F_behind = some out) : Met l yX3_takeCharacter wsX3_takeCharacter rm_X3_takeCharacter (Prw (dC, dI) (TY cyB cyC cyI cyJ cyZ) [.ref aQ, .int p1] sz [(aQ, .inr (3, [.ref aS, .ref aF, .int Q_character])), (aS, .inr (6, [.ref aSc, .int S_count, .int S_cutShort])), (aSc, .inl (cyC, 81920, .inl Sc)), (aF, .inr (1, [.int F_kind, .long F_says, .int F_start, .int F_behind]))]) (va_Qi (fun (r : Int32) (u : Int32 × Int32 × Int64 × Int32 × Int32) => (r, u) = out) (Bw (dC, dI) (va_A [(aQ, .inr (3, [.ref aS, .ref aF, .int Q_character])), (aS, .inr (6, [.ref aSc, .int S_count, .int S_cutShort])), (aSc, .inl (cyC, 81920, .inl Sc)), (aF, .inr (1, [.int F_kind, .long F_says, .int F_start, .int F_behind]))] sz) (fun u => [(aQ, .inr (3, [.ref aS, .ref aF, .int u.1])), (aS, .inr (6, [.ref aSc, .int S_count, .int S_cutShort])), (aSc, .inl (cyC, 81920, .inl Sc)), (aF, .inr (1, [.int u.2.1, .long u.2.2.1, .int u.2.2.2.1, .int u.2.2.2.2]))])) (va_A [(aQ, .inr (3, [.ref aS, .ref aF, .int Q_character])), (aS, .inr (6, [.ref aSc, .int S_count, .int S_cutShort])), (aSc, .inl (cyC, 81920, .inl Sc)), (aF, .inr (1, [.int F_kind, .long F_says, .int F_start, .int F_behind]))] sz)) 0 0 (va_A [(aQ, .inr (3, [.ref aS, .ref aF, .int Q_character])), (aS, .inr (6, [.ref aSc, .int S_count, .int S_cutShort])), (aSc, .inl (cyC, 81920, .inl Sc)), (aF, .inr (1, [.int F_kind, .long F_says, .int F_start, .int F_behind]))] sz) := by
  refine Met.ofW (cc := cX3_takeCharacter) (maxL := 3) (ret := (some .boolean)) (by decide) rfl ?_
  intro p e s m args below meth c s₁ B hml hv
  obtain ⟨rfl, hsz, hP, hK, hD0, hN⟩ := hv
  subst hsz
  have hD := hD0.self (sz := s.heap.size)
  have CX : cx cX3_takeCharacter (some .boolean) 3 RX3 wsX3_takeCharacter (dC, dI) (TY cyB cyC cyI cyJ cyZ) p s m ([.ref aQ, .int p1] : List Value).toArray meth c := ⟨B.exec, B.bytes, B.returns, hml, findClass_of_methodNamed B.named, atoms_spec (ws := wsX3_takeCharacter) B.pre, B.notSynchronized, hK, hN⟩
  have hl := lv_entry ([.ref aQ, .int p1]) (n := 3) (Nat.le_of_ble_eq_true rfl)
  rw [lg_entry_eq]
  exact k_X3_takeCharacter_0 CX (fun q h => Or.inr h) n _ _ _ _ _ _ _ _ hf hP hD va_S.rf _ hl
abbrev rm_X3_takeString : Room := { frames := 4, cells := 0, slots := 0, locals := 87 }
theorem i_X3_takeString_X1 : ∀ w ∈ u_ws RX1 TX1 4, w ∈ wsX3_takeString := fun _ h => (List.mem_cons_of_mem _ (List.mem_append_right _ h))
theorem i_X3_takeString_X3 : ∀ w ∈ u_ws RX3 TX3 3, w ∈ wsX3_takeString := fun _ h => (List.mem_cons_of_mem _ (List.mem_append_left _ (List.mem_append_left _ (List.mem_append_right _ h))))
theorem i_X3_takeString_X6 : ∀ w ∈ u_ws RX6 TX6 3, w ∈ wsX3_takeString := fun _ h => (List.mem_cons_of_mem _ (List.mem_append_left _ (List.mem_append_right _ h)))
def J_X3_takeString_9 (p : Program) (l : Launch) (e : Env) (s : State) (m : MethodId) (args : Array Value) (below : List Frame) (meth : Method) (c : Code) (dC : Nat → ClassId) (dI : Nat → Nat → Nat) (cyB cyC cyI cyJ cyZ : ClassId) (aQ aS aF aSc : Nat) (S_count : Int32) (S_cutShort : Int32) (A : Nat → Prop) (out : Int32 × Int32 × (Nat → Int32) × Int32 × Int64 × Int32 × Int32) (g : Int32 → (Nat → Int32) → Int32 → Int64 → Int32 → Int32 → Int32 → Int32 → Int32 → Option (Int32 × Int32 × (Nat → Int32) × Int32 × Int64 × Int32 × Int32)) : Prop := ∀ (Q_character : Int32) (Sc : Nat → Int32) (F_kind : Int32) (F_says : Int64) (F_start : Int32) (F_behind : Int32) (x2 : Int32) (x3 : Int32) (x4 : Int32) (H : Heap) (locs : List Loc), g Q_character Sc F_kind F_says F_start F_behind x2 x3 x4 = some out → va_P (dC, dI) vwCl [(aQ, .inr (3, [.ref aS, .ref aF, .int Q_character])), (aS, .inr (6, [.ref aSc, .int S_count, .int S_cutShort])), (aSc, .inl (cyC, 81920, .inl Sc)), (aF, .inr (1, [.int F_kind, .long F_says, .int F_start, .int F_behind]))] H → va_D A [(aQ, .inr (3, [.ref aS, .ref aF, .int Q_character])), (aS, .inr (6, [.ref aSc, .int S_count, .int S_cutShort])), (aSc, .inl (cyC, 81920, .inl Sc)), (aF, .inr (1, [.int F_kind, .long F_says, .int F_start, .int F_behind]))] → va_S A s.heap H locs → ∀ ls : Array Slot, lv_has ls 5 [(0, .ref aQ), (2, .int x2), (3, .int x3), (4, .int x4)] → W p l e rm_X3_takeString s m args below meth c H locs 0 0 (MQ below (va_Qi (fun (r : Int32) (u : Int32 × (Nat → Int32) × Int32 × Int64 × Int32 × Int32) => (r, u) = out) (Bw (dC, dI) A (fun u => [(aQ, .inr (3, [.ref aS, .ref aF, .int u.1])), (aS, .inr (6, [.ref aSc, .int S_count, .int S_cutShort])), (aSc, .inl (cyC, 81920, .inl u.2.1)), (aF, .inr (1, [.int u.2.2.1, .long u.2.2.2.1, .int u.2.2.2.2.1, .int u.2.2.2.2.2]))])) A) args s 0 0 A) (F0 m 9 ls [])
def J_X3_takeString_0 (p : Program) (l : Launch) (e : Env) (s : State) (m : MethodId) (args : Array Value) (below : List Frame) (meth : Method) (c : Code) (dC : Nat → ClassId) (dI : Nat → Nat → Nat) (cyB cyC cyI cyJ cyZ : ClassId) (aQ aS aF aSc : Nat) (S_count : Int32) (S_cutShort : Int32) (A : Nat → Prop) (out : Int32 × Int32 × (Nat → Int32) × Int32 × Int64 × Int32 × Int32) (g : Int32 → (Nat → Int32) → Int32 → Int64 → Int32 → Int32 → Int32 → Option (Int32 × Int32 × (Nat → Int32) × Int32 × Int64 × Int32 × Int32)) : Prop := ∀ (Q_character : Int32) (Sc : Nat → Int32) (F_kind : Int32) (F_says : Int64) (F_start : Int32) (F_behind : Int32) (x1 : Int32) (H : Heap) (locs : List Loc), g Q_character Sc F_kind F_says F_start F_behind x1 = some out → va_P (dC, dI) vwCl [(aQ, .inr (3, [.ref aS, .ref aF, .int Q_character])), (aS, .inr (6, [.ref aSc, .int S_count, .int S_cutShort])), (aSc, .inl (cyC, 81920, .inl Sc)), (aF, .inr (1, [.int F_kind, .long F_says, .int F_start, .int F_behind]))] H → va_D A [(aQ, .inr (3, [.ref aS, .ref aF, .int Q_character])), (aS, .inr (6, [.ref aSc, .int S_count, .int S_cutShort])), (aSc, .inl (cyC, 81920, .inl Sc)), (aF, .inr (1, [.int F_kind, .long F_says, .int F_start, .int F_behind]))] → va_S A s.heap H locs → ∀ ls : Array Slot, lv_has ls 5 [(0, .ref aQ), (1, .int x1)] → W p l e rm_X3_takeString s m args below meth c H locs 0 0 (MQ below (va_Qi (fun (r : Int32) (u : Int32 × (Nat → Int32) × Int32 × Int64 × Int32 × Int32) => (r, u) = out) (Bw (dC, dI) A (fun u => [(aQ, .inr (3, [.ref aS, .ref aF, .int u.1])), (aS, .inr (6, [.ref aSc, .int S_count, .int S_cutShort])), (aSc, .inl (cyC, 81920, .inl u.2.1)), (aF, .inr (1, [.int u.2.2.1, .long u.2.2.2.1, .int u.2.2.2.2.1, .int u.2.2.2.2.2]))])) A) args s 0 0 A) (F0 m 0 ls [])
def fb_X3_takeString_9 (n : Nat) (r9 : Int32 → (Nat → Int32) → Int32 → Int64 → Int32 → Int32 → Int32 → Int32 → Int32 → Option (Int32 × Int32 × (Nat → Int32) × Int32 × Int64 × Int32 × Int32)) (S_count : Int32) (S_cutShort : Int32) (Q_character : Int32) (Sc : Nat → Int32) (F_kind : Int32) (F_says : Int64) (F_start : Int32) (F_behind : Int32) (x2 : Int32) (x3 : Int32) (x4 : Int32) : Option (Int32 × Int32 × (Nat → Int32) × Int32 × Int64 × Int32 × Int32) :=
  if (4000 : Int32) < x4 then
  (some ((0 : Int32), Q_character, Sc, F_kind, F_says, F_start, F_behind))
  else
  (bd (f_X6_look n x3 S_count S_cutShort Sc) fun o1 =>
  if o1 = (34 : Int32) then
  (bd (f_X1_set n (66 : Int32) x4.toInt64 x2 (x3 + (1 : Int32)) F_kind F_says F_start F_behind) fun u12 =>
  some ((1 : Int32), Q_character, Sc, u12.1, u12.2.1, u12.2.2.1, u12.2.2.2))
  else
  (bd (f_X3_behindOne n x3 Q_character S_count S_cutShort Sc) fun qu4 =>
  lt_ qu4.1 fun r5 => lt_ qu4.2 fun u4 =>
  if r5 = (-1 : Int32) then
  (some ((0 : Int32), u4, Sc, F_kind, F_says, F_start, F_behind))
  else
  (bd (f_X6_put n (x2 + x4) u4 S_count S_cutShort Sc) fun u8 =>
  lt_ (x4 + (1 : Int32)) fun y9 =>
  r9 u4 u8 F_kind F_says F_start F_behind x2 r5 y9)))
set_option maxHeartbeats 4000000 in
set_option maxRecDepth 100000 in
theorem kb_X3_takeString_9 {p : Program} {l : Launch} {e : Env} {s : State} {m : MethodId} {args : Array Value} {below : List Frame} {meth : Method} {c : Code} {dC : Nat → ClassId} {dI : Nat → Nat → Nat} {cyB cyC cyI cyJ cyZ : ClassId} {aQ aS aF aSc : Nat} {S_count : Int32} {S_cutShort : Int32} {A : Nat → Prop} {out : Int32 × Int32 × (Nat → Int32) × Int32 × Int64 × Int32 × Int32} (CX : cx cX3_takeString (some .boolean) 5 RX3 wsX3_takeString (dC, dI) (TY cyB cyC cyI cyJ cyZ) p s m args meth c) (hA : ∀ q : Nat, s.heap.size ≤ q → A q) (n : Nat) {r9 : Int32 → (Nat → Int32) → Int32 → Int64 → Int32 → Int32 → Int32 → Int32 → Int32 → Option (Int32 × Int32 × (Nat → Int32) × Int32 × Int64 × Int32 × Int32)} (hr9 : J_X3_takeString_9 p l e s m args below meth c dC dI cyB cyC cyI cyJ cyZ aQ aS aF aSc S_count S_cutShort A out r9) : J_X3_takeString_9 p l e s m args below meth c dC dI cyB cyC cyI cyJ cyZ aQ aS aF aSc S_count S_cutShort A out (fb_X3_takeString_9 n r9 S_count S_cutShort) := by
  intro Q_character Sc F_kind F_says F_start F_behind x2 x3 x4 H locs hf hP hD hS ls hl
  obtain ⟨hx, hb, hr, hml, hown, hts, hlocks, hK, hN⟩ := id CX
  unfold fb_X3_takeString_9 at hf
  refine lv_iload hx hb dX3_takeString_9 (lv_at hl 3 rfl) ?_
  refine lv_sipush (v := (4000 : Int32)) hx hb dX3_takeString_11 (by decide) ?_
  refine lv_icmp_gt (tgt := 82) hx hb dX3_takeString_14 (by decide) (fun hc => ?_) (fun hc => ?_)
  · have hf := (if_pos hc).symm.trans hf
    refine lv_iconst (v := (0 : Int32)) hx hb dX3_takeString_82 (by decide) ?_
    exact W.zret (v := (0 : Int32)) (ty := .boolean) hx hb hr rfl (fun t ht hW => ⟨⟨_, (Q_character, Sc, F_kind, F_says, F_start, F_behind), rfl, Option.some.inj hf, by rw [ht]; exact hP, hD⟩, hS.F ht⟩) hS.2.2 dX3_takeString_83
  · have hf := (if_neg hc).symm.trans hf
    refine lv_aload_n hx hb dX3_takeString_17 rfl (lv_at hl 0 rfl) ?_
    refine va_get (D := (dC, dI)) (ci := 3) (v := .ref aS) (C := RX3) (T := TX3) (N := 3) hx hb hts i_X3_takeString_X3 hown hK hP 0 rfl rfl 0 (by decide) (hts (.fieldLink RX3 9 "TokenRow$Quotes" "source" "LTokenRow$Source;") (List.mem_of_getElem? (i := 1) rfl)) (fun _ h9 => h9) rfl dX3_takeString_18 ?_
    refine lv_iload_n hx hb dX3_takeString_21 rfl (lv_at hl 2 rfl) ?_
    obtain ⟨z1, hz1, hf⟩ := bd_ok hf
    have hPc := hP.sub (ws' := [(aS, .inr (6, [.ref aSc, .int S_count, .int S_cutShort])), (aSc, .inl (cyC, 81920, .inl Sc))]) [1, 2] rfl
    refine vp_callSi (va_Run.run (va_runV (As := [.int x3]) (rest := []) ⟨hx, hb, hml, hown, hts⟩ (m_X6_look l dC dI cyB cyC cyI cyJ cyZ aS aSc  x3 S_count S_cutShort Sc n z1 hz1) (cwV 1 hts gX3_takeString_X6_look rfl rfl rfl (by decide +kernel) ⟨Nat.le_of_ble_eq_true rfl, Nat.le_of_ble_eq_true rfl⟩) (proV (va_recv hK hP (ci := 6) (q0 := 1) rfl rfl) hPc hK hN) rfl rfl hl.1 rfl (lv_room (Nat.le_of_ble_eq_true rfl)) dX3_takeString_22 ⟨Nat.le_of_ble_eq_true rfl, Nat.le_of_ble_eq_true rfl⟩)) (fun o1 hr9 => ?_)
    subst hr9
    refine lv_bipush (v := (34 : Int32)) hx hb dX3_takeString_25 (by decide) ?_
    refine lv_icmp_ne (tgt := 48) hx hb dX3_takeString_27 (by decide) (fun hc => ?_) (fun hc => ?_)
    · have hf := (if_neg hc).symm.trans hf
      refine lv_aload_n hx hb dX3_takeString_48 rfl (lv_at hl 0 rfl) ?_
      refine lv_iload_n hx hb dX3_takeString_49 rfl (lv_at hl 2 rfl) ?_
      obtain ⟨z2, hz2, hf⟩ := bd_ok hf
      have hPc := hP.sub (ws' := [(aQ, .inr (3, [.ref aS, .ref aF, .int Q_character])), (aS, .inr (6, [.ref aSc, .int S_count, .int S_cutShort])), (aSc, .inl (cyC, 81920, .inl Sc))]) [0, 1, 2] rfl
      have hDc := hD.sub (ws' := [(aQ, .inr (3, [.ref aS, .ref aF, .int Q_character])), (aS, .inr (6, [.ref aSc, .int S_count, .int S_cutShort])), (aSc, .inl (cyC, 81920, .inl Sc))]) [0, 1, 2] (by decide) rfl
      have hFc := va_free (wc := [(aQ, .inr (3, [.ref aS, .ref aF, .int Q_character])), (aS, .inr (6, [.ref aSc, .int S_count, .int S_cutShort])), (aSc, .inl (cyC, 81920, .inl Sc))]) hD hS hA [0, 1, 2] rfl
      refine va_calli (va_runV (As := [.int x3]) (rest := []) ⟨hx, hb, hml, hown, hts⟩ (m_X3_behindOne l dC dI cyB cyC cyI cyJ cyZ aQ aS aF aSc  H.size x3 Q_character S_count S_cutShort Sc n z2 hz2) (cwV 1 hts gX3_takeString_X3_behindOne rfl rfl rfl (by decide +kernel) ⟨Nat.le_of_ble_eq_true rfl, Nat.le_of_ble_eq_true rfl⟩) (prwV (va_recv hK hP (ci := 3) (q0 := 0) rfl rfl) hPc hK hDc hN) rfl rfl hl.1 rfl (lv_room (Nat.le_of_ble_eq_true rfl)) dX3_takeString_50 ⟨Nat.le_of_ble_eq_true rfl, Nat.le_of_ble_eq_true rfl⟩) hS (fun q _ h => hFc q h) hFc (fun r5 u4 t9 H3 locs ht hvm hw hB hz1 hk1 hS => ?_)
      subst hw
      obtain ⟨hP1, hD1⟩ := hB
      rw [ht] at hP1
      have hf := lt_ok hf r5 rfl
      have hf := lt_ok hf u4 rfl
      obtain ⟨hP, hD⟩ := va_join (wr := [(aF, .inr (1, [.int F_kind, .long F_says, .int F_start, .int F_behind]))]) (w1 := [(aQ, .inr (3, [.ref aS, .ref aF, .int u4])), (aS, .inr (6, [.ref aSc, .int S_count, .int S_cutShort])), (aSc, .inl (cyC, 81920, .inl Sc))]) hP hD [0, 1, 2] [3] rfl rfl (by decide) (by decide) hk1 hFc hP1 hD1
      have hP := hP.sub (ws' := [(aQ, .inr (3, [.ref aS, .ref aF, .int u4])), (aS, .inr (6, [.ref aSc, .int S_count, .int S_cutShort])), (aSc, .inl (cyC, 81920, .inl Sc)), (aF, .inr (1, [.int F_kind, .long F_says, .int F_start, .int F_behind]))]) [1, 2, 3, 0] rfl
      have hD := hD.sub (ws' := [(aQ, .inr (3, [.ref aS, .ref aF, .int u4])), (aS, .inr (6, [.ref aSc, .int S_count, .int S_cutShort])), (aSc, .inl (cyC, 81920, .inl Sc)), (aF, .inr (1, [.int F_kind, .long F_says, .int F_start, .int F_behind]))]) [1, 2, 3, 0] (by decide) rfl
      refine lv_istore_n (lv' := [(3, .int r5), (0, .ref aQ), (2, .int x2), (4, .int x4)]) hx hb dX3_takeString_53 rfl hl (by decide) rfl (fun ls hl => ?_)
      refine lv_iload_n hx hb dX3_takeString_54 rfl (lv_at hl 0 rfl) ?_
      refine lv_iconst (v := (-1 : Int32)) hx hb dX3_takeString_55 (by decide) ?_
      refine lv_icmp_ne (tgt := 61) hx hb dX3_takeString_56 (by decide) (fun hc => ?_) (fun hc => ?_)
      · have hf := (if_neg hc).symm.trans hf
        refine lv_aload_n hx hb dX3_takeString_61 rfl (lv_at hl 1 rfl) ?_
        refine va_get (D := (dC, dI)) (ci := 3) (v := .ref aS) (C := RX3) (T := TX3) (N := 3) hx hb hts i_X3_takeString_X3 hown hK hP 0 rfl rfl 0 (by decide) (hts (.fieldLink RX3 9 "TokenRow$Quotes" "source" "LTokenRow$Source;") (List.mem_of_getElem? (i := 1) rfl)) (fun _ h9 => h9) rfl dX3_takeString_62 ?_
        refine lv_iload_n hx hb dX3_takeString_65 rfl (lv_at hl 2 rfl) ?_
        refine lv_iload hx hb dX3_takeString_66 (lv_at hl 3 rfl) ?_
        refine lv_iadd hx hb dX3_takeString_68 ?_
        refine lv_aload_n hx hb dX3_takeString_69 rfl (lv_at hl 1 rfl) ?_
        refine va_get (D := (dC, dI)) (ci := 3) (v := .int u4) (C := RX3) (T := TX3) (N := 3) hx hb hts i_X3_takeString_X3 hown hK hP 0 rfl rfl 2 (by decide) (hts (.fieldLink RX3 28 "TokenRow$Quotes" "character" "I") (List.mem_of_getElem? (i := 3) rfl)) (fun _ h9 => h9) rfl dX3_takeString_70 ?_
        obtain ⟨z6, hz6, hf⟩ := bd_ok hf
        have hPc := hP.sub (ws' := [(aS, .inr (6, [.ref aSc, .int S_count, .int S_cutShort])), (aSc, .inl (cyC, 81920, .inl Sc))]) [1, 2] rfl
        have hDc := hD.sub (ws' := [(aS, .inr (6, [.ref aSc, .int S_count, .int S_cutShort])), (aSc, .inl (cyC, 81920, .inl Sc))]) [1, 2] (by decide) rfl
        have hFc := va_free (wc := [(aS, .inr (6, [.ref aSc, .int S_count, .int S_cutShort])), (aSc, .inl (cyC, 81920, .inl Sc))]) hD hS hA [1, 2] rfl
        refine va_callv (va_runV (As := [.int (x2 + x4), .int u4]) (rest := []) ⟨hx, hb, hml, hown, hts⟩ (m_X6_put l dC dI cyB cyC cyI cyJ cyZ aS aSc  H3.size (x2 + x4) u4 S_count S_cutShort Sc n z6 hz6) (cwV 2 hts gX3_takeString_X6_put rfl rfl rfl (by decide +kernel) ⟨Nat.le_of_ble_eq_true rfl, Nat.le_of_ble_eq_true rfl⟩) (prwV (va_recv hK hP (ci := 6) (q0 := 1) rfl rfl) hPc hK hDc hN) rfl rfl hl.1 rfl (lv_room (Nat.le_of_ble_eq_true rfl)) dX3_takeString_73 ⟨Nat.le_of_ble_eq_true rfl, Nat.le_of_ble_eq_true rfl⟩) hS (fun q _ h => hFc q h) hFc (fun u8 t9 H7 locs ht hvm hw hB hz1 hk1 hS => ?_)
        subst hw
        obtain ⟨hP1, hD1⟩ := hB
        rw [ht] at hP1
        obtain ⟨hP, hD⟩ := va_join (wr := [(aQ, .inr (3, [.ref aS, .ref aF, .int u4])), (aF, .inr (1, [.int F_kind, .long F_says, .int F_start, .int F_behind]))]) (w1 := [(aS, .inr (6, [.ref aSc, .int S_count, .int S_cutShort])), (aSc, .inl (cyC, 81920, .inl u8))]) hP hD [1, 2] [0, 3] rfl rfl (by decide) (by decide) hk1 hFc hP1 hD1
        have hP := hP.sub (ws' := [(aQ, .inr (3, [.ref aS, .ref aF, .int u4])), (aS, .inr (6, [.ref aSc, .int S_count, .int S_cutShort])), (aSc, .inl (cyC, 81920, .inl u8)), (aF, .inr (1, [.int F_kind, .long F_says, .int F_start, .int F_behind]))]) [0, 2, 3, 1] rfl
        have hD := hD.sub (ws' := [(aQ, .inr (3, [.ref aS, .ref aF, .int u4])), (aS, .inr (6, [.ref aSc, .int S_count, .int S_cutShort])), (aSc, .inl (cyC, 81920, .inl u8)), (aF, .inr (1, [.int F_kind, .long F_says, .int F_start, .int F_behind]))]) [0, 2, 3, 1] (by decide) rfl
        obtain ⟨y9, ey9⟩ : ∃ y : Int32, y = x4 + (1 : Int32) := ⟨_, rfl⟩
        have hf := lt_ok hf y9 ey9
        refine lv_iinc (v := y9) (lv' := [(4, .int y9), (3, .int r5), (0, .ref aQ), (2, .int x2)]) hx hb dX3_takeString_76 hl (k := 3) rfl (by rw [ey9]; rfl) (by decide) rfl (fun ls hl => ?_)
        refine lv_goto (tgt := 9) hx hb dX3_takeString_79 (by decide) ?_
        exact hr9 _ _ _ _ _ _ _ _ _ _ _ hf hP hD hS ls (lv_sub hl [2, 3, 1, 0] rfl)
      · have hf := (if_pos hc).symm.trans hf
        refine lv_iconst (v := (0 : Int32)) hx hb dX3_takeString_59 (by decide) ?_
        exact W.zret (v := (0 : Int32)) (ty := .boolean) hx hb hr rfl (fun t ht hW => ⟨⟨_, (u4, Sc, F_kind, F_says, F_start, F_behind), rfl, Option.some.inj hf, by rw [ht]; exact hP, hD⟩, hS.F ht⟩) hS.2.2 dX3_takeString_60
    · have hf := (if_pos hc).symm.trans hf
      refine lv_aload_n hx hb dX3_takeString_30 rfl (lv_at hl 0 rfl) ?_
      refine va_get (D := (dC, dI)) (ci := 3) (v := .ref aF) (C := RX3) (T := TX3) (N := 3) hx hb hts i_X3_takeString_X3 hown hK hP 0 rfl rfl 1 (by decide) (hts (.fieldLink RX3 15 "TokenRow$Quotes" "found" "LTokenRow$Found;") (List.mem_of_getElem? (i := 2) rfl)) (fun _ h9 => h9) rfl dX3_takeString_31 ?_
      refine lv_bipush (v := (66 : Int32)) hx hb dX3_takeString_34 (by decide) ?_
      refine lv_iload hx hb dX3_takeString_36 (lv_at hl 3 rfl) ?_
      refine lv_i2l (v := x4.toInt64) hx hb dX3_takeString_38 rfl ?_
      refine lv_iload_n hx hb dX3_takeString_39 rfl (lv_at hl 1 rfl) ?_
      refine lv_iload_n hx hb dX3_takeString_40 rfl (lv_at hl 2 rfl) ?_
      refine lv_iconst (v := (1 : Int32)) hx hb dX3_takeString_41 (by decide) ?_
      refine lv_iadd hx hb dX3_takeString_42 ?_
      obtain ⟨z10, hz10, hf⟩ := bd_ok hf
      have hPc := hP.sub (ws' := [(aF, .inr (1, [.int F_kind, .long F_says, .int F_start, .int F_behind]))]) [3] rfl
      have hDc := hD.sub (ws' := [(aF, .inr (1, [.int F_kind, .long F_says, .int F_start, .int F_behind]))]) [3] (by decide) rfl
      have hFc := va_free (wc := [(aF, .inr (1, [.int F_kind, .long F_says, .int F_start, .int F_behind]))]) hD hS hA [3] rfl
      refine va_callv (va_runV (As := [.int (66 : Int32), .long x4.toInt64, .int x2, .int (x3 + (1 : Int32))]) (rest := []) ⟨hx, hb, hml, hown, hts⟩ (m_X1_set l dC dI cyB cyC cyI cyJ cyZ aF  H.size (66 : Int32) x4.toInt64 x2 (x3 + (1 : Int32)) F_kind F_says F_start F_behind n z10 hz10) (cwV 4 hts gX3_takeString_X1_set rfl rfl rfl (by decide +kernel) ⟨Nat.le_of_ble_eq_true rfl, Nat.le_of_ble_eq_true rfl⟩) (prwV (va_recv hK hP (ci := 1) (q0 := 3) rfl rfl) hPc hK hDc hN) rfl rfl hl.1 rfl (lv_room (Nat.le_of_ble_eq_true rfl)) dX3_takeString_43 ⟨Nat.le_of_ble_eq_true rfl, Nat.le_of_ble_eq_true rfl⟩) hS (fun q _ h => hFc q h) hFc (fun u12 t9 H11 locs ht hvm hw hB hz1 hk1 hS => ?_)
      subst hw
      obtain ⟨hP1, hD1⟩ := hB
      rw [ht] at hP1
      obtain ⟨hP, hD⟩ := va_join (wr := [(aQ, .inr (3, [.ref aS, .ref aF, .int Q_character])), (aS, .inr (6, [.ref aSc, .int S_count, .int S_cutShort])), (aSc, .inl (cyC, 81920, .inl Sc))]) (w1 := [(aF, .inr (1, [.int u12.1, .long u12.2.1, .int u12.2.2.1, .int u12.2.2.2]))]) hP hD [3] [0, 1, 2] rfl rfl (by decide) (by decide) hk1 hFc hP1 hD1
      have hP := hP.sub (ws' := [(aQ, .inr (3, [.ref aS, .ref aF, .int Q_character])), (aS, .inr (6, [.ref aSc, .int S_count, .int S_cutShort])), (aSc, .inl (cyC, 81920, .inl Sc)), (aF, .inr (1, [.int u12.1, .long u12.2.1, .int u12.2.2.1, .int u12.2.2.2]))]) [0, 1, 2, 3] rfl
      have hD := hD.sub (ws' := [(aQ, .inr (3, [.ref aS, .ref aF, .int Q_character])), (aS, .inr (6, [.ref aSc, .int S_count, .int S_cutShort])), (aSc, .inl (cyC, 81920, .inl Sc)), (aF, .inr (1, [.int u12.1, .long u12.2.1, .int u12.2.2.1, .int u12.2.2.2]))]) [0, 1, 2, 3] (by decide) rfl
      refine lv_iconst (v := (1 : Int32)) hx hb dX3_takeString_46 (by decide) ?_
      exact W.zret (v := (1 : Int32)) (ty := .boolean) hx hb hr rfl (fun t ht hW => ⟨⟨_, (Q_character, Sc, u12.1, u12.2.1, u12.2.2.1, u12.2.2.2), rfl, Option.some.inj hf, by rw [ht]; exact hP, hD⟩, hS.F ht⟩) hS.2.2 dX3_takeString_47
def f_X3_takeString_9 (n : Nat) (S_count : Int32) (S_cutShort : Int32) : Nat → Int32 → (Nat → Int32) → Int32 → Int64 → Int32 → Int32 → Int32 → Int32 → Int32 → Option (Int32 × Int32 × (Nat → Int32) × Int32 × Int64 × Int32 × Int32)
  | 0 => fun _ _ _ _ _ _ _ _ _ => none
  | k + 1 => fun Q_character Sc F_kind F_says F_start F_behind x2 x3 x4 => fb_X3_takeString_9 n (f_X3_takeString_9 n S_count S_cutShort k) S_count S_cutShort Q_character Sc F_kind F_says F_start F_behind x2 x3 x4
set_option maxHeartbeats 4000000 in
set_option maxRecDepth 100000 in
theorem k_X3_takeString_9 {p : Program} {l : Launch} {e : Env} {s : State} {m : MethodId} {args : Array Value} {below : List Frame} {meth : Method} {c : Code} {dC : Nat → ClassId} {dI : Nat → Nat → Nat} {cyB cyC cyI cyJ cyZ : ClassId} {aQ aS aF aSc : Nat} {S_count : Int32} {S_cutShort : Int32} {A : Nat → Prop} {out : Int32 × Int32 × (Nat → Int32) × Int32 × Int64 × Int32 × Int32} (CX : cx cX3_takeString (some .boolean) 5 RX3 wsX3_takeString (dC, dI) (TY cyB cyC cyI cyJ cyZ) p s m args meth c) (hA : ∀ q : Nat, s.heap.size ≤ q → A q) (n : Nat) : ∀ k : Nat, J_X3_takeString_9 p l e s m args below meth c dC dI cyB cyC cyI cyJ cyZ aQ aS aF aSc S_count S_cutShort A out (f_X3_takeString_9 n S_count S_cutShort k) := by
  intro k
  induction k with
  | zero =>
    intro Q_character Sc F_kind F_says F_start F_behind x2 x3 x4 H locs hf
    exact absurd (show (none : Option (Int32 × Int32 × (Nat → Int32) × Int32 × Int64 × Int32 × Int32)) = some out from hf) (by simp)
  | succ k ih =>
    exact kb_X3_takeString_9 CX hA n ih
def f_X3_takeString_0 (n : Nat) (S_count : Int32) (S_cutShort : Int32) (Q_character : Int32) (Sc : Nat → Int32) (F_kind : Int32) (F_says : Int64) (F_start : Int32) (F_behind : Int32) (x1 : Int32) : Option (Int32 × Int32 × (Nat → Int32) × Int32 × Int64 × Int32 × Int32) :=
  lt_ (x1 + (1 : Int32)) fun y1 =>
  f_X3_takeString_9 n S_count S_cutShort n Q_character Sc F_kind F_says F_start F_behind y1 y1 (0 : Int32)
set_option maxHeartbeats 4000000 in
set_option maxRecDepth 100000 in
theorem k_X3_takeString_0 {p : Program} {l : Launch} {e : Env} {s : State} {m : MethodId} {args : Array Value} {below : List Frame} {meth : Method} {c : Code} {dC : Nat → ClassId} {dI : Nat → Nat → Nat} {cyB cyC cyI cyJ cyZ : ClassId} {aQ aS aF aSc : Nat} {S_count : Int32} {S_cutShort : Int32} {A : Nat → Prop} {out : Int32 × Int32 × (Nat → Int32) × Int32 × Int64 × Int32 × Int32} (CX : cx cX3_takeString (some .boolean) 5 RX3 wsX3_takeString (dC, dI) (TY cyB cyC cyI cyJ cyZ) p s m args meth c) (hA : ∀ q : Nat, s.heap.size ≤ q → A q) (n : Nat) : J_X3_takeString_0 p l e s m args below meth c dC dI cyB cyC cyI cyJ cyZ aQ aS aF aSc S_count S_cutShort A out (f_X3_takeString_0 n S_count S_cutShort) := by
  intro Q_character Sc F_kind F_says F_start F_behind x1 H locs hf hP hD hS ls hl
  obtain ⟨hx, hb, hr, hml, hown, hts, hlocks, hK, hN⟩ := id CX
  unfold f_X3_takeString_0 at hf
  refine lv_iload_n hx hb dX3_takeString_0 rfl (lv_at hl 1 rfl) ?_
  refine lv_iconst (v := (1 : Int32)) hx hb dX3_takeString_1 (by decide) ?_
  refine lv_iadd hx hb dX3_takeString_2 ?_
  refine lv_topi (fun y1 ey1 => ?_)
  have hf := lt_ok hf y1 ey1
  refine lv_istore_n (lv' := [(2, .int y1), (0, .ref aQ), (1, .int x1)]) hx hb dX3_takeString_3 rfl hl (by decide) rfl (fun ls hl => ?_)
  refine lv_iload_n hx hb dX3_takeString_4 rfl (lv_at hl 0 rfl) ?_
  refine lv_istore_n (lv' := [(3, .int y1), (2, .int y1), (0, .ref aQ), (1, .int x1)]) hx hb dX3_takeString_5 rfl hl (by decide) rfl (fun ls hl => ?_)
  refine lv_iconst (v := (0 : Int32)) hx hb dX3_takeString_6 (by decide) ?_
  refine lv_istore (lv' := [(4, .int (0 : Int32)), (3, .int y1), (2, .int y1), (0, .ref aQ), (1, .int x1)]) hx hb dX3_takeString_7 hl (by decide) rfl (fun ls hl => ?_)
  exact k_X3_takeString_9 CX hA n n _ _ _ _ _ _ _ _ _ _ _ hf hP hD hS ls (lv_sub hl [3, 2, 1, 0] rfl)
def f_X3_takeString (n : Nat) (p1 : Int32) (Q_character : Int32) (S_count : Int32) (S_cutShort : Int32) (Sc : Nat → Int32) (F_kind : Int32) (F_says : Int64) (F_start : Int32) (F_behind : Int32) : Option (Int32 × Int32 × (Nat → Int32) × Int32 × Int64 × Int32 × Int32) := f_X3_takeString_0 n S_count S_cutShort Q_character Sc F_kind F_says F_start F_behind p1
set_option maxHeartbeats 4000000 in
set_option maxRecDepth 100000 in
/-- TokenRow$Quotes.takeString(I)Z -/
theorem m_X3_takeString (l : Launch) (dC : Nat → ClassId) (dI : Nat → Nat → Nat) (cyB cyC cyI cyJ cyZ : ClassId) (aQ aS aF aSc : Nat) (sz : Nat) (p1 : Int32) (Q_character : Int32) (S_count : Int32) (S_cutShort : Int32) (Sc : Nat → Int32) (F_kind : Int32) (F_says : Int64) (F_start : Int32) (F_behind : Int32) (n : Nat) (out : Int32 × Int32 × (Nat → Int32) × Int32 × Int64 × Int32 × Int32) (hf : f_X3_takeString n p1 Q_character S_count S_cutShort Sc F_kind F_says F_start F_behind = some out) : Met l yX3_takeString wsX3_takeString rm_X3_takeString (Prw (dC, dI) (TY cyB cyC cyI cyJ cyZ) [.ref aQ, .int p1] sz [(aQ, .inr (3, [.ref aS, .ref aF, .int Q_character])), (aS, .inr (6, [.ref aSc, .int S_count, .int S_cutShort])), (aSc, .inl (cyC, 81920, .inl Sc)), (aF, .inr (1, [.int F_kind, .long F_says, .int F_start, .int F_behind]))]) (va_Qi (fun (r : Int32) (u : Int32 × (Nat → Int32) × Int32 × Int64 × Int32 × Int32) => (r, u) = out) (Bw (dC, dI) (va_A [(aQ, .inr (3, [.ref aS, .ref aF, .int Q_character])), (aS, .inr (6, [.ref aSc, .int S_count, .int S_cutShort])), (aSc, .inl (cyC, 81920, .inl Sc)), (aF, .inr (1, [.int F_kind, .long F_says, .int F_start, .int F_behind]))] sz) (fun u => [(aQ, .inr (3, [.ref aS, .ref aF, .int u.1])), (aS, .inr (6, [.ref aSc, .int S_count, .int S_cutShort])), (aSc, .inl (cyC, 81920, .inl u.2.1)), (aF, .inr (1, [.int u.2.2.1, .long u.2.2.2.1, .int u.2.2.2.2.1, .int u.2.2.2.2.2]))])) (va_A [(aQ, .inr (3, [.ref aS, .ref aF, .int Q_character])), (aS, .inr (6, [.ref aSc, .int S_count, .int S_cutShort])), (aSc, .inl (cyC, 81920, .inl Sc)), (aF, .inr (1, [.int F_kind, .long F_says, .int F_start, .int F_behind]))] sz)) 0 0 (va_A [(aQ, .inr (3, [.ref aS, .ref aF, .int Q_character])), (aS, .inr (6, [.ref aSc, .int S_count, .int S_cutShort])), (aSc, .inl (cyC, 81920, .inl Sc)), (aF, .inr (1, [.int F_kind, .long F_says, .int F_start, .int F_behind]))] sz) := by
  refine Met.ofW (cc := cX3_takeString) (maxL := 5) (ret := (some .boolean)) (by decide) rfl ?_
  intro p e s m args below meth c s₁ B hml hv
  obtain ⟨rfl, hsz, hP, hK, hD0, hN⟩ := hv
  subst hsz
  have hD := hD0.self (sz := s.heap.size)
  have CX : cx cX3_takeString (some .boolean) 5 RX3 wsX3_takeString (dC, dI) (TY cyB cyC cyI cyJ cyZ) p s m ([.ref aQ, .int p1] : List Value).toArray meth c := ⟨B.exec, B.bytes, B.returns, hml, findClass_of_methodNamed B.named, atoms_spec (ws := wsX3_takeString) B.pre, B.notSynchronized, hK, hN⟩
  have hl := lv_entry ([.ref aQ, .int p1]) (n := 5) (Nat.le_of_ble_eq_true rfl)
  rw [lg_entry_eq]
  exact k_X3_takeString_0 CX (fun q h => Or.inr h) n _ _ _ _ _ _ _ _ _ hf hP hD va_S.rf _ hl
