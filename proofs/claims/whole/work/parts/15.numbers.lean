abbrev rm_X2_isEither : Room := { frames := 1, cells := 0, slots := 0, locals := 21 }
theorem i_X2_isEither_X2 : ∀ w ∈ u_ws RX2 TX2 8, w ∈ wsX2_isEither := fun _ h => (List.mem_cons_of_mem _ (List.mem_append_left _ (List.mem_append_right _ h)))
theorem i_X2_isEither_X6 : ∀ w ∈ u_ws RX6 TX6 3, w ∈ wsX2_isEither := fun _ h => (List.mem_cons_of_mem _ (List.mem_append_right _ h))
def J_X2_isEither_0 (p : Program) (l : Launch) (e : Env) (s : State) (m : MethodId) (args : Array Value) (below : List Frame) (meth : Method) (c : Code) (dC : Nat → ClassId) (dI : Nat → Nat → Nat) (cyB cyC cyI cyJ cyZ : ClassId) (aN aS aF aB aR aSc : Nat) (N_base : Int32) (N_first : Int32) (N_significandEnd : Int32) (N_exponentEnd : Int32) (S_count : Int32) (S_cutShort : Int32) (Sc : Nat → Int32) (out : Int32) (g : Int32 → Int32 → Int32 → Option (Int32)) : Prop := ∀ (x1 : Int32) (x2 : Int32) (x3 : Int32), g x1 x2 x3 = some out → ∀ ls : Array Slot, lv_has ls 4 [(0, .ref aN), (1, .int x1), (2, .int x2), (3, .int x3)] → W p l e rm_X2_isEither s m args below meth c s.heap [] 0 0 (MQ below (vp_Si (fun r => r = out)) args s 0 0 (fun _ => False)) (F0 m 0 ls [])
def f_X2_isEither_0 (n : Nat) (N_base : Int32) (N_first : Int32) (N_significandEnd : Int32) (N_exponentEnd : Int32) (S_count : Int32) (S_cutShort : Int32) (Sc : Nat → Int32) (x1 : Int32) (x2 : Int32) (x3 : Int32) : Option (Int32) :=
  bd (f_X6_look n x1 S_count S_cutShort Sc) fun o1 =>
  if o1 = x2 then
  (some (1 : Int32))
  else
  (bd (f_X6_look n x1 S_count S_cutShort Sc) fun o2 =>
  if o2 = x3 then
  (some (1 : Int32))
  else
  (some (0 : Int32)))
set_option maxHeartbeats 4000000 in
set_option maxRecDepth 100000 in
theorem k_X2_isEither_0 {p : Program} {l : Launch} {e : Env} {s : State} {m : MethodId} {args : Array Value} {below : List Frame} {meth : Method} {c : Code} {dC : Nat → ClassId} {dI : Nat → Nat → Nat} {cyB cyC cyI cyJ cyZ : ClassId} {aN aS aF aB aR aSc : Nat} {N_base : Int32} {N_first : Int32} {N_significandEnd : Int32} {N_exponentEnd : Int32} {S_count : Int32} {S_cutShort : Int32} {Sc : Nat → Int32} {out : Int32} (CX : cx cX2_isEither (some .boolean) 4 RX2 wsX2_isEither (dC, dI) (TY cyB cyC cyI cyJ cyZ) p s m args meth c) (hP : va_P (dC, dI) vwCl [(aN, .inr (2, [.ref aS, .ref aF, .ref aB, .ref aR, .int N_base, .int N_first, .int N_significandEnd, .int N_exponentEnd])), (aS, .inr (6, [.ref aSc, .int S_count, .int S_cutShort])), (aSc, .inl (cyC, 81920, .inl Sc))] s.heap) (n : Nat) : J_X2_isEither_0 p l e s m args below meth c dC dI cyB cyC cyI cyJ cyZ aN aS aF aB aR aSc N_base N_first N_significandEnd N_exponentEnd S_count S_cutShort Sc out (f_X2_isEither_0 n N_base N_first N_significandEnd N_exponentEnd S_count S_cutShort Sc) := by
  intro x1 x2 x3 hf ls hl
  obtain ⟨hx, hb, hr, hml, hown, hts, hlocks, hK, hN⟩ := id CX
  unfold f_X2_isEither_0 at hf
  refine lv_aload_n hx hb dX2_isEither_0 rfl (lv_at hl 0 rfl) ?_
  refine va_get (D := (dC, dI)) (ci := 2) (v := .ref aS) (C := RX2) (T := TX2) (N := 8) hx hb hts i_X2_isEither_X2 hown hK hP 0 rfl rfl 0 (by decide) (hts (.fieldLink RX2 9 "TokenRow$Numbers" "source" "LTokenRow$Source;") (List.mem_of_getElem? (i := 1) rfl)) (fun _ h9 => h9) rfl dX2_isEither_1 ?_
  refine lv_iload_n hx hb dX2_isEither_4 rfl (lv_at hl 1 rfl) ?_
  obtain ⟨z1, hz1, hf⟩ := bd_ok hf
  have hPc := hP.sub (ws' := [(aS, .inr (6, [.ref aSc, .int S_count, .int S_cutShort])), (aSc, .inl (cyC, 81920, .inl Sc))]) [1, 2] rfl
  refine vp_callSi (va_Run.run (va_runV (As := [.int x1]) (rest := []) ⟨hx, hb, hml, hown, hts⟩ (m_X6_look l dC dI cyB cyC cyI cyJ cyZ aS aSc  x1 S_count S_cutShort Sc n z1 hz1) (cwV 1 hts gX2_isEither_X6_look rfl rfl rfl (by decide +kernel) ⟨Nat.le_of_ble_eq_true rfl, Nat.le_of_ble_eq_true rfl⟩) (proV (va_recv hK hP (ci := 6) (q0 := 1) rfl rfl) hPc hK hN) rfl rfl hl.1 rfl (lv_room (Nat.le_of_ble_eq_true rfl)) dX2_isEither_5 ⟨Nat.le_of_ble_eq_true rfl, Nat.le_of_ble_eq_true rfl⟩)) (fun o1 hr9 => ?_)
  subst hr9
  refine lv_iload_n hx hb dX2_isEither_8 rfl (lv_at hl 2 rfl) ?_
  refine lv_icmp_eq (tgt := 24) hx hb dX2_isEither_9 (by decide) (fun hc => ?_) (fun hc => ?_)
  · have hf := (if_pos hc).symm.trans hf
    refine lv_iconst (v := (1 : Int32)) hx hb dX2_isEither_24 (by decide) ?_
    refine lv_goto (tgt := 29) hx hb dX2_isEither_25 (by decide) ?_
    exact W.zret (v := (1 : Int32)) (ty := .boolean) hx hb hr rfl (fun t ht hW => ⟨_, rfl, Option.some.inj hf, ht⟩) (fun _ h => nomatch h) dX2_isEither_29
  · have hf := (if_neg hc).symm.trans hf
    refine lv_aload_n hx hb dX2_isEither_12 rfl (lv_at hl 0 rfl) ?_
    refine va_get (D := (dC, dI)) (ci := 2) (v := .ref aS) (C := RX2) (T := TX2) (N := 8) hx hb hts i_X2_isEither_X2 hown hK hP 0 rfl rfl 0 (by decide) (hts (.fieldLink RX2 9 "TokenRow$Numbers" "source" "LTokenRow$Source;") (List.mem_of_getElem? (i := 1) rfl)) (fun _ h9 => h9) rfl dX2_isEither_13 ?_
    refine lv_iload_n hx hb dX2_isEither_16 rfl (lv_at hl 1 rfl) ?_
    obtain ⟨z2, hz2, hf⟩ := bd_ok hf
    have hPc := hP.sub (ws' := [(aS, .inr (6, [.ref aSc, .int S_count, .int S_cutShort])), (aSc, .inl (cyC, 81920, .inl Sc))]) [1, 2] rfl
    refine vp_callSi (va_Run.run (va_runV (As := [.int x1]) (rest := []) ⟨hx, hb, hml, hown, hts⟩ (m_X6_look l dC dI cyB cyC cyI cyJ cyZ aS aSc  x1 S_count S_cutShort Sc n z2 hz2) (cwV 1 hts gX2_isEither_X6_look rfl rfl rfl (by decide +kernel) ⟨Nat.le_of_ble_eq_true rfl, Nat.le_of_ble_eq_true rfl⟩) (proV (va_recv hK hP (ci := 6) (q0 := 1) rfl rfl) hPc hK hN) rfl rfl hl.1 rfl (lv_room (Nat.le_of_ble_eq_true rfl)) dX2_isEither_17 ⟨Nat.le_of_ble_eq_true rfl, Nat.le_of_ble_eq_true rfl⟩)) (fun o2 hr9 => ?_)
    subst hr9
    refine lv_iload_n hx hb dX2_isEither_20 rfl (lv_at hl 3 rfl) ?_
    refine lv_icmp_ne (tgt := 28) hx hb dX2_isEither_21 (by decide) (fun hc => ?_) (fun hc => ?_)
    · have hf := (if_neg hc).symm.trans hf
      refine lv_iconst (v := (0 : Int32)) hx hb dX2_isEither_28 (by decide) ?_
      exact W.zret (v := (0 : Int32)) (ty := .boolean) hx hb hr rfl (fun t ht hW => ⟨_, rfl, Option.some.inj hf, ht⟩) (fun _ h => nomatch h) dX2_isEither_29
    · have hf := (if_pos hc).symm.trans hf
      refine lv_iconst (v := (1 : Int32)) hx hb dX2_isEither_24 (by decide) ?_
      refine lv_goto (tgt := 29) hx hb dX2_isEither_25 (by decide) ?_
      exact W.zret (v := (1 : Int32)) (ty := .boolean) hx hb hr rfl (fun t ht hW => ⟨_, rfl, Option.some.inj hf, ht⟩) (fun _ h => nomatch h) dX2_isEither_29
def f_X2_isEither (n : Nat) (p1 : Int32) (p2 : Int32) (p3 : Int32) (N_base : Int32) (N_first : Int32) (N_significandEnd : Int32) (N_exponentEnd : Int32) (S_count : Int32) (S_cutShort : Int32) (Sc : Nat → Int32) : Option (Int32) := f_X2_isEither_0 n N_base N_first N_significandEnd N_exponentEnd S_count S_cutShort Sc p1 p2 p3
set_option maxHeartbeats 4000000 in
set_option maxRecDepth 100000 in
/-- TokenRow$Numbers.isEither(ICC)Z -/
theorem m_X2_isEither (l : Launch) (dC : Nat → ClassId) (dI : Nat → Nat → Nat) (cyB cyC cyI cyJ cyZ : ClassId) (aN aS aF aB aR aSc : Nat) (p1 : Int32) (p2 : Int32) (p3 : Int32) (N_base : Int32) (N_first : Int32) (N_significandEnd : Int32) (N_exponentEnd : Int32) (S_count : Int32) (S_cutShort : Int32) (Sc : Nat → Int32) (n : Nat) (out : Int32) (hf : f_X2_isEither n p1 p2 p3 N_base N_first N_significandEnd N_exponentEnd S_count S_cutShort Sc = some out) : Met l yX2_isEither wsX2_isEither rm_X2_isEither (Pro (dC, dI) (TY cyB cyC cyI cyJ cyZ) [.ref aN, .int p1, .int p2, .int p3] [(aN, .inr (2, [.ref aS, .ref aF, .ref aB, .ref aR, .int N_base, .int N_first, .int N_significandEnd, .int N_exponentEnd])), (aS, .inr (6, [.ref aSc, .int S_count, .int S_cutShort])), (aSc, .inl (cyC, 81920, .inl Sc))]) (vp_Si (fun r => r = out)) 0 0 (fun _ => False) := by
  refine Met.ofW (cc := cX2_isEither) (maxL := 4) (ret := (some .boolean)) (by decide) rfl ?_
  intro p e s m args below meth c s₁ B hml hv
  obtain ⟨rfl, hP, hK, hN⟩ := hv
  have CX : cx cX2_isEither (some .boolean) 4 RX2 wsX2_isEither (dC, dI) (TY cyB cyC cyI cyJ cyZ) p s m ([.ref aN, .int p1, .int p2, .int p3] : List Value).toArray meth c := ⟨B.exec, B.bytes, B.returns, hml, findClass_of_methodNamed B.named, atoms_spec (ws := wsX2_isEither) B.pre, B.notSynchronized, hK, hN⟩
  have hl := lv_entry ([.ref aN, .int p1, .int p2, .int p3]) (n := 4) (Nat.le_of_ble_eq_true rfl)
  rw [lg_entry_eq]
  exact k_X2_isEither_0 (aF := aF) (aB := aB) (aR := aR) CX hP n _ _ _ hf _ hl
abbrev rm_X2_isFloatLetter : Room := { frames := 2, cells := 0, slots := 0, locals := 44 }
theorem i_X2_isFloatLetter_X2 : ∀ w ∈ u_ws RX2 TX2 8, w ∈ wsX2_isFloatLetter := fun _ h => (List.mem_cons_of_mem _ (List.mem_append_left _ (List.mem_append_right _ h)))
theorem i_X2_isFloatLetter_X6 : ∀ w ∈ u_ws RX6 TX6 3, w ∈ wsX2_isFloatLetter := fun _ h => (List.mem_cons_of_mem _ (List.mem_append_right _ h))
def J_X2_isFloatLetter_0 (p : Program) (l : Launch) (e : Env) (s : State) (m : MethodId) (args : Array Value) (below : List Frame) (meth : Method) (c : Code) (dC : Nat → ClassId) (dI : Nat → Nat → Nat) (cyB cyC cyI cyJ cyZ : ClassId) (aN aS aF aB aR aSc : Nat) (N_base : Int32) (N_first : Int32) (N_significandEnd : Int32) (N_exponentEnd : Int32) (S_count : Int32) (S_cutShort : Int32) (Sc : Nat → Int32) (out : Int32) (g : Int32 → Option (Int32)) : Prop := ∀ (x1 : Int32), g x1 = some out → ∀ ls : Array Slot, lv_has ls 2 [(0, .ref aN), (1, .int x1)] → W p l e rm_X2_isFloatLetter s m args below meth c s.heap [] 0 0 (MQ below (vp_Si (fun r => r = out)) args s 0 0 (fun _ => False)) (F0 m 0 ls [])
def f_X2_isFloatLetter_0 (n : Nat) (N_base : Int32) (N_first : Int32) (N_significandEnd : Int32) (N_exponentEnd : Int32) (S_count : Int32) (S_cutShort : Int32) (Sc : Nat → Int32) (x1 : Int32) : Option (Int32) :=
  bd (f_X2_isEither n x1 (102 : Int32) (70 : Int32) N_base N_first N_significandEnd N_exponentEnd S_count S_cutShort Sc) fun o1 =>
  gu (zb o1) (
  some o1)
set_option maxHeartbeats 4000000 in
set_option maxRecDepth 100000 in
theorem k_X2_isFloatLetter_0 {p : Program} {l : Launch} {e : Env} {s : State} {m : MethodId} {args : Array Value} {below : List Frame} {meth : Method} {c : Code} {dC : Nat → ClassId} {dI : Nat → Nat → Nat} {cyB cyC cyI cyJ cyZ : ClassId} {aN aS aF aB aR aSc : Nat} {N_base : Int32} {N_first : Int32} {N_significandEnd : Int32} {N_exponentEnd : Int32} {S_count : Int32} {S_cutShort : Int32} {Sc : Nat → Int32} {out : Int32} (CX : cx cX2_isFloatLetter (some .boolean) 2 RX2 wsX2_isFloatLetter (dC, dI) (TY cyB cyC cyI cyJ cyZ) p s m args meth c) (hP : va_P (dC, dI) vwCl [(aN, .inr (2, [.ref aS, .ref aF, .ref aB, .ref aR, .int N_base, .int N_first, .int N_significandEnd, .int N_exponentEnd])), (aS, .inr (6, [.ref aSc, .int S_count, .int S_cutShort])), (aSc, .inl (cyC, 81920, .inl Sc))] s.heap) (n : Nat) : J_X2_isFloatLetter_0 p l e s m args below meth c dC dI cyB cyC cyI cyJ cyZ aN aS aF aB aR aSc N_base N_first N_significandEnd N_exponentEnd S_count S_cutShort Sc out (f_X2_isFloatLetter_0 n N_base N_first N_significandEnd N_exponentEnd S_count S_cutShort Sc) := by
  intro x1 hf ls hl
  obtain ⟨hx, hb, hr, hml, hown, hts, hlocks, hK, hN⟩ := id CX
  unfold f_X2_isFloatLetter_0 at hf
  refine lv_aload_n hx hb dX2_isFloatLetter_0 rfl (lv_at hl 0 rfl) ?_
  refine lv_iload_n hx hb dX2_isFloatLetter_1 rfl (lv_at hl 1 rfl) ?_
  refine lv_bipush (v := (102 : Int32)) hx hb dX2_isFloatLetter_2 (by decide) ?_
  refine lv_bipush (v := (70 : Int32)) hx hb dX2_isFloatLetter_4 (by decide) ?_
  obtain ⟨z1, hz1, hf⟩ := bd_ok hf
  have hPc := hP.sub (ws' := [(aN, .inr (2, [.ref aS, .ref aF, .ref aB, .ref aR, .int N_base, .int N_first, .int N_significandEnd, .int N_exponentEnd])), (aS, .inr (6, [.ref aSc, .int S_count, .int S_cutShort])), (aSc, .inl (cyC, 81920, .inl Sc))]) [0, 1, 2] rfl
  refine vp_callSi (va_Run.run (va_runV (As := [.int x1, .int (102 : Int32), .int (70 : Int32)]) (rest := []) ⟨hx, hb, hml, hown, hts⟩ (m_X2_isEither l dC dI cyB cyC cyI cyJ cyZ aN aS aF aB aR aSc  x1 (102 : Int32) (70 : Int32) N_base N_first N_significandEnd N_exponentEnd S_count S_cutShort Sc n z1 hz1) (cwV 3 hts gX2_isFloatLetter_X2_isEither rfl rfl rfl (by decide +kernel) ⟨Nat.le_of_ble_eq_true rfl, Nat.le_of_ble_eq_true rfl⟩) (proV (va_recv hK hP (ci := 2) (q0 := 0) rfl rfl) hPc hK hN) rfl rfl hl.1 rfl (lv_room (Nat.le_of_ble_eq_true rfl)) dX2_isFloatLetter_6 ⟨Nat.le_of_ble_eq_true rfl, Nat.le_of_ble_eq_true rfl⟩)) (fun o1 hr9 => ?_)
  subst hr9
  obtain ⟨hg, hf⟩ := gu_ok hf
  exact W.zret (v := o1) (ty := .boolean) hx hb hr (zb_n hg) (fun t ht hW => ⟨_, rfl, Option.some.inj hf, ht⟩) (fun _ h => nomatch h) dX2_isFloatLetter_9
def f_X2_isFloatLetter (n : Nat) (p1 : Int32) (N_base : Int32) (N_first : Int32) (N_significandEnd : Int32) (N_exponentEnd : Int32) (S_count : Int32) (S_cutShort : Int32) (Sc : Nat → Int32) : Option (Int32) := f_X2_isFloatLetter_0 n N_base N_first N_significandEnd N_exponentEnd S_count S_cutShort Sc p1
set_option maxHeartbeats 4000000 in
set_option maxRecDepth 100000 in
/-- TokenRow$Numbers.isFloatLetter(I)Z -/
theorem m_X2_isFloatLetter (l : Launch) (dC : Nat → ClassId) (dI : Nat → Nat → Nat) (cyB cyC cyI cyJ cyZ : ClassId) (aN aS aF aB aR aSc : Nat) (p1 : Int32) (N_base : Int32) (N_first : Int32) (N_significandEnd : Int32) (N_exponentEnd : Int32) (S_count : Int32) (S_cutShort : Int32) (Sc : Nat → Int32) (n : Nat) (out : Int32) (hf : f_X2_isFloatLetter n p1 N_base N_first N_significandEnd N_exponentEnd S_count S_cutShort Sc = some out) : Met l yX2_isFloatLetter wsX2_isFloatLetter rm_X2_isFloatLetter (Pro (dC, dI) (TY cyB cyC cyI cyJ cyZ) [.ref aN, .int p1] [(aN, .inr (2, [.ref aS, .ref aF, .ref aB, .ref aR, .int N_base, .int N_first, .int N_significandEnd, .int N_exponentEnd])), (aS, .inr (6, [.ref aSc, .int S_count, .int S_cutShort])), (aSc, .inl (cyC, 81920, .inl Sc))]) (vp_Si (fun r => r = out)) 0 0 (fun _ => False) := by
  refine Met.ofW (cc := cX2_isFloatLetter) (maxL := 2) (ret := (some .boolean)) (by decide) rfl ?_
  intro p e s m args below meth c s₁ B hml hv
  obtain ⟨rfl, hP, hK, hN⟩ := hv
  have CX : cx cX2_isFloatLetter (some .boolean) 2 RX2 wsX2_isFloatLetter (dC, dI) (TY cyB cyC cyI cyJ cyZ) p s m ([.ref aN, .int p1] : List Value).toArray meth c := ⟨B.exec, B.bytes, B.returns, hml, findClass_of_methodNamed B.named, atoms_spec (ws := wsX2_isFloatLetter) B.pre, B.notSynchronized, hK, hN⟩
  have hl := lv_entry ([.ref aN, .int p1]) (n := 2) (Nat.le_of_ble_eq_true rfl)
  rw [lg_entry_eq]
  exact k_X2_isFloatLetter_0 (aF := aF) (aB := aB) (aR := aR) CX hP n _ hf _ hl
abbrev rm_X2_isDoubleLetter : Room := { frames := 2, cells := 0, slots := 0, locals := 44 }
theorem i_X2_isDoubleLetter_X2 : ∀ w ∈ u_ws RX2 TX2 8, w ∈ wsX2_isDoubleLetter := fun _ h => (List.mem_cons_of_mem _ (List.mem_append_left _ (List.mem_append_right _ h)))
theorem i_X2_isDoubleLetter_X6 : ∀ w ∈ u_ws RX6 TX6 3, w ∈ wsX2_isDoubleLetter := fun _ h => (List.mem_cons_of_mem _ (List.mem_append_right _ h))
def J_X2_isDoubleLetter_0 (p : Program) (l : Launch) (e : Env) (s : State) (m : MethodId) (args : Array Value) (below : List Frame) (meth : Method) (c : Code) (dC : Nat → ClassId) (dI : Nat → Nat → Nat) (cyB cyC cyI cyJ cyZ : ClassId) (aN aS aF aB aR aSc : Nat) (N_base : Int32) (N_first : Int32) (N_significandEnd : Int32) (N_exponentEnd : Int32) (S_count : Int32) (S_cutShort : Int32) (Sc : Nat → Int32) (out : Int32) (g : Int32 → Option (Int32)) : Prop := ∀ (x1 : Int32), g x1 = some out → ∀ ls : Array Slot, lv_has ls 2 [(0, .ref aN), (1, .int x1)] → W p l e rm_X2_isDoubleLetter s m args below meth c s.heap [] 0 0 (MQ below (vp_Si (fun r => r = out)) args s 0 0 (fun _ => False)) (F0 m 0 ls [])
def f_X2_isDoubleLetter_0 (n : Nat) (N_base : Int32) (N_first : Int32) (N_significandEnd : Int32) (N_exponentEnd : Int32) (S_count : Int32) (S_cutShort : Int32) (Sc : Nat → Int32) (x1 : Int32) : Option (Int32) :=
  bd (f_X2_isEither n x1 (100 : Int32) (68 : Int32) N_base N_first N_significandEnd N_exponentEnd S_count S_cutShort Sc) fun o1 =>
  gu (zb o1) (
  some o1)
set_option maxHeartbeats 4000000 in
set_option maxRecDepth 100000 in
theorem k_X2_isDoubleLetter_0 {p : Program} {l : Launch} {e : Env} {s : State} {m : MethodId} {args : Array Value} {below : List Frame} {meth : Method} {c : Code} {dC : Nat → ClassId} {dI : Nat → Nat → Nat} {cyB cyC cyI cyJ cyZ : ClassId} {aN aS aF aB aR aSc : Nat} {N_base : Int32} {N_first : Int32} {N_significandEnd : Int32} {N_exponentEnd : Int32} {S_count : Int32} {S_cutShort : Int32} {Sc : Nat → Int32} {out : Int32} (CX : cx cX2_isDoubleLetter (some .boolean) 2 RX2 wsX2_isDoubleLetter (dC, dI) (TY cyB cyC cyI cyJ cyZ) p s m args meth c) (hP : va_P (dC, dI) vwCl [(aN, .inr (2, [.ref aS, .ref aF, .ref aB, .ref aR, .int N_base, .int N_first, .int N_significandEnd, .int N_exponentEnd])), (aS, .inr (6, [.ref aSc, .int S_count, .int S_cutShort])), (aSc, .inl (cyC, 81920, .inl Sc))] s.heap) (n : Nat) : J_X2_isDoubleLetter_0 p l e s m args below meth c dC dI cyB cyC cyI cyJ cyZ aN aS aF aB aR aSc N_base N_first N_significandEnd N_exponentEnd S_count S_cutShort Sc out (f_X2_isDoubleLetter_0 n N_base N_first N_significandEnd N_exponentEnd S_count S_cutShort Sc) := by
  intro x1 hf ls hl
  obtain ⟨hx, hb, hr, hml, hown, hts, hlocks, hK, hN⟩ := id CX
  unfold f_X2_isDoubleLetter_0 at hf
  refine lv_aload_n hx hb dX2_isDoubleLetter_0 rfl (lv_at hl 0 rfl) ?_
  refine lv_iload_n hx hb dX2_isDoubleLetter_1 rfl (lv_at hl 1 rfl) ?_
  refine lv_bipush (v := (100 : Int32)) hx hb dX2_isDoubleLetter_2 (by decide) ?_
  refine lv_bipush (v := (68 : Int32)) hx hb dX2_isDoubleLetter_4 (by decide) ?_
  obtain ⟨z1, hz1, hf⟩ := bd_ok hf
  have hPc := hP.sub (ws' := [(aN, .inr (2, [.ref aS, .ref aF, .ref aB, .ref aR, .int N_base, .int N_first, .int N_significandEnd, .int N_exponentEnd])), (aS, .inr (6, [.ref aSc, .int S_count, .int S_cutShort])), (aSc, .inl (cyC, 81920, .inl Sc))]) [0, 1, 2] rfl
  refine vp_callSi (va_Run.run (va_runV (As := [.int x1, .int (100 : Int32), .int (68 : Int32)]) (rest := []) ⟨hx, hb, hml, hown, hts⟩ (m_X2_isEither l dC dI cyB cyC cyI cyJ cyZ aN aS aF aB aR aSc  x1 (100 : Int32) (68 : Int32) N_base N_first N_significandEnd N_exponentEnd S_count S_cutShort Sc n z1 hz1) (cwV 3 hts gX2_isDoubleLetter_X2_isEither rfl rfl rfl (by decide +kernel) ⟨Nat.le_of_ble_eq_true rfl, Nat.le_of_ble_eq_true rfl⟩) (proV (va_recv hK hP (ci := 2) (q0 := 0) rfl rfl) hPc hK hN) rfl rfl hl.1 rfl (lv_room (Nat.le_of_ble_eq_true rfl)) dX2_isDoubleLetter_6 ⟨Nat.le_of_ble_eq_true rfl, Nat.le_of_ble_eq_true rfl⟩)) (fun o1 hr9 => ?_)
  subst hr9
  obtain ⟨hg, hf⟩ := gu_ok hf
  exact W.zret (v := o1) (ty := .boolean) hx hb hr (zb_n hg) (fun t ht hW => ⟨_, rfl, Option.some.inj hf, ht⟩) (fun _ h => nomatch h) dX2_isDoubleLetter_9
def f_X2_isDoubleLetter (n : Nat) (p1 : Int32) (N_base : Int32) (N_first : Int32) (N_significandEnd : Int32) (N_exponentEnd : Int32) (S_count : Int32) (S_cutShort : Int32) (Sc : Nat → Int32) : Option (Int32) := f_X2_isDoubleLetter_0 n N_base N_first N_significandEnd N_exponentEnd S_count S_cutShort Sc p1
set_option maxHeartbeats 4000000 in
set_option maxRecDepth 100000 in
/-- TokenRow$Numbers.isDoubleLetter(I)Z -/
theorem m_X2_isDoubleLetter (l : Launch) (dC : Nat → ClassId) (dI : Nat → Nat → Nat) (cyB cyC cyI cyJ cyZ : ClassId) (aN aS aF aB aR aSc : Nat) (p1 : Int32) (N_base : Int32) (N_first : Int32) (N_significandEnd : Int32) (N_exponentEnd : Int32) (S_count : Int32) (S_cutShort : Int32) (Sc : Nat → Int32) (n : Nat) (out : Int32) (hf : f_X2_isDoubleLetter n p1 N_base N_first N_significandEnd N_exponentEnd S_count S_cutShort Sc = some out) : Met l yX2_isDoubleLetter wsX2_isDoubleLetter rm_X2_isDoubleLetter (Pro (dC, dI) (TY cyB cyC cyI cyJ cyZ) [.ref aN, .int p1] [(aN, .inr (2, [.ref aS, .ref aF, .ref aB, .ref aR, .int N_base, .int N_first, .int N_significandEnd, .int N_exponentEnd])), (aS, .inr (6, [.ref aSc, .int S_count, .int S_cutShort])), (aSc, .inl (cyC, 81920, .inl Sc))]) (vp_Si (fun r => r = out)) 0 0 (fun _ => False) := by
  refine Met.ofW (cc := cX2_isDoubleLetter) (maxL := 2) (ret := (some .boolean)) (by decide) rfl ?_
  intro p e s m args below meth c s₁ B hml hv
  obtain ⟨rfl, hP, hK, hN⟩ := hv
  have CX : cx cX2_isDoubleLetter (some .boolean) 2 RX2 wsX2_isDoubleLetter (dC, dI) (TY cyB cyC cyI cyJ cyZ) p s m ([.ref aN, .int p1] : List Value).toArray meth c := ⟨B.exec, B.bytes, B.returns, hml, findClass_of_methodNamed B.named, atoms_spec (ws := wsX2_isDoubleLetter) B.pre, B.notSynchronized, hK, hN⟩
  have hl := lv_entry ([.ref aN, .int p1]) (n := 2) (Nat.le_of_ble_eq_true rfl)
  rw [lg_entry_eq]
  exact k_X2_isDoubleLetter_0 (aF := aF) (aB := aB) (aR := aR) CX hP n _ hf _ hl
abbrev rm_X2_hasMark : Room := { frames := 2, cells := 0, slots := 0, locals := 44 }
theorem i_X2_hasMark_X2 : ∀ w ∈ u_ws RX2 TX2 8, w ∈ wsX2_hasMark := fun _ h => (List.mem_cons_of_mem _ (List.mem_append_left _ (List.mem_append_right _ h)))
theorem i_X2_hasMark_X6 : ∀ w ∈ u_ws RX6 TX6 3, w ∈ wsX2_hasMark := fun _ h => (List.mem_cons_of_mem _ (List.mem_append_right _ h))
def J_X2_hasMark_0 (p : Program) (l : Launch) (e : Env) (s : State) (m : MethodId) (args : Array Value) (below : List Frame) (meth : Method) (c : Code) (dC : Nat → ClassId) (dI : Nat → Nat → Nat) (cyB cyC cyI cyJ cyZ : ClassId) (aN aS aF aB aR aSc : Nat) (N_base : Int32) (N_first : Int32) (N_significandEnd : Int32) (N_exponentEnd : Int32) (S_count : Int32) (S_cutShort : Int32) (Sc : Nat → Int32) (out : Int32) (g : Int32 → Int32 → Int32 → Option (Int32)) : Prop := ∀ (x1 : Int32) (x2 : Int32) (x3 : Int32), g x1 x2 x3 = some out → ∀ ls : Array Slot, lv_has ls 4 [(0, .ref aN), (1, .int x1), (2, .int x2), (3, .int x3)] → W p l e rm_X2_hasMark s m args below meth c s.heap [] 0 0 (MQ below (vp_Si (fun r => r = out)) args s 0 0 (fun _ => False)) (F0 m 0 ls [])
def f_X2_hasMark_0 (n : Nat) (N_base : Int32) (N_first : Int32) (N_significandEnd : Int32) (N_exponentEnd : Int32) (S_count : Int32) (S_cutShort : Int32) (Sc : Nat → Int32) (x1 : Int32) (x2 : Int32) (x3 : Int32) : Option (Int32) :=
  bd (f_X6_look n x1 S_count S_cutShort Sc) fun o1 =>
  if o1 = (48 : Int32) then
  (bd (f_X2_isEither n (x1 + (1 : Int32)) x2 x3 N_base N_first N_significandEnd N_exponentEnd S_count S_cutShort Sc) fun o2 =>
  if o2 = 0 then
  (some (0 : Int32))
  else
  (some (1 : Int32)))
  else
  (some (0 : Int32))
set_option maxHeartbeats 4000000 in
set_option maxRecDepth 100000 in
theorem k_X2_hasMark_0 {p : Program} {l : Launch} {e : Env} {s : State} {m : MethodId} {args : Array Value} {below : List Frame} {meth : Method} {c : Code} {dC : Nat → ClassId} {dI : Nat → Nat → Nat} {cyB cyC cyI cyJ cyZ : ClassId} {aN aS aF aB aR aSc : Nat} {N_base : Int32} {N_first : Int32} {N_significandEnd : Int32} {N_exponentEnd : Int32} {S_count : Int32} {S_cutShort : Int32} {Sc : Nat → Int32} {out : Int32} (CX : cx cX2_hasMark (some .boolean) 4 RX2 wsX2_hasMark (dC, dI) (TY cyB cyC cyI cyJ cyZ) p s m args meth c) (hP : va_P (dC, dI) vwCl [(aN, .inr (2, [.ref aS, .ref aF, .ref aB, .ref aR, .int N_base, .int N_first, .int N_significandEnd, .int N_exponentEnd])), (aS, .inr (6, [.ref aSc, .int S_count, .int S_cutShort])), (aSc, .inl (cyC, 81920, .inl Sc))] s.heap) (n : Nat) : J_X2_hasMark_0 p l e s m args below meth c dC dI cyB cyC cyI cyJ cyZ aN aS aF aB aR aSc N_base N_first N_significandEnd N_exponentEnd S_count S_cutShort Sc out (f_X2_hasMark_0 n N_base N_first N_significandEnd N_exponentEnd S_count S_cutShort Sc) := by
  intro x1 x2 x3 hf ls hl
  obtain ⟨hx, hb, hr, hml, hown, hts, hlocks, hK, hN⟩ := id CX
  unfold f_X2_hasMark_0 at hf
  refine lv_aload_n hx hb dX2_hasMark_0 rfl (lv_at hl 0 rfl) ?_
  refine va_get (D := (dC, dI)) (ci := 2) (v := .ref aS) (C := RX2) (T := TX2) (N := 8) hx hb hts i_X2_hasMark_X2 hown hK hP 0 rfl rfl 0 (by decide) (hts (.fieldLink RX2 9 "TokenRow$Numbers" "source" "LTokenRow$Source;") (List.mem_of_getElem? (i := 1) rfl)) (fun _ h9 => h9) rfl dX2_hasMark_1 ?_
  refine lv_iload_n hx hb dX2_hasMark_4 rfl (lv_at hl 1 rfl) ?_
  obtain ⟨z1, hz1, hf⟩ := bd_ok hf
  have hPc := hP.sub (ws' := [(aS, .inr (6, [.ref aSc, .int S_count, .int S_cutShort])), (aSc, .inl (cyC, 81920, .inl Sc))]) [1, 2] rfl
  refine vp_callSi (va_Run.run (va_runV (As := [.int x1]) (rest := []) ⟨hx, hb, hml, hown, hts⟩ (m_X6_look l dC dI cyB cyC cyI cyJ cyZ aS aSc  x1 S_count S_cutShort Sc n z1 hz1) (cwV 1 hts gX2_hasMark_X6_look rfl rfl rfl (by decide +kernel) ⟨Nat.le_of_ble_eq_true rfl, Nat.le_of_ble_eq_true rfl⟩) (proV (va_recv hK hP (ci := 6) (q0 := 1) rfl rfl) hPc hK hN) rfl rfl hl.1 rfl (lv_room (Nat.le_of_ble_eq_true rfl)) dX2_hasMark_5 ⟨Nat.le_of_ble_eq_true rfl, Nat.le_of_ble_eq_true rfl⟩)) (fun o1 hr9 => ?_)
  subst hr9
  refine lv_bipush (v := (48 : Int32)) hx hb dX2_hasMark_8 (by decide) ?_
  refine lv_icmp_ne (tgt := 29) hx hb dX2_hasMark_10 (by decide) (fun hc => ?_) (fun hc => ?_)
  · have hf := (if_neg hc).symm.trans hf
    refine lv_iconst (v := (0 : Int32)) hx hb dX2_hasMark_29 (by decide) ?_
    exact W.zret (v := (0 : Int32)) (ty := .boolean) hx hb hr rfl (fun t ht hW => ⟨_, rfl, Option.some.inj hf, ht⟩) (fun _ h => nomatch h) dX2_hasMark_30
  · have hf := (if_pos hc).symm.trans hf
    refine lv_aload_n hx hb dX2_hasMark_13 rfl (lv_at hl 0 rfl) ?_
    refine lv_iload_n hx hb dX2_hasMark_14 rfl (lv_at hl 1 rfl) ?_
    refine lv_iconst (v := (1 : Int32)) hx hb dX2_hasMark_15 (by decide) ?_
    refine lv_iadd hx hb dX2_hasMark_16 ?_
    refine lv_iload_n hx hb dX2_hasMark_17 rfl (lv_at hl 2 rfl) ?_
    refine lv_iload_n hx hb dX2_hasMark_18 rfl (lv_at hl 3 rfl) ?_
    obtain ⟨z2, hz2, hf⟩ := bd_ok hf
    have hPc := hP.sub (ws' := [(aN, .inr (2, [.ref aS, .ref aF, .ref aB, .ref aR, .int N_base, .int N_first, .int N_significandEnd, .int N_exponentEnd])), (aS, .inr (6, [.ref aSc, .int S_count, .int S_cutShort])), (aSc, .inl (cyC, 81920, .inl Sc))]) [0, 1, 2] rfl
    refine vp_callSi (va_Run.run (va_runV (As := [.int (x1 + (1 : Int32)), .int x2, .int x3]) (rest := []) ⟨hx, hb, hml, hown, hts⟩ (m_X2_isEither l dC dI cyB cyC cyI cyJ cyZ aN aS aF aB aR aSc  (x1 + (1 : Int32)) x2 x3 N_base N_first N_significandEnd N_exponentEnd S_count S_cutShort Sc n z2 hz2) (cwV 3 hts gX2_hasMark_X2_isEither rfl rfl rfl (by decide +kernel) ⟨Nat.le_of_ble_eq_true rfl, Nat.le_of_ble_eq_true rfl⟩) (proV (va_recv hK hP (ci := 2) (q0 := 0) rfl rfl) hPc hK hN) rfl rfl hl.1 rfl (lv_room (Nat.le_of_ble_eq_true rfl)) dX2_hasMark_19 ⟨Nat.le_of_ble_eq_true rfl, Nat.le_of_ble_eq_true rfl⟩)) (fun o2 hr9 => ?_)
    subst hr9
    refine lv_if_eq (tgt := 29) hx hb dX2_hasMark_22 (by decide) (fun hc => ?_) (fun hc => ?_)
    · have hf := (if_pos hc).symm.trans hf
      refine lv_iconst (v := (0 : Int32)) hx hb dX2_hasMark_29 (by decide) ?_
      exact W.zret (v := (0 : Int32)) (ty := .boolean) hx hb hr rfl (fun t ht hW => ⟨_, rfl, Option.some.inj hf, ht⟩) (fun _ h => nomatch h) dX2_hasMark_30
    · have hf := (if_neg hc).symm.trans hf
      refine lv_iconst (v := (1 : Int32)) hx hb dX2_hasMark_25 (by decide) ?_
      refine lv_goto (tgt := 30) hx hb dX2_hasMark_26 (by decide) ?_
      exact W.zret (v := (1 : Int32)) (ty := .boolean) hx hb hr rfl (fun t ht hW => ⟨_, rfl, Option.some.inj hf, ht⟩) (fun _ h => nomatch h) dX2_hasMark_30
def f_X2_hasMark (n : Nat) (p1 : Int32) (p2 : Int32) (p3 : Int32) (N_base : Int32) (N_first : Int32) (N_significandEnd : Int32) (N_exponentEnd : Int32) (S_count : Int32) (S_cutShort : Int32) (Sc : Nat → Int32) : Option (Int32) := f_X2_hasMark_0 n N_base N_first N_significandEnd N_exponentEnd S_count S_cutShort Sc p1 p2 p3
set_option maxHeartbeats 4000000 in
set_option maxRecDepth 100000 in
/-- TokenRow$Numbers.hasMark(ICC)Z -/
theorem m_X2_hasMark (l : Launch) (dC : Nat → ClassId) (dI : Nat → Nat → Nat) (cyB cyC cyI cyJ cyZ : ClassId) (aN aS aF aB aR aSc : Nat) (p1 : Int32) (p2 : Int32) (p3 : Int32) (N_base : Int32) (N_first : Int32) (N_significandEnd : Int32) (N_exponentEnd : Int32) (S_count : Int32) (S_cutShort : Int32) (Sc : Nat → Int32) (n : Nat) (out : Int32) (hf : f_X2_hasMark n p1 p2 p3 N_base N_first N_significandEnd N_exponentEnd S_count S_cutShort Sc = some out) : Met l yX2_hasMark wsX2_hasMark rm_X2_hasMark (Pro (dC, dI) (TY cyB cyC cyI cyJ cyZ) [.ref aN, .int p1, .int p2, .int p3] [(aN, .inr (2, [.ref aS, .ref aF, .ref aB, .ref aR, .int N_base, .int N_first, .int N_significandEnd, .int N_exponentEnd])), (aS, .inr (6, [.ref aSc, .int S_count, .int S_cutShort])), (aSc, .inl (cyC, 81920, .inl Sc))]) (vp_Si (fun r => r = out)) 0 0 (fun _ => False) := by
  refine Met.ofW (cc := cX2_hasMark) (maxL := 4) (ret := (some .boolean)) (by decide) rfl ?_
  intro p e s m args below meth c s₁ B hml hv
  obtain ⟨rfl, hP, hK, hN⟩ := hv
  have CX : cx cX2_hasMark (some .boolean) 4 RX2 wsX2_hasMark (dC, dI) (TY cyB cyC cyI cyJ cyZ) p s m ([.ref aN, .int p1, .int p2, .int p3] : List Value).toArray meth c := ⟨B.exec, B.bytes, B.returns, hml, findClass_of_methodNamed B.named, atoms_spec (ws := wsX2_hasMark) B.pre, B.notSynchronized, hK, hN⟩
  have hl := lv_entry ([.ref aN, .int p1, .int p2, .int p3]) (n := 4) (Nat.le_of_ble_eq_true rfl)
  rw [lg_entry_eq]
  exact k_X2_hasMark_0 (aF := aF) (aB := aB) (aR := aR) CX hP n _ _ _ hf _ hl
abbrev rm_X2_behindDigits : Room := { frames := 1, cells := 0, slots := 0, locals := 21 }
theorem i_X2_behindDigits_X2 : ∀ w ∈ u_ws RX2 TX2 8, w ∈ wsX2_behindDigits := fun _ h => (List.mem_cons_of_mem _ (List.mem_append_left _ (List.mem_append_right _ h)))
theorem i_X2_behindDigits_X6 : ∀ w ∈ u_ws RX6 TX6 3, w ∈ wsX2_behindDigits := fun _ h => (List.mem_cons_of_mem _ (List.mem_append_right _ h))
def J_X2_behindDigits_5 (p : Program) (l : Launch) (e : Env) (s : State) (m : MethodId) (args : Array Value) (below : List Frame) (meth : Method) (c : Code) (dC : Nat → ClassId) (dI : Nat → Nat → Nat) (cyB cyC cyI cyJ cyZ : ClassId) (aN aS aF aB aR aSc : Nat) (N_base : Int32) (N_first : Int32) (N_significandEnd : Int32) (N_exponentEnd : Int32) (S_count : Int32) (S_cutShort : Int32) (Sc : Nat → Int32) (out : Int32) (g : Int32 → Int32 → Int32 → Int32 → Option (Int32)) : Prop := ∀ (x1 : Int32) (x2 : Int32) (x3 : Int32) (x4 : Int32), g x1 x2 x3 x4 = some out → ∀ ls : Array Slot, lv_has ls 5 [(0, .ref aN), (1, .int x1), (2, .int x2), (3, .int x3), (4, .int x4)] → W p l e rm_X2_behindDigits s m args below meth c s.heap [] 0 0 (MQ below (vp_Si (fun r => r = out)) args s 0 0 (fun _ => False)) (F0 m 5 ls [])
def J_X2_behindDigits_63 (p : Program) (l : Launch) (e : Env) (s : State) (m : MethodId) (args : Array Value) (below : List Frame) (meth : Method) (c : Code) (dC : Nat → ClassId) (dI : Nat → Nat → Nat) (cyB cyC cyI cyJ cyZ : ClassId) (aN aS aF aB aR aSc : Nat) (N_base : Int32) (N_first : Int32) (N_significandEnd : Int32) (N_exponentEnd : Int32) (S_count : Int32) (S_cutShort : Int32) (Sc : Nat → Int32) (out : Int32) (g : Int32 → Int32 → Int32 → Int32 → Option (Int32)) : Prop := ∀ (x1 : Int32) (x2 : Int32) (x3 : Int32) (x4 : Int32), g x1 x2 x3 x4 = some out → ∀ ls : Array Slot, lv_has ls 5 [(0, .ref aN), (1, .int x1), (2, .int x2), (3, .int x3), (4, .int x4)] → W p l e rm_X2_behindDigits s m args below meth c s.heap [] 0 0 (MQ below (vp_Si (fun r => r = out)) args s 0 0 (fun _ => False)) (F0 m 63 ls [])
def J_X2_behindDigits_0 (p : Program) (l : Launch) (e : Env) (s : State) (m : MethodId) (args : Array Value) (below : List Frame) (meth : Method) (c : Code) (dC : Nat → ClassId) (dI : Nat → Nat → Nat) (cyB cyC cyI cyJ cyZ : ClassId) (aN aS aF aB aR aSc : Nat) (N_base : Int32) (N_first : Int32) (N_significandEnd : Int32) (N_exponentEnd : Int32) (S_count : Int32) (S_cutShort : Int32) (Sc : Nat → Int32) (out : Int32) (g : Int32 → Int32 → Option (Int32)) : Prop := ∀ (x1 : Int32) (x2 : Int32), g x1 x2 = some out → ∀ ls : Array Slot, lv_has ls 5 [(0, .ref aN), (1, .int x1), (2, .int x2)] → W p l e rm_X2_behindDigits s m args below meth c s.heap [] 0 0 (MQ below (vp_Si (fun r => r = out)) args s 0 0 (fun _ => False)) (F0 m 0 ls [])
def f_X2_behindDigits_63 (n : Nat) (r5 : Int32 → Int32 → Int32 → Int32 → Option (Int32)) (N_base : Int32) (N_first : Int32) (N_significandEnd : Int32) (N_exponentEnd : Int32) (S_count : Int32) (S_cutShort : Int32) (Sc : Nat → Int32) (x1 : Int32) (x2 : Int32) (x3 : Int32) (x4 : Int32) : Option (Int32) :=
  lt_ (x4 + (1 : Int32)) fun y1 =>
  r5 x1 x2 x3 y1
set_option maxHeartbeats 4000000 in
set_option maxRecDepth 100000 in
theorem k_X2_behindDigits_63 {p : Program} {l : Launch} {e : Env} {s : State} {m : MethodId} {args : Array Value} {below : List Frame} {meth : Method} {c : Code} {dC : Nat → ClassId} {dI : Nat → Nat → Nat} {cyB cyC cyI cyJ cyZ : ClassId} {aN aS aF aB aR aSc : Nat} {N_base : Int32} {N_first : Int32} {N_significandEnd : Int32} {N_exponentEnd : Int32} {S_count : Int32} {S_cutShort : Int32} {Sc : Nat → Int32} {out : Int32} (CX : cx cX2_behindDigits (some .int) 5 RX2 wsX2_behindDigits (dC, dI) (TY cyB cyC cyI cyJ cyZ) p s m args meth c) (hP : va_P (dC, dI) vwCl [(aN, .inr (2, [.ref aS, .ref aF, .ref aB, .ref aR, .int N_base, .int N_first, .int N_significandEnd, .int N_exponentEnd])), (aS, .inr (6, [.ref aSc, .int S_count, .int S_cutShort])), (aSc, .inl (cyC, 81920, .inl Sc))] s.heap) (n : Nat) {r5 : Int32 → Int32 → Int32 → Int32 → Option (Int32)} (hr5 : J_X2_behindDigits_5 p l e s m args below meth c dC dI cyB cyC cyI cyJ cyZ aN aS aF aB aR aSc N_base N_first N_significandEnd N_exponentEnd S_count S_cutShort Sc out r5) : J_X2_behindDigits_63 p l e s m args below meth c dC dI cyB cyC cyI cyJ cyZ aN aS aF aB aR aSc N_base N_first N_significandEnd N_exponentEnd S_count S_cutShort Sc out (f_X2_behindDigits_63 n r5 N_base N_first N_significandEnd N_exponentEnd S_count S_cutShort Sc) := by
  intro x1 x2 x3 x4 hf ls hl
  obtain ⟨hx, hb, hr, hml, hown, hts, hlocks, hK, hN⟩ := id CX
  unfold f_X2_behindDigits_63 at hf
  obtain ⟨y1, ey1⟩ : ∃ y : Int32, y = x4 + (1 : Int32) := ⟨_, rfl⟩
  have hf := lt_ok hf y1 ey1
  refine lv_iinc (v := y1) (lv' := [(4, .int y1), (0, .ref aN), (1, .int x1), (2, .int x2), (3, .int x3)]) hx hb dX2_behindDigits_63 hl (k := 4) rfl (by rw [ey1]; rfl) (by decide) rfl (fun ls hl => ?_)
  refine lv_goto (tgt := 5) hx hb dX2_behindDigits_66 (by decide) ?_
  exact hr5 _ _ _ _ hf ls (lv_sub hl [1, 2, 3, 4, 0] rfl)
def fb_X2_behindDigits_5 (n : Nat) (r5 : Int32 → Int32 → Int32 → Int32 → Option (Int32)) (N_base : Int32) (N_first : Int32) (N_significandEnd : Int32) (N_exponentEnd : Int32) (S_count : Int32) (S_cutShort : Int32) (Sc : Nat → Int32) (x1 : Int32) (x2 : Int32) (x3 : Int32) (x4 : Int32) : Option (Int32) :=
  bd (f_X6_count n  S_count S_cutShort) fun o1 =>
  if o1 ≤ x4 then
  (some x3)
  else
  (bd (f_X6_look n x4 S_count S_cutShort Sc) fun o2 =>
  bd (f_X9_digitOf n o2 ) fun o3 =>
  if x2 ≤ o3 then
  (bd (f_X6_look n x4 S_count S_cutShort Sc) fun o4 =>
  if o4 = (95 : Int32) then
  (if x4 = x1 then
  (some x3)
  else
  (f_X2_behindDigits_63 n r5 N_base N_first N_significandEnd N_exponentEnd S_count S_cutShort Sc x1 x2 x3 x4))
  else
  (some x3))
  else
  (lt_ (x4 + (1 : Int32)) fun y5 =>
  f_X2_behindDigits_63 n r5 N_base N_first N_significandEnd N_exponentEnd S_count S_cutShort Sc x1 x2 y5 x4))
set_option maxHeartbeats 4000000 in
set_option maxRecDepth 100000 in
theorem kb_X2_behindDigits_5 {p : Program} {l : Launch} {e : Env} {s : State} {m : MethodId} {args : Array Value} {below : List Frame} {meth : Method} {c : Code} {dC : Nat → ClassId} {dI : Nat → Nat → Nat} {cyB cyC cyI cyJ cyZ : ClassId} {aN aS aF aB aR aSc : Nat} {N_base : Int32} {N_first : Int32} {N_significandEnd : Int32} {N_exponentEnd : Int32} {S_count : Int32} {S_cutShort : Int32} {Sc : Nat → Int32} {out : Int32} (CX : cx cX2_behindDigits (some .int) 5 RX2 wsX2_behindDigits (dC, dI) (TY cyB cyC cyI cyJ cyZ) p s m args meth c) (hP : va_P (dC, dI) vwCl [(aN, .inr (2, [.ref aS, .ref aF, .ref aB, .ref aR, .int N_base, .int N_first, .int N_significandEnd, .int N_exponentEnd])), (aS, .inr (6, [.ref aSc, .int S_count, .int S_cutShort])), (aSc, .inl (cyC, 81920, .inl Sc))] s.heap) (n : Nat) {r5 : Int32 → Int32 → Int32 → Int32 → Option (Int32)} (hr5 : J_X2_behindDigits_5 p l e s m args below meth c dC dI cyB cyC cyI cyJ cyZ aN aS aF aB aR aSc N_base N_first N_significandEnd N_exponentEnd S_count S_cutShort Sc out r5) : J_X2_behindDigits_5 p l e s m args below meth c dC dI cyB cyC cyI cyJ cyZ aN aS aF aB aR aSc N_base N_first N_significandEnd N_exponentEnd S_count S_cutShort Sc out (fb_X2_behindDigits_5 n r5 N_base N_first N_significandEnd N_exponentEnd S_count S_cutShort Sc) := by
  intro x1 x2 x3 x4 hf ls hl
  obtain ⟨hx, hb, hr, hml, hown, hts, hlocks, hK, hN⟩ := id CX
  unfold fb_X2_behindDigits_5 at hf
  refine lv_iload hx hb dX2_behindDigits_5 (lv_at hl 4 rfl) ?_
  refine lv_aload_n hx hb dX2_behindDigits_7 rfl (lv_at hl 0 rfl) ?_
  refine va_get (D := (dC, dI)) (ci := 2) (v := .ref aS) (C := RX2) (T := TX2) (N := 8) hx hb hts i_X2_behindDigits_X2 hown hK hP 0 rfl rfl 0 (by decide) (hts (.fieldLink RX2 9 "TokenRow$Numbers" "source" "LTokenRow$Source;") (List.mem_of_getElem? (i := 1) rfl)) (fun _ h9 => h9) rfl dX2_behindDigits_8 ?_
  obtain ⟨z1, hz1, hf⟩ := bd_ok hf
  have hPc := hP.sub (ws' := [(aS, .inr (6, [.ref aSc, .int S_count, .int S_cutShort]))]) [1] rfl
  refine vp_callSi (va_Run.run (va_runV (As := []) (rest := [.int x4]) ⟨hx, hb, hml, hown, hts⟩ (m_X6_count l dC dI cyB cyC cyI cyJ cyZ aS aSc   S_count S_cutShort n z1 hz1) (cwV 0 hts gX2_behindDigits_X6_count rfl rfl rfl (by decide +kernel) ⟨Nat.le_of_ble_eq_true rfl, Nat.le_of_ble_eq_true rfl⟩) (proV (va_recv hK hP (ci := 6) (q0 := 1) rfl rfl) hPc hK hN) rfl rfl hl.1 rfl (lv_room (Nat.le_of_ble_eq_true rfl)) dX2_behindDigits_11 ⟨Nat.le_of_ble_eq_true rfl, Nat.le_of_ble_eq_true rfl⟩)) (fun o1 hr9 => ?_)
  subst hr9
  refine lv_icmp_ge (tgt := 69) hx hb dX2_behindDigits_14 (by decide) (fun hc => ?_) (fun hc => ?_)
  · have hf := (if_pos hc).symm.trans hf
    refine lv_iload_n hx hb dX2_behindDigits_69 rfl (lv_at hl 3 rfl) ?_
    exact W.iret (v := x3) hx hb hr (fun t ht hW => ⟨_, rfl, Option.some.inj hf, ht⟩) (fun _ h => nomatch h) dX2_behindDigits_70
  · have hf := (if_neg hc).symm.trans hf
    refine lv_aload_n hx hb dX2_behindDigits_17 rfl (lv_at hl 0 rfl) ?_
    refine va_get (D := (dC, dI)) (ci := 2) (v := .ref aS) (C := RX2) (T := TX2) (N := 8) hx hb hts i_X2_behindDigits_X2 hown hK hP 0 rfl rfl 0 (by decide) (hts (.fieldLink RX2 9 "TokenRow$Numbers" "source" "LTokenRow$Source;") (List.mem_of_getElem? (i := 1) rfl)) (fun _ h9 => h9) rfl dX2_behindDigits_18 ?_
    refine lv_iload hx hb dX2_behindDigits_21 (lv_at hl 4 rfl) ?_
    obtain ⟨z2, hz2, hf⟩ := bd_ok hf
    have hPc := hP.sub (ws' := [(aS, .inr (6, [.ref aSc, .int S_count, .int S_cutShort])), (aSc, .inl (cyC, 81920, .inl Sc))]) [1, 2] rfl
    refine vp_callSi (va_Run.run (va_runV (As := [.int x4]) (rest := []) ⟨hx, hb, hml, hown, hts⟩ (m_X6_look l dC dI cyB cyC cyI cyJ cyZ aS aSc  x4 S_count S_cutShort Sc n z2 hz2) (cwV 1 hts gX2_behindDigits_X6_look rfl rfl rfl (by decide +kernel) ⟨Nat.le_of_ble_eq_true rfl, Nat.le_of_ble_eq_true rfl⟩) (proV (va_recv hK hP (ci := 6) (q0 := 1) rfl rfl) hPc hK hN) rfl rfl hl.1 rfl (lv_room (Nat.le_of_ble_eq_true rfl)) dX2_behindDigits_23 ⟨Nat.le_of_ble_eq_true rfl, Nat.le_of_ble_eq_true rfl⟩)) (fun o2 hr9 => ?_)
    subst hr9
    obtain ⟨z3, hz3, hf⟩ := bd_ok hf
    have hPc := hP.sub (ws' := []) [] rfl
    refine vp_callSi (va_Run.run (va_runSN (As := [.int o2]) (rest := []) ⟨hx, hb, hml, hown, hts⟩ (m_X9_digitOf l dC dI cyB cyC cyI cyJ cyZ   o2  n z3 hz3) ⟨va_cnB 1 hts ggX2_behindDigits_X9_digitOf rfl rfl rfl (hN (.methodLinkNest RX2 117 yX9_digitOf RX9) (List.mem_of_getElem? (i := 9) rfl)) (hts (.initialized RX9) (List.mem_of_getElem? (i := 14) rfl)) (by decide +kernel) ⟨Nat.le_of_ble_eq_true rfl, Nat.le_of_ble_eq_true rfl⟩, (hts (.static yX9_digitOf) (List.mem_of_getElem? (i := 13) rfl)), trivial⟩ (proS hPc hK hN) rfl rfl hl.1 rfl (lv_room (Nat.le_of_ble_eq_true rfl)) dX2_behindDigits_26 ⟨Nat.le_of_ble_eq_true rfl, Nat.le_of_ble_eq_true rfl⟩)) (fun o3 hr9 => ?_)
    subst hr9
    refine lv_iload_n hx hb dX2_behindDigits_29 rfl (lv_at hl 2 rfl) ?_
    refine lv_icmp_ge (tgt := 41) hx hb dX2_behindDigits_30 (by decide) (fun hc => ?_) (fun hc => ?_)
    · have hf := (if_pos hc).symm.trans hf
      refine lv_aload_n hx hb dX2_behindDigits_41 rfl (lv_at hl 0 rfl) ?_
      refine va_get (D := (dC, dI)) (ci := 2) (v := .ref aS) (C := RX2) (T := TX2) (N := 8) hx hb hts i_X2_behindDigits_X2 hown hK hP 0 rfl rfl 0 (by decide) (hts (.fieldLink RX2 9 "TokenRow$Numbers" "source" "LTokenRow$Source;") (List.mem_of_getElem? (i := 1) rfl)) (fun _ h9 => h9) rfl dX2_behindDigits_42 ?_
      refine lv_iload hx hb dX2_behindDigits_45 (lv_at hl 4 rfl) ?_
      obtain ⟨z4, hz4, hf⟩ := bd_ok hf
      have hPc := hP.sub (ws' := [(aS, .inr (6, [.ref aSc, .int S_count, .int S_cutShort])), (aSc, .inl (cyC, 81920, .inl Sc))]) [1, 2] rfl
      refine vp_callSi (va_Run.run (va_runV (As := [.int x4]) (rest := []) ⟨hx, hb, hml, hown, hts⟩ (m_X6_look l dC dI cyB cyC cyI cyJ cyZ aS aSc  x4 S_count S_cutShort Sc n z4 hz4) (cwV 1 hts gX2_behindDigits_X6_look rfl rfl rfl (by decide +kernel) ⟨Nat.le_of_ble_eq_true rfl, Nat.le_of_ble_eq_true rfl⟩) (proV (va_recv hK hP (ci := 6) (q0 := 1) rfl rfl) hPc hK hN) rfl rfl hl.1 rfl (lv_room (Nat.le_of_ble_eq_true rfl)) dX2_behindDigits_47 ⟨Nat.le_of_ble_eq_true rfl, Nat.le_of_ble_eq_true rfl⟩)) (fun o4 hr9 => ?_)
      subst hr9
      refine lv_bipush (v := (95 : Int32)) hx hb dX2_behindDigits_50 (by decide) ?_
      refine lv_icmp_ne (tgt := 61) hx hb dX2_behindDigits_52 (by decide) (fun hc => ?_) (fun hc => ?_)
      · have hf := (if_neg hc).symm.trans hf
        refine lv_iload_n hx hb dX2_behindDigits_61 rfl (lv_at hl 3 rfl) ?_
        exact W.iret (v := x3) hx hb hr (fun t ht hW => ⟨_, rfl, Option.some.inj hf, ht⟩) (fun _ h => nomatch h) dX2_behindDigits_62
      · have hf := (if_pos hc).symm.trans hf
        refine lv_iload hx hb dX2_behindDigits_55 (lv_at hl 4 rfl) ?_
        refine lv_iload_n hx hb dX2_behindDigits_57 rfl (lv_at hl 1 rfl) ?_
        refine lv_icmp_ne (tgt := 63) hx hb dX2_behindDigits_58 (by decide) (fun hc => ?_) (fun hc => ?_)
        · have hf := (if_neg hc).symm.trans hf
          exact k_X2_behindDigits_63 (aF := aF) (aB := aB) (aR := aR) CX hP n hr5 _ _ _ _ hf ls (lv_sub hl [0, 1, 2, 3, 4] rfl)
        · have hf := (if_pos hc).symm.trans hf
          refine lv_iload_n hx hb dX2_behindDigits_61 rfl (lv_at hl 3 rfl) ?_
          exact W.iret (v := x3) hx hb hr (fun t ht hW => ⟨_, rfl, Option.some.inj hf, ht⟩) (fun _ h => nomatch h) dX2_behindDigits_62
    · have hf := (if_neg hc).symm.trans hf
      refine lv_iload hx hb dX2_behindDigits_33 (lv_at hl 4 rfl) ?_
      refine lv_iconst (v := (1 : Int32)) hx hb dX2_behindDigits_35 (by decide) ?_
      refine lv_iadd hx hb dX2_behindDigits_36 ?_
      refine lv_topi (fun y5 ey5 => ?_)
      have hf := lt_ok hf y5 ey5
      refine lv_istore_n (lv' := [(3, .int y5), (0, .ref aN), (1, .int x1), (2, .int x2), (4, .int x4)]) hx hb dX2_behindDigits_37 rfl hl (by decide) rfl (fun ls hl => ?_)
      refine lv_goto (tgt := 63) hx hb dX2_behindDigits_38 (by decide) ?_
      exact k_X2_behindDigits_63 (aF := aF) (aB := aB) (aR := aR) CX hP n hr5 _ _ _ _ hf ls (lv_sub hl [1, 2, 3, 0, 4] rfl)
def f_X2_behindDigits_5 (n : Nat) (N_base : Int32) (N_first : Int32) (N_significandEnd : Int32) (N_exponentEnd : Int32) (S_count : Int32) (S_cutShort : Int32) (Sc : Nat → Int32) : Nat → Int32 → Int32 → Int32 → Int32 → Option (Int32)
  | 0 => fun _ _ _ _ => none
  | k + 1 => fun x1 x2 x3 x4 => fb_X2_behindDigits_5 n (f_X2_behindDigits_5 n N_base N_first N_significandEnd N_exponentEnd S_count S_cutShort Sc k) N_base N_first N_significandEnd N_exponentEnd S_count S_cutShort Sc x1 x2 x3 x4
set_option maxHeartbeats 4000000 in
set_option maxRecDepth 100000 in
theorem k_X2_behindDigits_5 {p : Program} {l : Launch} {e : Env} {s : State} {m : MethodId} {args : Array Value} {below : List Frame} {meth : Method} {c : Code} {dC : Nat → ClassId} {dI : Nat → Nat → Nat} {cyB cyC cyI cyJ cyZ : ClassId} {aN aS aF aB aR aSc : Nat} {N_base : Int32} {N_first : Int32} {N_significandEnd : Int32} {N_exponentEnd : Int32} {S_count : Int32} {S_cutShort : Int32} {Sc : Nat → Int32} {out : Int32} (CX : cx cX2_behindDigits (some .int) 5 RX2 wsX2_behindDigits (dC, dI) (TY cyB cyC cyI cyJ cyZ) p s m args meth c) (hP : va_P (dC, dI) vwCl [(aN, .inr (2, [.ref aS, .ref aF, .ref aB, .ref aR, .int N_base, .int N_first, .int N_significandEnd, .int N_exponentEnd])), (aS, .inr (6, [.ref aSc, .int S_count, .int S_cutShort])), (aSc, .inl (cyC, 81920, .inl Sc))] s.heap) (n : Nat) : ∀ k : Nat, J_X2_behindDigits_5 p l e s m args below meth c dC dI cyB cyC cyI cyJ cyZ aN aS aF aB aR aSc N_base N_first N_significandEnd N_exponentEnd S_count S_cutShort Sc out (f_X2_behindDigits_5 n N_base N_first N_significandEnd N_exponentEnd S_count S_cutShort Sc k) := by
  intro k
  induction k with
  | zero =>
    intro x1 x2 x3 x4 hf
    exact absurd (show (none : Option (Int32)) = some out from hf) (by simp)
  | succ k ih =>
    exact kb_X2_behindDigits_5 (aF := aF) (aB := aB) (aR := aR) CX hP n ih
def f_X2_behindDigits_0 (n : Nat) (N_base : Int32) (N_first : Int32) (N_significandEnd : Int32) (N_exponentEnd : Int32) (S_count : Int32) (S_cutShort : Int32) (Sc : Nat → Int32) (x1 : Int32) (x2 : Int32) : Option (Int32) :=
  f_X2_behindDigits_5 n N_base N_first N_significandEnd N_exponentEnd S_count S_cutShort Sc n x1 x2 x1 x1
set_option maxHeartbeats 4000000 in
set_option maxRecDepth 100000 in
theorem k_X2_behindDigits_0 {p : Program} {l : Launch} {e : Env} {s : State} {m : MethodId} {args : Array Value} {below : List Frame} {meth : Method} {c : Code} {dC : Nat → ClassId} {dI : Nat → Nat → Nat} {cyB cyC cyI cyJ cyZ : ClassId} {aN aS aF aB aR aSc : Nat} {N_base : Int32} {N_first : Int32} {N_significandEnd : Int32} {N_exponentEnd : Int32} {S_count : Int32} {S_cutShort : Int32} {Sc : Nat → Int32} {out : Int32} (CX : cx cX2_behindDigits (some .int) 5 RX2 wsX2_behindDigits (dC, dI) (TY cyB cyC cyI cyJ cyZ) p s m args meth c) (hP : va_P (dC, dI) vwCl [(aN, .inr (2, [.ref aS, .ref aF, .ref aB, .ref aR, .int N_base, .int N_first, .int N_significandEnd, .int N_exponentEnd])), (aS, .inr (6, [.ref aSc, .int S_count, .int S_cutShort])), (aSc, .inl (cyC, 81920, .inl Sc))] s.heap) (n : Nat) : J_X2_behindDigits_0 p l e s m args below meth c dC dI cyB cyC cyI cyJ cyZ aN aS aF aB aR aSc N_base N_first N_significandEnd N_exponentEnd S_count S_cutShort Sc out (f_X2_behindDigits_0 n N_base N_first N_significandEnd N_exponentEnd S_count S_cutShort Sc) := by
  intro x1 x2 hf ls hl
  obtain ⟨hx, hb, hr, hml, hown, hts, hlocks, hK, hN⟩ := id CX
  unfold f_X2_behindDigits_0 at hf
  refine lv_iload_n hx hb dX2_behindDigits_0 rfl (lv_at hl 1 rfl) ?_
  refine lv_istore_n (lv' := [(3, .int x1), (0, .ref aN), (1, .int x1), (2, .int x2)]) hx hb dX2_behindDigits_1 rfl hl (by decide) rfl (fun ls hl => ?_)
  refine lv_iload_n hx hb dX2_behindDigits_2 rfl (lv_at hl 2 rfl) ?_
  refine lv_istore (lv' := [(4, .int x1), (3, .int x1), (0, .ref aN), (1, .int x1), (2, .int x2)]) hx hb dX2_behindDigits_3 hl (by decide) rfl (fun ls hl => ?_)
  exact k_X2_behindDigits_5 (aF := aF) (aB := aB) (aR := aR) CX hP n n _ _ _ _ hf ls (lv_sub hl [2, 3, 4, 1, 0] rfl)
def f_X2_behindDigits (n : Nat) (p1 : Int32) (p2 : Int32) (N_base : Int32) (N_first : Int32) (N_significandEnd : Int32) (N_exponentEnd : Int32) (S_count : Int32) (S_cutShort : Int32) (Sc : Nat → Int32) : Option (Int32) := f_X2_behindDigits_0 n N_base N_first N_significandEnd N_exponentEnd S_count S_cutShort Sc p1 p2
set_option maxHeartbeats 4000000 in
set_option maxRecDepth 100000 in
/-- TokenRow$Numbers.behindDigits(II)I -/
theorem m_X2_behindDigits (l : Launch) (dC : Nat → ClassId) (dI : Nat → Nat → Nat) (cyB cyC cyI cyJ cyZ : ClassId) (aN aS aF aB aR aSc : Nat) (p1 : Int32) (p2 : Int32) (N_base : Int32) (N_first : Int32) (N_significandEnd : Int32) (N_exponentEnd : Int32) (S_count : Int32) (S_cutShort : Int32) (Sc : Nat → Int32) (n : Nat) (out : Int32) (hf : f_X2_behindDigits n p1 p2 N_base N_first N_significandEnd N_exponentEnd S_count S_cutShort Sc = some out) : Met l yX2_behindDigits wsX2_behindDigits rm_X2_behindDigits (Pro (dC, dI) (TY cyB cyC cyI cyJ cyZ) [.ref aN, .int p1, .int p2] [(aN, .inr (2, [.ref aS, .ref aF, .ref aB, .ref aR, .int N_base, .int N_first, .int N_significandEnd, .int N_exponentEnd])), (aS, .inr (6, [.ref aSc, .int S_count, .int S_cutShort])), (aSc, .inl (cyC, 81920, .inl Sc))]) (vp_Si (fun r => r = out)) 0 0 (fun _ => False) := by
  refine Met.ofW (cc := cX2_behindDigits) (maxL := 5) (ret := (some .int)) (by decide) rfl ?_
  intro p e s m args below meth c s₁ B hml hv
  obtain ⟨rfl, hP, hK, hN⟩ := hv
  have CX : cx cX2_behindDigits (some .int) 5 RX2 wsX2_behindDigits (dC, dI) (TY cyB cyC cyI cyJ cyZ) p s m ([.ref aN, .int p1, .int p2] : List Value).toArray meth c := ⟨B.exec, B.bytes, B.returns, hml, findClass_of_methodNamed B.named, atoms_spec (ws := wsX2_behindDigits) B.pre, B.notSynchronized, hK, hN⟩
  have hl := lv_entry ([.ref aN, .int p1, .int p2]) (n := 5) (Nat.le_of_ble_eq_true rfl)
  rw [lg_entry_eq]
  exact k_X2_behindDigits_0 (aF := aF) (aB := aB) (aR := aR) CX hP n _ _ hf _ hl
abbrev rm_X2_behindExponent : Room := { frames := 2, cells := 0, slots := 0, locals := 45 }
theorem i_X2_behindExponent_X2 : ∀ w ∈ u_ws RX2 TX2 8, w ∈ wsX2_behindExponent := fun _ h => (List.mem_cons_of_mem _ (List.mem_append_left _ (List.mem_append_right _ h)))
theorem i_X2_behindExponent_X6 : ∀ w ∈ u_ws RX6 TX6 3, w ∈ wsX2_behindExponent := fun _ h => (List.mem_cons_of_mem _ (List.mem_append_right _ h))
def J_X2_behindExponent_35 (p : Program) (l : Launch) (e : Env) (s : State) (m : MethodId) (args : Array Value) (below : List Frame) (meth : Method) (c : Code) (dC : Nat → ClassId) (dI : Nat → Nat → Nat) (cyB cyC cyI cyJ cyZ : ClassId) (aN aS aF aB aR aSc : Nat) (N_base : Int32) (N_first : Int32) (N_significandEnd : Int32) (N_exponentEnd : Int32) (S_count : Int32) (S_cutShort : Int32) (Sc : Nat → Int32) (out : Int32) (g : Int32 → Int32 → Option (Int32)) : Prop := ∀ (x1 : Int32) (t0 : Int32), g x1 t0 = some out → ∀ ls : Array Slot, lv_has ls 6 [(0, .ref aN), (1, .int x1)] → W p l e rm_X2_behindExponent s m args below meth c s.heap [] 0 0 (MQ below (vp_Si (fun r => r = out)) args s 0 0 (fun _ => False)) (F0 m 35 ls [.int t0])
def J_X2_behindExponent_0 (p : Program) (l : Launch) (e : Env) (s : State) (m : MethodId) (args : Array Value) (below : List Frame) (meth : Method) (c : Code) (dC : Nat → ClassId) (dI : Nat → Nat → Nat) (cyB cyC cyI cyJ cyZ : ClassId) (aN aS aF aB aR aSc : Nat) (N_base : Int32) (N_first : Int32) (N_significandEnd : Int32) (N_exponentEnd : Int32) (S_count : Int32) (S_cutShort : Int32) (Sc : Nat → Int32) (out : Int32) (g : Int32 → Int32 → Int32 → Option (Int32)) : Prop := ∀ (x1 : Int32) (x2 : Int32) (x3 : Int32), g x1 x2 x3 = some out → ∀ ls : Array Slot, lv_has ls 6 [(0, .ref aN), (1, .int x1), (2, .int x2), (3, .int x3)] → W p l e rm_X2_behindExponent s m args below meth c s.heap [] 0 0 (MQ below (vp_Si (fun r => r = out)) args s 0 0 (fun _ => False)) (F0 m 0 ls [])
def f_X2_behindExponent_35 (n : Nat) (N_base : Int32) (N_first : Int32) (N_significandEnd : Int32) (N_exponentEnd : Int32) (S_count : Int32) (S_cutShort : Int32) (Sc : Nat → Int32) (x1 : Int32) (t0 : Int32) : Option (Int32) :=
  bd (f_X2_behindDigits n t0 (10 : Int32) N_base N_first N_significandEnd N_exponentEnd S_count S_cutShort Sc) fun o1 =>
  if o1 ≤ t0 then
  (some x1)
  else
  (some o1)
set_option maxHeartbeats 4000000 in
set_option maxRecDepth 100000 in
theorem k_X2_behindExponent_35 {p : Program} {l : Launch} {e : Env} {s : State} {m : MethodId} {args : Array Value} {below : List Frame} {meth : Method} {c : Code} {dC : Nat → ClassId} {dI : Nat → Nat → Nat} {cyB cyC cyI cyJ cyZ : ClassId} {aN aS aF aB aR aSc : Nat} {N_base : Int32} {N_first : Int32} {N_significandEnd : Int32} {N_exponentEnd : Int32} {S_count : Int32} {S_cutShort : Int32} {Sc : Nat → Int32} {out : Int32} (CX : cx cX2_behindExponent (some .int) 6 RX2 wsX2_behindExponent (dC, dI) (TY cyB cyC cyI cyJ cyZ) p s m args meth c) (hP : va_P (dC, dI) vwCl [(aN, .inr (2, [.ref aS, .ref aF, .ref aB, .ref aR, .int N_base, .int N_first, .int N_significandEnd, .int N_exponentEnd])), (aS, .inr (6, [.ref aSc, .int S_count, .int S_cutShort])), (aSc, .inl (cyC, 81920, .inl Sc))] s.heap) (n : Nat) : J_X2_behindExponent_35 p l e s m args below meth c dC dI cyB cyC cyI cyJ cyZ aN aS aF aB aR aSc N_base N_first N_significandEnd N_exponentEnd S_count S_cutShort Sc out (f_X2_behindExponent_35 n N_base N_first N_significandEnd N_exponentEnd S_count S_cutShort Sc) := by
  intro x1 t0 hf ls hl
  obtain ⟨hx, hb, hr, hml, hown, hts, hlocks, hK, hN⟩ := id CX
  unfold f_X2_behindExponent_35 at hf
  refine lv_istore (lv' := [(4, .int t0), (0, .ref aN), (1, .int x1)]) hx hb dX2_behindExponent_35 hl (by decide) rfl (fun ls hl => ?_)
  refine lv_aload_n hx hb dX2_behindExponent_37 rfl (lv_at hl 1 rfl) ?_
  refine lv_iload hx hb dX2_behindExponent_38 (lv_at hl 0 rfl) ?_
  refine lv_bipush (v := (10 : Int32)) hx hb dX2_behindExponent_40 (by decide) ?_
  obtain ⟨z1, hz1, hf⟩ := bd_ok hf
  have hPc := hP.sub (ws' := [(aN, .inr (2, [.ref aS, .ref aF, .ref aB, .ref aR, .int N_base, .int N_first, .int N_significandEnd, .int N_exponentEnd])), (aS, .inr (6, [.ref aSc, .int S_count, .int S_cutShort])), (aSc, .inl (cyC, 81920, .inl Sc))]) [0, 1, 2] rfl
  refine vp_callSi (va_Run.run (va_runV (As := [.int t0, .int (10 : Int32)]) (rest := []) ⟨hx, hb, hml, hown, hts⟩ (m_X2_behindDigits l dC dI cyB cyC cyI cyJ cyZ aN aS aF aB aR aSc  t0 (10 : Int32) N_base N_first N_significandEnd N_exponentEnd S_count S_cutShort Sc n z1 hz1) (cwV 2 hts gX2_behindExponent_X2_behindDigits rfl rfl rfl (by decide +kernel) ⟨Nat.le_of_ble_eq_true rfl, Nat.le_of_ble_eq_true rfl⟩) (proV (va_recv hK hP (ci := 2) (q0 := 0) rfl rfl) hPc hK hN) rfl rfl hl.1 rfl (lv_room (Nat.le_of_ble_eq_true rfl)) dX2_behindExponent_42 ⟨Nat.le_of_ble_eq_true rfl, Nat.le_of_ble_eq_true rfl⟩)) (fun o1 hr9 => ?_)
  subst hr9
  refine lv_istore (lv' := [(5, .int o1), (4, .int t0), (0, .ref aN), (1, .int x1)]) hx hb dX2_behindExponent_45 hl (by decide) rfl (fun ls hl => ?_)
  refine lv_iload hx hb dX2_behindExponent_47 (lv_at hl 0 rfl) ?_
  refine lv_iload hx hb dX2_behindExponent_49 (lv_at hl 1 rfl) ?_
  refine lv_icmp_le (tgt := 59) hx hb dX2_behindExponent_51 (by decide) (fun hc => ?_) (fun hc => ?_)
  · have hf := (if_pos hc).symm.trans hf
    refine lv_iload_n hx hb dX2_behindExponent_59 rfl (lv_at hl 3 rfl) ?_
    exact W.iret (v := x1) hx hb hr (fun t ht hW => ⟨_, rfl, Option.some.inj hf, ht⟩) (fun _ h => nomatch h) dX2_behindExponent_60
  · have hf := (if_neg hc).symm.trans hf
    refine lv_iload hx hb dX2_behindExponent_54 (lv_at hl 0 rfl) ?_
    refine lv_goto (tgt := 60) hx hb dX2_behindExponent_56 (by decide) ?_
    exact W.iret (v := o1) hx hb hr (fun t ht hW => ⟨_, rfl, Option.some.inj hf, ht⟩) (fun _ h => nomatch h) dX2_behindExponent_60
def f_X2_behindExponent_0 (n : Nat) (N_base : Int32) (N_first : Int32) (N_significandEnd : Int32) (N_exponentEnd : Int32) (S_count : Int32) (S_cutShort : Int32) (Sc : Nat → Int32) (x1 : Int32) (x2 : Int32) (x3 : Int32) : Option (Int32) :=
  bd (f_X2_isEither n x1 x2 x3 N_base N_first N_significandEnd N_exponentEnd S_count S_cutShort Sc) fun o1 =>
  if o1 = 0 then
  (some x1)
  else
  (bd (f_X2_isEither n (x1 + (1 : Int32)) (43 : Int32) (45 : Int32) N_base N_first N_significandEnd N_exponentEnd S_count S_cutShort Sc) fun o2 =>
  if o2 = 0 then
  (f_X2_behindExponent_35 n N_base N_first N_significandEnd N_exponentEnd S_count S_cutShort Sc x1 (x1 + (1 : Int32)))
  else
  (f_X2_behindExponent_35 n N_base N_first N_significandEnd N_exponentEnd S_count S_cutShort Sc x1 (x1 + (2 : Int32))))
set_option maxHeartbeats 4000000 in
set_option maxRecDepth 100000 in
theorem k_X2_behindExponent_0 {p : Program} {l : Launch} {e : Env} {s : State} {m : MethodId} {args : Array Value} {below : List Frame} {meth : Method} {c : Code} {dC : Nat → ClassId} {dI : Nat → Nat → Nat} {cyB cyC cyI cyJ cyZ : ClassId} {aN aS aF aB aR aSc : Nat} {N_base : Int32} {N_first : Int32} {N_significandEnd : Int32} {N_exponentEnd : Int32} {S_count : Int32} {S_cutShort : Int32} {Sc : Nat → Int32} {out : Int32} (CX : cx cX2_behindExponent (some .int) 6 RX2 wsX2_behindExponent (dC, dI) (TY cyB cyC cyI cyJ cyZ) p s m args meth c) (hP : va_P (dC, dI) vwCl [(aN, .inr (2, [.ref aS, .ref aF, .ref aB, .ref aR, .int N_base, .int N_first, .int N_significandEnd, .int N_exponentEnd])), (aS, .inr (6, [.ref aSc, .int S_count, .int S_cutShort])), (aSc, .inl (cyC, 81920, .inl Sc))] s.heap) (n : Nat) : J_X2_behindExponent_0 p l e s m args below meth c dC dI cyB cyC cyI cyJ cyZ aN aS aF aB aR aSc N_base N_first N_significandEnd N_exponentEnd S_count S_cutShort Sc out (f_X2_behindExponent_0 n N_base N_first N_significandEnd N_exponentEnd S_count S_cutShort Sc) := by
  intro x1 x2 x3 hf ls hl
  obtain ⟨hx, hb, hr, hml, hown, hts, hlocks, hK, hN⟩ := id CX
  unfold f_X2_behindExponent_0 at hf
  refine lv_aload_n hx hb dX2_behindExponent_0 rfl (lv_at hl 0 rfl) ?_
  refine lv_iload_n hx hb dX2_behindExponent_1 rfl (lv_at hl 1 rfl) ?_
  refine lv_iload_n hx hb dX2_behindExponent_2 rfl (lv_at hl 2 rfl) ?_
  refine lv_iload_n hx hb dX2_behindExponent_3 rfl (lv_at hl 3 rfl) ?_
  obtain ⟨z1, hz1, hf⟩ := bd_ok hf
  have hPc := hP.sub (ws' := [(aN, .inr (2, [.ref aS, .ref aF, .ref aB, .ref aR, .int N_base, .int N_first, .int N_significandEnd, .int N_exponentEnd])), (aS, .inr (6, [.ref aSc, .int S_count, .int S_cutShort])), (aSc, .inl (cyC, 81920, .inl Sc))]) [0, 1, 2] rfl
  refine vp_callSi (va_Run.run (va_runV (As := [.int x1, .int x2, .int x3]) (rest := []) ⟨hx, hb, hml, hown, hts⟩ (m_X2_isEither l dC dI cyB cyC cyI cyJ cyZ aN aS aF aB aR aSc  x1 x2 x3 N_base N_first N_significandEnd N_exponentEnd S_count S_cutShort Sc n z1 hz1) (cwV 3 hts gX2_behindExponent_X2_isEither rfl rfl rfl (by decide +kernel) ⟨Nat.le_of_ble_eq_true rfl, Nat.le_of_ble_eq_true rfl⟩) (proV (va_recv hK hP (ci := 2) (q0 := 0) rfl rfl) hPc hK hN) rfl rfl hl.1 rfl (lv_room (Nat.le_of_ble_eq_true rfl)) dX2_behindExponent_4 ⟨Nat.le_of_ble_eq_true rfl, Nat.le_of_ble_eq_true rfl⟩)) (fun o1 hr9 => ?_)
  subst hr9
  refine lv_if_ne (tgt := 12) hx hb dX2_behindExponent_7 (by decide) (fun hc => ?_) (fun hc => ?_)
  · have hf := (if_neg hc).symm.trans hf
    refine lv_aload_n hx hb dX2_behindExponent_12 rfl (lv_at hl 0 rfl) ?_
    refine lv_iload_n hx hb dX2_behindExponent_13 rfl (lv_at hl 1 rfl) ?_
    refine lv_iconst (v := (1 : Int32)) hx hb dX2_behindExponent_14 (by decide) ?_
    refine lv_iadd hx hb dX2_behindExponent_15 ?_
    refine lv_bipush (v := (43 : Int32)) hx hb dX2_behindExponent_16 (by decide) ?_
    refine lv_bipush (v := (45 : Int32)) hx hb dX2_behindExponent_18 (by decide) ?_
    obtain ⟨z2, hz2, hf⟩ := bd_ok hf
    have hPc := hP.sub (ws' := [(aN, .inr (2, [.ref aS, .ref aF, .ref aB, .ref aR, .int N_base, .int N_first, .int N_significandEnd, .int N_exponentEnd])), (aS, .inr (6, [.ref aSc, .int S_count, .int S_cutShort])), (aSc, .inl (cyC, 81920, .inl Sc))]) [0, 1, 2] rfl
    refine vp_callSi (va_Run.run (va_runV (As := [.int (x1 + (1 : Int32)), .int (43 : Int32), .int (45 : Int32)]) (rest := []) ⟨hx, hb, hml, hown, hts⟩ (m_X2_isEither l dC dI cyB cyC cyI cyJ cyZ aN aS aF aB aR aSc  (x1 + (1 : Int32)) (43 : Int32) (45 : Int32) N_base N_first N_significandEnd N_exponentEnd S_count S_cutShort Sc n z2 hz2) (cwV 3 hts gX2_behindExponent_X2_isEither rfl rfl rfl (by decide +kernel) ⟨Nat.le_of_ble_eq_true rfl, Nat.le_of_ble_eq_true rfl⟩) (proV (va_recv hK hP (ci := 2) (q0 := 0) rfl rfl) hPc hK hN) rfl rfl hl.1 rfl (lv_room (Nat.le_of_ble_eq_true rfl)) dX2_behindExponent_20 ⟨Nat.le_of_ble_eq_true rfl, Nat.le_of_ble_eq_true rfl⟩)) (fun o2 hr9 => ?_)
    subst hr9
    refine lv_if_eq (tgt := 32) hx hb dX2_behindExponent_23 (by decide) (fun hc => ?_) (fun hc => ?_)
    · have hf := (if_pos hc).symm.trans hf
      refine lv_iload_n hx hb dX2_behindExponent_32 rfl (lv_at hl 1 rfl) ?_
      refine lv_iconst (v := (1 : Int32)) hx hb dX2_behindExponent_33 (by decide) ?_
      refine lv_iadd hx hb dX2_behindExponent_34 ?_
      exact k_X2_behindExponent_35 (aF := aF) (aB := aB) (aR := aR) CX hP n _ _ hf ls (lv_sub hl [0, 1] rfl)
    · have hf := (if_neg hc).symm.trans hf
      refine lv_iload_n hx hb dX2_behindExponent_26 rfl (lv_at hl 1 rfl) ?_
      refine lv_iconst (v := (2 : Int32)) hx hb dX2_behindExponent_27 (by decide) ?_
      refine lv_iadd hx hb dX2_behindExponent_28 ?_
      refine lv_goto (tgt := 35) hx hb dX2_behindExponent_29 (by decide) ?_
      exact k_X2_behindExponent_35 (aF := aF) (aB := aB) (aR := aR) CX hP n _ _ hf ls (lv_sub hl [0, 1] rfl)
  · have hf := (if_pos hc).symm.trans hf
    refine lv_iload_n hx hb dX2_behindExponent_10 rfl (lv_at hl 1 rfl) ?_
    exact W.iret (v := x1) hx hb hr (fun t ht hW => ⟨_, rfl, Option.some.inj hf, ht⟩) (fun _ h => nomatch h) dX2_behindExponent_11
def f_X2_behindExponent (n : Nat) (p1 : Int32) (p2 : Int32) (p3 : Int32) (N_base : Int32) (N_first : Int32) (N_significandEnd : Int32) (N_exponentEnd : Int32) (S_count : Int32) (S_cutShort : Int32) (Sc : Nat → Int32) : Option (Int32) := f_X2_behindExponent_0 n N_base N_first N_significandEnd N_exponentEnd S_count S_cutShort Sc p1 p2 p3
set_option maxHeartbeats 4000000 in
set_option maxRecDepth 100000 in
/-- TokenRow$Numbers.behindExponent(ICC)I -/
theorem m_X2_behindExponent (l : Launch) (dC : Nat → ClassId) (dI : Nat → Nat → Nat) (cyB cyC cyI cyJ cyZ : ClassId) (aN aS aF aB aR aSc : Nat) (p1 : Int32) (p2 : Int32) (p3 : Int32) (N_base : Int32) (N_first : Int32) (N_significandEnd : Int32) (N_exponentEnd : Int32) (S_count : Int32) (S_cutShort : Int32) (Sc : Nat → Int32) (n : Nat) (out : Int32) (hf : f_X2_behindExponent n p1 p2 p3 N_base N_first N_significandEnd N_exponentEnd S_count S_cutShort Sc = some out) : Met l yX2_behindExponent wsX2_behindExponent rm_X2_behindExponent (Pro (dC, dI) (TY cyB cyC cyI cyJ cyZ) [.ref aN, .int p1, .int p2, .int p3] [(aN, .inr (2, [.ref aS, .ref aF, .ref aB, .ref aR, .int N_base, .int N_first, .int N_significandEnd, .int N_exponentEnd])), (aS, .inr (6, [.ref aSc, .int S_count, .int S_cutShort])), (aSc, .inl (cyC, 81920, .inl Sc))]) (vp_Si (fun r => r = out)) 0 0 (fun _ => False) := by
  refine Met.ofW (cc := cX2_behindExponent) (maxL := 6) (ret := (some .int)) (by decide) rfl ?_
  intro p e s m args below meth c s₁ B hml hv
  obtain ⟨rfl, hP, hK, hN⟩ := hv
  have CX : cx cX2_behindExponent (some .int) 6 RX2 wsX2_behindExponent (dC, dI) (TY cyB cyC cyI cyJ cyZ) p s m ([.ref aN, .int p1, .int p2, .int p3] : List Value).toArray meth c := ⟨B.exec, B.bytes, B.returns, hml, findClass_of_methodNamed B.named, atoms_spec (ws := wsX2_behindExponent) B.pre, B.notSynchronized, hK, hN⟩
  have hl := lv_entry ([.ref aN, .int p1, .int p2, .int p3]) (n := 6) (Nat.le_of_ble_eq_true rfl)
  rw [lg_entry_eq]
  exact k_X2_behindExponent_0 (aF := aF) (aB := aB) (aR := aR) CX hP n _ _ _ hf _ hl
abbrev rm_X2_measureBroken : Room := { frames := 3, cells := 0, slots := 0, locals := 70 }
theorem i_X2_measureBroken_X2 : ∀ w ∈ u_ws RX2 TX2 8, w ∈ wsX2_measureBroken := fun _ h => (List.mem_cons_of_mem _ (List.mem_append_left _ (List.mem_append_right _ h)))
theorem i_X2_measureBroken_X6 : ∀ w ∈ u_ws RX6 TX6 3, w ∈ wsX2_measureBroken := fun _ h => (List.mem_cons_of_mem _ (List.mem_append_right _ h))
def J_X2_measureBroken_180 (p : Program) (l : Launch) (e : Env) (s : State) (m : MethodId) (args : Array Value) (below : List Frame) (meth : Method) (c : Code) (dC : Nat → ClassId) (dI : Nat → Nat → Nat) (cyB cyC cyI cyJ cyZ : ClassId) (aN aS aF aB aR aSc : Nat) (S_count : Int32) (S_cutShort : Int32) (Sc : Nat → Int32) (A : Nat → Prop) (out : Int32 × Int32 × Int32 × Int32 × Int32) (g : Int32 → Int32 → Int32 → Int32 → Int32 → Int32 → Option (Int32 × Int32 × Int32 × Int32 × Int32)) : Prop := ∀ (N_base : Int32) (N_first : Int32) (N_significandEnd : Int32) (N_exponentEnd : Int32) (x5 : Int32) (t0 : Int32) (H : Heap) (locs : List Loc), g N_base N_first N_significandEnd N_exponentEnd x5 t0 = some out → va_P (dC, dI) vwCl [(aN, .inr (2, [.ref aS, .ref aF, .ref aB, .ref aR, .int N_base, .int N_first, .int N_significandEnd, .int N_exponentEnd])), (aS, .inr (6, [.ref aSc, .int S_count, .int S_cutShort])), (aSc, .inl (cyC, 81920, .inl Sc))] H → va_D A [(aN, .inr (2, [.ref aS, .ref aF, .ref aB, .ref aR, .int N_base, .int N_first, .int N_significandEnd, .int N_exponentEnd])), (aS, .inr (6, [.ref aSc, .int S_count, .int S_cutShort])), (aSc, .inl (cyC, 81920, .inl Sc))] → va_S A s.heap H locs → ∀ ls : Array Slot, lv_has ls 7 [(5, .int x5)] → W p l e rm_X2_measureBroken s m args below meth c H locs 0 0 (MQ below (va_Qi (fun (r : Int32) (u : Int32 × Int32 × Int32 × Int32) => (r, u) = out) (Bw (dC, dI) A (fun u => [(aN, .inr (2, [.ref aS, .ref aF, .ref aB, .ref aR, .int u.1, .int u.2.1, .int u.2.2.1, .int u.2.2.2])), (aS, .inr (6, [.ref aSc, .int S_count, .int S_cutShort])), (aSc, .inl (cyC, 81920, .inl Sc))])) A) args s 0 0 A) (F0 m 180 ls [.int t0])
def J_X2_measureBroken_172 (p : Program) (l : Launch) (e : Env) (s : State) (m : MethodId) (args : Array Value) (below : List Frame) (meth : Method) (c : Code) (dC : Nat → ClassId) (dI : Nat → Nat → Nat) (cyB cyC cyI cyJ cyZ : ClassId) (aN aS aF aB aR aSc : Nat) (S_count : Int32) (S_cutShort : Int32) (Sc : Nat → Int32) (A : Nat → Prop) (out : Int32 × Int32 × Int32 × Int32 × Int32) (g : Int32 → Int32 → Int32 → Int32 → Int32 → Int32 → Int32 → Option (Int32 × Int32 × Int32 × Int32 × Int32)) : Prop := ∀ (N_base : Int32) (N_first : Int32) (N_significandEnd : Int32) (N_exponentEnd : Int32) (x5 : Int32) (t0 : Int32) (t1 : Int32) (H : Heap) (locs : List Loc), g N_base N_first N_significandEnd N_exponentEnd x5 t0 t1 = some out → va_P (dC, dI) vwCl [(aN, .inr (2, [.ref aS, .ref aF, .ref aB, .ref aR, .int N_base, .int N_first, .int N_significandEnd, .int N_exponentEnd])), (aS, .inr (6, [.ref aSc, .int S_count, .int S_cutShort])), (aSc, .inl (cyC, 81920, .inl Sc))] H → va_D A [(aN, .inr (2, [.ref aS, .ref aF, .ref aB, .ref aR, .int N_base, .int N_first, .int N_significandEnd, .int N_exponentEnd])), (aS, .inr (6, [.ref aSc, .int S_count, .int S_cutShort])), (aSc, .inl (cyC, 81920, .inl Sc))] → va_S A s.heap H locs → ∀ ls : Array Slot, lv_has ls 7 [(5, .int x5)] → W p l e rm_X2_measureBroken s m args below meth c H locs 0 0 (MQ below (va_Qi (fun (r : Int32) (u : Int32 × Int32 × Int32 × Int32) => (r, u) = out) (Bw (dC, dI) A (fun u => [(aN, .inr (2, [.ref aS, .ref aF, .ref aB, .ref aR, .int u.1, .int u.2.1, .int u.2.2.1, .int u.2.2.2])), (aS, .inr (6, [.ref aSc, .int S_count, .int S_cutShort])), (aSc, .inl (cyC, 81920, .inl Sc))])) A) args s 0 0 A) (F0 m 172 ls [.int t1, .int t0])
def J_X2_measureBroken_147 (p : Program) (l : Launch) (e : Env) (s : State) (m : MethodId) (args : Array Value) (below : List Frame) (meth : Method) (c : Code) (dC : Nat → ClassId) (dI : Nat → Nat → Nat) (cyB cyC cyI cyJ cyZ : ClassId) (aN aS aF aB aR aSc : Nat) (S_count : Int32) (S_cutShort : Int32) (Sc : Nat → Int32) (A : Nat → Prop) (out : Int32 × Int32 × Int32 × Int32 × Int32) (g : Int32 → Int32 → Int32 → Int32 → Int32 → Int32 → Int32 → Option (Int32 × Int32 × Int32 × Int32 × Int32)) : Prop := ∀ (N_base : Int32) (N_first : Int32) (N_significandEnd : Int32) (N_exponentEnd : Int32) (x2 : Int32) (x4 : Int32) (t0 : Int32) (H : Heap) (locs : List Loc), g N_base N_first N_significandEnd N_exponentEnd x2 x4 t0 = some out → va_P (dC, dI) vwCl [(aN, .inr (2, [.ref aS, .ref aF, .ref aB, .ref aR, .int N_base, .int N_first, .int N_significandEnd, .int N_exponentEnd])), (aS, .inr (6, [.ref aSc, .int S_count, .int S_cutShort])), (aSc, .inl (cyC, 81920, .inl Sc))] H → va_D A [(aN, .inr (2, [.ref aS, .ref aF, .ref aB, .ref aR, .int N_base, .int N_first, .int N_significandEnd, .int N_exponentEnd])), (aS, .inr (6, [.ref aSc, .int S_count, .int S_cutShort])), (aSc, .inl (cyC, 81920, .inl Sc))] → va_S A s.heap H locs → ∀ ls : Array Slot, lv_has ls 7 [(0, .ref aN), (2, .int x2), (4, .int x4)] → W p l e rm_X2_measureBroken s m args below meth c H locs 0 0 (MQ below (va_Qi (fun (r : Int32) (u : Int32 × Int32 × Int32 × Int32) => (r, u) = out) (Bw (dC, dI) A (fun u => [(aN, .inr (2, [.ref aS, .ref aF, .ref aB, .ref aR, .int u.1, .int u.2.1, .int u.2.2.1, .int u.2.2.2])), (aS, .inr (6, [.ref aSc, .int S_count, .int S_cutShort])), (aSc, .inl (cyC, 81920, .inl Sc))])) A) args s 0 0 A) (F0 m 147 ls [.int t0])
def J_X2_measureBroken_125 (p : Program) (l : Launch) (e : Env) (s : State) (m : MethodId) (args : Array Value) (below : List Frame) (meth : Method) (c : Code) (dC : Nat → ClassId) (dI : Nat → Nat → Nat) (cyB cyC cyI cyJ cyZ : ClassId) (aN aS aF aB aR aSc : Nat) (S_count : Int32) (S_cutShort : Int32) (Sc : Nat → Int32) (A : Nat → Prop) (out : Int32 × Int32 × Int32 × Int32 × Int32) (g : Int32 → Int32 → Int32 → Int32 → Int32 → Int32 → Int32 → Int32 → Int32 → Option (Int32 × Int32 × Int32 × Int32 × Int32)) : Prop := ∀ (N_base : Int32) (N_first : Int32) (N_significandEnd : Int32) (N_exponentEnd : Int32) (x2 : Int32) (x4 : Int32) (t2 : Int32) (t3 : Int32) (t4 : Int32) (H : Heap) (locs : List Loc), g N_base N_first N_significandEnd N_exponentEnd x2 x4 t2 t3 t4 = some out → va_P (dC, dI) vwCl [(aN, .inr (2, [.ref aS, .ref aF, .ref aB, .ref aR, .int N_base, .int N_first, .int N_significandEnd, .int N_exponentEnd])), (aS, .inr (6, [.ref aSc, .int S_count, .int S_cutShort])), (aSc, .inl (cyC, 81920, .inl Sc))] H → va_D A [(aN, .inr (2, [.ref aS, .ref aF, .ref aB, .ref aR, .int N_base, .int N_first, .int N_significandEnd, .int N_exponentEnd])), (aS, .inr (6, [.ref aSc, .int S_count, .int S_cutShort])), (aSc, .inl (cyC, 81920, .inl Sc))] → va_S A s.heap H locs → ∀ ls : Array Slot, lv_has ls 7 [(0, .ref aN), (2, .int x2), (4, .int x4)] → W p l e rm_X2_measureBroken s m args below meth c H locs 0 0 (MQ below (va_Qi (fun (r : Int32) (u : Int32 × Int32 × Int32 × Int32) => (r, u) = out) (Bw (dC, dI) A (fun u => [(aN, .inr (2, [.ref aS, .ref aF, .ref aB, .ref aR, .int u.1, .int u.2.1, .int u.2.2.1, .int u.2.2.2])), (aS, .inr (6, [.ref aSc, .int S_count, .int S_cutShort])), (aSc, .inl (cyC, 81920, .inl Sc))])) A) args s 0 0 A) (F0 m 125 ls [.int t4, .int t3, .int t2, .ref aN, .ref aN])
def J_X2_measureBroken_114 (p : Program) (l : Launch) (e : Env) (s : State) (m : MethodId) (args : Array Value) (below : List Frame) (meth : Method) (c : Code) (dC : Nat → ClassId) (dI : Nat → Nat → Nat) (cyB cyC cyI cyJ cyZ : ClassId) (aN aS aF aB aR aSc : Nat) (S_count : Int32) (S_cutShort : Int32) (Sc : Nat → Int32) (A : Nat → Prop) (out : Int32 × Int32 × Int32 × Int32 × Int32) (g : Int32 → Int32 → Int32 → Int32 → Int32 → Int32 → Int32 → Int32 → Option (Int32 × Int32 × Int32 × Int32 × Int32)) : Prop := ∀ (N_base : Int32) (N_first : Int32) (N_significandEnd : Int32) (N_exponentEnd : Int32) (x2 : Int32) (x4 : Int32) (t2 : Int32) (t3 : Int32) (H : Heap) (locs : List Loc), g N_base N_first N_significandEnd N_exponentEnd x2 x4 t2 t3 = some out → va_P (dC, dI) vwCl [(aN, .inr (2, [.ref aS, .ref aF, .ref aB, .ref aR, .int N_base, .int N_first, .int N_significandEnd, .int N_exponentEnd])), (aS, .inr (6, [.ref aSc, .int S_count, .int S_cutShort])), (aSc, .inl (cyC, 81920, .inl Sc))] H → va_D A [(aN, .inr (2, [.ref aS, .ref aF, .ref aB, .ref aR, .int N_base, .int N_first, .int N_significandEnd, .int N_exponentEnd])), (aS, .inr (6, [.ref aSc, .int S_count, .int S_cutShort])), (aSc, .inl (cyC, 81920, .inl Sc))] → va_S A s.heap H locs → ∀ ls : Array Slot, lv_has ls 7 [(0, .ref aN), (2, .int x2), (4, .int x4)] → W p l e rm_X2_measureBroken s m args below meth c H locs 0 0 (MQ below (va_Qi (fun (r : Int32) (u : Int32 × Int32 × Int32 × Int32) => (r, u) = out) (Bw (dC, dI) A (fun u => [(aN, .inr (2, [.ref aS, .ref aF, .ref aB, .ref aR, .int u.1, .int u.2.1, .int u.2.2.1, .int u.2.2.2])), (aS, .inr (6, [.ref aSc, .int S_count, .int S_cutShort])), (aSc, .inl (cyC, 81920, .inl Sc))])) A) args s 0 0 A) (F0 m 114 ls [.int t3, .int t2, .ref aN, .ref aN])
def J_X2_measureBroken_94 (p : Program) (l : Launch) (e : Env) (s : State) (m : MethodId) (args : Array Value) (below : List Frame) (meth : Method) (c : Code) (dC : Nat → ClassId) (dI : Nat → Nat → Nat) (cyB cyC cyI cyJ cyZ : ClassId) (aN aS aF aB aR aSc : Nat) (S_count : Int32) (S_cutShort : Int32) (Sc : Nat → Int32) (A : Nat → Prop) (out : Int32 × Int32 × Int32 × Int32 × Int32) (g : Int32 → Int32 → Int32 → Int32 → Int32 → Int32 → Int32 → Option (Int32 × Int32 × Int32 × Int32 × Int32)) : Prop := ∀ (N_base : Int32) (N_first : Int32) (N_significandEnd : Int32) (N_exponentEnd : Int32) (x2 : Int32) (x4 : Int32) (t1 : Int32) (H : Heap) (locs : List Loc), g N_base N_first N_significandEnd N_exponentEnd x2 x4 t1 = some out → va_P (dC, dI) vwCl [(aN, .inr (2, [.ref aS, .ref aF, .ref aB, .ref aR, .int N_base, .int N_first, .int N_significandEnd, .int N_exponentEnd])), (aS, .inr (6, [.ref aSc, .int S_count, .int S_cutShort])), (aSc, .inl (cyC, 81920, .inl Sc))] H → va_D A [(aN, .inr (2, [.ref aS, .ref aF, .ref aB, .ref aR, .int N_base, .int N_first, .int N_significandEnd, .int N_exponentEnd])), (aS, .inr (6, [.ref aSc, .int S_count, .int S_cutShort])), (aSc, .inl (cyC, 81920, .inl Sc))] → va_S A s.heap H locs → ∀ ls : Array Slot, lv_has ls 7 [(0, .ref aN), (2, .int x2), (4, .int x4)] → W p l e rm_X2_measureBroken s m args below meth c H locs 0 0 (MQ below (va_Qi (fun (r : Int32) (u : Int32 × Int32 × Int32 × Int32) => (r, u) = out) (Bw (dC, dI) A (fun u => [(aN, .inr (2, [.ref aS, .ref aF, .ref aB, .ref aR, .int u.1, .int u.2.1, .int u.2.2.1, .int u.2.2.2])), (aS, .inr (6, [.ref aSc, .int S_count, .int S_cutShort])), (aSc, .inl (cyC, 81920, .inl Sc))])) A) args s 0 0 A) (F0 m 94 ls [.int t1, .ref aN])
def J_X2_measureBroken_71 (p : Program) (l : Launch) (e : Env) (s : State) (m : MethodId) (args : Array Value) (below : List Frame) (meth : Method) (c : Code) (dC : Nat → ClassId) (dI : Nat → Nat → Nat) (cyB cyC cyI cyJ cyZ : ClassId) (aN aS aF aB aR aSc : Nat) (S_count : Int32) (S_cutShort : Int32) (Sc : Nat → Int32) (A : Nat → Prop) (out : Int32 × Int32 × Int32 × Int32 × Int32) (g : Int32 → Int32 → Int32 → Int32 → Int32 → Int32 → Int32 → Option (Int32 × Int32 × Int32 × Int32 × Int32)) : Prop := ∀ (N_base : Int32) (N_first : Int32) (N_significandEnd : Int32) (N_exponentEnd : Int32) (x2 : Int32) (x3 : Int32) (t0 : Int32) (H : Heap) (locs : List Loc), g N_base N_first N_significandEnd N_exponentEnd x2 x3 t0 = some out → va_P (dC, dI) vwCl [(aN, .inr (2, [.ref aS, .ref aF, .ref aB, .ref aR, .int N_base, .int N_first, .int N_significandEnd, .int N_exponentEnd])), (aS, .inr (6, [.ref aSc, .int S_count, .int S_cutShort])), (aSc, .inl (cyC, 81920, .inl Sc))] H → va_D A [(aN, .inr (2, [.ref aS, .ref aF, .ref aB, .ref aR, .int N_base, .int N_first, .int N_significandEnd, .int N_exponentEnd])), (aS, .inr (6, [.ref aSc, .int S_count, .int S_cutShort])), (aSc, .inl (cyC, 81920, .inl Sc))] → va_S A s.heap H locs → ∀ ls : Array Slot, lv_has ls 7 [(0, .ref aN), (2, .int x2), (3, .int x3)] → W p l e rm_X2_measureBroken s m args below meth c H locs 0 0 (MQ below (va_Qi (fun (r : Int32) (u : Int32 × Int32 × Int32 × Int32) => (r, u) = out) (Bw (dC, dI) A (fun u => [(aN, .inr (2, [.ref aS, .ref aF, .ref aB, .ref aR, .int u.1, .int u.2.1, .int u.2.2.1, .int u.2.2.2])), (aS, .inr (6, [.ref aSc, .int S_count, .int S_cutShort])), (aSc, .inl (cyC, 81920, .inl Sc))])) A) args s 0 0 A) (F0 m 71 ls [.int t0])
def J_X2_measureBroken_37 (p : Program) (l : Launch) (e : Env) (s : State) (m : MethodId) (args : Array Value) (below : List Frame) (meth : Method) (c : Code) (dC : Nat → ClassId) (dI : Nat → Nat → Nat) (cyB cyC cyI cyJ cyZ : ClassId) (aN aS aF aB aR aSc : Nat) (S_count : Int32) (S_cutShort : Int32) (Sc : Nat → Int32) (A : Nat → Prop) (out : Int32 × Int32 × Int32 × Int32 × Int32) (g : Int32 → Int32 → Int32 → Int32 → Int32 → Int32 → Option (Int32 × Int32 × Int32 × Int32 × Int32)) : Prop := ∀ (N_base : Int32) (N_first : Int32) (N_significandEnd : Int32) (N_exponentEnd : Int32) (x2 : Int32) (t1 : Int32) (H : Heap) (locs : List Loc), g N_base N_first N_significandEnd N_exponentEnd x2 t1 = some out → va_P (dC, dI) vwCl [(aN, .inr (2, [.ref aS, .ref aF, .ref aB, .ref aR, .int N_base, .int N_first, .int N_significandEnd, .int N_exponentEnd])), (aS, .inr (6, [.ref aSc, .int S_count, .int S_cutShort])), (aSc, .inl (cyC, 81920, .inl Sc))] H → va_D A [(aN, .inr (2, [.ref aS, .ref aF, .ref aB, .ref aR, .int N_base, .int N_first, .int N_significandEnd, .int N_exponentEnd])), (aS, .inr (6, [.ref aSc, .int S_count, .int S_cutShort])), (aSc, .inl (cyC, 81920, .inl Sc))] → va_S A s.heap H locs → ∀ ls : Array Slot, lv_has ls 7 [(0, .ref aN), (2, .int x2)] → W p l e rm_X2_measureBroken s m args below meth c H locs 0 0 (MQ below (va_Qi (fun (r : Int32) (u : Int32 × Int32 × Int32 × Int32) => (r, u) = out) (Bw (dC, dI) A (fun u => [(aN, .inr (2, [.ref aS, .ref aF, .ref aB, .ref aR, .int u.1, .int u.2.1, .int u.2.2.1, .int u.2.2.2])), (aS, .inr (6, [.ref aSc, .int S_count, .int S_cutShort])), (aSc, .inl (cyC, 81920, .inl Sc))])) A) args s 0 0 A) (F0 m 37 ls [.int t1, .ref aN])
def J_X2_measureBroken_22 (p : Program) (l : Launch) (e : Env) (s : State) (m : MethodId) (args : Array Value) (below : List Frame) (meth : Method) (c : Code) (dC : Nat → ClassId) (dI : Nat → Nat → Nat) (cyB cyC cyI cyJ cyZ : ClassId) (aN aS aF aB aR aSc : Nat) (S_count : Int32) (S_cutShort : Int32) (Sc : Nat → Int32) (A : Nat → Prop) (out : Int32 × Int32 × Int32 × Int32 × Int32) (g : Int32 → Int32 → Int32 → Int32 → Int32 → Int32 → Int32 → Option (Int32 × Int32 × Int32 × Int32 × Int32)) : Prop := ∀ (N_base : Int32) (N_first : Int32) (N_significandEnd : Int32) (N_exponentEnd : Int32) (x1 : Int32) (x2 : Int32) (t1 : Int32) (H : Heap) (locs : List Loc), g N_base N_first N_significandEnd N_exponentEnd x1 x2 t1 = some out → va_P (dC, dI) vwCl [(aN, .inr (2, [.ref aS, .ref aF, .ref aB, .ref aR, .int N_base, .int N_first, .int N_significandEnd, .int N_exponentEnd])), (aS, .inr (6, [.ref aSc, .int S_count, .int S_cutShort])), (aSc, .inl (cyC, 81920, .inl Sc))] H → va_D A [(aN, .inr (2, [.ref aS, .ref aF, .ref aB, .ref aR, .int N_base, .int N_first, .int N_significandEnd, .int N_exponentEnd])), (aS, .inr (6, [.ref aSc, .int S_count, .int S_cutShort])), (aSc, .inl (cyC, 81920, .inl Sc))] → va_S A s.heap H locs → ∀ ls : Array Slot, lv_has ls 7 [(0, .ref aN), (1, .int x1), (2, .int x2)] → W p l e rm_X2_measureBroken s m args below meth c H locs 0 0 (MQ below (va_Qi (fun (r : Int32) (u : Int32 × Int32 × Int32 × Int32) => (r, u) = out) (Bw (dC, dI) A (fun u => [(aN, .inr (2, [.ref aS, .ref aF, .ref aB, .ref aR, .int u.1, .int u.2.1, .int u.2.2.1, .int u.2.2.2])), (aS, .inr (6, [.ref aSc, .int S_count, .int S_cutShort])), (aSc, .inl (cyC, 81920, .inl Sc))])) A) args s 0 0 A) (F0 m 22 ls [.int t1, .ref aN])
def J_X2_measureBroken_0 (p : Program) (l : Launch) (e : Env) (s : State) (m : MethodId) (args : Array Value) (below : List Frame) (meth : Method) (c : Code) (dC : Nat → ClassId) (dI : Nat → Nat → Nat) (cyB cyC cyI cyJ cyZ : ClassId) (aN aS aF aB aR aSc : Nat) (S_count : Int32) (S_cutShort : Int32) (Sc : Nat → Int32) (A : Nat → Prop) (out : Int32 × Int32 × Int32 × Int32 × Int32) (g : Int32 → Int32 → Int32 → Int32 → Int32 → Option (Int32 × Int32 × Int32 × Int32 × Int32)) : Prop := ∀ (N_base : Int32) (N_first : Int32) (N_significandEnd : Int32) (N_exponentEnd : Int32) (x1 : Int32) (H : Heap) (locs : List Loc), g N_base N_first N_significandEnd N_exponentEnd x1 = some out → va_P (dC, dI) vwCl [(aN, .inr (2, [.ref aS, .ref aF, .ref aB, .ref aR, .int N_base, .int N_first, .int N_significandEnd, .int N_exponentEnd])), (aS, .inr (6, [.ref aSc, .int S_count, .int S_cutShort])), (aSc, .inl (cyC, 81920, .inl Sc))] H → va_D A [(aN, .inr (2, [.ref aS, .ref aF, .ref aB, .ref aR, .int N_base, .int N_first, .int N_significandEnd, .int N_exponentEnd])), (aS, .inr (6, [.ref aSc, .int S_count, .int S_cutShort])), (aSc, .inl (cyC, 81920, .inl Sc))] → va_S A s.heap H locs → ∀ ls : Array Slot, lv_has ls 7 [(0, .ref aN), (1, .int x1)] → W p l e rm_X2_measureBroken s m args below meth c H locs 0 0 (MQ below (va_Qi (fun (r : Int32) (u : Int32 × Int32 × Int32 × Int32) => (r, u) = out) (Bw (dC, dI) A (fun u => [(aN, .inr (2, [.ref aS, .ref aF, .ref aB, .ref aR, .int u.1, .int u.2.1, .int u.2.2.1, .int u.2.2.2])), (aS, .inr (6, [.ref aSc, .int S_count, .int S_cutShort])), (aSc, .inl (cyC, 81920, .inl Sc))])) A) args s 0 0 A) (F0 m 0 ls [])
def f_X2_measureBroken_180 (n : Nat) (S_count : Int32) (S_cutShort : Int32) (Sc : Nat → Int32) (N_base : Int32) (N_first : Int32) (N_significandEnd : Int32) (N_exponentEnd : Int32) (x5 : Int32) (t0 : Int32) : Option (Int32 × Int32 × Int32 × Int32 × Int32) :=
  if t0 = 0 then
  (some ((0 : Int32), N_base, N_first, N_significandEnd, N_exponentEnd))
  else
  (if x5 = 0 then
  (some ((0 : Int32), N_base, N_first, N_significandEnd, N_exponentEnd))
  else
  (some ((1 : Int32), N_base, N_first, N_significandEnd, N_exponentEnd)))
set_option maxHeartbeats 4000000 in
set_option maxRecDepth 100000 in
theorem k_X2_measureBroken_180 {p : Program} {l : Launch} {e : Env} {s : State} {m : MethodId} {args : Array Value} {below : List Frame} {meth : Method} {c : Code} {dC : Nat → ClassId} {dI : Nat → Nat → Nat} {cyB cyC cyI cyJ cyZ : ClassId} {aN aS aF aB aR aSc : Nat} {S_count : Int32} {S_cutShort : Int32} {Sc : Nat → Int32} {A : Nat → Prop} {out : Int32 × Int32 × Int32 × Int32 × Int32} (CX : cx cX2_measureBroken (some .boolean) 7 RX2 wsX2_measureBroken (dC, dI) (TY cyB cyC cyI cyJ cyZ) p s m args meth c) (hA : ∀ q : Nat, s.heap.size ≤ q → A q) (n : Nat) : J_X2_measureBroken_180 p l e s m args below meth c dC dI cyB cyC cyI cyJ cyZ aN aS aF aB aR aSc S_count S_cutShort Sc A out (f_X2_measureBroken_180 n S_count S_cutShort Sc) := by
  intro N_base N_first N_significandEnd N_exponentEnd x5 t0 H locs hf hP hD hS ls hl
  obtain ⟨hx, hb, hr, hml, hown, hts, hlocks, hK, hN⟩ := id CX
  unfold f_X2_measureBroken_180 at hf
  refine lv_istore (lv' := [(6, .int t0), (5, .int x5)]) hx hb dX2_measureBroken_180 hl (by decide) rfl (fun ls hl => ?_)
  refine lv_iload hx hb dX2_measureBroken_182 (lv_at hl 0 rfl) ?_
  refine lv_if_eq (tgt := 196) hx hb dX2_measureBroken_184 (by decide) (fun hc => ?_) (fun hc => ?_)
  · have hf := (if_pos hc).symm.trans hf
    refine lv_iconst (v := (0 : Int32)) hx hb dX2_measureBroken_196 (by decide) ?_
    exact W.zret (v := (0 : Int32)) (ty := .boolean) hx hb hr rfl (fun t ht hW => ⟨⟨_, (N_base, N_first, N_significandEnd, N_exponentEnd), rfl, Option.some.inj hf, by rw [ht]; exact hP, hD⟩, hS.F ht⟩) hS.2.2 dX2_measureBroken_197
  · have hf := (if_neg hc).symm.trans hf
    refine lv_iload hx hb dX2_measureBroken_187 (lv_at hl 1 rfl) ?_
    refine lv_if_eq (tgt := 196) hx hb dX2_measureBroken_189 (by decide) (fun hc => ?_) (fun hc => ?_)
    · have hf := (if_pos hc).symm.trans hf
      refine lv_iconst (v := (0 : Int32)) hx hb dX2_measureBroken_196 (by decide) ?_
      exact W.zret (v := (0 : Int32)) (ty := .boolean) hx hb hr rfl (fun t ht hW => ⟨⟨_, (N_base, N_first, N_significandEnd, N_exponentEnd), rfl, Option.some.inj hf, by rw [ht]; exact hP, hD⟩, hS.F ht⟩) hS.2.2 dX2_measureBroken_197
    · have hf := (if_neg hc).symm.trans hf
      refine lv_iconst (v := (1 : Int32)) hx hb dX2_measureBroken_192 (by decide) ?_
      refine lv_goto (tgt := 197) hx hb dX2_measureBroken_193 (by decide) ?_
      exact W.zret (v := (1 : Int32)) (ty := .boolean) hx hb hr rfl (fun t ht hW => ⟨⟨_, (N_base, N_first, N_significandEnd, N_exponentEnd), rfl, Option.some.inj hf, by rw [ht]; exact hP, hD⟩, hS.F ht⟩) hS.2.2 dX2_measureBroken_197
def f_X2_measureBroken_172 (n : Nat) (S_count : Int32) (S_cutShort : Int32) (Sc : Nat → Int32) (N_base : Int32) (N_first : Int32) (N_significandEnd : Int32) (N_exponentEnd : Int32) (x5 : Int32) (t0 : Int32) (t1 : Int32) : Option (Int32 × Int32 × Int32 × Int32 × Int32) :=
  if t0 ≤ t1 then
  (f_X2_measureBroken_180 n S_count S_cutShort Sc N_base N_first N_significandEnd N_exponentEnd x5 (0 : Int32))
  else
  (f_X2_measureBroken_180 n S_count S_cutShort Sc N_base N_first N_significandEnd N_exponentEnd x5 (1 : Int32))
set_option maxHeartbeats 4000000 in
set_option maxRecDepth 100000 in
theorem k_X2_measureBroken_172 {p : Program} {l : Launch} {e : Env} {s : State} {m : MethodId} {args : Array Value} {below : List Frame} {meth : Method} {c : Code} {dC : Nat → ClassId} {dI : Nat → Nat → Nat} {cyB cyC cyI cyJ cyZ : ClassId} {aN aS aF aB aR aSc : Nat} {S_count : Int32} {S_cutShort : Int32} {Sc : Nat → Int32} {A : Nat → Prop} {out : Int32 × Int32 × Int32 × Int32 × Int32} (CX : cx cX2_measureBroken (some .boolean) 7 RX2 wsX2_measureBroken (dC, dI) (TY cyB cyC cyI cyJ cyZ) p s m args meth c) (hA : ∀ q : Nat, s.heap.size ≤ q → A q) (n : Nat) : J_X2_measureBroken_172 p l e s m args below meth c dC dI cyB cyC cyI cyJ cyZ aN aS aF aB aR aSc S_count S_cutShort Sc A out (f_X2_measureBroken_172 n S_count S_cutShort Sc) := by
  intro N_base N_first N_significandEnd N_exponentEnd x5 t0 t1 H locs hf hP hD hS ls hl
  obtain ⟨hx, hb, hr, hml, hown, hts, hlocks, hK, hN⟩ := id CX
  unfold f_X2_measureBroken_172 at hf
  refine lv_icmp_le (tgt := 179) hx hb dX2_measureBroken_172 (by decide) (fun hc => ?_) (fun hc => ?_)
  · have hf := (if_pos hc).symm.trans hf
    refine lv_iconst (v := (0 : Int32)) hx hb dX2_measureBroken_179 (by decide) ?_
    exact k_X2_measureBroken_180 (aF := aF) (aB := aB) (aR := aR) CX hA n _ _ _ _ _ _ _ _ hf hP hD hS ls (lv_sub hl [0] rfl)
  · have hf := (if_neg hc).symm.trans hf
    refine lv_iconst (v := (1 : Int32)) hx hb dX2_measureBroken_175 (by decide) ?_
    refine lv_goto (tgt := 180) hx hb dX2_measureBroken_176 (by decide) ?_
    exact k_X2_measureBroken_180 (aF := aF) (aB := aB) (aR := aR) CX hA n _ _ _ _ _ _ _ _ hf hP hD hS ls (lv_sub hl [0] rfl)
def f_X2_measureBroken_147 (n : Nat) (S_count : Int32) (S_cutShort : Int32) (Sc : Nat → Int32) (N_base : Int32) (N_first : Int32) (N_significandEnd : Int32) (N_exponentEnd : Int32) (x2 : Int32) (x4 : Int32) (t0 : Int32) : Option (Int32 × Int32 × Int32 × Int32 × Int32) :=
  if x2 = 0 then
  (if x4 = 0 then
  (if t0 = 0 then
  (bd (f_X2_isFloatLetter n N_exponentEnd N_base N_first N_significandEnd N_exponentEnd S_count S_cutShort Sc) fun o1 =>
  if o1 = 0 then
  (bd (f_X2_isDoubleLetter n N_exponentEnd N_base N_first N_significandEnd N_exponentEnd S_count S_cutShort Sc) fun o2 =>
  if o2 = 0 then
  (some ((0 : Int32), N_base, N_first, N_significandEnd, N_exponentEnd))
  else
  (some ((1 : Int32), N_base, N_first, N_significandEnd, N_exponentEnd)))
  else
  (some ((1 : Int32), N_base, N_first, N_significandEnd, N_exponentEnd)))
  else
  (some ((1 : Int32), N_base, N_first, N_significandEnd, N_exponentEnd)))
  else
  (some ((1 : Int32), N_base, N_first, N_significandEnd, N_exponentEnd)))
  else
  (if x4 = 0 then
  (f_X2_measureBroken_172 n S_count S_cutShort Sc N_base N_first N_significandEnd N_exponentEnd t0 (N_significandEnd - N_first) (0 : Int32))
  else
  (f_X2_measureBroken_172 n S_count S_cutShort Sc N_base N_first N_significandEnd N_exponentEnd t0 (N_significandEnd - N_first) (1 : Int32)))
set_option maxHeartbeats 4000000 in
set_option maxRecDepth 100000 in
theorem k_X2_measureBroken_147 {p : Program} {l : Launch} {e : Env} {s : State} {m : MethodId} {args : Array Value} {below : List Frame} {meth : Method} {c : Code} {dC : Nat → ClassId} {dI : Nat → Nat → Nat} {cyB cyC cyI cyJ cyZ : ClassId} {aN aS aF aB aR aSc : Nat} {S_count : Int32} {S_cutShort : Int32} {Sc : Nat → Int32} {A : Nat → Prop} {out : Int32 × Int32 × Int32 × Int32 × Int32} (CX : cx cX2_measureBroken (some .boolean) 7 RX2 wsX2_measureBroken (dC, dI) (TY cyB cyC cyI cyJ cyZ) p s m args meth c) (hA : ∀ q : Nat, s.heap.size ≤ q → A q) (n : Nat) : J_X2_measureBroken_147 p l e s m args below meth c dC dI cyB cyC cyI cyJ cyZ aN aS aF aB aR aSc S_count S_cutShort Sc A out (f_X2_measureBroken_147 n S_count S_cutShort Sc) := by
  intro N_base N_first N_significandEnd N_exponentEnd x2 x4 t0 H locs hf hP hD hS ls hl
  obtain ⟨hx, hb, hr, hml, hown, hts, hlocks, hK, hN⟩ := id CX
  unfold f_X2_measureBroken_147 at hf
  refine lv_istore (lv' := [(5, .int t0), (0, .ref aN), (2, .int x2), (4, .int x4)]) hx hb dX2_measureBroken_147 hl (by decide) rfl (fun ls hl => ?_)
  refine lv_iload_n hx hb dX2_measureBroken_149 rfl (lv_at hl 2 rfl) ?_
  refine lv_if_eq (tgt := 198) hx hb dX2_measureBroken_150 (by decide) (fun hc => ?_) (fun hc => ?_)
  · have hf := (if_pos hc).symm.trans hf
    refine lv_iload hx hb dX2_measureBroken_198 (lv_at hl 3 rfl) ?_
    refine lv_if_ne (tgt := 230) hx hb dX2_measureBroken_200 (by decide) (fun hc => ?_) (fun hc => ?_)
    · have hf := (if_neg hc).symm.trans hf
      refine lv_iconst (v := (1 : Int32)) hx hb dX2_measureBroken_230 (by decide) ?_
      refine lv_goto (tgt := 235) hx hb dX2_measureBroken_231 (by decide) ?_
      exact W.zret (v := (1 : Int32)) (ty := .boolean) hx hb hr rfl (fun t ht hW => ⟨⟨_, (N_base, N_first, N_significandEnd, N_exponentEnd), rfl, Option.some.inj hf, by rw [ht]; exact hP, hD⟩, hS.F ht⟩) hS.2.2 dX2_measureBroken_235
    · have hf := (if_pos hc).symm.trans hf
      refine lv_iload hx hb dX2_measureBroken_203 (lv_at hl 0 rfl) ?_
      refine lv_if_ne (tgt := 230) hx hb dX2_measureBroken_205 (by decide) (fun hc => ?_) (fun hc => ?_)
      · have hf := (if_neg hc).symm.trans hf
        refine lv_iconst (v := (1 : Int32)) hx hb dX2_measureBroken_230 (by decide) ?_
        refine lv_goto (tgt := 235) hx hb dX2_measureBroken_231 (by decide) ?_
        exact W.zret (v := (1 : Int32)) (ty := .boolean) hx hb hr rfl (fun t ht hW => ⟨⟨_, (N_base, N_first, N_significandEnd, N_exponentEnd), rfl, Option.some.inj hf, by rw [ht]; exact hP, hD⟩, hS.F ht⟩) hS.2.2 dX2_measureBroken_235
      · have hf := (if_pos hc).symm.trans hf
        refine lv_aload_n hx hb dX2_measureBroken_208 rfl (lv_at hl 1 rfl) ?_
        refine lv_aload_n hx hb dX2_measureBroken_209 rfl (lv_at hl 1 rfl) ?_
        refine va_get (D := (dC, dI)) (ci := 2) (v := .int N_exponentEnd) (C := RX2) (T := TX2) (N := 8) hx hb hts i_X2_measureBroken_X2 hown hK hP 0 rfl rfl 7 (by decide) (hts (.fieldLink RX2 63 "TokenRow$Numbers" "exponentEnd" "I") (List.mem_of_getElem? (i := 5) rfl)) (fun _ h9 => h9) rfl dX2_measureBroken_210 ?_
        obtain ⟨z1, hz1, hf⟩ := bd_ok hf
        have hPc := hP.sub (ws' := [(aN, .inr (2, [.ref aS, .ref aF, .ref aB, .ref aR, .int N_base, .int N_first, .int N_significandEnd, .int N_exponentEnd])), (aS, .inr (6, [.ref aSc, .int S_count, .int S_cutShort])), (aSc, .inl (cyC, 81920, .inl Sc))]) [0, 1, 2] rfl
        refine vp_callSi (va_Run.run (va_runV (As := [.int N_exponentEnd]) (rest := []) ⟨hx, hb, hml, hown, hts⟩ (m_X2_isFloatLetter l dC dI cyB cyC cyI cyJ cyZ aN aS aF aB aR aSc  N_exponentEnd N_base N_first N_significandEnd N_exponentEnd S_count S_cutShort Sc n z1 hz1) (cwV 1 hts gX2_measureBroken_X2_isFloatLetter rfl rfl rfl (by decide +kernel) ⟨Nat.le_of_ble_eq_true rfl, Nat.le_of_ble_eq_true rfl⟩) (proV (va_recv hK hP (ci := 2) (q0 := 0) rfl rfl) hPc hK hN) rfl rfl hl.1 rfl (lv_room (Nat.le_of_ble_eq_true rfl)) dX2_measureBroken_213 ⟨Nat.le_of_ble_eq_true rfl, Nat.le_of_ble_eq_true rfl⟩)) (fun o1 hr9 => ?_)
        subst hr9
        refine lv_if_ne (tgt := 230) hx hb dX2_measureBroken_216 (by decide) (fun hc => ?_) (fun hc => ?_)
        · have hf := (if_neg hc).symm.trans hf
          refine lv_iconst (v := (1 : Int32)) hx hb dX2_measureBroken_230 (by decide) ?_
          refine lv_goto (tgt := 235) hx hb dX2_measureBroken_231 (by decide) ?_
          exact W.zret (v := (1 : Int32)) (ty := .boolean) hx hb hr rfl (fun t ht hW => ⟨⟨_, (N_base, N_first, N_significandEnd, N_exponentEnd), rfl, Option.some.inj hf, by rw [ht]; exact hP, hD⟩, hS.F ht⟩) hS.2.2 dX2_measureBroken_235
        · have hf := (if_pos hc).symm.trans hf
          refine lv_aload_n hx hb dX2_measureBroken_219 rfl (lv_at hl 1 rfl) ?_
          refine lv_aload_n hx hb dX2_measureBroken_220 rfl (lv_at hl 1 rfl) ?_
          refine va_get (D := (dC, dI)) (ci := 2) (v := .int N_exponentEnd) (C := RX2) (T := TX2) (N := 8) hx hb hts i_X2_measureBroken_X2 hown hK hP 0 rfl rfl 7 (by decide) (hts (.fieldLink RX2 63 "TokenRow$Numbers" "exponentEnd" "I") (List.mem_of_getElem? (i := 5) rfl)) (fun _ h9 => h9) rfl dX2_measureBroken_221 ?_
          obtain ⟨z2, hz2, hf⟩ := bd_ok hf
          have hPc := hP.sub (ws' := [(aN, .inr (2, [.ref aS, .ref aF, .ref aB, .ref aR, .int N_base, .int N_first, .int N_significandEnd, .int N_exponentEnd])), (aS, .inr (6, [.ref aSc, .int S_count, .int S_cutShort])), (aSc, .inl (cyC, 81920, .inl Sc))]) [0, 1, 2] rfl
          refine vp_callSi (va_Run.run (va_runV (As := [.int N_exponentEnd]) (rest := []) ⟨hx, hb, hml, hown, hts⟩ (m_X2_isDoubleLetter l dC dI cyB cyC cyI cyJ cyZ aN aS aF aB aR aSc  N_exponentEnd N_base N_first N_significandEnd N_exponentEnd S_count S_cutShort Sc n z2 hz2) (cwV 1 hts gX2_measureBroken_X2_isDoubleLetter rfl rfl rfl (by decide +kernel) ⟨Nat.le_of_ble_eq_true rfl, Nat.le_of_ble_eq_true rfl⟩) (proV (va_recv hK hP (ci := 2) (q0 := 0) rfl rfl) hPc hK hN) rfl rfl hl.1 rfl (lv_room (Nat.le_of_ble_eq_true rfl)) dX2_measureBroken_224 ⟨Nat.le_of_ble_eq_true rfl, Nat.le_of_ble_eq_true rfl⟩)) (fun o2 hr9 => ?_)
          subst hr9
          refine lv_if_eq (tgt := 234) hx hb dX2_measureBroken_227 (by decide) (fun hc => ?_) (fun hc => ?_)
          · have hf := (if_pos hc).symm.trans hf
            refine lv_iconst (v := (0 : Int32)) hx hb dX2_measureBroken_234 (by decide) ?_
            exact W.zret (v := (0 : Int32)) (ty := .boolean) hx hb hr rfl (fun t ht hW => ⟨⟨_, (N_base, N_first, N_significandEnd, N_exponentEnd), rfl, Option.some.inj hf, by rw [ht]; exact hP, hD⟩, hS.F ht⟩) hS.2.2 dX2_measureBroken_235
          · have hf := (if_neg hc).symm.trans hf
            refine lv_iconst (v := (1 : Int32)) hx hb dX2_measureBroken_230 (by decide) ?_
            refine lv_goto (tgt := 235) hx hb dX2_measureBroken_231 (by decide) ?_
            exact W.zret (v := (1 : Int32)) (ty := .boolean) hx hb hr rfl (fun t ht hW => ⟨⟨_, (N_base, N_first, N_significandEnd, N_exponentEnd), rfl, Option.some.inj hf, by rw [ht]; exact hP, hD⟩, hS.F ht⟩) hS.2.2 dX2_measureBroken_235
  · have hf := (if_neg hc).symm.trans hf
    refine lv_aload_n hx hb dX2_measureBroken_153 rfl (lv_at hl 1 rfl) ?_
    refine va_get (D := (dC, dI)) (ci := 2) (v := .int N_significandEnd) (C := RX2) (T := TX2) (N := 8) hx hb hts i_X2_measureBroken_X2 hown hK hP 0 rfl rfl 6 (by decide) (hts (.fieldLink RX2 56 "TokenRow$Numbers" "significandEnd" "I") (List.mem_of_getElem? (i := 4) rfl)) (fun _ h9 => h9) rfl dX2_measureBroken_154 ?_
    refine lv_aload_n hx hb dX2_measureBroken_157 rfl (lv_at hl 1 rfl) ?_
    refine va_get (D := (dC, dI)) (ci := 2) (v := .int N_first) (C := RX2) (T := TX2) (N := 8) hx hb hts i_X2_measureBroken_X2 hown hK hP 0 rfl rfl 5 (by decide) (hts (.fieldLink RX2 43 "TokenRow$Numbers" "first" "I") (List.mem_of_getElem? (i := 2) rfl)) (fun _ h9 => h9) rfl dX2_measureBroken_158 ?_
    refine lv_isub hx hb dX2_measureBroken_161 ?_
    refine lv_iload hx hb dX2_measureBroken_162 (lv_at hl 3 rfl) ?_
    refine lv_if_eq (tgt := 171) hx hb dX2_measureBroken_164 (by decide) (fun hc => ?_) (fun hc => ?_)
    · have hf := (if_pos hc).symm.trans hf
      refine lv_iconst (v := (0 : Int32)) hx hb dX2_measureBroken_171 (by decide) ?_
      exact k_X2_measureBroken_172 (aF := aF) (aB := aB) (aR := aR) CX hA n _ _ _ _ _ _ _ _ _ hf hP hD hS ls (lv_sub hl [0] rfl)
    · have hf := (if_neg hc).symm.trans hf
      refine lv_iconst (v := (1 : Int32)) hx hb dX2_measureBroken_167 (by decide) ?_
      refine lv_goto (tgt := 172) hx hb dX2_measureBroken_168 (by decide) ?_
      exact k_X2_measureBroken_172 (aF := aF) (aB := aB) (aR := aR) CX hA n _ _ _ _ _ _ _ _ _ hf hP hD hS ls (lv_sub hl [0] rfl)
def f_X2_measureBroken_125 (n : Nat) (S_count : Int32) (S_cutShort : Int32) (Sc : Nat → Int32) (N_base : Int32) (N_first : Int32) (N_significandEnd : Int32) (N_exponentEnd : Int32) (x2 : Int32) (x4 : Int32) (t2 : Int32) (t3 : Int32) (t4 : Int32) : Option (Int32 × Int32 × Int32 × Int32 × Int32) :=
  bd (f_X2_behindExponent n t2 t3 t4 N_base N_first N_significandEnd N_exponentEnd S_count S_cutShort Sc) fun o1 =>
  if o1 ≤ N_significandEnd then
  (f_X2_measureBroken_147 n S_count S_cutShort Sc N_base N_first N_significandEnd o1 x2 x4 (0 : Int32))
  else
  (f_X2_measureBroken_147 n S_count S_cutShort Sc N_base N_first N_significandEnd o1 x2 x4 (1 : Int32))
set_option maxHeartbeats 4000000 in
set_option maxRecDepth 100000 in
theorem k_X2_measureBroken_125 {p : Program} {l : Launch} {e : Env} {s : State} {m : MethodId} {args : Array Value} {below : List Frame} {meth : Method} {c : Code} {dC : Nat → ClassId} {dI : Nat → Nat → Nat} {cyB cyC cyI cyJ cyZ : ClassId} {aN aS aF aB aR aSc : Nat} {S_count : Int32} {S_cutShort : Int32} {Sc : Nat → Int32} {A : Nat → Prop} {out : Int32 × Int32 × Int32 × Int32 × Int32} (CX : cx cX2_measureBroken (some .boolean) 7 RX2 wsX2_measureBroken (dC, dI) (TY cyB cyC cyI cyJ cyZ) p s m args meth c) (hA : ∀ q : Nat, s.heap.size ≤ q → A q) (n : Nat) : J_X2_measureBroken_125 p l e s m args below meth c dC dI cyB cyC cyI cyJ cyZ aN aS aF aB aR aSc S_count S_cutShort Sc A out (f_X2_measureBroken_125 n S_count S_cutShort Sc) := by
  intro N_base N_first N_significandEnd N_exponentEnd x2 x4 t2 t3 t4 H locs hf hP hD hS ls hl
  obtain ⟨hx, hb, hr, hml, hown, hts, hlocks, hK, hN⟩ := id CX
  unfold f_X2_measureBroken_125 at hf
  obtain ⟨z1, hz1, hf⟩ := bd_ok hf
  have hPc := hP.sub (ws' := [(aN, .inr (2, [.ref aS, .ref aF, .ref aB, .ref aR, .int N_base, .int N_first, .int N_significandEnd, .int N_exponentEnd])), (aS, .inr (6, [.ref aSc, .int S_count, .int S_cutShort])), (aSc, .inl (cyC, 81920, .inl Sc))]) [0, 1, 2] rfl
  refine vp_callSi (va_Run.run (va_runV (As := [.int t2, .int t3, .int t4]) (rest := [.ref aN]) ⟨hx, hb, hml, hown, hts⟩ (m_X2_behindExponent l dC dI cyB cyC cyI cyJ cyZ aN aS aF aB aR aSc  t2 t3 t4 N_base N_first N_significandEnd N_exponentEnd S_count S_cutShort Sc n z1 hz1) (cwV 3 hts gX2_measureBroken_X2_behindExponent rfl rfl rfl (by decide +kernel) ⟨Nat.le_of_ble_eq_true rfl, Nat.le_of_ble_eq_true rfl⟩) (proV (va_recv hK hP (ci := 2) (q0 := 0) rfl rfl) hPc hK hN) rfl rfl hl.1 rfl (lv_room (Nat.le_of_ble_eq_true rfl)) dX2_measureBroken_125 ⟨Nat.le_of_ble_eq_true rfl, Nat.le_of_ble_eq_true rfl⟩)) (fun o1 hr9 => ?_)
  subst hr9
  refine va_put (D := (dC, dI)) (ci := 2) (v := .int o1) (ty := .int) (C := RX2) (T := TX2) (N := 8) hx hb hts i_X2_measureBroken_X2 tyX2 tyX2_ok nmX2 hown hK hP hD hS 0 rfl rfl 7 (by decide) (hts (.fieldLink RX2 63 "TokenRow$Numbers" "exponentEnd" "I") (List.mem_of_getElem? (i := 5) rfl)) (fun _ h9 => h9) rfl (by decide +kernel) rfl rfl (Nat.le_of_ble_eq_true rfl) dX2_measureBroken_128 (fun H2 locs hP hD hS => ?_)
  have hP : va_P (dC, dI) vwCl [(aN, .inr (2, [.ref aS, .ref aF, .ref aB, .ref aR, .int N_base, .int N_first, .int N_significandEnd, .int o1])), (aS, .inr (6, [.ref aSc, .int S_count, .int S_cutShort])), (aSc, .inl (cyC, 81920, .inl Sc))] H2 := hP
  have hD : va_D A [(aN, .inr (2, [.ref aS, .ref aF, .ref aB, .ref aR, .int N_base, .int N_first, .int N_significandEnd, .int o1])), (aS, .inr (6, [.ref aSc, .int S_count, .int S_cutShort])), (aSc, .inl (cyC, 81920, .inl Sc))] := hD
  refine lv_aload_n hx hb dX2_measureBroken_131 rfl (lv_at hl 0 rfl) ?_
  refine va_get (D := (dC, dI)) (ci := 2) (v := .int o1) (C := RX2) (T := TX2) (N := 8) hx hb hts i_X2_measureBroken_X2 hown hK hP 0 rfl rfl 7 (by decide) (hts (.fieldLink RX2 63 "TokenRow$Numbers" "exponentEnd" "I") (List.mem_of_getElem? (i := 5) rfl)) (fun _ h9 => h9) rfl dX2_measureBroken_132 ?_
  refine lv_aload_n hx hb dX2_measureBroken_135 rfl (lv_at hl 0 rfl) ?_
  refine va_get (D := (dC, dI)) (ci := 2) (v := .int N_significandEnd) (C := RX2) (T := TX2) (N := 8) hx hb hts i_X2_measureBroken_X2 hown hK hP 0 rfl rfl 6 (by decide) (hts (.fieldLink RX2 56 "TokenRow$Numbers" "significandEnd" "I") (List.mem_of_getElem? (i := 4) rfl)) (fun _ h9 => h9) rfl dX2_measureBroken_136 ?_
  refine lv_icmp_le (tgt := 146) hx hb dX2_measureBroken_139 (by decide) (fun hc => ?_) (fun hc => ?_)
  · have hf := (if_pos hc).symm.trans hf
    refine lv_iconst (v := (0 : Int32)) hx hb dX2_measureBroken_146 (by decide) ?_
    exact k_X2_measureBroken_147 (aF := aF) (aB := aB) (aR := aR) CX hA n _ _ _ _ _ _ _ _ _ hf hP hD hS ls (lv_sub hl [0, 1, 2] rfl)
  · have hf := (if_neg hc).symm.trans hf
    refine lv_iconst (v := (1 : Int32)) hx hb dX2_measureBroken_142 (by decide) ?_
    refine lv_goto (tgt := 147) hx hb dX2_measureBroken_143 (by decide) ?_
    exact k_X2_measureBroken_147 (aF := aF) (aB := aB) (aR := aR) CX hA n _ _ _ _ _ _ _ _ _ hf hP hD hS ls (lv_sub hl [0, 1, 2] rfl)
def f_X2_measureBroken_114 (n : Nat) (S_count : Int32) (S_cutShort : Int32) (Sc : Nat → Int32) (N_base : Int32) (N_first : Int32) (N_significandEnd : Int32) (N_exponentEnd : Int32) (x2 : Int32) (x4 : Int32) (t2 : Int32) (t3 : Int32) : Option (Int32 × Int32 × Int32 × Int32 × Int32) :=
  if x2 = 0 then
  (f_X2_measureBroken_125 n S_count S_cutShort Sc N_base N_first N_significandEnd N_exponentEnd x2 x4 t2 t3 (69 : Int32))
  else
  (f_X2_measureBroken_125 n S_count S_cutShort Sc N_base N_first N_significandEnd N_exponentEnd x2 x4 t2 t3 (80 : Int32))
set_option maxHeartbeats 4000000 in
set_option maxRecDepth 100000 in
theorem k_X2_measureBroken_114 {p : Program} {l : Launch} {e : Env} {s : State} {m : MethodId} {args : Array Value} {below : List Frame} {meth : Method} {c : Code} {dC : Nat → ClassId} {dI : Nat → Nat → Nat} {cyB cyC cyI cyJ cyZ : ClassId} {aN aS aF aB aR aSc : Nat} {S_count : Int32} {S_cutShort : Int32} {Sc : Nat → Int32} {A : Nat → Prop} {out : Int32 × Int32 × Int32 × Int32 × Int32} (CX : cx cX2_measureBroken (some .boolean) 7 RX2 wsX2_measureBroken (dC, dI) (TY cyB cyC cyI cyJ cyZ) p s m args meth c) (hA : ∀ q : Nat, s.heap.size ≤ q → A q) (n : Nat) : J_X2_measureBroken_114 p l e s m args below meth c dC dI cyB cyC cyI cyJ cyZ aN aS aF aB aR aSc S_count S_cutShort Sc A out (f_X2_measureBroken_114 n S_count S_cutShort Sc) := by
  intro N_base N_first N_significandEnd N_exponentEnd x2 x4 t2 t3 H locs hf hP hD hS ls hl
  obtain ⟨hx, hb, hr, hml, hown, hts, hlocks, hK, hN⟩ := id CX
  unfold f_X2_measureBroken_114 at hf
  refine lv_iload_n hx hb dX2_measureBroken_114 rfl (lv_at hl 1 rfl) ?_
  refine lv_if_eq (tgt := 123) hx hb dX2_measureBroken_115 (by decide) (fun hc => ?_) (fun hc => ?_)
  · have hf := (if_pos hc).symm.trans hf
    refine lv_bipush (v := (69 : Int32)) hx hb dX2_measureBroken_123 (by decide) ?_
    exact k_X2_measureBroken_125 (aF := aF) (aB := aB) (aR := aR) CX hA n _ _ _ _ _ _ _ _ _ _ _ hf hP hD hS ls (lv_sub hl [0, 1, 2] rfl)
  · have hf := (if_neg hc).symm.trans hf
    refine lv_bipush (v := (80 : Int32)) hx hb dX2_measureBroken_118 (by decide) ?_
    refine lv_goto (tgt := 125) hx hb dX2_measureBroken_120 (by decide) ?_
    exact k_X2_measureBroken_125 (aF := aF) (aB := aB) (aR := aR) CX hA n _ _ _ _ _ _ _ _ _ _ _ hf hP hD hS ls (lv_sub hl [0, 1, 2] rfl)
def f_X2_measureBroken_94 (n : Nat) (S_count : Int32) (S_cutShort : Int32) (Sc : Nat → Int32) (N_base : Int32) (N_first : Int32) (N_significandEnd : Int32) (N_exponentEnd : Int32) (x2 : Int32) (x4 : Int32) (t1 : Int32) : Option (Int32 × Int32 × Int32 × Int32 × Int32) :=
  if x2 = 0 then
  (f_X2_measureBroken_114 n S_count S_cutShort Sc N_base N_first t1 N_exponentEnd x2 x4 t1 (101 : Int32))
  else
  (f_X2_measureBroken_114 n S_count S_cutShort Sc N_base N_first t1 N_exponentEnd x2 x4 t1 (112 : Int32))
set_option maxHeartbeats 4000000 in
set_option maxRecDepth 100000 in
theorem k_X2_measureBroken_94 {p : Program} {l : Launch} {e : Env} {s : State} {m : MethodId} {args : Array Value} {below : List Frame} {meth : Method} {c : Code} {dC : Nat → ClassId} {dI : Nat → Nat → Nat} {cyB cyC cyI cyJ cyZ : ClassId} {aN aS aF aB aR aSc : Nat} {S_count : Int32} {S_cutShort : Int32} {Sc : Nat → Int32} {A : Nat → Prop} {out : Int32 × Int32 × Int32 × Int32 × Int32} (CX : cx cX2_measureBroken (some .boolean) 7 RX2 wsX2_measureBroken (dC, dI) (TY cyB cyC cyI cyJ cyZ) p s m args meth c) (hA : ∀ q : Nat, s.heap.size ≤ q → A q) (n : Nat) : J_X2_measureBroken_94 p l e s m args below meth c dC dI cyB cyC cyI cyJ cyZ aN aS aF aB aR aSc S_count S_cutShort Sc A out (f_X2_measureBroken_94 n S_count S_cutShort Sc) := by
  intro N_base N_first N_significandEnd N_exponentEnd x2 x4 t1 H locs hf hP hD hS ls hl
  obtain ⟨hx, hb, hr, hml, hown, hts, hlocks, hK, hN⟩ := id CX
  unfold f_X2_measureBroken_94 at hf
  refine va_put (D := (dC, dI)) (ci := 2) (v := .int t1) (ty := .int) (C := RX2) (T := TX2) (N := 8) hx hb hts i_X2_measureBroken_X2 tyX2 tyX2_ok nmX2 hown hK hP hD hS 0 rfl rfl 6 (by decide) (hts (.fieldLink RX2 56 "TokenRow$Numbers" "significandEnd" "I") (List.mem_of_getElem? (i := 4) rfl)) (fun _ h9 => h9) rfl (by decide +kernel) rfl rfl (Nat.le_of_ble_eq_true rfl) dX2_measureBroken_94 (fun H1 locs hP hD hS => ?_)
  have hP : va_P (dC, dI) vwCl [(aN, .inr (2, [.ref aS, .ref aF, .ref aB, .ref aR, .int N_base, .int N_first, .int t1, .int N_exponentEnd])), (aS, .inr (6, [.ref aSc, .int S_count, .int S_cutShort])), (aSc, .inl (cyC, 81920, .inl Sc))] H1 := hP
  have hD : va_D A [(aN, .inr (2, [.ref aS, .ref aF, .ref aB, .ref aR, .int N_base, .int N_first, .int t1, .int N_exponentEnd])), (aS, .inr (6, [.ref aSc, .int S_count, .int S_cutShort])), (aSc, .inl (cyC, 81920, .inl Sc))] := hD
  refine lv_aload_n hx hb dX2_measureBroken_97 rfl (lv_at hl 0 rfl) ?_
  refine lv_aload_n hx hb dX2_measureBroken_98 rfl (lv_at hl 0 rfl) ?_
  refine lv_aload_n hx hb dX2_measureBroken_99 rfl (lv_at hl 0 rfl) ?_
  refine va_get (D := (dC, dI)) (ci := 2) (v := .int t1) (C := RX2) (T := TX2) (N := 8) hx hb hts i_X2_measureBroken_X2 hown hK hP 0 rfl rfl 6 (by decide) (hts (.fieldLink RX2 56 "TokenRow$Numbers" "significandEnd" "I") (List.mem_of_getElem? (i := 4) rfl)) (fun _ h9 => h9) rfl dX2_measureBroken_100 ?_
  refine lv_iload_n hx hb dX2_measureBroken_103 rfl (lv_at hl 1 rfl) ?_
  refine lv_if_eq (tgt := 112) hx hb dX2_measureBroken_104 (by decide) (fun hc => ?_) (fun hc => ?_)
  · have hf := (if_pos hc).symm.trans hf
    refine lv_bipush (v := (101 : Int32)) hx hb dX2_measureBroken_112 (by decide) ?_
    exact k_X2_measureBroken_114 (aF := aF) (aB := aB) (aR := aR) CX hA n _ _ _ _ _ _ _ _ _ _ hf hP hD hS ls (lv_sub hl [0, 1, 2] rfl)
  · have hf := (if_neg hc).symm.trans hf
    refine lv_bipush (v := (112 : Int32)) hx hb dX2_measureBroken_107 (by decide) ?_
    refine lv_goto (tgt := 114) hx hb dX2_measureBroken_109 (by decide) ?_
    exact k_X2_measureBroken_114 (aF := aF) (aB := aB) (aR := aR) CX hA n _ _ _ _ _ _ _ _ _ _ hf hP hD hS ls (lv_sub hl [0, 1, 2] rfl)
def f_X2_measureBroken_71 (n : Nat) (S_count : Int32) (S_cutShort : Int32) (Sc : Nat → Int32) (N_base : Int32) (N_first : Int32) (N_significandEnd : Int32) (N_exponentEnd : Int32) (x2 : Int32) (x3 : Int32) (t0 : Int32) : Option (Int32 × Int32 × Int32 × Int32 × Int32) :=
  if t0 = 0 then
  (f_X2_measureBroken_94 n S_count S_cutShort Sc N_base N_first N_significandEnd N_exponentEnd x2 t0 x3)
  else
  (bd (f_X2_behindDigits n (x3 + (1 : Int32)) N_base N_base N_first N_significandEnd N_exponentEnd S_count S_cutShort Sc) fun o1 =>
  f_X2_measureBroken_94 n S_count S_cutShort Sc N_base N_first N_significandEnd N_exponentEnd x2 t0 o1)
set_option maxHeartbeats 4000000 in
set_option maxRecDepth 100000 in
theorem k_X2_measureBroken_71 {p : Program} {l : Launch} {e : Env} {s : State} {m : MethodId} {args : Array Value} {below : List Frame} {meth : Method} {c : Code} {dC : Nat → ClassId} {dI : Nat → Nat → Nat} {cyB cyC cyI cyJ cyZ : ClassId} {aN aS aF aB aR aSc : Nat} {S_count : Int32} {S_cutShort : Int32} {Sc : Nat → Int32} {A : Nat → Prop} {out : Int32 × Int32 × Int32 × Int32 × Int32} (CX : cx cX2_measureBroken (some .boolean) 7 RX2 wsX2_measureBroken (dC, dI) (TY cyB cyC cyI cyJ cyZ) p s m args meth c) (hA : ∀ q : Nat, s.heap.size ≤ q → A q) (n : Nat) : J_X2_measureBroken_71 p l e s m args below meth c dC dI cyB cyC cyI cyJ cyZ aN aS aF aB aR aSc S_count S_cutShort Sc A out (f_X2_measureBroken_71 n S_count S_cutShort Sc) := by
  intro N_base N_first N_significandEnd N_exponentEnd x2 x3 t0 H locs hf hP hD hS ls hl
  obtain ⟨hx, hb, hr, hml, hown, hts, hlocks, hK, hN⟩ := id CX
  unfold f_X2_measureBroken_71 at hf
  refine lv_istore (lv' := [(4, .int t0), (0, .ref aN), (2, .int x2), (3, .int x3)]) hx hb dX2_measureBroken_71 hl (by decide) rfl (fun ls hl => ?_)
  refine lv_aload_n hx hb dX2_measureBroken_73 rfl (lv_at hl 1 rfl) ?_
  refine lv_iload hx hb dX2_measureBroken_74 (lv_at hl 0 rfl) ?_
  refine lv_if_eq (tgt := 93) hx hb dX2_measureBroken_76 (by decide) (fun hc => ?_) (fun hc => ?_)
  · have hf := (if_pos hc).symm.trans hf
    refine lv_iload_n hx hb dX2_measureBroken_93 rfl (lv_at hl 3 rfl) ?_
    exact k_X2_measureBroken_94 (aF := aF) (aB := aB) (aR := aR) CX hA n _ _ _ _ _ _ _ _ _ hf hP hD hS ls (lv_sub hl [1, 2, 0] rfl)
  · have hf := (if_neg hc).symm.trans hf
    refine lv_aload_n hx hb dX2_measureBroken_79 rfl (lv_at hl 1 rfl) ?_
    refine lv_iload_n hx hb dX2_measureBroken_80 rfl (lv_at hl 3 rfl) ?_
    refine lv_iconst (v := (1 : Int32)) hx hb dX2_measureBroken_81 (by decide) ?_
    refine lv_iadd hx hb dX2_measureBroken_82 ?_
    refine lv_aload_n hx hb dX2_measureBroken_83 rfl (lv_at hl 1 rfl) ?_
    refine va_get (D := (dC, dI)) (ci := 2) (v := .int N_base) (C := RX2) (T := TX2) (N := 8) hx hb hts i_X2_measureBroken_X2 hown hK hP 0 rfl rfl 4 (by decide) (hts (.fieldLink RX2 39 "TokenRow$Numbers" "base" "I") (List.mem_of_getElem? (i := 1) rfl)) (fun _ h9 => h9) rfl dX2_measureBroken_84 ?_
    obtain ⟨z1, hz1, hf⟩ := bd_ok hf
    have hPc := hP.sub (ws' := [(aN, .inr (2, [.ref aS, .ref aF, .ref aB, .ref aR, .int N_base, .int N_first, .int N_significandEnd, .int N_exponentEnd])), (aS, .inr (6, [.ref aSc, .int S_count, .int S_cutShort])), (aSc, .inl (cyC, 81920, .inl Sc))]) [0, 1, 2] rfl
    refine vp_callSi (va_Run.run (va_runV (As := [.int (x3 + (1 : Int32)), .int N_base]) (rest := [.ref aN]) ⟨hx, hb, hml, hown, hts⟩ (m_X2_behindDigits l dC dI cyB cyC cyI cyJ cyZ aN aS aF aB aR aSc  (x3 + (1 : Int32)) N_base N_base N_first N_significandEnd N_exponentEnd S_count S_cutShort Sc n z1 hz1) (cwV 2 hts gX2_measureBroken_X2_behindDigits rfl rfl rfl (by decide +kernel) ⟨Nat.le_of_ble_eq_true rfl, Nat.le_of_ble_eq_true rfl⟩) (proV (va_recv hK hP (ci := 2) (q0 := 0) rfl rfl) hPc hK hN) rfl rfl hl.1 rfl (lv_room (Nat.le_of_ble_eq_true rfl)) dX2_measureBroken_87 ⟨Nat.le_of_ble_eq_true rfl, Nat.le_of_ble_eq_true rfl⟩)) (fun o1 hr9 => ?_)
    subst hr9
    refine lv_goto (tgt := 94) hx hb dX2_measureBroken_90 (by decide) ?_
    exact k_X2_measureBroken_94 (aF := aF) (aB := aB) (aR := aR) CX hA n _ _ _ _ _ _ _ _ _ hf hP hD hS ls (lv_sub hl [1, 2, 0] rfl)
def f_X2_measureBroken_37 (n : Nat) (S_count : Int32) (S_cutShort : Int32) (Sc : Nat → Int32) (N_base : Int32) (N_first : Int32) (N_significandEnd : Int32) (N_exponentEnd : Int32) (x2 : Int32) (t1 : Int32) : Option (Int32 × Int32 × Int32 × Int32 × Int32) :=
  bd (f_X2_behindDigits n t1 N_base N_base t1 N_significandEnd N_exponentEnd S_count S_cutShort Sc) fun o2 =>
  bd (f_X6_look n o2 S_count S_cutShort Sc) fun o3 =>
  if o3 = (46 : Int32) then
  (f_X2_measureBroken_71 n S_count S_cutShort Sc N_base t1 N_significandEnd N_exponentEnd x2 o2 (1 : Int32))
  else
  (f_X2_measureBroken_71 n S_count S_cutShort Sc N_base t1 N_significandEnd N_exponentEnd x2 o2 (0 : Int32))
set_option maxHeartbeats 4000000 in
set_option maxRecDepth 100000 in
theorem k_X2_measureBroken_37 {p : Program} {l : Launch} {e : Env} {s : State} {m : MethodId} {args : Array Value} {below : List Frame} {meth : Method} {c : Code} {dC : Nat → ClassId} {dI : Nat → Nat → Nat} {cyB cyC cyI cyJ cyZ : ClassId} {aN aS aF aB aR aSc : Nat} {S_count : Int32} {S_cutShort : Int32} {Sc : Nat → Int32} {A : Nat → Prop} {out : Int32 × Int32 × Int32 × Int32 × Int32} (CX : cx cX2_measureBroken (some .boolean) 7 RX2 wsX2_measureBroken (dC, dI) (TY cyB cyC cyI cyJ cyZ) p s m args meth c) (hA : ∀ q : Nat, s.heap.size ≤ q → A q) (n : Nat) : J_X2_measureBroken_37 p l e s m args below meth c dC dI cyB cyC cyI cyJ cyZ aN aS aF aB aR aSc S_count S_cutShort Sc A out (f_X2_measureBroken_37 n S_count S_cutShort Sc) := by
  intro N_base N_first N_significandEnd N_exponentEnd x2 t1 H locs hf hP hD hS ls hl
  obtain ⟨hx, hb, hr, hml, hown, hts, hlocks, hK, hN⟩ := id CX
  unfold f_X2_measureBroken_37 at hf
  refine va_put (D := (dC, dI)) (ci := 2) (v := .int t1) (ty := .int) (C := RX2) (T := TX2) (N := 8) hx hb hts i_X2_measureBroken_X2 tyX2 tyX2_ok nmX2 hown hK hP hD hS 0 rfl rfl 5 (by decide) (hts (.fieldLink RX2 43 "TokenRow$Numbers" "first" "I") (List.mem_of_getElem? (i := 2) rfl)) (fun _ h9 => h9) rfl (by decide +kernel) rfl rfl (Nat.le_of_ble_eq_true rfl) dX2_measureBroken_37 (fun H1 locs hP hD hS => ?_)
  have hP : va_P (dC, dI) vwCl [(aN, .inr (2, [.ref aS, .ref aF, .ref aB, .ref aR, .int N_base, .int t1, .int N_significandEnd, .int N_exponentEnd])), (aS, .inr (6, [.ref aSc, .int S_count, .int S_cutShort])), (aSc, .inl (cyC, 81920, .inl Sc))] H1 := hP
  have hD : va_D A [(aN, .inr (2, [.ref aS, .ref aF, .ref aB, .ref aR, .int N_base, .int t1, .int N_significandEnd, .int N_exponentEnd])), (aS, .inr (6, [.ref aSc, .int S_count, .int S_cutShort])), (aSc, .inl (cyC, 81920, .inl Sc))] := hD
  refine lv_aload_n hx hb dX2_measureBroken_40 rfl (lv_at hl 0 rfl) ?_
  refine lv_aload_n hx hb dX2_measureBroken_41 rfl (lv_at hl 0 rfl) ?_
  refine va_get (D := (dC, dI)) (ci := 2) (v := .int t1) (C := RX2) (T := TX2) (N := 8) hx hb hts i_X2_measureBroken_X2 hown hK hP 0 rfl rfl 5 (by decide) (hts (.fieldLink RX2 43 "TokenRow$Numbers" "first" "I") (List.mem_of_getElem? (i := 2) rfl)) (fun _ h9 => h9) rfl dX2_measureBroken_42 ?_
  refine lv_aload_n hx hb dX2_measureBroken_45 rfl (lv_at hl 0 rfl) ?_
  refine va_get (D := (dC, dI)) (ci := 2) (v := .int N_base) (C := RX2) (T := TX2) (N := 8) hx hb hts i_X2_measureBroken_X2 hown hK hP 0 rfl rfl 4 (by decide) (hts (.fieldLink RX2 39 "TokenRow$Numbers" "base" "I") (List.mem_of_getElem? (i := 1) rfl)) (fun _ h9 => h9) rfl dX2_measureBroken_46 ?_
  obtain ⟨z2, hz2, hf⟩ := bd_ok hf
  have hPc := hP.sub (ws' := [(aN, .inr (2, [.ref aS, .ref aF, .ref aB, .ref aR, .int N_base, .int t1, .int N_significandEnd, .int N_exponentEnd])), (aS, .inr (6, [.ref aSc, .int S_count, .int S_cutShort])), (aSc, .inl (cyC, 81920, .inl Sc))]) [0, 1, 2] rfl
  refine vp_callSi (va_Run.run (va_runV (As := [.int t1, .int N_base]) (rest := []) ⟨hx, hb, hml, hown, hts⟩ (m_X2_behindDigits l dC dI cyB cyC cyI cyJ cyZ aN aS aF aB aR aSc  t1 N_base N_base t1 N_significandEnd N_exponentEnd S_count S_cutShort Sc n z2 hz2) (cwV 2 hts gX2_measureBroken_X2_behindDigits rfl rfl rfl (by decide +kernel) ⟨Nat.le_of_ble_eq_true rfl, Nat.le_of_ble_eq_true rfl⟩) (proV (va_recv hK hP (ci := 2) (q0 := 0) rfl rfl) hPc hK hN) rfl rfl hl.1 rfl (lv_room (Nat.le_of_ble_eq_true rfl)) dX2_measureBroken_49 ⟨Nat.le_of_ble_eq_true rfl, Nat.le_of_ble_eq_true rfl⟩)) (fun o2 hr9 => ?_)
  subst hr9
  refine lv_istore_n (lv' := [(3, .int o2), (0, .ref aN), (2, .int x2)]) hx hb dX2_measureBroken_52 rfl hl (by decide) rfl (fun ls hl => ?_)
  refine lv_aload_n hx hb dX2_measureBroken_53 rfl (lv_at hl 1 rfl) ?_
  refine va_get (D := (dC, dI)) (ci := 2) (v := .ref aS) (C := RX2) (T := TX2) (N := 8) hx hb hts i_X2_measureBroken_X2 hown hK hP 0 rfl rfl 0 (by decide) (hts (.fieldLink RX2 9 "TokenRow$Numbers" "source" "LTokenRow$Source;") (List.mem_of_getElem? (i := 3) rfl)) (fun _ h9 => h9) rfl dX2_measureBroken_54 ?_
  refine lv_iload_n hx hb dX2_measureBroken_57 rfl (lv_at hl 0 rfl) ?_
  obtain ⟨z3, hz3, hf⟩ := bd_ok hf
  have hPc := hP.sub (ws' := [(aS, .inr (6, [.ref aSc, .int S_count, .int S_cutShort])), (aSc, .inl (cyC, 81920, .inl Sc))]) [1, 2] rfl
  refine vp_callSi (va_Run.run (va_runV (As := [.int o2]) (rest := []) ⟨hx, hb, hml, hown, hts⟩ (m_X6_look l dC dI cyB cyC cyI cyJ cyZ aS aSc  o2 S_count S_cutShort Sc n z3 hz3) (cwV 1 hts gX2_measureBroken_X6_look rfl rfl rfl (by decide +kernel) ⟨Nat.le_of_ble_eq_true rfl, Nat.le_of_ble_eq_true rfl⟩) (proV (va_recv hK hP (ci := 6) (q0 := 1) rfl rfl) hPc hK hN) rfl rfl hl.1 rfl (lv_room (Nat.le_of_ble_eq_true rfl)) dX2_measureBroken_58 ⟨Nat.le_of_ble_eq_true rfl, Nat.le_of_ble_eq_true rfl⟩)) (fun o3 hr9 => ?_)
  subst hr9
  refine lv_bipush (v := (46 : Int32)) hx hb dX2_measureBroken_61 (by decide) ?_
  refine lv_icmp_ne (tgt := 70) hx hb dX2_measureBroken_63 (by decide) (fun hc => ?_) (fun hc => ?_)
  · have hf := (if_neg hc).symm.trans hf
    refine lv_iconst (v := (0 : Int32)) hx hb dX2_measureBroken_70 (by decide) ?_
    exact k_X2_measureBroken_71 (aF := aF) (aB := aB) (aR := aR) CX hA n _ _ _ _ _ _ _ _ _ hf hP hD hS ls (lv_sub hl [1, 2, 0] rfl)
  · have hf := (if_pos hc).symm.trans hf
    refine lv_iconst (v := (1 : Int32)) hx hb dX2_measureBroken_66 (by decide) ?_
    refine lv_goto (tgt := 71) hx hb dX2_measureBroken_67 (by decide) ?_
    exact k_X2_measureBroken_71 (aF := aF) (aB := aB) (aR := aR) CX hA n _ _ _ _ _ _ _ _ _ hf hP hD hS ls (lv_sub hl [1, 2, 0] rfl)
def f_X2_measureBroken_22 (n : Nat) (S_count : Int32) (S_cutShort : Int32) (Sc : Nat → Int32) (N_base : Int32) (N_first : Int32) (N_significandEnd : Int32) (N_exponentEnd : Int32) (x1 : Int32) (x2 : Int32) (t1 : Int32) : Option (Int32 × Int32 × Int32 × Int32 × Int32) :=
  if x2 = 0 then
  (f_X2_measureBroken_37 n S_count S_cutShort Sc t1 N_first N_significandEnd N_exponentEnd x2 x1)
  else
  (f_X2_measureBroken_37 n S_count S_cutShort Sc t1 N_first N_significandEnd N_exponentEnd x2 (x1 + (2 : Int32)))
set_option maxHeartbeats 4000000 in
set_option maxRecDepth 100000 in
theorem k_X2_measureBroken_22 {p : Program} {l : Launch} {e : Env} {s : State} {m : MethodId} {args : Array Value} {below : List Frame} {meth : Method} {c : Code} {dC : Nat → ClassId} {dI : Nat → Nat → Nat} {cyB cyC cyI cyJ cyZ : ClassId} {aN aS aF aB aR aSc : Nat} {S_count : Int32} {S_cutShort : Int32} {Sc : Nat → Int32} {A : Nat → Prop} {out : Int32 × Int32 × Int32 × Int32 × Int32} (CX : cx cX2_measureBroken (some .boolean) 7 RX2 wsX2_measureBroken (dC, dI) (TY cyB cyC cyI cyJ cyZ) p s m args meth c) (hA : ∀ q : Nat, s.heap.size ≤ q → A q) (n : Nat) : J_X2_measureBroken_22 p l e s m args below meth c dC dI cyB cyC cyI cyJ cyZ aN aS aF aB aR aSc S_count S_cutShort Sc A out (f_X2_measureBroken_22 n S_count S_cutShort Sc) := by
  intro N_base N_first N_significandEnd N_exponentEnd x1 x2 t1 H locs hf hP hD hS ls hl
  obtain ⟨hx, hb, hr, hml, hown, hts, hlocks, hK, hN⟩ := id CX
  unfold f_X2_measureBroken_22 at hf
  refine va_put (D := (dC, dI)) (ci := 2) (v := .int t1) (ty := .int) (C := RX2) (T := TX2) (N := 8) hx hb hts i_X2_measureBroken_X2 tyX2 tyX2_ok nmX2 hown hK hP hD hS 0 rfl rfl 4 (by decide) (hts (.fieldLink RX2 39 "TokenRow$Numbers" "base" "I") (List.mem_of_getElem? (i := 1) rfl)) (fun _ h9 => h9) rfl (by decide +kernel) rfl rfl (Nat.le_of_ble_eq_true rfl) dX2_measureBroken_22 (fun H1 locs hP hD hS => ?_)
  have hP : va_P (dC, dI) vwCl [(aN, .inr (2, [.ref aS, .ref aF, .ref aB, .ref aR, .int t1, .int N_first, .int N_significandEnd, .int N_exponentEnd])), (aS, .inr (6, [.ref aSc, .int S_count, .int S_cutShort])), (aSc, .inl (cyC, 81920, .inl Sc))] H1 := hP
  have hD : va_D A [(aN, .inr (2, [.ref aS, .ref aF, .ref aB, .ref aR, .int t1, .int N_first, .int N_significandEnd, .int N_exponentEnd])), (aS, .inr (6, [.ref aSc, .int S_count, .int S_cutShort])), (aSc, .inl (cyC, 81920, .inl Sc))] := hD
  refine lv_aload_n hx hb dX2_measureBroken_25 rfl (lv_at hl 0 rfl) ?_
  refine lv_iload_n hx hb dX2_measureBroken_26 rfl (lv_at hl 2 rfl) ?_
  refine lv_if_eq (tgt := 36) hx hb dX2_measureBroken_27 (by decide) (fun hc => ?_) (fun hc => ?_)
  · have hf := (if_pos hc).symm.trans hf
    refine lv_iload_n hx hb dX2_measureBroken_36 rfl (lv_at hl 1 rfl) ?_
    exact k_X2_measureBroken_37 (aF := aF) (aB := aB) (aR := aR) CX hA n _ _ _ _ _ _ _ _ hf hP hD hS ls (lv_sub hl [0, 2] rfl)
  · have hf := (if_neg hc).symm.trans hf
    refine lv_iload_n hx hb dX2_measureBroken_30 rfl (lv_at hl 1 rfl) ?_
    refine lv_iconst (v := (2 : Int32)) hx hb dX2_measureBroken_31 (by decide) ?_
    refine lv_iadd hx hb dX2_measureBroken_32 ?_
    refine lv_goto (tgt := 37) hx hb dX2_measureBroken_33 (by decide) ?_
    exact k_X2_measureBroken_37 (aF := aF) (aB := aB) (aR := aR) CX hA n _ _ _ _ _ _ _ _ hf hP hD hS ls (lv_sub hl [0, 2] rfl)
def f_X2_measureBroken_0 (n : Nat) (S_count : Int32) (S_cutShort : Int32) (Sc : Nat → Int32) (N_base : Int32) (N_first : Int32) (N_significandEnd : Int32) (N_exponentEnd : Int32) (x1 : Int32) : Option (Int32 × Int32 × Int32 × Int32 × Int32) :=
  bd (f_X2_hasMark n x1 (120 : Int32) (88 : Int32) N_base N_first N_significandEnd N_exponentEnd S_count S_cutShort Sc) fun o1 =>
  if o1 = 0 then
  (f_X2_measureBroken_22 n S_count S_cutShort Sc N_base N_first N_significandEnd N_exponentEnd x1 o1 (10 : Int32))
  else
  (f_X2_measureBroken_22 n S_count S_cutShort Sc N_base N_first N_significandEnd N_exponentEnd x1 o1 (16 : Int32))
set_option maxHeartbeats 4000000 in
set_option maxRecDepth 100000 in
theorem k_X2_measureBroken_0 {p : Program} {l : Launch} {e : Env} {s : State} {m : MethodId} {args : Array Value} {below : List Frame} {meth : Method} {c : Code} {dC : Nat → ClassId} {dI : Nat → Nat → Nat} {cyB cyC cyI cyJ cyZ : ClassId} {aN aS aF aB aR aSc : Nat} {S_count : Int32} {S_cutShort : Int32} {Sc : Nat → Int32} {A : Nat → Prop} {out : Int32 × Int32 × Int32 × Int32 × Int32} (CX : cx cX2_measureBroken (some .boolean) 7 RX2 wsX2_measureBroken (dC, dI) (TY cyB cyC cyI cyJ cyZ) p s m args meth c) (hA : ∀ q : Nat, s.heap.size ≤ q → A q) (n : Nat) : J_X2_measureBroken_0 p l e s m args below meth c dC dI cyB cyC cyI cyJ cyZ aN aS aF aB aR aSc S_count S_cutShort Sc A out (f_X2_measureBroken_0 n S_count S_cutShort Sc) := by
  intro N_base N_first N_significandEnd N_exponentEnd x1 H locs hf hP hD hS ls hl
  obtain ⟨hx, hb, hr, hml, hown, hts, hlocks, hK, hN⟩ := id CX
  unfold f_X2_measureBroken_0 at hf
  refine lv_aload_n hx hb dX2_measureBroken_0 rfl (lv_at hl 0 rfl) ?_
  refine lv_iload_n hx hb dX2_measureBroken_1 rfl (lv_at hl 1 rfl) ?_
  refine lv_bipush (v := (120 : Int32)) hx hb dX2_measureBroken_2 (by decide) ?_
  refine lv_bipush (v := (88 : Int32)) hx hb dX2_measureBroken_4 (by decide) ?_
  obtain ⟨z1, hz1, hf⟩ := bd_ok hf
  have hPc := hP.sub (ws' := [(aN, .inr (2, [.ref aS, .ref aF, .ref aB, .ref aR, .int N_base, .int N_first, .int N_significandEnd, .int N_exponentEnd])), (aS, .inr (6, [.ref aSc, .int S_count, .int S_cutShort])), (aSc, .inl (cyC, 81920, .inl Sc))]) [0, 1, 2] rfl
  refine vp_callSi (va_Run.run (va_runV (As := [.int x1, .int (120 : Int32), .int (88 : Int32)]) (rest := []) ⟨hx, hb, hml, hown, hts⟩ (m_X2_hasMark l dC dI cyB cyC cyI cyJ cyZ aN aS aF aB aR aSc  x1 (120 : Int32) (88 : Int32) N_base N_first N_significandEnd N_exponentEnd S_count S_cutShort Sc n z1 hz1) (cwV 3 hts gX2_measureBroken_X2_hasMark rfl rfl rfl (by decide +kernel) ⟨Nat.le_of_ble_eq_true rfl, Nat.le_of_ble_eq_true rfl⟩) (proV (va_recv hK hP (ci := 2) (q0 := 0) rfl rfl) hPc hK hN) rfl rfl hl.1 rfl (lv_room (Nat.le_of_ble_eq_true rfl)) dX2_measureBroken_6 ⟨Nat.le_of_ble_eq_true rfl, Nat.le_of_ble_eq_true rfl⟩)) (fun o1 hr9 => ?_)
  subst hr9
  refine lv_istore_n (lv' := [(2, .int o1), (0, .ref aN), (1, .int x1)]) hx hb dX2_measureBroken_9 rfl hl (by decide) rfl (fun ls hl => ?_)
  refine lv_aload_n hx hb dX2_measureBroken_10 rfl (lv_at hl 1 rfl) ?_
  refine lv_iload_n hx hb dX2_measureBroken_11 rfl (lv_at hl 0 rfl) ?_
  refine lv_if_eq (tgt := 20) hx hb dX2_measureBroken_12 (by decide) (fun hc => ?_) (fun hc => ?_)
  · have hf := (if_pos hc).symm.trans hf
    refine lv_bipush (v := (10 : Int32)) hx hb dX2_measureBroken_20 (by decide) ?_
    exact k_X2_measureBroken_22 (aF := aF) (aB := aB) (aR := aR) CX hA n _ _ _ _ _ _ _ _ _ hf hP hD hS ls (lv_sub hl [1, 2, 0] rfl)
  · have hf := (if_neg hc).symm.trans hf
    refine lv_bipush (v := (16 : Int32)) hx hb dX2_measureBroken_15 (by decide) ?_
    refine lv_goto (tgt := 22) hx hb dX2_measureBroken_17 (by decide) ?_
    exact k_X2_measureBroken_22 (aF := aF) (aB := aB) (aR := aR) CX hA n _ _ _ _ _ _ _ _ _ hf hP hD hS ls (lv_sub hl [1, 2, 0] rfl)
def f_X2_measureBroken (n : Nat) (p1 : Int32) (N_base : Int32) (N_first : Int32) (N_significandEnd : Int32) (N_exponentEnd : Int32) (S_count : Int32) (S_cutShort : Int32) (Sc : Nat → Int32) : Option (Int32 × Int32 × Int32 × Int32 × Int32) := f_X2_measureBroken_0 n S_count S_cutShort Sc N_base N_first N_significandEnd N_exponentEnd p1
set_option maxHeartbeats 4000000 in
set_option maxRecDepth 100000 in
/-- TokenRow$Numbers.measureBroken(I)Z -/
theorem m_X2_measureBroken (l : Launch) (dC : Nat → ClassId) (dI : Nat → Nat → Nat) (cyB cyC cyI cyJ cyZ : ClassId) (aN aS aF aB aR aSc : Nat) (sz : Nat) (p1 : Int32) (N_base : Int32) (N_first : Int32) (N_significandEnd : Int32) (N_exponentEnd : Int32) (S_count : Int32) (S_cutShort : Int32) (Sc : Nat → Int32) (n : Nat) (out : Int32 × Int32 × Int32 × Int32 × Int32) (hf : f_X2_measureBroken n p1 N_base N_first N_significandEnd N_exponentEnd S_count S_cutShort Sc = some out) : Met l yX2_measureBroken wsX2_measureBroken rm_X2_measureBroken (Prw (dC, dI) (TY cyB cyC cyI cyJ cyZ) [.ref aN, .int p1] sz [(aN, .inr (2, [.ref aS, .ref aF, .ref aB, .ref aR, .int N_base, .int N_first, .int N_significandEnd, .int N_exponentEnd])), (aS, .inr (6, [.ref aSc, .int S_count, .int S_cutShort])), (aSc, .inl (cyC, 81920, .inl Sc))]) (va_Qi (fun (r : Int32) (u : Int32 × Int32 × Int32 × Int32) => (r, u) = out) (Bw (dC, dI) (va_A [(aN, .inr (2, [.ref aS, .ref aF, .ref aB, .ref aR, .int N_base, .int N_first, .int N_significandEnd, .int N_exponentEnd])), (aS, .inr (6, [.ref aSc, .int S_count, .int S_cutShort])), (aSc, .inl (cyC, 81920, .inl Sc))] sz) (fun u => [(aN, .inr (2, [.ref aS, .ref aF, .ref aB, .ref aR, .int u.1, .int u.2.1, .int u.2.2.1, .int u.2.2.2])), (aS, .inr (6, [.ref aSc, .int S_count, .int S_cutShort])), (aSc, .inl (cyC, 81920, .inl Sc))])) (va_A [(aN, .inr (2, [.ref aS, .ref aF, .ref aB, .ref aR, .int N_base, .int N_first, .int N_significandEnd, .int N_exponentEnd])), (aS, .inr (6, [.ref aSc, .int S_count, .int S_cutShort])), (aSc, .inl (cyC, 81920, .inl Sc))] sz)) 0 0 (va_A [(aN, .inr (2, [.ref aS, .ref aF, .ref aB, .ref aR, .int N_base, .int N_first, .int N_significandEnd, .int N_exponentEnd])), (aS, .inr (6, [.ref aSc, .int S_count, .int S_cutShort])), (aSc, .inl (cyC, 81920, .inl Sc))] sz) := by
  refine Met.ofW (cc := cX2_measureBroken) (maxL := 7) (ret := (some .boolean)) (by decide) rfl ?_
  intro p e s m args below meth c s₁ B hml hv
  obtain ⟨rfl, hsz, hP, hK, hD0, hN⟩ := hv
  subst hsz
  have hD := hD0.self (sz := s.heap.size)
  have CX : cx cX2_measureBroken (some .boolean) 7 RX2 wsX2_measureBroken (dC, dI) (TY cyB cyC cyI cyJ cyZ) p s m ([.ref aN, .int p1] : List Value).toArray meth c := ⟨B.exec, B.bytes, B.returns, hml, findClass_of_methodNamed B.named, atoms_spec (ws := wsX2_measureBroken) B.pre, B.notSynchronized, hK, hN⟩
  have hl := lv_entry ([.ref aN, .int p1]) (n := 7) (Nat.le_of_ble_eq_true rfl)
  rw [lg_entry_eq]
  exact k_X2_measureBroken_0 (aF := aF) (aB := aB) (aR := aR) CX (fun q h => Or.inr h) n _ _ _ _ _ _ _ hf hP hD va_S.rf _ hl
abbrev rm_X2_sumUp : Room := { frames := 1, cells := 0, slots := 0, locals := 25 }
theorem i_X2_sumUp_X0 : ∀ w ∈ u_ws RX0 TX0 2, w ∈ wsX2_sumUp := fun _ h => (List.mem_cons_of_mem _ (List.mem_append_left _ (List.mem_append_right _ h)))
theorem i_X2_sumUp_X2 : ∀ w ∈ u_ws RX2 TX2 8, w ∈ wsX2_sumUp := fun _ h => (List.mem_cons_of_mem _ (List.mem_append_left _ (List.mem_append_left _ (List.mem_append_right _ h))))
theorem i_X2_sumUp_X6 : ∀ w ∈ u_ws RX6 TX6 3, w ∈ wsX2_sumUp := fun _ h => (List.mem_cons_of_mem _ (List.mem_append_right _ h))
def J_X2_sumUp_16 (p : Program) (l : Launch) (e : Env) (s : State) (m : MethodId) (args : Array Value) (below : List Frame) (meth : Method) (c : Code) (dC : Nat → ClassId) (dI : Nat → Nat → Nat) (cyB cyC cyI cyJ cyZ : ClassId) (aN aS aF aB aR aSc aBl : Nat) (N_base : Int32) (N_first : Int32) (N_significandEnd : Int32) (N_exponentEnd : Int32) (S_count : Int32) (S_cutShort : Int32) (Sc : Nat → Int32) (A : Nat → Prop) (out : Int32 × Int32 × (Nat → Int32)) (g : Int32 → (Nat → Int32) → Int32 → Int32 → Int32 → Int32 → Option (Int32 × Int32 × (Nat → Int32))) : Prop := ∀ (B_used : Int32) (Bl : Nat → Int32) (x2 : Int32) (x3 : Int32) (x4 : Int32) (x5 : Int32) (H : Heap) (locs : List Loc), g B_used Bl x2 x3 x4 x5 = some out → va_P (dC, dI) vwCl [(aN, .inr (2, [.ref aS, .ref aF, .ref aB, .ref aR, .int N_base, .int N_first, .int N_significandEnd, .int N_exponentEnd])), (aS, .inr (6, [.ref aSc, .int S_count, .int S_cutShort])), (aSc, .inl (cyC, 81920, .inl Sc)), (aB, .inr (0, [.ref aBl, .int B_used])), (aBl, .inl (cyI, 136, .inl Bl))] H → va_D A [(aN, .inr (2, [.ref aS, .ref aF, .ref aB, .ref aR, .int N_base, .int N_first, .int N_significandEnd, .int N_exponentEnd])), (aS, .inr (6, [.ref aSc, .int S_count, .int S_cutShort])), (aSc, .inl (cyC, 81920, .inl Sc)), (aB, .inr (0, [.ref aBl, .int B_used])), (aBl, .inl (cyI, 136, .inl Bl))] → va_S A s.heap H locs → ∀ ls : Array Slot, lv_has ls 7 [(0, .ref aN), (2, .int x2), (3, .int x3), (4, .int x4), (5, .int x5)] → W p l e rm_X2_sumUp s m args below meth c H locs 0 0 (MQ below (va_Qi (fun (r : Int32) (u : Int32 × (Nat → Int32)) => (r, u) = out) (Bw (dC, dI) A (fun u => [(aN, .inr (2, [.ref aS, .ref aF, .ref aB, .ref aR, .int N_base, .int N_first, .int N_significandEnd, .int N_exponentEnd])), (aS, .inr (6, [.ref aSc, .int S_count, .int S_cutShort])), (aSc, .inl (cyC, 81920, .inl Sc)), (aB, .inr (0, [.ref aBl, .int u.1])), (aBl, .inl (cyI, 136, .inl u.2))])) A) args s 0 0 A) (F0 m 16 ls [])
def J_X2_sumUp_82 (p : Program) (l : Launch) (e : Env) (s : State) (m : MethodId) (args : Array Value) (below : List Frame) (meth : Method) (c : Code) (dC : Nat → ClassId) (dI : Nat → Nat → Nat) (cyB cyC cyI cyJ cyZ : ClassId) (aN aS aF aB aR aSc aBl : Nat) (N_base : Int32) (N_first : Int32) (N_significandEnd : Int32) (N_exponentEnd : Int32) (S_count : Int32) (S_cutShort : Int32) (Sc : Nat → Int32) (A : Nat → Prop) (out : Int32 × Int32 × (Nat → Int32)) (g : Int32 → (Nat → Int32) → Int32 → Int32 → Int32 → Int32 → Option (Int32 × Int32 × (Nat → Int32))) : Prop := ∀ (B_used : Int32) (Bl : Nat → Int32) (x2 : Int32) (x3 : Int32) (x4 : Int32) (x5 : Int32) (H : Heap) (locs : List Loc), g B_used Bl x2 x3 x4 x5 = some out → va_P (dC, dI) vwCl [(aN, .inr (2, [.ref aS, .ref aF, .ref aB, .ref aR, .int N_base, .int N_first, .int N_significandEnd, .int N_exponentEnd])), (aS, .inr (6, [.ref aSc, .int S_count, .int S_cutShort])), (aSc, .inl (cyC, 81920, .inl Sc)), (aB, .inr (0, [.ref aBl, .int B_used])), (aBl, .inl (cyI, 136, .inl Bl))] H → va_D A [(aN, .inr (2, [.ref aS, .ref aF, .ref aB, .ref aR, .int N_base, .int N_first, .int N_significandEnd, .int N_exponentEnd])), (aS, .inr (6, [.ref aSc, .int S_count, .int S_cutShort])), (aSc, .inl (cyC, 81920, .inl Sc)), (aB, .inr (0, [.ref aBl, .int B_used])), (aBl, .inl (cyI, 136, .inl Bl))] → va_S A s.heap H locs → ∀ ls : Array Slot, lv_has ls 7 [(0, .ref aN), (2, .int x2), (3, .int x3), (4, .int x4), (5, .int x5)] → W p l e rm_X2_sumUp s m args below meth c H locs 0 0 (MQ below (va_Qi (fun (r : Int32) (u : Int32 × (Nat → Int32)) => (r, u) = out) (Bw (dC, dI) A (fun u => [(aN, .inr (2, [.ref aS, .ref aF, .ref aB, .ref aR, .int N_base, .int N_first, .int N_significandEnd, .int N_exponentEnd])), (aS, .inr (6, [.ref aSc, .int S_count, .int S_cutShort])), (aSc, .inl (cyC, 81920, .inl Sc)), (aB, .inr (0, [.ref aBl, .int u.1])), (aBl, .inl (cyI, 136, .inl u.2))])) A) args s 0 0 A) (F0 m 82 ls [])
def J_X2_sumUp_80 (p : Program) (l : Launch) (e : Env) (s : State) (m : MethodId) (args : Array Value) (below : List Frame) (meth : Method) (c : Code) (dC : Nat → ClassId) (dI : Nat → Nat → Nat) (cyB cyC cyI cyJ cyZ : ClassId) (aN aS aF aB aR aSc aBl : Nat) (N_base : Int32) (N_first : Int32) (N_significandEnd : Int32) (N_exponentEnd : Int32) (S_count : Int32) (S_cutShort : Int32) (Sc : Nat → Int32) (A : Nat → Prop) (out : Int32 × Int32 × (Nat → Int32)) (g : Int32 → (Nat → Int32) → Int32 → Int32 → Int32 → Int32 → Int32 → Option (Int32 × Int32 × (Nat → Int32))) : Prop := ∀ (B_used : Int32) (Bl : Nat → Int32) (x2 : Int32) (x4 : Int32) (x5 : Int32) (t0 : Int32) (t1 : Int32) (H : Heap) (locs : List Loc), g B_used Bl x2 x4 x5 t0 t1 = some out → va_P (dC, dI) vwCl [(aN, .inr (2, [.ref aS, .ref aF, .ref aB, .ref aR, .int N_base, .int N_first, .int N_significandEnd, .int N_exponentEnd])), (aS, .inr (6, [.ref aSc, .int S_count, .int S_cutShort])), (aSc, .inl (cyC, 81920, .inl Sc)), (aB, .inr (0, [.ref aBl, .int B_used])), (aBl, .inl (cyI, 136, .inl Bl))] H → va_D A [(aN, .inr (2, [.ref aS, .ref aF, .ref aB, .ref aR, .int N_base, .int N_first, .int N_significandEnd, .int N_exponentEnd])), (aS, .inr (6, [.ref aSc, .int S_count, .int S_cutShort])), (aSc, .inl (cyC, 81920, .inl Sc)), (aB, .inr (0, [.ref aBl, .int B_used])), (aBl, .inl (cyI, 136, .inl Bl))] → va_S A s.heap H locs → ∀ ls : Array Slot, lv_has ls 7 [(0, .ref aN), (2, .int x2), (4, .int x4), (5, .int x5)] → W p l e rm_X2_sumUp s m args below meth c H locs 0 0 (MQ below (va_Qi (fun (r : Int32) (u : Int32 × (Nat → Int32)) => (r, u) = out) (Bw (dC, dI) A (fun u => [(aN, .inr (2, [.ref aS, .ref aF, .ref aB, .ref aR, .int N_base, .int N_first, .int N_significandEnd, .int N_exponentEnd])), (aS, .inr (6, [.ref aSc, .int S_count, .int S_cutShort])), (aSc, .inl (cyC, 81920, .inl Sc)), (aB, .inr (0, [.ref aBl, .int u.1])), (aBl, .inl (cyI, 136, .inl u.2))])) A) args s 0 0 A) (F0 m 80 ls [.int t1, .int t0])
def J_X2_sumUp_0 (p : Program) (l : Launch) (e : Env) (s : State) (m : MethodId) (args : Array Value) (below : List Frame) (meth : Method) (c : Code) (dC : Nat → ClassId) (dI : Nat → Nat → Nat) (cyB cyC cyI cyJ cyZ : ClassId) (aN aS aF aB aR aSc aBl : Nat) (N_base : Int32) (N_first : Int32) (N_significandEnd : Int32) (N_exponentEnd : Int32) (S_count : Int32) (S_cutShort : Int32) (Sc : Nat → Int32) (A : Nat → Prop) (out : Int32 × Int32 × (Nat → Int32)) (g : Int32 → (Nat → Int32) → Int32 → Int32 → Option (Int32 × Int32 × (Nat → Int32))) : Prop := ∀ (B_used : Int32) (Bl : Nat → Int32) (x1 : Int32) (x2 : Int32) (H : Heap) (locs : List Loc), g B_used Bl x1 x2 = some out → va_P (dC, dI) vwCl [(aN, .inr (2, [.ref aS, .ref aF, .ref aB, .ref aR, .int N_base, .int N_first, .int N_significandEnd, .int N_exponentEnd])), (aS, .inr (6, [.ref aSc, .int S_count, .int S_cutShort])), (aSc, .inl (cyC, 81920, .inl Sc)), (aB, .inr (0, [.ref aBl, .int B_used])), (aBl, .inl (cyI, 136, .inl Bl))] H → va_D A [(aN, .inr (2, [.ref aS, .ref aF, .ref aB, .ref aR, .int N_base, .int N_first, .int N_significandEnd, .int N_exponentEnd])), (aS, .inr (6, [.ref aSc, .int S_count, .int S_cutShort])), (aSc, .inl (cyC, 81920, .inl Sc)), (aB, .inr (0, [.ref aBl, .int B_used])), (aBl, .inl (cyI, 136, .inl Bl))] → va_S A s.heap H locs → ∀ ls : Array Slot, lv_has ls 7 [(0, .ref aN), (1, .int x1), (2, .int x2)] → W p l e rm_X2_sumUp s m args below meth c H locs 0 0 (MQ below (va_Qi (fun (r : Int32) (u : Int32 × (Nat → Int32)) => (r, u) = out) (Bw (dC, dI) A (fun u => [(aN, .inr (2, [.ref aS, .ref aF, .ref aB, .ref aR, .int N_base, .int N_first, .int N_significandEnd, .int N_exponentEnd])), (aS, .inr (6, [.ref aSc, .int S_count, .int S_cutShort])), (aSc, .inl (cyC, 81920, .inl Sc)), (aB, .inr (0, [.ref aBl, .int u.1])), (aBl, .inl (cyI, 136, .inl u.2))])) A) args s 0 0 A) (F0 m 0 ls [])
def f_X2_sumUp_82 (n : Nat) (r16 : Int32 → (Nat → Int32) → Int32 → Int32 → Int32 → Int32 → Option (Int32 × Int32 × (Nat → Int32))) (N_base : Int32) (N_first : Int32) (N_significandEnd : Int32) (N_exponentEnd : Int32) (S_count : Int32) (S_cutShort : Int32) (Sc : Nat → Int32) (B_used : Int32) (Bl : Nat → Int32) (x2 : Int32) (x3 : Int32) (x4 : Int32) (x5 : Int32) : Option (Int32 × Int32 × (Nat → Int32)) :=
  lt_ (x5 + (1 : Int32)) fun y1 =>
  r16 B_used Bl x2 x3 x4 y1
set_option maxHeartbeats 4000000 in
set_option maxRecDepth 100000 in
theorem k_X2_sumUp_82 {p : Program} {l : Launch} {e : Env} {s : State} {m : MethodId} {args : Array Value} {below : List Frame} {meth : Method} {c : Code} {dC : Nat → ClassId} {dI : Nat → Nat → Nat} {cyB cyC cyI cyJ cyZ : ClassId} {aN aS aF aB aR aSc aBl : Nat} {N_base : Int32} {N_first : Int32} {N_significandEnd : Int32} {N_exponentEnd : Int32} {S_count : Int32} {S_cutShort : Int32} {Sc : Nat → Int32} {A : Nat → Prop} {out : Int32 × Int32 × (Nat → Int32)} (CX : cx cX2_sumUp (some .int) 7 RX2 wsX2_sumUp (dC, dI) (TY cyB cyC cyI cyJ cyZ) p s m args meth c) (hA : ∀ q : Nat, s.heap.size ≤ q → A q) (n : Nat) {r16 : Int32 → (Nat → Int32) → Int32 → Int32 → Int32 → Int32 → Option (Int32 × Int32 × (Nat → Int32))} (hr16 : J_X2_sumUp_16 p l e s m args below meth c dC dI cyB cyC cyI cyJ cyZ aN aS aF aB aR aSc aBl N_base N_first N_significandEnd N_exponentEnd S_count S_cutShort Sc A out r16) : J_X2_sumUp_82 p l e s m args below meth c dC dI cyB cyC cyI cyJ cyZ aN aS aF aB aR aSc aBl N_base N_first N_significandEnd N_exponentEnd S_count S_cutShort Sc A out (f_X2_sumUp_82 n r16 N_base N_first N_significandEnd N_exponentEnd S_count S_cutShort Sc) := by
  intro B_used Bl x2 x3 x4 x5 H locs hf hP hD hS ls hl
  obtain ⟨hx, hb, hr, hml, hown, hts, hlocks, hK, hN⟩ := id CX
  unfold f_X2_sumUp_82 at hf
  obtain ⟨y1, ey1⟩ : ∃ y : Int32, y = x5 + (1 : Int32) := ⟨_, rfl⟩
  have hf := lt_ok hf y1 ey1
  refine lv_iinc (v := y1) (lv' := [(5, .int y1), (0, .ref aN), (2, .int x2), (3, .int x3), (4, .int x4)]) hx hb dX2_sumUp_82 hl (k := 4) rfl (by rw [ey1]; rfl) (by decide) rfl (fun ls hl => ?_)
  refine lv_goto (tgt := 16) hx hb dX2_sumUp_85 (by decide) ?_
  exact hr16 _ _ _ _ _ _ _ _ hf hP hD hS ls (lv_sub hl [1, 2, 3, 4, 0] rfl)
def f_X2_sumUp_80 (n : Nat) (r16 : Int32 → (Nat → Int32) → Int32 → Int32 → Int32 → Int32 → Option (Int32 × Int32 × (Nat → Int32))) (N_base : Int32) (N_first : Int32) (N_significandEnd : Int32) (N_exponentEnd : Int32) (S_count : Int32) (S_cutShort : Int32) (Sc : Nat → Int32) (B_used : Int32) (Bl : Nat → Int32) (x2 : Int32) (x4 : Int32) (x5 : Int32) (t0 : Int32) (t1 : Int32) : Option (Int32 × Int32 × (Nat → Int32)) :=
  lt_ (t0 + t1) fun y1 =>
  f_X2_sumUp_82 n r16 N_base N_first N_significandEnd N_exponentEnd S_count S_cutShort Sc B_used Bl x2 y1 x4 x5
set_option maxHeartbeats 4000000 in
set_option maxRecDepth 100000 in
theorem k_X2_sumUp_80 {p : Program} {l : Launch} {e : Env} {s : State} {m : MethodId} {args : Array Value} {below : List Frame} {meth : Method} {c : Code} {dC : Nat → ClassId} {dI : Nat → Nat → Nat} {cyB cyC cyI cyJ cyZ : ClassId} {aN aS aF aB aR aSc aBl : Nat} {N_base : Int32} {N_first : Int32} {N_significandEnd : Int32} {N_exponentEnd : Int32} {S_count : Int32} {S_cutShort : Int32} {Sc : Nat → Int32} {A : Nat → Prop} {out : Int32 × Int32 × (Nat → Int32)} (CX : cx cX2_sumUp (some .int) 7 RX2 wsX2_sumUp (dC, dI) (TY cyB cyC cyI cyJ cyZ) p s m args meth c) (hA : ∀ q : Nat, s.heap.size ≤ q → A q) (n : Nat) {r16 : Int32 → (Nat → Int32) → Int32 → Int32 → Int32 → Int32 → Option (Int32 × Int32 × (Nat → Int32))} (hr16 : J_X2_sumUp_16 p l e s m args below meth c dC dI cyB cyC cyI cyJ cyZ aN aS aF aB aR aSc aBl N_base N_first N_significandEnd N_exponentEnd S_count S_cutShort Sc A out r16) : J_X2_sumUp_80 p l e s m args below meth c dC dI cyB cyC cyI cyJ cyZ aN aS aF aB aR aSc aBl N_base N_first N_significandEnd N_exponentEnd S_count S_cutShort Sc A out (f_X2_sumUp_80 n r16 N_base N_first N_significandEnd N_exponentEnd S_count S_cutShort Sc) := by
  intro B_used Bl x2 x4 x5 t0 t1 H locs hf hP hD hS ls hl
  obtain ⟨hx, hb, hr, hml, hown, hts, hlocks, hK, hN⟩ := id CX
  unfold f_X2_sumUp_80 at hf
  refine lv_iadd hx hb dX2_sumUp_80 ?_
  refine lv_topi (fun y1 ey1 => ?_)
  have hf := lt_ok hf y1 ey1
  refine lv_istore_n (lv' := [(3, .int y1), (0, .ref aN), (2, .int x2), (4, .int x4), (5, .int x5)]) hx hb dX2_sumUp_81 rfl hl (by decide) rfl (fun ls hl => ?_)
  exact k_X2_sumUp_82 (aF := aF) (aR := aR) CX hA n hr16 _ _ _ _ _ _ _ _ hf hP hD hS ls (lv_sub hl [1, 2, 0, 3, 4] rfl)
def fb_X2_sumUp_16 (n : Nat) (r16 : Int32 → (Nat → Int32) → Int32 → Int32 → Int32 → Int32 → Option (Int32 × Int32 × (Nat → Int32))) (N_base : Int32) (N_first : Int32) (N_significandEnd : Int32) (N_exponentEnd : Int32) (S_count : Int32) (S_cutShort : Int32) (Sc : Nat → Int32) (B_used : Int32) (Bl : Nat → Int32) (x2 : Int32) (x3 : Int32) (x4 : Int32) (x5 : Int32) : Option (Int32 × Int32 × (Nat → Int32)) :=
  if x2 ≤ x5 then
  (some (x3, B_used, Bl))
  else
  (bd (f_X6_look n x5 S_count S_cutShort Sc) fun o1 =>
  if o1 = (46 : Int32) then
  (f_X2_sumUp_82 n r16 N_base N_first N_significandEnd N_exponentEnd S_count S_cutShort Sc B_used Bl x2 x3 (1 : Int32) x5)
  else
  (if o1 = (95 : Int32) then
  (f_X2_sumUp_82 n r16 N_base N_first N_significandEnd N_exponentEnd S_count S_cutShort Sc B_used Bl x2 x3 x4 x5)
  else
  (bd (f_X9_digitOf n o1 ) fun o2 =>
  bd (f_X0_timesPlus n N_base o2 B_used Bl) fun u5 =>
  if x4 = 0 then
  (f_X2_sumUp_80 n r16 N_base N_first N_significandEnd N_exponentEnd S_count S_cutShort Sc u5.1 u5.2 x2 x4 x5 x3 (0 : Int32))
  else
  (f_X2_sumUp_80 n r16 N_base N_first N_significandEnd N_exponentEnd S_count S_cutShort Sc u5.1 u5.2 x2 x4 x5 x3 (1 : Int32)))))
set_option maxHeartbeats 4000000 in
set_option maxRecDepth 100000 in
theorem kb_X2_sumUp_16 {p : Program} {l : Launch} {e : Env} {s : State} {m : MethodId} {args : Array Value} {below : List Frame} {meth : Method} {c : Code} {dC : Nat → ClassId} {dI : Nat → Nat → Nat} {cyB cyC cyI cyJ cyZ : ClassId} {aN aS aF aB aR aSc aBl : Nat} {N_base : Int32} {N_first : Int32} {N_significandEnd : Int32} {N_exponentEnd : Int32} {S_count : Int32} {S_cutShort : Int32} {Sc : Nat → Int32} {A : Nat → Prop} {out : Int32 × Int32 × (Nat → Int32)} (CX : cx cX2_sumUp (some .int) 7 RX2 wsX2_sumUp (dC, dI) (TY cyB cyC cyI cyJ cyZ) p s m args meth c) (hA : ∀ q : Nat, s.heap.size ≤ q → A q) (n : Nat) {r16 : Int32 → (Nat → Int32) → Int32 → Int32 → Int32 → Int32 → Option (Int32 × Int32 × (Nat → Int32))} (hr16 : J_X2_sumUp_16 p l e s m args below meth c dC dI cyB cyC cyI cyJ cyZ aN aS aF aB aR aSc aBl N_base N_first N_significandEnd N_exponentEnd S_count S_cutShort Sc A out r16) : J_X2_sumUp_16 p l e s m args below meth c dC dI cyB cyC cyI cyJ cyZ aN aS aF aB aR aSc aBl N_base N_first N_significandEnd N_exponentEnd S_count S_cutShort Sc A out (fb_X2_sumUp_16 n r16 N_base N_first N_significandEnd N_exponentEnd S_count S_cutShort Sc) := by
  intro B_used Bl x2 x3 x4 x5 H locs hf hP hD hS ls hl
  obtain ⟨hx, hb, hr, hml, hown, hts, hlocks, hK, hN⟩ := id CX
  unfold fb_X2_sumUp_16 at hf
  refine lv_iload hx hb dX2_sumUp_16 (lv_at hl 4 rfl) ?_
  refine lv_iload_n hx hb dX2_sumUp_18 rfl (lv_at hl 1 rfl) ?_
  refine lv_icmp_ge (tgt := 88) hx hb dX2_sumUp_19 (by decide) (fun hc => ?_) (fun hc => ?_)
  · have hf := (if_pos hc).symm.trans hf
    refine lv_iload_n hx hb dX2_sumUp_88 rfl (lv_at hl 2 rfl) ?_
    exact W.iret (v := x3) hx hb hr (fun t ht hW => ⟨⟨_, (B_used, Bl), rfl, Option.some.inj hf, by rw [ht]; exact hP, hD⟩, hS.F ht⟩) hS.2.2 dX2_sumUp_89
  · have hf := (if_neg hc).symm.trans hf
    refine lv_aload_n hx hb dX2_sumUp_22 rfl (lv_at hl 0 rfl) ?_
    refine va_get (D := (dC, dI)) (ci := 2) (v := .ref aS) (C := RX2) (T := TX2) (N := 8) hx hb hts i_X2_sumUp_X2 hown hK hP 0 rfl rfl 0 (by decide) (hts (.fieldLink RX2 9 "TokenRow$Numbers" "source" "LTokenRow$Source;") (List.mem_of_getElem? (i := 2) rfl)) (fun _ h9 => h9) rfl dX2_sumUp_23 ?_
    refine lv_iload hx hb dX2_sumUp_26 (lv_at hl 4 rfl) ?_
    obtain ⟨z1, hz1, hf⟩ := bd_ok hf
    have hPc := hP.sub (ws' := [(aS, .inr (6, [.ref aSc, .int S_count, .int S_cutShort])), (aSc, .inl (cyC, 81920, .inl Sc))]) [1, 2] rfl
    refine vp_callSi (va_Run.run (va_runV (As := [.int x5]) (rest := []) ⟨hx, hb, hml, hown, hts⟩ (m_X6_look l dC dI cyB cyC cyI cyJ cyZ aS aSc  x5 S_count S_cutShort Sc n z1 hz1) (cwV 1 hts gX2_sumUp_X6_look rfl rfl rfl (by decide +kernel) ⟨Nat.le_of_ble_eq_true rfl, Nat.le_of_ble_eq_true rfl⟩) (proV (va_recv hK hP (ci := 6) (q0 := 1) rfl rfl) hPc hK hN) rfl rfl hl.1 rfl (lv_room (Nat.le_of_ble_eq_true rfl)) dX2_sumUp_28 ⟨Nat.le_of_ble_eq_true rfl, Nat.le_of_ble_eq_true rfl⟩)) (fun o1 hr9 => ?_)
    subst hr9
    refine lv_istore (lv' := [(6, .int o1), (0, .ref aN), (2, .int x2), (3, .int x3), (4, .int x4), (5, .int x5)]) hx hb dX2_sumUp_31 hl (by decide) rfl (fun ls hl => ?_)
    refine lv_iload hx hb dX2_sumUp_33 (lv_at hl 0 rfl) ?_
    refine lv_bipush (v := (46 : Int32)) hx hb dX2_sumUp_35 (by decide) ?_
    refine lv_icmp_ne (tgt := 46) hx hb dX2_sumUp_37 (by decide) (fun hc => ?_) (fun hc => ?_)
    · have hf := (if_neg hc).symm.trans hf
      refine lv_iload hx hb dX2_sumUp_46 (lv_at hl 0 rfl) ?_
      refine lv_bipush (v := (95 : Int32)) hx hb dX2_sumUp_48 (by decide) ?_
      refine lv_icmp_eq (tgt := 82) hx hb dX2_sumUp_50 (by decide) (fun hc => ?_) (fun hc => ?_)
      · have hf := (if_pos hc).symm.trans hf
        exact k_X2_sumUp_82 (aF := aF) (aR := aR) CX hA n hr16 _ _ _ _ _ _ _ _ hf hP hD hS ls (lv_sub hl [1, 2, 3, 4, 5] rfl)
      · have hf := (if_neg hc).symm.trans hf
        refine lv_aload_n hx hb dX2_sumUp_53 rfl (lv_at hl 1 rfl) ?_
        refine va_get (D := (dC, dI)) (ci := 2) (v := .ref aB) (C := RX2) (T := TX2) (N := 8) hx hb hts i_X2_sumUp_X2 hown hK hP 0 rfl rfl 2 (by decide) (hts (.fieldLink RX2 22 "TokenRow$Numbers" "digits" "LTokenRow$Big;") (List.mem_of_getElem? (i := 1) rfl)) (fun _ h9 => h9) rfl dX2_sumUp_54 ?_
        refine lv_aload_n hx hb dX2_sumUp_57 rfl (lv_at hl 1 rfl) ?_
        refine va_get (D := (dC, dI)) (ci := 2) (v := .int N_base) (C := RX2) (T := TX2) (N := 8) hx hb hts i_X2_sumUp_X2 hown hK hP 0 rfl rfl 4 (by decide) (hts (.fieldLink RX2 39 "TokenRow$Numbers" "base" "I") (List.mem_of_getElem? (i := 3) rfl)) (fun _ h9 => h9) rfl dX2_sumUp_58 ?_
        refine lv_iload hx hb dX2_sumUp_61 (lv_at hl 0 rfl) ?_
        obtain ⟨z2, hz2, hf⟩ := bd_ok hf
        have hPc := hP.sub (ws' := []) [] rfl
        refine vp_callSi (va_Run.run (va_runSN (As := [.int o1]) (rest := [.int N_base, .ref aB]) ⟨hx, hb, hml, hown, hts⟩ (m_X9_digitOf l dC dI cyB cyC cyI cyJ cyZ   o1  n z2 hz2) ⟨va_cnB 1 hts ggX2_sumUp_X9_digitOf rfl rfl rfl (hN (.methodLinkNest RX2 117 yX9_digitOf RX9) (List.mem_of_getElem? (i := 9) rfl)) (hts (.initialized RX9) (List.mem_of_getElem? (i := 19) rfl)) (by decide +kernel) ⟨Nat.le_of_ble_eq_true rfl, Nat.le_of_ble_eq_true rfl⟩, (hts (.static yX9_digitOf) (List.mem_of_getElem? (i := 18) rfl)), trivial⟩ (proS hPc hK hN) rfl rfl hl.1 rfl (lv_room (Nat.le_of_ble_eq_true rfl)) dX2_sumUp_63 ⟨Nat.le_of_ble_eq_true rfl, Nat.le_of_ble_eq_true rfl⟩)) (fun o2 hr9 => ?_)
        subst hr9
        obtain ⟨z3, hz3, hf⟩ := bd_ok hf
        have hPc := hP.sub (ws' := [(aB, .inr (0, [.ref aBl, .int B_used])), (aBl, .inl (cyI, 136, .inl Bl))]) [3, 4] rfl
        have hDc := hD.sub (ws' := [(aB, .inr (0, [.ref aBl, .int B_used])), (aBl, .inl (cyI, 136, .inl Bl))]) [3, 4] (by decide) rfl
        have hFc := va_free (wc := [(aB, .inr (0, [.ref aBl, .int B_used])), (aBl, .inl (cyI, 136, .inl Bl))]) hD hS hA [3, 4] rfl
        refine va_callv (va_runV (As := [.int N_base, .int o2]) (rest := []) ⟨hx, hb, hml, hown, hts⟩ (m_X0_timesPlus l dC dI cyB cyC cyI cyJ cyZ aB aBl  H.size N_base o2 B_used Bl n z3 hz3) (cwV 2 hts gX2_sumUp_X0_timesPlus rfl rfl rfl (by decide +kernel) ⟨Nat.le_of_ble_eq_true rfl, Nat.le_of_ble_eq_true rfl⟩) (prwV (va_recv hK hP (ci := 0) (q0 := 3) rfl rfl) hPc hK hDc hN) rfl rfl hl.1 rfl (lv_room (Nat.le_of_ble_eq_true rfl)) dX2_sumUp_66 ⟨Nat.le_of_ble_eq_true rfl, Nat.le_of_ble_eq_true rfl⟩) hS (fun q _ h => hFc q h) hFc (fun u5 t9 H4 locs ht hvm hw hB hz1 hk1 hS => ?_)
        subst hw
        obtain ⟨hP1, hD1⟩ := hB
        rw [ht] at hP1
        obtain ⟨hP, hD⟩ := va_join (wr := [(aN, .inr (2, [.ref aS, .ref aF, .ref aB, .ref aR, .int N_base, .int N_first, .int N_significandEnd, .int N_exponentEnd])), (aS, .inr (6, [.ref aSc, .int S_count, .int S_cutShort])), (aSc, .inl (cyC, 81920, .inl Sc))]) (w1 := [(aB, .inr (0, [.ref aBl, .int u5.1])), (aBl, .inl (cyI, 136, .inl u5.2))]) hP hD [3, 4] [0, 1, 2] rfl rfl (by decide) (by decide) hk1 hFc hP1 hD1
        have hP := hP.sub (ws' := [(aN, .inr (2, [.ref aS, .ref aF, .ref aB, .ref aR, .int N_base, .int N_first, .int N_significandEnd, .int N_exponentEnd])), (aS, .inr (6, [.ref aSc, .int S_count, .int S_cutShort])), (aSc, .inl (cyC, 81920, .inl Sc)), (aB, .inr (0, [.ref aBl, .int u5.1])), (aBl, .inl (cyI, 136, .inl u5.2))]) [0, 1, 2, 3, 4] rfl
        have hD := hD.sub (ws' := [(aN, .inr (2, [.ref aS, .ref aF, .ref aB, .ref aR, .int N_base, .int N_first, .int N_significandEnd, .int N_exponentEnd])), (aS, .inr (6, [.ref aSc, .int S_count, .int S_cutShort])), (aSc, .inl (cyC, 81920, .inl Sc)), (aB, .inr (0, [.ref aBl, .int u5.1])), (aBl, .inl (cyI, 136, .inl u5.2))]) [0, 1, 2, 3, 4] (by decide) rfl
        refine lv_iload_n hx hb dX2_sumUp_69 rfl (lv_at hl 3 rfl) ?_
        refine lv_iload hx hb dX2_sumUp_70 (lv_at hl 4 rfl) ?_
        refine lv_if_eq (tgt := 79) hx hb dX2_sumUp_72 (by decide) (fun hc => ?_) (fun hc => ?_)
        · have hf := (if_pos hc).symm.trans hf
          refine lv_iconst (v := (0 : Int32)) hx hb dX2_sumUp_79 (by decide) ?_
          exact k_X2_sumUp_80 (aF := aF) (aR := aR) CX hA n hr16 _ _ _ _ _ _ _ _ _ hf hP hD hS ls (lv_sub hl [1, 2, 4, 5] rfl)
        · have hf := (if_neg hc).symm.trans hf
          refine lv_iconst (v := (1 : Int32)) hx hb dX2_sumUp_75 (by decide) ?_
          refine lv_goto (tgt := 80) hx hb dX2_sumUp_76 (by decide) ?_
          exact k_X2_sumUp_80 (aF := aF) (aR := aR) CX hA n hr16 _ _ _ _ _ _ _ _ _ hf hP hD hS ls (lv_sub hl [1, 2, 4, 5] rfl)
    · have hf := (if_pos hc).symm.trans hf
      refine lv_iconst (v := (1 : Int32)) hx hb dX2_sumUp_40 (by decide) ?_
      refine lv_istore (lv' := [(4, .int (1 : Int32)), (6, .int o1), (0, .ref aN), (2, .int x2), (3, .int x3), (5, .int x5)]) hx hb dX2_sumUp_41 hl (by decide) rfl (fun ls hl => ?_)
      refine lv_goto (tgt := 82) hx hb dX2_sumUp_43 (by decide) ?_
      exact k_X2_sumUp_82 (aF := aF) (aR := aR) CX hA n hr16 _ _ _ _ _ _ _ _ hf hP hD hS ls (lv_sub hl [2, 3, 4, 0, 5] rfl)
def f_X2_sumUp_16 (n : Nat) (N_base : Int32) (N_first : Int32) (N_significandEnd : Int32) (N_exponentEnd : Int32) (S_count : Int32) (S_cutShort : Int32) (Sc : Nat → Int32) : Nat → Int32 → (Nat → Int32) → Int32 → Int32 → Int32 → Int32 → Option (Int32 × Int32 × (Nat → Int32))
  | 0 => fun _ _ _ _ _ _ => none
  | k + 1 => fun B_used Bl x2 x3 x4 x5 => fb_X2_sumUp_16 n (f_X2_sumUp_16 n N_base N_first N_significandEnd N_exponentEnd S_count S_cutShort Sc k) N_base N_first N_significandEnd N_exponentEnd S_count S_cutShort Sc B_used Bl x2 x3 x4 x5
set_option maxHeartbeats 4000000 in
set_option maxRecDepth 100000 in
theorem k_X2_sumUp_16 {p : Program} {l : Launch} {e : Env} {s : State} {m : MethodId} {args : Array Value} {below : List Frame} {meth : Method} {c : Code} {dC : Nat → ClassId} {dI : Nat → Nat → Nat} {cyB cyC cyI cyJ cyZ : ClassId} {aN aS aF aB aR aSc aBl : Nat} {N_base : Int32} {N_first : Int32} {N_significandEnd : Int32} {N_exponentEnd : Int32} {S_count : Int32} {S_cutShort : Int32} {Sc : Nat → Int32} {A : Nat → Prop} {out : Int32 × Int32 × (Nat → Int32)} (CX : cx cX2_sumUp (some .int) 7 RX2 wsX2_sumUp (dC, dI) (TY cyB cyC cyI cyJ cyZ) p s m args meth c) (hA : ∀ q : Nat, s.heap.size ≤ q → A q) (n : Nat) : ∀ k : Nat, J_X2_sumUp_16 p l e s m args below meth c dC dI cyB cyC cyI cyJ cyZ aN aS aF aB aR aSc aBl N_base N_first N_significandEnd N_exponentEnd S_count S_cutShort Sc A out (f_X2_sumUp_16 n N_base N_first N_significandEnd N_exponentEnd S_count S_cutShort Sc k) := by
  intro k
  induction k with
  | zero =>
    intro B_used Bl x2 x3 x4 x5 H locs hf
    exact absurd (show (none : Option (Int32 × Int32 × (Nat → Int32))) = some out from hf) (by simp)
  | succ k ih =>
    exact kb_X2_sumUp_16 (aF := aF) (aR := aR) CX hA n ih
def f_X2_sumUp_0 (n : Nat) (N_base : Int32) (N_first : Int32) (N_significandEnd : Int32) (N_exponentEnd : Int32) (S_count : Int32) (S_cutShort : Int32) (Sc : Nat → Int32) (B_used : Int32) (Bl : Nat → Int32) (x1 : Int32) (x2 : Int32) : Option (Int32 × Int32 × (Nat → Int32)) :=
  bd (f_X0_set n (0 : Int32) B_used Bl) fun u3 =>
  f_X2_sumUp_16 n N_base N_first N_significandEnd N_exponentEnd S_count S_cutShort Sc n u3.1 u3.2 x2 (0 : Int32) (0 : Int32) x1
set_option maxHeartbeats 4000000 in
set_option maxRecDepth 100000 in
theorem k_X2_sumUp_0 {p : Program} {l : Launch} {e : Env} {s : State} {m : MethodId} {args : Array Value} {below : List Frame} {meth : Method} {c : Code} {dC : Nat → ClassId} {dI : Nat → Nat → Nat} {cyB cyC cyI cyJ cyZ : ClassId} {aN aS aF aB aR aSc aBl : Nat} {N_base : Int32} {N_first : Int32} {N_significandEnd : Int32} {N_exponentEnd : Int32} {S_count : Int32} {S_cutShort : Int32} {Sc : Nat → Int32} {A : Nat → Prop} {out : Int32 × Int32 × (Nat → Int32)} (CX : cx cX2_sumUp (some .int) 7 RX2 wsX2_sumUp (dC, dI) (TY cyB cyC cyI cyJ cyZ) p s m args meth c) (hA : ∀ q : Nat, s.heap.size ≤ q → A q) (n : Nat) : J_X2_sumUp_0 p l e s m args below meth c dC dI cyB cyC cyI cyJ cyZ aN aS aF aB aR aSc aBl N_base N_first N_significandEnd N_exponentEnd S_count S_cutShort Sc A out (f_X2_sumUp_0 n N_base N_first N_significandEnd N_exponentEnd S_count S_cutShort Sc) := by
  intro B_used Bl x1 x2 H locs hf hP hD hS ls hl
  obtain ⟨hx, hb, hr, hml, hown, hts, hlocks, hK, hN⟩ := id CX
  unfold f_X2_sumUp_0 at hf
  refine lv_aload_n hx hb dX2_sumUp_0 rfl (lv_at hl 0 rfl) ?_
  refine va_get (D := (dC, dI)) (ci := 2) (v := .ref aB) (C := RX2) (T := TX2) (N := 8) hx hb hts i_X2_sumUp_X2 hown hK hP 0 rfl rfl 2 (by decide) (hts (.fieldLink RX2 22 "TokenRow$Numbers" "digits" "LTokenRow$Big;") (List.mem_of_getElem? (i := 1) rfl)) (fun _ h9 => h9) rfl dX2_sumUp_1 ?_
  refine lv_iconst (v := (0 : Int32)) hx hb dX2_sumUp_4 (by decide) ?_
  obtain ⟨z1, hz1, hf⟩ := bd_ok hf
  have hPc := hP.sub (ws' := [(aB, .inr (0, [.ref aBl, .int B_used])), (aBl, .inl (cyI, 136, .inl Bl))]) [3, 4] rfl
  have hDc := hD.sub (ws' := [(aB, .inr (0, [.ref aBl, .int B_used])), (aBl, .inl (cyI, 136, .inl Bl))]) [3, 4] (by decide) rfl
  have hFc := va_free (wc := [(aB, .inr (0, [.ref aBl, .int B_used])), (aBl, .inl (cyI, 136, .inl Bl))]) hD hS hA [3, 4] rfl
  refine va_callv (va_runV (As := [.int (0 : Int32)]) (rest := []) ⟨hx, hb, hml, hown, hts⟩ (m_X0_set l dC dI cyB cyC cyI cyJ cyZ aB aBl  H.size (0 : Int32) B_used Bl n z1 hz1) (cwV 1 hts gX2_sumUp_X0_set rfl rfl rfl (by decide +kernel) ⟨Nat.le_of_ble_eq_true rfl, Nat.le_of_ble_eq_true rfl⟩) (prwV (va_recv hK hP (ci := 0) (q0 := 3) rfl rfl) hPc hK hDc hN) rfl rfl hl.1 rfl (lv_room (Nat.le_of_ble_eq_true rfl)) dX2_sumUp_5 ⟨Nat.le_of_ble_eq_true rfl, Nat.le_of_ble_eq_true rfl⟩) hS (fun q _ h => hFc q h) hFc (fun u3 t9 H2 locs ht hvm hw hB hz1 hk1 hS => ?_)
  subst hw
  obtain ⟨hP1, hD1⟩ := hB
  rw [ht] at hP1
  obtain ⟨hP, hD⟩ := va_join (wr := [(aN, .inr (2, [.ref aS, .ref aF, .ref aB, .ref aR, .int N_base, .int N_first, .int N_significandEnd, .int N_exponentEnd])), (aS, .inr (6, [.ref aSc, .int S_count, .int S_cutShort])), (aSc, .inl (cyC, 81920, .inl Sc))]) (w1 := [(aB, .inr (0, [.ref aBl, .int u3.1])), (aBl, .inl (cyI, 136, .inl u3.2))]) hP hD [3, 4] [0, 1, 2] rfl rfl (by decide) (by decide) hk1 hFc hP1 hD1
  have hP := hP.sub (ws' := [(aN, .inr (2, [.ref aS, .ref aF, .ref aB, .ref aR, .int N_base, .int N_first, .int N_significandEnd, .int N_exponentEnd])), (aS, .inr (6, [.ref aSc, .int S_count, .int S_cutShort])), (aSc, .inl (cyC, 81920, .inl Sc)), (aB, .inr (0, [.ref aBl, .int u3.1])), (aBl, .inl (cyI, 136, .inl u3.2))]) [0, 1, 2, 3, 4] rfl
  have hD := hD.sub (ws' := [(aN, .inr (2, [.ref aS, .ref aF, .ref aB, .ref aR, .int N_base, .int N_first, .int N_significandEnd, .int N_exponentEnd])), (aS, .inr (6, [.ref aSc, .int S_count, .int S_cutShort])), (aSc, .inl (cyC, 81920, .inl Sc)), (aB, .inr (0, [.ref aBl, .int u3.1])), (aBl, .inl (cyI, 136, .inl u3.2))]) [0, 1, 2, 3, 4] (by decide) rfl
  refine lv_iconst (v := (0 : Int32)) hx hb dX2_sumUp_8 (by decide) ?_
  refine lv_istore_n (lv' := [(3, .int (0 : Int32)), (0, .ref aN), (1, .int x1), (2, .int x2)]) hx hb dX2_sumUp_9 rfl hl (by decide) rfl (fun ls hl => ?_)
  refine lv_iconst (v := (0 : Int32)) hx hb dX2_sumUp_10 (by decide) ?_
  refine lv_istore (lv' := [(4, .int (0 : Int32)), (3, .int (0 : Int32)), (0, .ref aN), (1, .int x1), (2, .int x2)]) hx hb dX2_sumUp_11 hl (by decide) rfl (fun ls hl => ?_)
  refine lv_iload_n hx hb dX2_sumUp_13 rfl (lv_at hl 3 rfl) ?_
  refine lv_istore (lv' := [(5, .int x1), (4, .int (0 : Int32)), (3, .int (0 : Int32)), (0, .ref aN), (1, .int x1), (2, .int x2)]) hx hb dX2_sumUp_14 hl (by decide) rfl (fun ls hl => ?_)
  exact k_X2_sumUp_16 (aF := aF) (aR := aR) CX hA n n _ _ _ _ _ _ _ _ hf hP hD hS ls (lv_sub hl [3, 5, 2, 1, 0] rfl)
def f_X2_sumUp (n : Nat) (p1 : Int32) (p2 : Int32) (N_base : Int32) (N_first : Int32) (N_significandEnd : Int32) (N_exponentEnd : Int32) (S_count : Int32) (S_cutShort : Int32) (Sc : Nat → Int32) (B_used : Int32) (Bl : Nat → Int32) : Option (Int32 × Int32 × (Nat → Int32)) := f_X2_sumUp_0 n N_base N_first N_significandEnd N_exponentEnd S_count S_cutShort Sc B_used Bl p1 p2
set_option maxHeartbeats 4000000 in
set_option maxRecDepth 100000 in
/-- TokenRow$Numbers.sumUp(II)I -/
theorem m_X2_sumUp (l : Launch) (dC : Nat → ClassId) (dI : Nat → Nat → Nat) (cyB cyC cyI cyJ cyZ : ClassId) (aN aS aF aB aR aSc aBl : Nat) (sz : Nat) (p1 : Int32) (p2 : Int32) (N_base : Int32) (N_first : Int32) (N_significandEnd : Int32) (N_exponentEnd : Int32) (S_count : Int32) (S_cutShort : Int32) (Sc : Nat → Int32) (B_used : Int32) (Bl : Nat → Int32) (n : Nat) (out : Int32 × Int32 × (Nat → Int32)) (hf : f_X2_sumUp n p1 p2 N_base N_first N_significandEnd N_exponentEnd S_count S_cutShort Sc B_used Bl = some out) : Met l yX2_sumUp wsX2_sumUp rm_X2_sumUp (Prw (dC, dI) (TY cyB cyC cyI cyJ cyZ) [.ref aN, .int p1, .int p2] sz [(aN, .inr (2, [.ref aS, .ref aF, .ref aB, .ref aR, .int N_base, .int N_first, .int N_significandEnd, .int N_exponentEnd])), (aS, .inr (6, [.ref aSc, .int S_count, .int S_cutShort])), (aSc, .inl (cyC, 81920, .inl Sc)), (aB, .inr (0, [.ref aBl, .int B_used])), (aBl, .inl (cyI, 136, .inl Bl))]) (va_Qi (fun (r : Int32) (u : Int32 × (Nat → Int32)) => (r, u) = out) (Bw (dC, dI) (va_A [(aN, .inr (2, [.ref aS, .ref aF, .ref aB, .ref aR, .int N_base, .int N_first, .int N_significandEnd, .int N_exponentEnd])), (aS, .inr (6, [.ref aSc, .int S_count, .int S_cutShort])), (aSc, .inl (cyC, 81920, .inl Sc)), (aB, .inr (0, [.ref aBl, .int B_used])), (aBl, .inl (cyI, 136, .inl Bl))] sz) (fun u => [(aN, .inr (2, [.ref aS, .ref aF, .ref aB, .ref aR, .int N_base, .int N_first, .int N_significandEnd, .int N_exponentEnd])), (aS, .inr (6, [.ref aSc, .int S_count, .int S_cutShort])), (aSc, .inl (cyC, 81920, .inl Sc)), (aB, .inr (0, [.ref aBl, .int u.1])), (aBl, .inl (cyI, 136, .inl u.2))])) (va_A [(aN, .inr (2, [.ref aS, .ref aF, .ref aB, .ref aR, .int N_base, .int N_first, .int N_significandEnd, .int N_exponentEnd])), (aS, .inr (6, [.ref aSc, .int S_count, .int S_cutShort])), (aSc, .inl (cyC, 81920, .inl Sc)), (aB, .inr (0, [.ref aBl, .int B_used])), (aBl, .inl (cyI, 136, .inl Bl))] sz)) 0 0 (va_A [(aN, .inr (2, [.ref aS, .ref aF, .ref aB, .ref aR, .int N_base, .int N_first, .int N_significandEnd, .int N_exponentEnd])), (aS, .inr (6, [.ref aSc, .int S_count, .int S_cutShort])), (aSc, .inl (cyC, 81920, .inl Sc)), (aB, .inr (0, [.ref aBl, .int B_used])), (aBl, .inl (cyI, 136, .inl Bl))] sz) := by
  refine Met.ofW (cc := cX2_sumUp) (maxL := 7) (ret := (some .int)) (by decide) rfl ?_
  intro p e s m args below meth c s₁ B hml hv
  obtain ⟨rfl, hsz, hP, hK, hD0, hN⟩ := hv
  subst hsz
  have hD := hD0.self (sz := s.heap.size)
  have CX : cx cX2_sumUp (some .int) 7 RX2 wsX2_sumUp (dC, dI) (TY cyB cyC cyI cyJ cyZ) p s m ([.ref aN, .int p1, .int p2] : List Value).toArray meth c := ⟨B.exec, B.bytes, B.returns, hml, findClass_of_methodNamed B.named, atoms_spec (ws := wsX2_sumUp) B.pre, B.notSynchronized, hK, hN⟩
  have hl := lv_entry ([.ref aN, .int p1, .int p2]) (n := 7) (Nat.le_of_ble_eq_true rfl)
  rw [lg_entry_eq]
  exact k_X2_sumUp_0 (aF := aF) (aR := aR) CX (fun q h => Or.inr h) n _ _ _ _ _ _ hf hP hD va_S.rf _ hl
abbrev rm_X2_bounded : Room := { frames := 1, cells := 0, slots := 0, locals := 21 }
def J_X2_bounded_0 (p : Program) (l : Launch) (e : Env) (s : State) (m : MethodId) (args : Array Value) (below : List Frame) (meth : Method) (c : Code) (dC : Nat → ClassId) (dI : Nat → Nat → Nat) (cyB cyC cyI cyJ cyZ : ClassId) (out : Int32) (g : Int32 → Option (Int32)) : Prop := ∀ (x0 : Int32), g x0 = some out → ∀ ls : Array Slot, lv_has ls 1 [(0, .int x0)] → W p l e rm_X2_bounded s m args below meth c s.heap [] 0 0 (MQ below (vp_Si (fun r => r = out)) args s 0 0 (fun _ => False)) (F0 m 0 ls [])
def f_X2_bounded_0 (n : Nat) (x0 : Int32) : Option (Int32) :=
  some (if (-1400 : Int32) < (if (309 : Int32) < x0 then (309 : Int32) else x0) then (if (309 : Int32) < x0 then (309 : Int32) else x0) else (-1400 : Int32))
set_option maxHeartbeats 4000000 in
set_option maxRecDepth 100000 in
theorem k_X2_bounded_0 {p : Program} {l : Launch} {e : Env} {s : State} {m : MethodId} {args : Array Value} {below : List Frame} {meth : Method} {c : Code} {dC : Nat → ClassId} {dI : Nat → Nat → Nat} {cyB cyC cyI cyJ cyZ : ClassId} {out : Int32} (CX : cx cX2_bounded (some .int) 1 RX2 wsX2_bounded (dC, dI) (TY cyB cyC cyI cyJ cyZ) p s m args meth c) (hP : va_P (dC, dI) vwCl [] s.heap) (n : Nat) : J_X2_bounded_0 p l e s m args below meth c dC dI cyB cyC cyI cyJ cyZ out (f_X2_bounded_0 n) := by
  intro x0 hf ls hl
  obtain ⟨hx, hb, hr, hml, hown, hts, hlocks, hK, hN⟩ := id CX
  unfold f_X2_bounded_0 at hf
  refine lv_sipush (v := (-1400 : Int32)) hx hb dX2_bounded_0 (by decide) ?_
  refine lv_iload_n hx hb dX2_bounded_3 rfl (lv_at hl 0 rfl) ?_
  refine lv_sipush (v := (309 : Int32)) hx hb dX2_bounded_4 (by decide) ?_
  refine va_mmin hx hb (hml.trans hl.1.symm) hown (hts (.methodLink RX2 133 Lib.Math.min.name) (List.mem_of_getElem? (i := 1) rfl)) (hts (.static Lib.Math.min.name) (List.mem_of_getElem? (i := 2) rfl)) (hts (.initialized "java/lang/Math") (List.mem_of_getElem? (i := 3) rfl)) (hts (.code Lib.Math.min.name Lib.Math.min.code 2 (some .int)) (List.mem_of_getElem? (i := 4) rfl)) (Nat.le_of_ble_eq_true rfl) (Nat.le_of_ble_eq_true rfl) (Nat.le_of_ble_eq_true rfl) (Nat.le_of_ble_eq_true rfl) dX2_bounded_7 ?_
  refine va_mmax hx hb (hml.trans hl.1.symm) hown (hts (.methodLink RX2 138 Lib.Math.max.name) (List.mem_of_getElem? (i := 5) rfl)) (hts (.static Lib.Math.max.name) (List.mem_of_getElem? (i := 6) rfl)) (hts (.initialized "java/lang/Math") (List.mem_of_getElem? (i := 3) rfl)) (hts (.code Lib.Math.max.name Lib.Math.max.code 2 (some .int)) (List.mem_of_getElem? (i := 7) rfl)) (Nat.le_of_ble_eq_true rfl) (Nat.le_of_ble_eq_true rfl) (Nat.le_of_ble_eq_true rfl) (Nat.le_of_ble_eq_true rfl) dX2_bounded_10 ?_
  exact W.iret (v := (if (-1400 : Int32) < (if (309 : Int32) < x0 then (309 : Int32) else x0) then (if (309 : Int32) < x0 then (309 : Int32) else x0) else (-1400 : Int32))) hx hb hr (fun t ht hW => ⟨_, rfl, Option.some.inj hf, ht⟩) (fun _ h => nomatch h) dX2_bounded_13
def f_X2_bounded (n : Nat) (p0 : Int32) : Option (Int32) := f_X2_bounded_0 n p0
set_option maxHeartbeats 4000000 in
set_option maxRecDepth 100000 in
/-- TokenRow$Numbers.bounded(I)I -/
theorem m_X2_bounded (l : Launch) (dC : Nat → ClassId) (dI : Nat → Nat → Nat) (cyB cyC cyI cyJ cyZ : ClassId) (p0 : Int32) (n : Nat) (out : Int32) (hf : f_X2_bounded n p0 = some out) : Met l yX2_bounded wsX2_bounded rm_X2_bounded (Pro (dC, dI) (TY cyB cyC cyI cyJ cyZ) [.int p0] []) (vp_Si (fun r => r = out)) 0 0 (fun _ => False) := by
  refine Met.ofW (cc := cX2_bounded) (maxL := 1) (ret := (some .int)) (by decide) rfl ?_
  intro p e s m args below meth c s₁ B hml hv
  obtain ⟨rfl, hP, hK, hN⟩ := hv
  have CX : cx cX2_bounded (some .int) 1 RX2 wsX2_bounded (dC, dI) (TY cyB cyC cyI cyJ cyZ) p s m ([.int p0] : List Value).toArray meth c := ⟨B.exec, B.bytes, B.returns, hml, findClass_of_methodNamed B.named, atoms_spec (ws := wsX2_bounded) B.pre, B.notSynchronized, hK, hN⟩
  have hl := lv_entry ([.int p0]) (n := 1) (Nat.le_of_ble_eq_true rfl)
  rw [lg_entry_eq]
  exact k_X2_bounded_0 CX hP n _ hf _ hl
abbrev rm_X2_readExponent : Room := { frames := 2, cells := 0, slots := 0, locals := 40 }
theorem i_X2_readExponent_X2 : ∀ w ∈ u_ws RX2 TX2 8, w ∈ wsX2_readExponent := fun _ h => (List.mem_cons_of_mem _ (List.mem_append_left _ (List.mem_append_right _ h)))
theorem i_X2_readExponent_X6 : ∀ w ∈ u_ws RX6 TX6 3, w ∈ wsX2_readExponent := fun _ h => (List.mem_cons_of_mem _ (List.mem_append_right _ h))
def J_X2_readExponent_9 (p : Program) (l : Launch) (e : Env) (s : State) (m : MethodId) (args : Array Value) (below : List Frame) (meth : Method) (c : Code) (dC : Nat → ClassId) (dI : Nat → Nat → Nat) (cyB cyC cyI cyJ cyZ : ClassId) (aN aS aF aB aR aSc : Nat) (N_base : Int32) (N_first : Int32) (N_significandEnd : Int32) (N_exponentEnd : Int32) (S_count : Int32) (S_cutShort : Int32) (Sc : Nat → Int32) (out : Int32) (g : Int32 → Int32 → Option (Int32)) : Prop := ∀ (x1 : Int32) (x2 : Int32), g x1 x2 = some out → ∀ ls : Array Slot, lv_has ls 3 [(0, .ref aN), (1, .int x1), (2, .int x2)] → W p l e rm_X2_readExponent s m args below meth c s.heap [] 0 0 (MQ below (vp_Si (fun r => r = out)) args s 0 0 (fun _ => False)) (F0 m 9 ls [])
def J_X2_readExponent_54 (p : Program) (l : Launch) (e : Env) (s : State) (m : MethodId) (args : Array Value) (below : List Frame) (meth : Method) (c : Code) (dC : Nat → ClassId) (dI : Nat → Nat → Nat) (cyB cyC cyI cyJ cyZ : ClassId) (aN aS aF aB aR aSc : Nat) (N_base : Int32) (N_first : Int32) (N_significandEnd : Int32) (N_exponentEnd : Int32) (S_count : Int32) (S_cutShort : Int32) (Sc : Nat → Int32) (out : Int32) (g : Int32 → Int32 → Option (Int32)) : Prop := ∀ (x1 : Int32) (x2 : Int32), g x1 x2 = some out → ∀ ls : Array Slot, lv_has ls 3 [(0, .ref aN), (1, .int x1), (2, .int x2)] → W p l e rm_X2_readExponent s m args below meth c s.heap [] 0 0 (MQ below (vp_Si (fun r => r = out)) args s 0 0 (fun _ => False)) (F0 m 54 ls [])
def J_X2_readExponent_0 (p : Program) (l : Launch) (e : Env) (s : State) (m : MethodId) (args : Array Value) (below : List Frame) (meth : Method) (c : Code) (dC : Nat → ClassId) (dI : Nat → Nat → Nat) (cyB cyC cyI cyJ cyZ : ClassId) (aN aS aF aB aR aSc : Nat) (N_base : Int32) (N_first : Int32) (N_significandEnd : Int32) (N_exponentEnd : Int32) (S_count : Int32) (S_cutShort : Int32) (Sc : Nat → Int32) (out : Int32) (g : Option (Int32)) : Prop := g = some out → ∀ ls : Array Slot, lv_has ls 3 [(0, .ref aN)] → W p l e rm_X2_readExponent s m args below meth c s.heap [] 0 0 (MQ below (vp_Si (fun r => r = out)) args s 0 0 (fun _ => False)) (F0 m 0 ls [])
def f_X2_readExponent_54 (n : Nat) (r9 : Int32 → Int32 → Option (Int32)) (N_base : Int32) (N_first : Int32) (N_significandEnd : Int32) (N_exponentEnd : Int32) (S_count : Int32) (S_cutShort : Int32) (Sc : Nat → Int32) (x1 : Int32) (x2 : Int32) : Option (Int32) :=
  lt_ (x2 + (1 : Int32)) fun y1 =>
  r9 x1 y1
set_option maxHeartbeats 4000000 in
set_option maxRecDepth 100000 in
theorem k_X2_readExponent_54 {p : Program} {l : Launch} {e : Env} {s : State} {m : MethodId} {args : Array Value} {below : List Frame} {meth : Method} {c : Code} {dC : Nat → ClassId} {dI : Nat → Nat → Nat} {cyB cyC cyI cyJ cyZ : ClassId} {aN aS aF aB aR aSc : Nat} {N_base : Int32} {N_first : Int32} {N_significandEnd : Int32} {N_exponentEnd : Int32} {S_count : Int32} {S_cutShort : Int32} {Sc : Nat → Int32} {out : Int32} (CX : cx cX2_readExponent (some .int) 3 RX2 wsX2_readExponent (dC, dI) (TY cyB cyC cyI cyJ cyZ) p s m args meth c) (hP : va_P (dC, dI) vwCl [(aN, .inr (2, [.ref aS, .ref aF, .ref aB, .ref aR, .int N_base, .int N_first, .int N_significandEnd, .int N_exponentEnd])), (aS, .inr (6, [.ref aSc, .int S_count, .int S_cutShort])), (aSc, .inl (cyC, 81920, .inl Sc))] s.heap) (n : Nat) {r9 : Int32 → Int32 → Option (Int32)} (hr9 : J_X2_readExponent_9 p l e s m args below meth c dC dI cyB cyC cyI cyJ cyZ aN aS aF aB aR aSc N_base N_first N_significandEnd N_exponentEnd S_count S_cutShort Sc out r9) : J_X2_readExponent_54 p l e s m args below meth c dC dI cyB cyC cyI cyJ cyZ aN aS aF aB aR aSc N_base N_first N_significandEnd N_exponentEnd S_count S_cutShort Sc out (f_X2_readExponent_54 n r9 N_base N_first N_significandEnd N_exponentEnd S_count S_cutShort Sc) := by
  intro x1 x2 hf ls hl
  obtain ⟨hx, hb, hr, hml, hown, hts, hlocks, hK, hN⟩ := id CX
  unfold f_X2_readExponent_54 at hf
  obtain ⟨y1, ey1⟩ : ∃ y : Int32, y = x2 + (1 : Int32) := ⟨_, rfl⟩
  have hf := lt_ok hf y1 ey1
  refine lv_iinc (v := y1) (lv' := [(2, .int y1), (0, .ref aN), (1, .int x1)]) hx hb dX2_readExponent_54 hl (k := 2) rfl (by rw [ey1]; rfl) (by decide) rfl (fun ls hl => ?_)
  refine lv_goto (tgt := 9) hx hb dX2_readExponent_57 (by decide) ?_
  exact hr9 _ _ hf ls (lv_sub hl [1, 2, 0] rfl)
def fb_X2_readExponent_9 (n : Nat) (r9 : Int32 → Int32 → Option (Int32)) (N_base : Int32) (N_first : Int32) (N_significandEnd : Int32) (N_exponentEnd : Int32) (S_count : Int32) (S_cutShort : Int32) (Sc : Nat → Int32) (x1 : Int32) (x2 : Int32) : Option (Int32) :=
  if N_exponentEnd ≤ x2 then
  (bd (f_X6_look n (N_significandEnd + (1 : Int32)) S_count S_cutShort Sc) fun o1 =>
  if o1 = (45 : Int32) then
  (some (-x1))
  else
  (some x1))
  else
  (bd (f_X6_look n x2 S_count S_cutShort Sc) fun o2 =>
  bd (f_X9_isDecimal n o2 ) fun o3 =>
  if o3 = 0 then
  (f_X2_readExponent_54 n r9 N_base N_first N_significandEnd N_exponentEnd S_count S_cutShort Sc x1 x2)
  else
  (if (1000000 : Int32) ≤ x1 then
  (f_X2_readExponent_54 n r9 N_base N_first N_significandEnd N_exponentEnd S_count S_cutShort Sc x1 x2)
  else
  (bd (f_X6_look n x2 S_count S_cutShort Sc) fun o4 =>
  bd (f_X9_digitOf n o4 ) fun o5 =>
  lt_ ((x1 * (10 : Int32)) + o5) fun y6 =>
  f_X2_readExponent_54 n r9 N_base N_first N_significandEnd N_exponentEnd S_count S_cutShort Sc y6 x2)))
set_option maxHeartbeats 4000000 in
set_option maxRecDepth 100000 in
theorem kb_X2_readExponent_9 {p : Program} {l : Launch} {e : Env} {s : State} {m : MethodId} {args : Array Value} {below : List Frame} {meth : Method} {c : Code} {dC : Nat → ClassId} {dI : Nat → Nat → Nat} {cyB cyC cyI cyJ cyZ : ClassId} {aN aS aF aB aR aSc : Nat} {N_base : Int32} {N_first : Int32} {N_significandEnd : Int32} {N_exponentEnd : Int32} {S_count : Int32} {S_cutShort : Int32} {Sc : Nat → Int32} {out : Int32} (CX : cx cX2_readExponent (some .int) 3 RX2 wsX2_readExponent (dC, dI) (TY cyB cyC cyI cyJ cyZ) p s m args meth c) (hP : va_P (dC, dI) vwCl [(aN, .inr (2, [.ref aS, .ref aF, .ref aB, .ref aR, .int N_base, .int N_first, .int N_significandEnd, .int N_exponentEnd])), (aS, .inr (6, [.ref aSc, .int S_count, .int S_cutShort])), (aSc, .inl (cyC, 81920, .inl Sc))] s.heap) (n : Nat) {r9 : Int32 → Int32 → Option (Int32)} (hr9 : J_X2_readExponent_9 p l e s m args below meth c dC dI cyB cyC cyI cyJ cyZ aN aS aF aB aR aSc N_base N_first N_significandEnd N_exponentEnd S_count S_cutShort Sc out r9) : J_X2_readExponent_9 p l e s m args below meth c dC dI cyB cyC cyI cyJ cyZ aN aS aF aB aR aSc N_base N_first N_significandEnd N_exponentEnd S_count S_cutShort Sc out (fb_X2_readExponent_9 n r9 N_base N_first N_significandEnd N_exponentEnd S_count S_cutShort Sc) := by
  intro x1 x2 hf ls hl
  obtain ⟨hx, hb, hr, hml, hown, hts, hlocks, hK, hN⟩ := id CX
  unfold fb_X2_readExponent_9 at hf
  refine lv_iload_n hx hb dX2_readExponent_9 rfl (lv_at hl 2 rfl) ?_
  refine lv_aload_n hx hb dX2_readExponent_10 rfl (lv_at hl 0 rfl) ?_
  refine va_get (D := (dC, dI)) (ci := 2) (v := .int N_exponentEnd) (C := RX2) (T := TX2) (N := 8) hx hb hts i_X2_readExponent_X2 hown hK hP 0 rfl rfl 7 (by decide) (hts (.fieldLink RX2 63 "TokenRow$Numbers" "exponentEnd" "I") (List.mem_of_getElem? (i := 2) rfl)) (fun _ h9 => h9) rfl dX2_readExponent_11 ?_
  refine lv_icmp_ge (tgt := 60) hx hb dX2_readExponent_14 (by decide) (fun hc => ?_) (fun hc => ?_)
  · have hf := (if_pos hc).symm.trans hf
    refine lv_aload_n hx hb dX2_readExponent_60 rfl (lv_at hl 0 rfl) ?_
    refine va_get (D := (dC, dI)) (ci := 2) (v := .ref aS) (C := RX2) (T := TX2) (N := 8) hx hb hts i_X2_readExponent_X2 hown hK hP 0 rfl rfl 0 (by decide) (hts (.fieldLink RX2 9 "TokenRow$Numbers" "source" "LTokenRow$Source;") (List.mem_of_getElem? (i := 3) rfl)) (fun _ h9 => h9) rfl dX2_readExponent_61 ?_
    refine lv_aload_n hx hb dX2_readExponent_64 rfl (lv_at hl 0 rfl) ?_
    refine va_get (D := (dC, dI)) (ci := 2) (v := .int N_significandEnd) (C := RX2) (T := TX2) (N := 8) hx hb hts i_X2_readExponent_X2 hown hK hP 0 rfl rfl 6 (by decide) (hts (.fieldLink RX2 56 "TokenRow$Numbers" "significandEnd" "I") (List.mem_of_getElem? (i := 1) rfl)) (fun _ h9 => h9) rfl dX2_readExponent_65 ?_
    refine lv_iconst (v := (1 : Int32)) hx hb dX2_readExponent_68 (by decide) ?_
    refine lv_iadd hx hb dX2_readExponent_69 ?_
    obtain ⟨z1, hz1, hf⟩ := bd_ok hf
    have hPc := hP.sub (ws' := [(aS, .inr (6, [.ref aSc, .int S_count, .int S_cutShort])), (aSc, .inl (cyC, 81920, .inl Sc))]) [1, 2] rfl
    refine vp_callSi (va_Run.run (va_runV (As := [.int (N_significandEnd + (1 : Int32))]) (rest := []) ⟨hx, hb, hml, hown, hts⟩ (m_X6_look l dC dI cyB cyC cyI cyJ cyZ aS aSc  (N_significandEnd + (1 : Int32)) S_count S_cutShort Sc n z1 hz1) (cwV 1 hts gX2_readExponent_X6_look rfl rfl rfl (by decide +kernel) ⟨Nat.le_of_ble_eq_true rfl, Nat.le_of_ble_eq_true rfl⟩) (proV (va_recv hK hP (ci := 6) (q0 := 1) rfl rfl) hPc hK hN) rfl rfl hl.1 rfl (lv_room (Nat.le_of_ble_eq_true rfl)) dX2_readExponent_70 ⟨Nat.le_of_ble_eq_true rfl, Nat.le_of_ble_eq_true rfl⟩)) (fun o1 hr9 => ?_)
    subst hr9
    refine lv_bipush (v := (45 : Int32)) hx hb dX2_readExponent_73 (by decide) ?_
    refine lv_icmp_ne (tgt := 83) hx hb dX2_readExponent_75 (by decide) (fun hc => ?_) (fun hc => ?_)
    · have hf := (if_neg hc).symm.trans hf
      refine lv_iload_n hx hb dX2_readExponent_83 rfl (lv_at hl 1 rfl) ?_
      exact W.iret (v := x1) hx hb hr (fun t ht hW => ⟨_, rfl, Option.some.inj hf, ht⟩) (fun _ h => nomatch h) dX2_readExponent_84
    · have hf := (if_pos hc).symm.trans hf
      refine lv_iload_n hx hb dX2_readExponent_78 rfl (lv_at hl 1 rfl) ?_
      refine lv_ineg hx hb dX2_readExponent_79 ?_
      refine lv_goto (tgt := 84) hx hb dX2_readExponent_80 (by decide) ?_
      exact W.iret (v := -x1) hx hb hr (fun t ht hW => ⟨_, rfl, Option.some.inj hf, ht⟩) (fun _ h => nomatch h) dX2_readExponent_84
  · have hf := (if_neg hc).symm.trans hf
    refine lv_aload_n hx hb dX2_readExponent_17 rfl (lv_at hl 0 rfl) ?_
    refine va_get (D := (dC, dI)) (ci := 2) (v := .ref aS) (C := RX2) (T := TX2) (N := 8) hx hb hts i_X2_readExponent_X2 hown hK hP 0 rfl rfl 0 (by decide) (hts (.fieldLink RX2 9 "TokenRow$Numbers" "source" "LTokenRow$Source;") (List.mem_of_getElem? (i := 3) rfl)) (fun _ h9 => h9) rfl dX2_readExponent_18 ?_
    refine lv_iload_n hx hb dX2_readExponent_21 rfl (lv_at hl 2 rfl) ?_
    obtain ⟨z2, hz2, hf⟩ := bd_ok hf
    have hPc := hP.sub (ws' := [(aS, .inr (6, [.ref aSc, .int S_count, .int S_cutShort])), (aSc, .inl (cyC, 81920, .inl Sc))]) [1, 2] rfl
    refine vp_callSi (va_Run.run (va_runV (As := [.int x2]) (rest := []) ⟨hx, hb, hml, hown, hts⟩ (m_X6_look l dC dI cyB cyC cyI cyJ cyZ aS aSc  x2 S_count S_cutShort Sc n z2 hz2) (cwV 1 hts gX2_readExponent_X6_look rfl rfl rfl (by decide +kernel) ⟨Nat.le_of_ble_eq_true rfl, Nat.le_of_ble_eq_true rfl⟩) (proV (va_recv hK hP (ci := 6) (q0 := 1) rfl rfl) hPc hK hN) rfl rfl hl.1 rfl (lv_room (Nat.le_of_ble_eq_true rfl)) dX2_readExponent_22 ⟨Nat.le_of_ble_eq_true rfl, Nat.le_of_ble_eq_true rfl⟩)) (fun o2 hr9 => ?_)
    subst hr9
    obtain ⟨z3, hz3, hf⟩ := bd_ok hf
    have hPc := hP.sub (ws' := []) [] rfl
    refine vp_callSi (va_Run.run (va_runSN (As := [.int o2]) (rest := []) ⟨hx, hb, hml, hown, hts⟩ (m_X9_isDecimal l dC dI cyB cyC cyI cyJ cyZ   o2  n z3 hz3) ⟨va_cnB 1 hts ggX2_readExponent_X9_isDecimal rfl rfl rfl (hN (.methodLinkNest RX2 141 yX9_isDecimal RX9) (List.mem_of_getElem? (i := 10) rfl)) (hts (.initialized RX9) (List.mem_of_getElem? (i := 13) rfl)) (by decide +kernel) ⟨Nat.le_of_ble_eq_true rfl, Nat.le_of_ble_eq_true rfl⟩, (hts (.static yX9_isDecimal) (List.mem_of_getElem? (i := 12) rfl)), trivial⟩ (proS hPc hK hN) rfl rfl hl.1 rfl (lv_room (Nat.le_of_ble_eq_true rfl)) dX2_readExponent_25 ⟨Nat.le_of_ble_eq_true rfl, Nat.le_of_ble_eq_true rfl⟩)) (fun o3 hr9 => ?_)
    subst hr9
    refine lv_if_eq (tgt := 54) hx hb dX2_readExponent_28 (by decide) (fun hc => ?_) (fun hc => ?_)
    · have hf := (if_pos hc).symm.trans hf
      exact k_X2_readExponent_54 (aF := aF) (aB := aB) (aR := aR) CX hP n hr9 _ _ hf ls (lv_sub hl [0, 1, 2] rfl)
    · have hf := (if_neg hc).symm.trans hf
      refine lv_iload_n hx hb dX2_readExponent_31 rfl (lv_at hl 1 rfl) ?_
      refine lv_ldc (v := (1000000 : Int32)) hx hb hown (hts (.constant RX2 144 (1000000)) (List.mem_of_getElem? (i := 4) rfl)) dX2_readExponent_32 ?_
      refine lv_icmp_ge (tgt := 54) hx hb dX2_readExponent_34 (by decide) (fun hc => ?_) (fun hc => ?_)
      · have hf := (if_pos hc).symm.trans hf
        exact k_X2_readExponent_54 (aF := aF) (aB := aB) (aR := aR) CX hP n hr9 _ _ hf ls (lv_sub hl [0, 1, 2] rfl)
      · have hf := (if_neg hc).symm.trans hf
        refine lv_iload_n hx hb dX2_readExponent_37 rfl (lv_at hl 1 rfl) ?_
        refine lv_bipush (v := (10 : Int32)) hx hb dX2_readExponent_38 (by decide) ?_
        refine lv_imul hx hb dX2_readExponent_40 ?_
        refine lv_aload_n hx hb dX2_readExponent_41 rfl (lv_at hl 0 rfl) ?_
        refine va_get (D := (dC, dI)) (ci := 2) (v := .ref aS) (C := RX2) (T := TX2) (N := 8) hx hb hts i_X2_readExponent_X2 hown hK hP 0 rfl rfl 0 (by decide) (hts (.fieldLink RX2 9 "TokenRow$Numbers" "source" "LTokenRow$Source;") (List.mem_of_getElem? (i := 3) rfl)) (fun _ h9 => h9) rfl dX2_readExponent_42 ?_
        refine lv_iload_n hx hb dX2_readExponent_45 rfl (lv_at hl 2 rfl) ?_
        obtain ⟨z4, hz4, hf⟩ := bd_ok hf
        have hPc := hP.sub (ws' := [(aS, .inr (6, [.ref aSc, .int S_count, .int S_cutShort])), (aSc, .inl (cyC, 81920, .inl Sc))]) [1, 2] rfl
        refine vp_callSi (va_Run.run (va_runV (As := [.int x2]) (rest := [.int (x1 * (10 : Int32))]) ⟨hx, hb, hml, hown, hts⟩ (m_X6_look l dC dI cyB cyC cyI cyJ cyZ aS aSc  x2 S_count S_cutShort Sc n z4 hz4) (cwV 1 hts gX2_readExponent_X6_look rfl rfl rfl (by decide +kernel) ⟨Nat.le_of_ble_eq_true rfl, Nat.le_of_ble_eq_true rfl⟩) (proV (va_recv hK hP (ci := 6) (q0 := 1) rfl rfl) hPc hK hN) rfl rfl hl.1 rfl (lv_room (Nat.le_of_ble_eq_true rfl)) dX2_readExponent_46 ⟨Nat.le_of_ble_eq_true rfl, Nat.le_of_ble_eq_true rfl⟩)) (fun o4 hr9 => ?_)
        subst hr9
        obtain ⟨z5, hz5, hf⟩ := bd_ok hf
        have hPc := hP.sub (ws' := []) [] rfl
        refine vp_callSi (va_Run.run (va_runSN (As := [.int o4]) (rest := [.int (x1 * (10 : Int32))]) ⟨hx, hb, hml, hown, hts⟩ (m_X9_digitOf l dC dI cyB cyC cyI cyJ cyZ   o4  n z5 hz5) ⟨va_cnB 1 hts ggX2_readExponent_X9_digitOf rfl rfl rfl (hN (.methodLinkNest RX2 117 yX9_digitOf RX9) (List.mem_of_getElem? (i := 9) rfl)) (hts (.initialized RX9) (List.mem_of_getElem? (i := 13) rfl)) (by decide +kernel) ⟨Nat.le_of_ble_eq_true rfl, Nat.le_of_ble_eq_true rfl⟩, (hts (.static yX9_digitOf) (List.mem_of_getElem? (i := 16) rfl)), trivial⟩ (proS hPc hK hN) rfl rfl hl.1 rfl (lv_room (Nat.le_of_ble_eq_true rfl)) dX2_readExponent_49 ⟨Nat.le_of_ble_eq_true rfl, Nat.le_of_ble_eq_true rfl⟩)) (fun o5 hr9 => ?_)
        subst hr9
        refine lv_iadd hx hb dX2_readExponent_52 ?_
        refine lv_topi (fun y6 ey6 => ?_)
        have hf := lt_ok hf y6 ey6
        refine lv_istore_n (lv' := [(1, .int y6), (0, .ref aN), (2, .int x2)]) hx hb dX2_readExponent_53 rfl hl (by decide) rfl (fun ls hl => ?_)
        exact k_X2_readExponent_54 (aF := aF) (aB := aB) (aR := aR) CX hP n hr9 _ _ hf ls (lv_sub hl [1, 0, 2] rfl)
def f_X2_readExponent_9 (n : Nat) (N_base : Int32) (N_first : Int32) (N_significandEnd : Int32) (N_exponentEnd : Int32) (S_count : Int32) (S_cutShort : Int32) (Sc : Nat → Int32) : Nat → Int32 → Int32 → Option (Int32)
  | 0 => fun _ _ => none
  | k + 1 => fun x1 x2 => fb_X2_readExponent_9 n (f_X2_readExponent_9 n N_base N_first N_significandEnd N_exponentEnd S_count S_cutShort Sc k) N_base N_first N_significandEnd N_exponentEnd S_count S_cutShort Sc x1 x2
set_option maxHeartbeats 4000000 in
set_option maxRecDepth 100000 in
theorem k_X2_readExponent_9 {p : Program} {l : Launch} {e : Env} {s : State} {m : MethodId} {args : Array Value} {below : List Frame} {meth : Method} {c : Code} {dC : Nat → ClassId} {dI : Nat → Nat → Nat} {cyB cyC cyI cyJ cyZ : ClassId} {aN aS aF aB aR aSc : Nat} {N_base : Int32} {N_first : Int32} {N_significandEnd : Int32} {N_exponentEnd : Int32} {S_count : Int32} {S_cutShort : Int32} {Sc : Nat → Int32} {out : Int32} (CX : cx cX2_readExponent (some .int) 3 RX2 wsX2_readExponent (dC, dI) (TY cyB cyC cyI cyJ cyZ) p s m args meth c) (hP : va_P (dC, dI) vwCl [(aN, .inr (2, [.ref aS, .ref aF, .ref aB, .ref aR, .int N_base, .int N_first, .int N_significandEnd, .int N_exponentEnd])), (aS, .inr (6, [.ref aSc, .int S_count, .int S_cutShort])), (aSc, .inl (cyC, 81920, .inl Sc))] s.heap) (n : Nat) : ∀ k : Nat, J_X2_readExponent_9 p l e s m args below meth c dC dI cyB cyC cyI cyJ cyZ aN aS aF aB aR aSc N_base N_first N_significandEnd N_exponentEnd S_count S_cutShort Sc out (f_X2_readExponent_9 n N_base N_first N_significandEnd N_exponentEnd S_count S_cutShort Sc k) := by
  intro k
  induction k with
  | zero =>
    intro x1 x2 hf
    exact absurd (show (none : Option (Int32)) = some out from hf) (by simp)
  | succ k ih =>
    exact kb_X2_readExponent_9 (aF := aF) (aB := aB) (aR := aR) CX hP n ih
def f_X2_readExponent_0 (n : Nat) (N_base : Int32) (N_first : Int32) (N_significandEnd : Int32) (N_exponentEnd : Int32) (S_count : Int32) (S_cutShort : Int32) (Sc : Nat → Int32) : Option (Int32) :=
  lt_ (N_significandEnd + (1 : Int32)) fun y1 =>
  f_X2_readExponent_9 n N_base N_first N_significandEnd N_exponentEnd S_count S_cutShort Sc n (0 : Int32) y1
set_option maxHeartbeats 4000000 in
set_option maxRecDepth 100000 in
theorem k_X2_readExponent_0 {p : Program} {l : Launch} {e : Env} {s : State} {m : MethodId} {args : Array Value} {below : List Frame} {meth : Method} {c : Code} {dC : Nat → ClassId} {dI : Nat → Nat → Nat} {cyB cyC cyI cyJ cyZ : ClassId} {aN aS aF aB aR aSc : Nat} {N_base : Int32} {N_first : Int32} {N_significandEnd : Int32} {N_exponentEnd : Int32} {S_count : Int32} {S_cutShort : Int32} {Sc : Nat → Int32} {out : Int32} (CX : cx cX2_readExponent (some .int) 3 RX2 wsX2_readExponent (dC, dI) (TY cyB cyC cyI cyJ cyZ) p s m args meth c) (hP : va_P (dC, dI) vwCl [(aN, .inr (2, [.ref aS, .ref aF, .ref aB, .ref aR, .int N_base, .int N_first, .int N_significandEnd, .int N_exponentEnd])), (aS, .inr (6, [.ref aSc, .int S_count, .int S_cutShort])), (aSc, .inl (cyC, 81920, .inl Sc))] s.heap) (n : Nat) : J_X2_readExponent_0 p l e s m args below meth c dC dI cyB cyC cyI cyJ cyZ aN aS aF aB aR aSc N_base N_first N_significandEnd N_exponentEnd S_count S_cutShort Sc out (f_X2_readExponent_0 n N_base N_first N_significandEnd N_exponentEnd S_count S_cutShort Sc) := by
  intro hf ls hl
  obtain ⟨hx, hb, hr, hml, hown, hts, hlocks, hK, hN⟩ := id CX
  unfold f_X2_readExponent_0 at hf
  refine lv_iconst (v := (0 : Int32)) hx hb dX2_readExponent_0 (by decide) ?_
  refine lv_istore_n (lv' := [(1, .int (0 : Int32)), (0, .ref aN)]) hx hb dX2_readExponent_1 rfl hl (by decide) rfl (fun ls hl => ?_)
  refine lv_aload_n hx hb dX2_readExponent_2 rfl (lv_at hl 1 rfl) ?_
  refine va_get (D := (dC, dI)) (ci := 2) (v := .int N_significandEnd) (C := RX2) (T := TX2) (N := 8) hx hb hts i_X2_readExponent_X2 hown hK hP 0 rfl rfl 6 (by decide) (hts (.fieldLink RX2 56 "TokenRow$Numbers" "significandEnd" "I") (List.mem_of_getElem? (i := 1) rfl)) (fun _ h9 => h9) rfl dX2_readExponent_3 ?_
  refine lv_iconst (v := (1 : Int32)) hx hb dX2_readExponent_6 (by decide) ?_
  refine lv_iadd hx hb dX2_readExponent_7 ?_
  refine lv_topi (fun y1 ey1 => ?_)
  have hf := lt_ok hf y1 ey1
  refine lv_istore_n (lv' := [(2, .int y1), (1, .int (0 : Int32)), (0, .ref aN)]) hx hb dX2_readExponent_8 rfl hl (by decide) rfl (fun ls hl => ?_)
  exact k_X2_readExponent_9 (aF := aF) (aB := aB) (aR := aR) CX hP n n _ _ hf ls (lv_sub hl [2, 1, 0] rfl)
def f_X2_readExponent (n : Nat) (N_base : Int32) (N_first : Int32) (N_significandEnd : Int32) (N_exponentEnd : Int32) (S_count : Int32) (S_cutShort : Int32) (Sc : Nat → Int32) : Option (Int32) := f_X2_readExponent_0 n N_base N_first N_significandEnd N_exponentEnd S_count S_cutShort Sc 
set_option maxHeartbeats 4000000 in
set_option maxRecDepth 100000 in
/-- TokenRow$Numbers.readExponent()I -/
theorem m_X2_readExponent (l : Launch) (dC : Nat → ClassId) (dI : Nat → Nat → Nat) (cyB cyC cyI cyJ cyZ : ClassId) (aN aS aF aB aR aSc : Nat) (N_base : Int32) (N_first : Int32) (N_significandEnd : Int32) (N_exponentEnd : Int32) (S_count : Int32) (S_cutShort : Int32) (Sc : Nat → Int32) (n : Nat) (out : Int32) (hf : f_X2_readExponent n N_base N_first N_significandEnd N_exponentEnd S_count S_cutShort Sc = some out) : Met l yX2_readExponent wsX2_readExponent rm_X2_readExponent (Pro (dC, dI) (TY cyB cyC cyI cyJ cyZ) [.ref aN] [(aN, .inr (2, [.ref aS, .ref aF, .ref aB, .ref aR, .int N_base, .int N_first, .int N_significandEnd, .int N_exponentEnd])), (aS, .inr (6, [.ref aSc, .int S_count, .int S_cutShort])), (aSc, .inl (cyC, 81920, .inl Sc))]) (vp_Si (fun r => r = out)) 0 0 (fun _ => False) := by
  refine Met.ofW (cc := cX2_readExponent) (maxL := 3) (ret := (some .int)) (by decide) rfl ?_
  intro p e s m args below meth c s₁ B hml hv
  obtain ⟨rfl, hP, hK, hN⟩ := hv
  have CX : cx cX2_readExponent (some .int) 3 RX2 wsX2_readExponent (dC, dI) (TY cyB cyC cyI cyJ cyZ) p s m ([.ref aN] : List Value).toArray meth c := ⟨B.exec, B.bytes, B.returns, hml, findClass_of_methodNamed B.named, atoms_spec (ws := wsX2_readExponent) B.pre, B.notSynchronized, hK, hN⟩
  have hl := lv_entry ([.ref aN]) (n := 3) (Nat.le_of_ble_eq_true rfl)
  rw [lg_entry_eq]
  exact k_X2_readExponent_0 (aF := aF) (aB := aB) (aR := aR) CX hP n  hf _ hl
abbrev rm_X2_isAtMostMinimum : Room := { frames := 0, cells := 0, slots := 0, locals := 0 }
def J_X2_isAtMostMinimum_0 (p : Program) (l : Launch) (e : Env) (s : State) (m : MethodId) (args : Array Value) (below : List Frame) (meth : Method) (c : Code) (dC : Nat → ClassId) (dI : Nat → Nat → Nat) (cyB cyC cyI cyJ cyZ : ClassId) (out : Int32) (g : Int64 → Int32 → Option (Int32)) : Prop := ∀ (x0 : Int64) (x2 : Int32), g x0 x2 = some out → ∀ ls : Array Slot, lv_has ls 3 [(0, .long x0), (2, .int x2)] → W p l e rm_X2_isAtMostMinimum s m args below meth c s.heap [] 0 0 (MQ below (vp_Si (fun r => r = out)) args s 0 0 (fun _ => False)) (F0 m 0 ls [])
def f_X2_isAtMostMinimum_0 (n : Nat) (x0 : Int64) (x2 : Int32) : Option (Int32) :=
  if x2 = 0 then
  (if 0 < (lg_cmp x0 (2147483648 : Int64)) then
  (some (0 : Int32))
  else
  (some (1 : Int32)))
  else
  (if 0 ≤ (lg_cmp x0 (0 : Int64)) then
  (some (1 : Int32))
  else
  (if (lg_cmp x0 (-9223372036854775808 : Int64)) = 0 then
  (some (1 : Int32))
  else
  (some (0 : Int32))))
set_option maxHeartbeats 4000000 in
set_option maxRecDepth 100000 in
theorem k_X2_isAtMostMinimum_0 {p : Program} {l : Launch} {e : Env} {s : State} {m : MethodId} {args : Array Value} {below : List Frame} {meth : Method} {c : Code} {dC : Nat → ClassId} {dI : Nat → Nat → Nat} {cyB cyC cyI cyJ cyZ : ClassId} {out : Int32} (CX : cx cX2_isAtMostMinimum (some .boolean) 3 RX2 wsX2_isAtMostMinimum (dC, dI) (TY cyB cyC cyI cyJ cyZ) p s m args meth c) (hP : va_P (dC, dI) vwCl [] s.heap) (n : Nat) : J_X2_isAtMostMinimum_0 p l e s m args below meth c dC dI cyB cyC cyI cyJ cyZ out (f_X2_isAtMostMinimum_0 n) := by
  intro x0 x2 hf ls hl
  obtain ⟨hx, hb, hr, hml, hown, hts, hlocks, hK, hN⟩ := id CX
  unfold f_X2_isAtMostMinimum_0 at hf
  refine lv_iload_n hx hb dX2_isAtMostMinimum_0 rfl (lv_at hl 1 rfl) ?_
  refine lv_if_eq (tgt := 26) hx hb dX2_isAtMostMinimum_1 (by decide) (fun hc => ?_) (fun hc => ?_)
  · have hf := (if_pos hc).symm.trans hf
    refine lv_lload_n hx hb dX2_isAtMostMinimum_26 rfl (lv_at hl 0 rfl) ?_
    refine lv_ldc2 (v := (2147483648 : Int64)) hx hb hown (hts (.constantLong RX2 122 (2147483648)) (List.mem_of_getElem? (i := 2) rfl)) dX2_isAtMostMinimum_27 ?_
    refine W.lcmp hx hb dX2_isAtMostMinimum_30 ?_
    refine lv_if_gt (tgt := 38) hx hb dX2_isAtMostMinimum_31 (by decide) (fun hc => ?_) (fun hc => ?_)
    · have hf := (if_pos hc).symm.trans hf
      refine lv_iconst (v := (0 : Int32)) hx hb dX2_isAtMostMinimum_38 (by decide) ?_
      exact W.zret (v := (0 : Int32)) (ty := .boolean) hx hb hr rfl (fun t ht hW => ⟨_, rfl, Option.some.inj hf, ht⟩) (fun _ h => nomatch h) dX2_isAtMostMinimum_39
    · have hf := (if_neg hc).symm.trans hf
      refine lv_iconst (v := (1 : Int32)) hx hb dX2_isAtMostMinimum_34 (by decide) ?_
      refine lv_goto (tgt := 39) hx hb dX2_isAtMostMinimum_35 (by decide) ?_
      exact W.zret (v := (1 : Int32)) (ty := .boolean) hx hb hr rfl (fun t ht hW => ⟨_, rfl, Option.some.inj hf, ht⟩) (fun _ h => nomatch h) dX2_isAtMostMinimum_39
  · have hf := (if_neg hc).symm.trans hf
    refine lv_lload_n hx hb dX2_isAtMostMinimum_4 rfl (lv_at hl 0 rfl) ?_
    refine lv_lconst (v := (0 : Int64)) hx hb dX2_isAtMostMinimum_5 (by decide) ?_
    refine W.lcmp hx hb dX2_isAtMostMinimum_6 ?_
    refine lv_if_ge (tgt := 18) hx hb dX2_isAtMostMinimum_7 (by decide) (fun hc => ?_) (fun hc => ?_)
    · have hf := (if_pos hc).symm.trans hf
      refine lv_iconst (v := (1 : Int32)) hx hb dX2_isAtMostMinimum_18 (by decide) ?_
      refine lv_goto (tgt := 39) hx hb dX2_isAtMostMinimum_19 (by decide) ?_
      exact W.zret (v := (1 : Int32)) (ty := .boolean) hx hb hr rfl (fun t ht hW => ⟨_, rfl, Option.some.inj hf, ht⟩) (fun _ h => nomatch h) dX2_isAtMostMinimum_39
    · have hf := (if_neg hc).symm.trans hf
      refine lv_lload_n hx hb dX2_isAtMostMinimum_10 rfl (lv_at hl 0 rfl) ?_
      refine lv_ldc2 (v := (-9223372036854775808 : Int64)) hx hb hown (hts (.constantLong RX2 120 (-9223372036854775808)) (List.mem_of_getElem? (i := 1) rfl)) dX2_isAtMostMinimum_11 ?_
      refine W.lcmp hx hb dX2_isAtMostMinimum_14 ?_
      refine lv_if_ne (tgt := 22) hx hb dX2_isAtMostMinimum_15 (by decide) (fun hc => ?_) (fun hc => ?_)
      · have hf := (if_neg hc).symm.trans hf
        refine lv_iconst (v := (0 : Int32)) hx hb dX2_isAtMostMinimum_22 (by decide) ?_
        refine lv_goto (tgt := 39) hx hb dX2_isAtMostMinimum_23 (by decide) ?_
        exact W.zret (v := (0 : Int32)) (ty := .boolean) hx hb hr rfl (fun t ht hW => ⟨_, rfl, Option.some.inj hf, ht⟩) (fun _ h => nomatch h) dX2_isAtMostMinimum_39
      · have hf := (if_pos hc).symm.trans hf
        refine lv_iconst (v := (1 : Int32)) hx hb dX2_isAtMostMinimum_18 (by decide) ?_
        refine lv_goto (tgt := 39) hx hb dX2_isAtMostMinimum_19 (by decide) ?_
        exact W.zret (v := (1 : Int32)) (ty := .boolean) hx hb hr rfl (fun t ht hW => ⟨_, rfl, Option.some.inj hf, ht⟩) (fun _ h => nomatch h) dX2_isAtMostMinimum_39
def f_X2_isAtMostMinimum (n : Nat) (p0 : Int64) (p2 : Int32) : Option (Int32) := f_X2_isAtMostMinimum_0 n p0 p2
set_option maxHeartbeats 4000000 in
set_option maxRecDepth 100000 in
/-- TokenRow$Numbers.isAtMostMinimum(JZ)Z -/
theorem m_X2_isAtMostMinimum (l : Launch) (dC : Nat → ClassId) (dI : Nat → Nat → Nat) (cyB cyC cyI cyJ cyZ : ClassId) (p0 : Int64) (p2 : Int32) (n : Nat) (out : Int32) (hf : f_X2_isAtMostMinimum n p0 p2 = some out) : Met l yX2_isAtMostMinimum wsX2_isAtMostMinimum rm_X2_isAtMostMinimum (Pro (dC, dI) (TY cyB cyC cyI cyJ cyZ) [.long p0, .int p2] []) (vp_Si (fun r => r = out)) 0 0 (fun _ => False) := by
  refine Met.ofW (cc := cX2_isAtMostMinimum) (maxL := 3) (ret := (some .boolean)) (by decide) rfl ?_
  intro p e s m args below meth c s₁ B hml hv
  obtain ⟨rfl, hP, hK, hN⟩ := hv
  have CX : cx cX2_isAtMostMinimum (some .boolean) 3 RX2 wsX2_isAtMostMinimum (dC, dI) (TY cyB cyC cyI cyJ cyZ) p s m ([.long p0, .int p2] : List Value).toArray meth c := ⟨B.exec, B.bytes, B.returns, hml, findClass_of_methodNamed B.named, atoms_spec (ws := wsX2_isAtMostMinimum) B.pre, B.notSynchronized, hK, hN⟩
  have hl := lv_entry ([.long p0, .int p2]) (n := 3) (Nat.le_of_ble_eq_true rfl)
  rw [lg_entry_eq]
  exact k_X2_isAtMostMinimum_0 CX hP n _ _ hf _ hl
abbrev rm_X2_chooseBase : Room := { frames := 3, cells := 0, slots := 0, locals := 67 }
theorem i_X2_chooseBase_X2 : ∀ w ∈ u_ws RX2 TX2 8, w ∈ wsX2_chooseBase := fun _ h => (List.mem_cons_of_mem _ (List.mem_append_left _ (List.mem_append_right _ h)))
theorem i_X2_chooseBase_X6 : ∀ w ∈ u_ws RX6 TX6 3, w ∈ wsX2_chooseBase := fun _ h => (List.mem_cons_of_mem _ (List.mem_append_right _ h))
def J_X2_chooseBase_128 (p : Program) (l : Launch) (e : Env) (s : State) (m : MethodId) (args : Array Value) (below : List Frame) (meth : Method) (c : Code) (dC : Nat → ClassId) (dI : Nat → Nat → Nat) (cyB cyC cyI cyJ cyZ : ClassId) (aN aS aF aB aR aSc : Nat) (N_significandEnd : Int32) (N_exponentEnd : Int32) (S_count : Int32) (S_cutShort : Int32) (Sc : Nat → Int32) (A : Nat → Prop) (out : Int32 × Int32) (g : Int32 → Int32 → Int32 → Option (Int32 × Int32)) : Prop := ∀ (N_base : Int32) (N_first : Int32) (t1 : Int32) (H : Heap) (locs : List Loc), g N_base N_first t1 = some out → va_P (dC, dI) vwCl [(aN, .inr (2, [.ref aS, .ref aF, .ref aB, .ref aR, .int N_base, .int N_first, .int N_significandEnd, .int N_exponentEnd])), (aS, .inr (6, [.ref aSc, .int S_count, .int S_cutShort])), (aSc, .inl (cyC, 81920, .inl Sc))] H → va_D A [(aN, .inr (2, [.ref aS, .ref aF, .ref aB, .ref aR, .int N_base, .int N_first, .int N_significandEnd, .int N_exponentEnd])), (aS, .inr (6, [.ref aSc, .int S_count, .int S_cutShort])), (aSc, .inl (cyC, 81920, .inl Sc))] → va_S A s.heap H locs → ∀ ls : Array Slot, lv_has ls 4 [] → W p l e rm_X2_chooseBase s m args below meth c H locs 0 0 (MQ below (va_Qv (fun (u : Int32 × Int32) => u = out) (Bw (dC, dI) A (fun u => [(aN, .inr (2, [.ref aS, .ref aF, .ref aB, .ref aR, .int u.1, .int u.2, .int N_significandEnd, .int N_exponentEnd])), (aS, .inr (6, [.ref aSc, .int S_count, .int S_cutShort])), (aSc, .inl (cyC, 81920, .inl Sc))])) A) args s 0 0 A) (F0 m 128 ls [.int t1, .ref aN])
def J_X2_chooseBase_87 (p : Program) (l : Launch) (e : Env) (s : State) (m : MethodId) (args : Array Value) (below : List Frame) (meth : Method) (c : Code) (dC : Nat → ClassId) (dI : Nat → Nat → Nat) (cyB cyC cyI cyJ cyZ : ClassId) (aN aS aF aB aR aSc : Nat) (N_significandEnd : Int32) (N_exponentEnd : Int32) (S_count : Int32) (S_cutShort : Int32) (Sc : Nat → Int32) (A : Nat → Prop) (out : Int32 × Int32) (g : Int32 → Int32 → Int32 → Int32 → Int32 → Int32 → Option (Int32 × Int32)) : Prop := ∀ (N_base : Int32) (N_first : Int32) (x1 : Int32) (x2 : Int32) (x3 : Int32) (t1 : Int32) (H : Heap) (locs : List Loc), g N_base N_first x1 x2 x3 t1 = some out → va_P (dC, dI) vwCl [(aN, .inr (2, [.ref aS, .ref aF, .ref aB, .ref aR, .int N_base, .int N_first, .int N_significandEnd, .int N_exponentEnd])), (aS, .inr (6, [.ref aSc, .int S_count, .int S_cutShort])), (aSc, .inl (cyC, 81920, .inl Sc))] H → va_D A [(aN, .inr (2, [.ref aS, .ref aF, .ref aB, .ref aR, .int N_base, .int N_first, .int N_significandEnd, .int N_exponentEnd])), (aS, .inr (6, [.ref aSc, .int S_count, .int S_cutShort])), (aSc, .inl (cyC, 81920, .inl Sc))] → va_S A s.heap H locs → ∀ ls : Array Slot, lv_has ls 4 [(0, .ref aN), (1, .int x1), (2, .int x2), (3, .int x3)] → W p l e rm_X2_chooseBase s m args below meth c H locs 0 0 (MQ below (va_Qv (fun (u : Int32 × Int32) => u = out) (Bw (dC, dI) A (fun u => [(aN, .inr (2, [.ref aS, .ref aF, .ref aB, .ref aR, .int u.1, .int u.2, .int N_significandEnd, .int N_exponentEnd])), (aS, .inr (6, [.ref aSc, .int S_count, .int S_cutShort])), (aSc, .inl (cyC, 81920, .inl Sc))])) A) args s 0 0 A) (F0 m 87 ls [.int t1, .ref aN])
def J_X2_chooseBase_80 (p : Program) (l : Launch) (e : Env) (s : State) (m : MethodId) (args : Array Value) (below : List Frame) (meth : Method) (c : Code) (dC : Nat → ClassId) (dI : Nat → Nat → Nat) (cyB cyC cyI cyJ cyZ : ClassId) (aN aS aF aB aR aSc : Nat) (N_significandEnd : Int32) (N_exponentEnd : Int32) (S_count : Int32) (S_cutShort : Int32) (Sc : Nat → Int32) (A : Nat → Prop) (out : Int32 × Int32) (g : Int32 → Int32 → Int32 → Int32 → Int32 → Option (Int32 × Int32)) : Prop := ∀ (N_base : Int32) (N_first : Int32) (x1 : Int32) (x2 : Int32) (x3 : Int32) (H : Heap) (locs : List Loc), g N_base N_first x1 x2 x3 = some out → va_P (dC, dI) vwCl [(aN, .inr (2, [.ref aS, .ref aF, .ref aB, .ref aR, .int N_base, .int N_first, .int N_significandEnd, .int N_exponentEnd])), (aS, .inr (6, [.ref aSc, .int S_count, .int S_cutShort])), (aSc, .inl (cyC, 81920, .inl Sc))] H → va_D A [(aN, .inr (2, [.ref aS, .ref aF, .ref aB, .ref aR, .int N_base, .int N_first, .int N_significandEnd, .int N_exponentEnd])), (aS, .inr (6, [.ref aSc, .int S_count, .int S_cutShort])), (aSc, .inl (cyC, 81920, .inl Sc))] → va_S A s.heap H locs → ∀ ls : Array Slot, lv_has ls 4 [(0, .ref aN), (1, .int x1), (2, .int x2), (3, .int x3)] → W p l e rm_X2_chooseBase s m args below meth c H locs 0 0 (MQ below (va_Qv (fun (u : Int32 × Int32) => u = out) (Bw (dC, dI) A (fun u => [(aN, .inr (2, [.ref aS, .ref aF, .ref aB, .ref aR, .int u.1, .int u.2, .int N_significandEnd, .int N_exponentEnd])), (aS, .inr (6, [.ref aSc, .int S_count, .int S_cutShort])), (aSc, .inl (cyC, 81920, .inl Sc))])) A) args s 0 0 A) (F0 m 80 ls [.ref aN])
def J_X2_chooseBase_70 (p : Program) (l : Launch) (e : Env) (s : State) (m : MethodId) (args : Array Value) (below : List Frame) (meth : Method) (c : Code) (dC : Nat → ClassId) (dI : Nat → Nat → Nat) (cyB cyC cyI cyJ cyZ : ClassId) (aN aS aF aB aR aSc : Nat) (N_significandEnd : Int32) (N_exponentEnd : Int32) (S_count : Int32) (S_cutShort : Int32) (Sc : Nat → Int32) (A : Nat → Prop) (out : Int32 × Int32) (g : Int32 → Int32 → Int32 → Int32 → Int32 → Option (Int32 × Int32)) : Prop := ∀ (N_base : Int32) (N_first : Int32) (x1 : Int32) (x2 : Int32) (t0 : Int32) (H : Heap) (locs : List Loc), g N_base N_first x1 x2 t0 = some out → va_P (dC, dI) vwCl [(aN, .inr (2, [.ref aS, .ref aF, .ref aB, .ref aR, .int N_base, .int N_first, .int N_significandEnd, .int N_exponentEnd])), (aS, .inr (6, [.ref aSc, .int S_count, .int S_cutShort])), (aSc, .inl (cyC, 81920, .inl Sc))] H → va_D A [(aN, .inr (2, [.ref aS, .ref aF, .ref aB, .ref aR, .int N_base, .int N_first, .int N_significandEnd, .int N_exponentEnd])), (aS, .inr (6, [.ref aSc, .int S_count, .int S_cutShort])), (aSc, .inl (cyC, 81920, .inl Sc))] → va_S A s.heap H locs → ∀ ls : Array Slot, lv_has ls 4 [(0, .ref aN), (1, .int x1), (2, .int x2)] → W p l e rm_X2_chooseBase s m args below meth c H locs 0 0 (MQ below (va_Qv (fun (u : Int32 × Int32) => u = out) (Bw (dC, dI) A (fun u => [(aN, .inr (2, [.ref aS, .ref aF, .ref aB, .ref aR, .int u.1, .int u.2, .int N_significandEnd, .int N_exponentEnd])), (aS, .inr (6, [.ref aSc, .int S_count, .int S_cutShort])), (aSc, .inl (cyC, 81920, .inl Sc))])) A) args s 0 0 A) (F0 m 70 ls [.int t0])
def J_X2_chooseBase_69 (p : Program) (l : Launch) (e : Env) (s : State) (m : MethodId) (args : Array Value) (below : List Frame) (meth : Method) (c : Code) (dC : Nat → ClassId) (dI : Nat → Nat → Nat) (cyB cyC cyI cyJ cyZ : ClassId) (aN aS aF aB aR aSc : Nat) (N_significandEnd : Int32) (N_exponentEnd : Int32) (S_count : Int32) (S_cutShort : Int32) (Sc : Nat → Int32) (A : Nat → Prop) (out : Int32 × Int32) (g : Int32 → Int32 → Int32 → Int32 → Option (Int32 × Int32)) : Prop := ∀ (N_base : Int32) (N_first : Int32) (x1 : Int32) (x2 : Int32) (H : Heap) (locs : List Loc), g N_base N_first x1 x2 = some out → va_P (dC, dI) vwCl [(aN, .inr (2, [.ref aS, .ref aF, .ref aB, .ref aR, .int N_base, .int N_first, .int N_significandEnd, .int N_exponentEnd])), (aS, .inr (6, [.ref aSc, .int S_count, .int S_cutShort])), (aSc, .inl (cyC, 81920, .inl Sc))] H → va_D A [(aN, .inr (2, [.ref aS, .ref aF, .ref aB, .ref aR, .int N_base, .int N_first, .int N_significandEnd, .int N_exponentEnd])), (aS, .inr (6, [.ref aSc, .int S_count, .int S_cutShort])), (aSc, .inl (cyC, 81920, .inl Sc))] → va_S A s.heap H locs → ∀ ls : Array Slot, lv_has ls 4 [(0, .ref aN), (1, .int x1), (2, .int x2)] → W p l e rm_X2_chooseBase s m args below meth c H locs 0 0 (MQ below (va_Qv (fun (u : Int32 × Int32) => u = out) (Bw (dC, dI) A (fun u => [(aN, .inr (2, [.ref aS, .ref aF, .ref aB, .ref aR, .int u.1, .int u.2, .int N_significandEnd, .int N_exponentEnd])), (aS, .inr (6, [.ref aSc, .int S_count, .int S_cutShort])), (aSc, .inl (cyC, 81920, .inl Sc))])) A) args s 0 0 A) (F0 m 69 ls [])
def J_X2_chooseBase_35 (p : Program) (l : Launch) (e : Env) (s : State) (m : MethodId) (args : Array Value) (below : List Frame) (meth : Method) (c : Code) (dC : Nat → ClassId) (dI : Nat → Nat → Nat) (cyB cyC cyI cyJ cyZ : ClassId) (aN aS aF aB aR aSc : Nat) (N_significandEnd : Int32) (N_exponentEnd : Int32) (S_count : Int32) (S_cutShort : Int32) (Sc : Nat → Int32) (A : Nat → Prop) (out : Int32 × Int32) (g : Int32 → Int32 → Int32 → Int32 → Option (Int32 × Int32)) : Prop := ∀ (N_base : Int32) (N_first : Int32) (x1 : Int32) (t0 : Int32) (H : Heap) (locs : List Loc), g N_base N_first x1 t0 = some out → va_P (dC, dI) vwCl [(aN, .inr (2, [.ref aS, .ref aF, .ref aB, .ref aR, .int N_base, .int N_first, .int N_significandEnd, .int N_exponentEnd])), (aS, .inr (6, [.ref aSc, .int S_count, .int S_cutShort])), (aSc, .inl (cyC, 81920, .inl Sc))] H → va_D A [(aN, .inr (2, [.ref aS, .ref aF, .ref aB, .ref aR, .int N_base, .int N_first, .int N_significandEnd, .int N_exponentEnd])), (aS, .inr (6, [.ref aSc, .int S_count, .int S_cutShort])), (aSc, .inl (cyC, 81920, .inl Sc))] → va_S A s.heap H locs → ∀ ls : Array Slot, lv_has ls 4 [(0, .ref aN), (1, .int x1)] → W p l e rm_X2_chooseBase s m args below meth c H locs 0 0 (MQ below (va_Qv (fun (u : Int32 × Int32) => u = out) (Bw (dC, dI) A (fun u => [(aN, .inr (2, [.ref aS, .ref aF, .ref aB, .ref aR, .int u.1, .int u.2, .int N_significandEnd, .int N_exponentEnd])), (aS, .inr (6, [.ref aSc, .int S_count, .int S_cutShort])), (aSc, .inl (cyC, 81920, .inl Sc))])) A) args s 0 0 A) (F0 m 35 ls [.int t0])
def J_X2_chooseBase_34 (p : Program) (l : Launch) (e : Env) (s : State) (m : MethodId) (args : Array Value) (below : List Frame) (meth : Method) (c : Code) (dC : Nat → ClassId) (dI : Nat → Nat → Nat) (cyB cyC cyI cyJ cyZ : ClassId) (aN aS aF aB aR aSc : Nat) (N_significandEnd : Int32) (N_exponentEnd : Int32) (S_count : Int32) (S_cutShort : Int32) (Sc : Nat → Int32) (A : Nat → Prop) (out : Int32 × Int32) (g : Int32 → Int32 → Int32 → Option (Int32 × Int32)) : Prop := ∀ (N_base : Int32) (N_first : Int32) (x1 : Int32) (H : Heap) (locs : List Loc), g N_base N_first x1 = some out → va_P (dC, dI) vwCl [(aN, .inr (2, [.ref aS, .ref aF, .ref aB, .ref aR, .int N_base, .int N_first, .int N_significandEnd, .int N_exponentEnd])), (aS, .inr (6, [.ref aSc, .int S_count, .int S_cutShort])), (aSc, .inl (cyC, 81920, .inl Sc))] H → va_D A [(aN, .inr (2, [.ref aS, .ref aF, .ref aB, .ref aR, .int N_base, .int N_first, .int N_significandEnd, .int N_exponentEnd])), (aS, .inr (6, [.ref aSc, .int S_count, .int S_cutShort])), (aSc, .inl (cyC, 81920, .inl Sc))] → va_S A s.heap H locs → ∀ ls : Array Slot, lv_has ls 4 [(0, .ref aN), (1, .int x1)] → W p l e rm_X2_chooseBase s m args below meth c H locs 0 0 (MQ below (va_Qv (fun (u : Int32 × Int32) => u = out) (Bw (dC, dI) A (fun u => [(aN, .inr (2, [.ref aS, .ref aF, .ref aB, .ref aR, .int u.1, .int u.2, .int N_significandEnd, .int N_exponentEnd])), (aS, .inr (6, [.ref aSc, .int S_count, .int S_cutShort])), (aSc, .inl (cyC, 81920, .inl Sc))])) A) args s 0 0 A) (F0 m 34 ls [])
def J_X2_chooseBase_0 (p : Program) (l : Launch) (e : Env) (s : State) (m : MethodId) (args : Array Value) (below : List Frame) (meth : Method) (c : Code) (dC : Nat → ClassId) (dI : Nat → Nat → Nat) (cyB cyC cyI cyJ cyZ : ClassId) (aN aS aF aB aR aSc : Nat) (N_significandEnd : Int32) (N_exponentEnd : Int32) (S_count : Int32) (S_cutShort : Int32) (Sc : Nat → Int32) (A : Nat → Prop) (out : Int32 × Int32) (g : Int32 → Int32 → Int32 → Option (Int32 × Int32)) : Prop := ∀ (N_base : Int32) (N_first : Int32) (x1 : Int32) (H : Heap) (locs : List Loc), g N_base N_first x1 = some out → va_P (dC, dI) vwCl [(aN, .inr (2, [.ref aS, .ref aF, .ref aB, .ref aR, .int N_base, .int N_first, .int N_significandEnd, .int N_exponentEnd])), (aS, .inr (6, [.ref aSc, .int S_count, .int S_cutShort])), (aSc, .inl (cyC, 81920, .inl Sc))] H → va_D A [(aN, .inr (2, [.ref aS, .ref aF, .ref aB, .ref aR, .int N_base, .int N_first, .int N_significandEnd, .int N_exponentEnd])), (aS, .inr (6, [.ref aSc, .int S_count, .int S_cutShort])), (aSc, .inl (cyC, 81920, .inl Sc))] → va_S A s.heap H locs → ∀ ls : Array Slot, lv_has ls 4 [(0, .ref aN), (1, .int x1)] → W p l e rm_X2_chooseBase s m args below meth c H locs 0 0 (MQ below (va_Qv (fun (u : Int32 × Int32) => u = out) (Bw (dC, dI) A (fun u => [(aN, .inr (2, [.ref aS, .ref aF, .ref aB, .ref aR, .int u.1, .int u.2, .int N_significandEnd, .int N_exponentEnd])), (aS, .inr (6, [.ref aSc, .int S_count, .int S_cutShort])), (aSc, .inl (cyC, 81920, .inl Sc))])) A) args s 0 0 A) (F0 m 0 ls [])
def f_X2_chooseBase_128 (n : Nat) (N_significandEnd : Int32) (N_exponentEnd : Int32) (S_count : Int32) (S_cutShort : Int32) (Sc : Nat → Int32) (N_base : Int32) (N_first : Int32) (t1 : Int32) : Option (Int32 × Int32) :=
  some (t1, N_first)
set_option maxHeartbeats 4000000 in
set_option maxRecDepth 100000 in
theorem k_X2_chooseBase_128 {p : Program} {l : Launch} {e : Env} {s : State} {m : MethodId} {args : Array Value} {below : List Frame} {meth : Method} {c : Code} {dC : Nat → ClassId} {dI : Nat → Nat → Nat} {cyB cyC cyI cyJ cyZ : ClassId} {aN aS aF aB aR aSc : Nat} {N_significandEnd : Int32} {N_exponentEnd : Int32} {S_count : Int32} {S_cutShort : Int32} {Sc : Nat → Int32} {A : Nat → Prop} {out : Int32 × Int32} (CX : cx cX2_chooseBase none 4 RX2 wsX2_chooseBase (dC, dI) (TY cyB cyC cyI cyJ cyZ) p s m args meth c) (hA : ∀ q : Nat, s.heap.size ≤ q → A q) (n : Nat) : J_X2_chooseBase_128 p l e s m args below meth c dC dI cyB cyC cyI cyJ cyZ aN aS aF aB aR aSc N_significandEnd N_exponentEnd S_count S_cutShort Sc A out (f_X2_chooseBase_128 n N_significandEnd N_exponentEnd S_count S_cutShort Sc) := by
  intro N_base N_first t1 H locs hf hP hD hS ls hl
  obtain ⟨hx, hb, hr, hml, hown, hts, hlocks, hK, hN⟩ := id CX
  unfold f_X2_chooseBase_128 at hf
  refine va_put (D := (dC, dI)) (ci := 2) (v := .int t1) (ty := .int) (C := RX2) (T := TX2) (N := 8) hx hb hts i_X2_chooseBase_X2 tyX2 tyX2_ok nmX2 hown hK hP hD hS 0 rfl rfl 4 (by decide) (hts (.fieldLink RX2 39 "TokenRow$Numbers" "base" "I") (List.mem_of_getElem? (i := 3) rfl)) (fun _ h9 => h9) rfl (by decide +kernel) rfl rfl (Nat.le_of_ble_eq_true rfl) dX2_chooseBase_128 (fun H1 locs hP hD hS => ?_)
  have hP : va_P (dC, dI) vwCl [(aN, .inr (2, [.ref aS, .ref aF, .ref aB, .ref aR, .int t1, .int N_first, .int N_significandEnd, .int N_exponentEnd])), (aS, .inr (6, [.ref aSc, .int S_count, .int S_cutShort])), (aSc, .inl (cyC, 81920, .inl Sc))] H1 := hP
  have hD : va_D A [(aN, .inr (2, [.ref aS, .ref aF, .ref aB, .ref aR, .int t1, .int N_first, .int N_significandEnd, .int N_exponentEnd])), (aS, .inr (6, [.ref aSc, .int S_count, .int S_cutShort])), (aSc, .inl (cyC, 81920, .inl Sc))] := hD
  exact W.vret hx hb hr (fun t ht hW => ⟨⟨(t1, N_first), rfl, Option.some.inj hf, by rw [ht]; exact hP, hD⟩, hS.F ht⟩) hS.2.2 dX2_chooseBase_131
def f_X2_chooseBase_87 (n : Nat) (N_significandEnd : Int32) (N_exponentEnd : Int32) (S_count : Int32) (S_cutShort : Int32) (Sc : Nat → Int32) (N_base : Int32) (N_first : Int32) (x1 : Int32) (x2 : Int32) (x3 : Int32) (t1 : Int32) : Option (Int32 × Int32) :=
  if x2 = 0 then
  (if x3 = 0 then
  (bd (f_X6_look n x1 S_count S_cutShort Sc) fun o2 =>
  if o2 = (48 : Int32) then
  (f_X2_chooseBase_128 n N_significandEnd N_exponentEnd S_count S_cutShort Sc N_base t1 (8 : Int32))
  else
  (f_X2_chooseBase_128 n N_significandEnd N_exponentEnd S_count S_cutShort Sc N_base t1 (10 : Int32)))
  else
  (f_X2_chooseBase_128 n N_significandEnd N_exponentEnd S_count S_cutShort Sc N_base t1 (2 : Int32)))
  else
  (f_X2_chooseBase_128 n N_significandEnd N_exponentEnd S_count S_cutShort Sc N_base t1 (16 : Int32))
set_option maxHeartbeats 4000000 in
set_option maxRecDepth 100000 in
theorem k_X2_chooseBase_87 {p : Program} {l : Launch} {e : Env} {s : State} {m : MethodId} {args : Array Value} {below : List Frame} {meth : Method} {c : Code} {dC : Nat → ClassId} {dI : Nat → Nat → Nat} {cyB cyC cyI cyJ cyZ : ClassId} {aN aS aF aB aR aSc : Nat} {N_significandEnd : Int32} {N_exponentEnd : Int32} {S_count : Int32} {S_cutShort : Int32} {Sc : Nat → Int32} {A : Nat → Prop} {out : Int32 × Int32} (CX : cx cX2_chooseBase none 4 RX2 wsX2_chooseBase (dC, dI) (TY cyB cyC cyI cyJ cyZ) p s m args meth c) (hA : ∀ q : Nat, s.heap.size ≤ q → A q) (n : Nat) : J_X2_chooseBase_87 p l e s m args below meth c dC dI cyB cyC cyI cyJ cyZ aN aS aF aB aR aSc N_significandEnd N_exponentEnd S_count S_cutShort Sc A out (f_X2_chooseBase_87 n N_significandEnd N_exponentEnd S_count S_cutShort Sc) := by
  intro N_base N_first x1 x2 x3 t1 H locs hf hP hD hS ls hl
  obtain ⟨hx, hb, hr, hml, hown, hts, hlocks, hK, hN⟩ := id CX
  unfold f_X2_chooseBase_87 at hf
  refine va_put (D := (dC, dI)) (ci := 2) (v := .int t1) (ty := .int) (C := RX2) (T := TX2) (N := 8) hx hb hts i_X2_chooseBase_X2 tyX2 tyX2_ok nmX2 hown hK hP hD hS 0 rfl rfl 5 (by decide) (hts (.fieldLink RX2 43 "TokenRow$Numbers" "first" "I") (List.mem_of_getElem? (i := 2) rfl)) (fun _ h9 => h9) rfl (by decide +kernel) rfl rfl (Nat.le_of_ble_eq_true rfl) dX2_chooseBase_87 (fun H1 locs hP hD hS => ?_)
  have hP : va_P (dC, dI) vwCl [(aN, .inr (2, [.ref aS, .ref aF, .ref aB, .ref aR, .int N_base, .int t1, .int N_significandEnd, .int N_exponentEnd])), (aS, .inr (6, [.ref aSc, .int S_count, .int S_cutShort])), (aSc, .inl (cyC, 81920, .inl Sc))] H1 := hP
  have hD : va_D A [(aN, .inr (2, [.ref aS, .ref aF, .ref aB, .ref aR, .int N_base, .int t1, .int N_significandEnd, .int N_exponentEnd])), (aS, .inr (6, [.ref aSc, .int S_count, .int S_cutShort])), (aSc, .inl (cyC, 81920, .inl Sc))] := hD
  refine lv_aload_n hx hb dX2_chooseBase_90 rfl (lv_at hl 0 rfl) ?_
  refine lv_iload_n hx hb dX2_chooseBase_91 rfl (lv_at hl 2 rfl) ?_
  refine lv_if_eq (tgt := 100) hx hb dX2_chooseBase_92 (by decide) (fun hc => ?_) (fun hc => ?_)
  · have hf := (if_pos hc).symm.trans hf
    refine lv_iload_n hx hb dX2_chooseBase_100 rfl (lv_at hl 3 rfl) ?_
    refine lv_if_eq (tgt := 108) hx hb dX2_chooseBase_101 (by decide) (fun hc => ?_) (fun hc => ?_)
    · have hf := (if_pos hc).symm.trans hf
      refine lv_aload_n hx hb dX2_chooseBase_108 rfl (lv_at hl 0 rfl) ?_
      refine va_get (D := (dC, dI)) (ci := 2) (v := .ref aS) (C := RX2) (T := TX2) (N := 8) hx hb hts i_X2_chooseBase_X2 hown hK hP 0 rfl rfl 0 (by decide) (hts (.fieldLink RX2 9 "TokenRow$Numbers" "source" "LTokenRow$Source;") (List.mem_of_getElem? (i := 1) rfl)) (fun _ h9 => h9) rfl dX2_chooseBase_109 ?_
      refine lv_iload_n hx hb dX2_chooseBase_112 rfl (lv_at hl 1 rfl) ?_
      obtain ⟨z2, hz2, hf⟩ := bd_ok hf
      have hPc := hP.sub (ws' := [(aS, .inr (6, [.ref aSc, .int S_count, .int S_cutShort])), (aSc, .inl (cyC, 81920, .inl Sc))]) [1, 2] rfl
      refine vp_callSi (va_Run.run (va_runV (As := [.int x1]) (rest := [.ref aN]) ⟨hx, hb, hml, hown, hts⟩ (m_X6_look l dC dI cyB cyC cyI cyJ cyZ aS aSc  x1 S_count S_cutShort Sc n z2 hz2) (cwV 1 hts gX2_chooseBase_X6_look rfl rfl rfl (by decide +kernel) ⟨Nat.le_of_ble_eq_true rfl, Nat.le_of_ble_eq_true rfl⟩) (proV (va_recv hK hP (ci := 6) (q0 := 1) rfl rfl) hPc hK hN) rfl rfl hl.1 rfl (lv_room (Nat.le_of_ble_eq_true rfl)) dX2_chooseBase_113 ⟨Nat.le_of_ble_eq_true rfl, Nat.le_of_ble_eq_true rfl⟩)) (fun o2 hr9 => ?_)
      subst hr9
      refine lv_bipush (v := (48 : Int32)) hx hb dX2_chooseBase_116 (by decide) ?_
      refine lv_icmp_ne (tgt := 126) hx hb dX2_chooseBase_118 (by decide) (fun hc => ?_) (fun hc => ?_)
      · have hf := (if_neg hc).symm.trans hf
        refine lv_bipush (v := (10 : Int32)) hx hb dX2_chooseBase_126 (by decide) ?_
        exact k_X2_chooseBase_128 (aF := aF) (aB := aB) (aR := aR) CX hA n _ _ _ _ _ hf hP hD hS ls (lv_sub hl [] rfl)
      · have hf := (if_pos hc).symm.trans hf
        refine lv_bipush (v := (8 : Int32)) hx hb dX2_chooseBase_121 (by decide) ?_
        refine lv_goto (tgt := 128) hx hb dX2_chooseBase_123 (by decide) ?_
        exact k_X2_chooseBase_128 (aF := aF) (aB := aB) (aR := aR) CX hA n _ _ _ _ _ hf hP hD hS ls (lv_sub hl [] rfl)
    · have hf := (if_neg hc).symm.trans hf
      refine lv_iconst (v := (2 : Int32)) hx hb dX2_chooseBase_104 (by decide) ?_
      refine lv_goto (tgt := 128) hx hb dX2_chooseBase_105 (by decide) ?_
      exact k_X2_chooseBase_128 (aF := aF) (aB := aB) (aR := aR) CX hA n _ _ _ _ _ hf hP hD hS ls (lv_sub hl [] rfl)
  · have hf := (if_neg hc).symm.trans hf
    refine lv_bipush (v := (16 : Int32)) hx hb dX2_chooseBase_95 (by decide) ?_
    refine lv_goto (tgt := 128) hx hb dX2_chooseBase_97 (by decide) ?_
    exact k_X2_chooseBase_128 (aF := aF) (aB := aB) (aR := aR) CX hA n _ _ _ _ _ hf hP hD hS ls (lv_sub hl [] rfl)
def f_X2_chooseBase_80 (n : Nat) (N_significandEnd : Int32) (N_exponentEnd : Int32) (S_count : Int32) (S_cutShort : Int32) (Sc : Nat → Int32) (N_base : Int32) (N_first : Int32) (x1 : Int32) (x2 : Int32) (x3 : Int32) : Option (Int32 × Int32) :=
  f_X2_chooseBase_87 n N_significandEnd N_exponentEnd S_count S_cutShort Sc N_base N_first x1 x2 x3 (x1 + (2 : Int32))
set_option maxHeartbeats 4000000 in
set_option maxRecDepth 100000 in
theorem k_X2_chooseBase_80 {p : Program} {l : Launch} {e : Env} {s : State} {m : MethodId} {args : Array Value} {below : List Frame} {meth : Method} {c : Code} {dC : Nat → ClassId} {dI : Nat → Nat → Nat} {cyB cyC cyI cyJ cyZ : ClassId} {aN aS aF aB aR aSc : Nat} {N_significandEnd : Int32} {N_exponentEnd : Int32} {S_count : Int32} {S_cutShort : Int32} {Sc : Nat → Int32} {A : Nat → Prop} {out : Int32 × Int32} (CX : cx cX2_chooseBase none 4 RX2 wsX2_chooseBase (dC, dI) (TY cyB cyC cyI cyJ cyZ) p s m args meth c) (hA : ∀ q : Nat, s.heap.size ≤ q → A q) (n : Nat) : J_X2_chooseBase_80 p l e s m args below meth c dC dI cyB cyC cyI cyJ cyZ aN aS aF aB aR aSc N_significandEnd N_exponentEnd S_count S_cutShort Sc A out (f_X2_chooseBase_80 n N_significandEnd N_exponentEnd S_count S_cutShort Sc) := by
  intro N_base N_first x1 x2 x3 H locs hf hP hD hS ls hl
  obtain ⟨hx, hb, hr, hml, hown, hts, hlocks, hK, hN⟩ := id CX
  unfold f_X2_chooseBase_80 at hf
  refine lv_iload_n hx hb dX2_chooseBase_80 rfl (lv_at hl 1 rfl) ?_
  refine lv_iconst (v := (2 : Int32)) hx hb dX2_chooseBase_81 (by decide) ?_
  refine lv_iadd hx hb dX2_chooseBase_82 ?_
  refine lv_goto (tgt := 87) hx hb dX2_chooseBase_83 (by decide) ?_
  exact k_X2_chooseBase_87 (aF := aF) (aB := aB) (aR := aR) CX hA n _ _ _ _ _ _ _ _ hf hP hD hS ls (lv_sub hl [0, 1, 2, 3] rfl)
def f_X2_chooseBase_70 (n : Nat) (N_significandEnd : Int32) (N_exponentEnd : Int32) (S_count : Int32) (S_cutShort : Int32) (Sc : Nat → Int32) (N_base : Int32) (N_first : Int32) (x1 : Int32) (x2 : Int32) (t0 : Int32) : Option (Int32 × Int32) :=
  if x2 = 0 then
  (if t0 = 0 then
  (f_X2_chooseBase_87 n N_significandEnd N_exponentEnd S_count S_cutShort Sc N_base N_first x1 x2 t0 x1)
  else
  (f_X2_chooseBase_80 n N_significandEnd N_exponentEnd S_count S_cutShort Sc N_base N_first x1 x2 t0))
  else
  (f_X2_chooseBase_80 n N_significandEnd N_exponentEnd S_count S_cutShort Sc N_base N_first x1 x2 t0)
set_option maxHeartbeats 4000000 in
set_option maxRecDepth 100000 in
theorem k_X2_chooseBase_70 {p : Program} {l : Launch} {e : Env} {s : State} {m : MethodId} {args : Array Value} {below : List Frame} {meth : Method} {c : Code} {dC : Nat → ClassId} {dI : Nat → Nat → Nat} {cyB cyC cyI cyJ cyZ : ClassId} {aN aS aF aB aR aSc : Nat} {N_significandEnd : Int32} {N_exponentEnd : Int32} {S_count : Int32} {S_cutShort : Int32} {Sc : Nat → Int32} {A : Nat → Prop} {out : Int32 × Int32} (CX : cx cX2_chooseBase none 4 RX2 wsX2_chooseBase (dC, dI) (TY cyB cyC cyI cyJ cyZ) p s m args meth c) (hA : ∀ q : Nat, s.heap.size ≤ q → A q) (n : Nat) : J_X2_chooseBase_70 p l e s m args below meth c dC dI cyB cyC cyI cyJ cyZ aN aS aF aB aR aSc N_significandEnd N_exponentEnd S_count S_cutShort Sc A out (f_X2_chooseBase_70 n N_significandEnd N_exponentEnd S_count S_cutShort Sc) := by
  intro N_base N_first x1 x2 t0 H locs hf hP hD hS ls hl
  obtain ⟨hx, hb, hr, hml, hown, hts, hlocks, hK, hN⟩ := id CX
  unfold f_X2_chooseBase_70 at hf
  refine lv_istore_n (lv' := [(3, .int t0), (0, .ref aN), (1, .int x1), (2, .int x2)]) hx hb dX2_chooseBase_70 rfl hl (by decide) rfl (fun ls hl => ?_)
  refine lv_aload_n hx hb dX2_chooseBase_71 rfl (lv_at hl 1 rfl) ?_
  refine lv_iload_n hx hb dX2_chooseBase_72 rfl (lv_at hl 3 rfl) ?_
  refine lv_if_ne (tgt := 80) hx hb dX2_chooseBase_73 (by decide) (fun hc => ?_) (fun hc => ?_)
  · have hf := (if_neg hc).symm.trans hf
    exact k_X2_chooseBase_80 (aF := aF) (aB := aB) (aR := aR) CX hA n _ _ _ _ _ _ _ hf hP hD hS ls (lv_sub hl [1, 2, 3, 0] rfl)
  · have hf := (if_pos hc).symm.trans hf
    refine lv_iload_n hx hb dX2_chooseBase_76 rfl (lv_at hl 0 rfl) ?_
    refine lv_if_eq (tgt := 86) hx hb dX2_chooseBase_77 (by decide) (fun hc => ?_) (fun hc => ?_)
    · have hf := (if_pos hc).symm.trans hf
      refine lv_iload_n hx hb dX2_chooseBase_86 rfl (lv_at hl 2 rfl) ?_
      exact k_X2_chooseBase_87 (aF := aF) (aB := aB) (aR := aR) CX hA n _ _ _ _ _ _ _ _ hf hP hD hS ls (lv_sub hl [1, 2, 3, 0] rfl)
    · have hf := (if_neg hc).symm.trans hf
      exact k_X2_chooseBase_80 (aF := aF) (aB := aB) (aR := aR) CX hA n _ _ _ _ _ _ _ hf hP hD hS ls (lv_sub hl [1, 2, 3, 0] rfl)
def f_X2_chooseBase_69 (n : Nat) (N_significandEnd : Int32) (N_exponentEnd : Int32) (S_count : Int32) (S_cutShort : Int32) (Sc : Nat → Int32) (N_base : Int32) (N_first : Int32) (x1 : Int32) (x2 : Int32) : Option (Int32 × Int32) :=
  f_X2_chooseBase_70 n N_significandEnd N_exponentEnd S_count S_cutShort Sc N_base N_first x1 x2 (0 : Int32)
set_option maxHeartbeats 4000000 in
set_option maxRecDepth 100000 in
theorem k_X2_chooseBase_69 {p : Program} {l : Launch} {e : Env} {s : State} {m : MethodId} {args : Array Value} {below : List Frame} {meth : Method} {c : Code} {dC : Nat → ClassId} {dI : Nat → Nat → Nat} {cyB cyC cyI cyJ cyZ : ClassId} {aN aS aF aB aR aSc : Nat} {N_significandEnd : Int32} {N_exponentEnd : Int32} {S_count : Int32} {S_cutShort : Int32} {Sc : Nat → Int32} {A : Nat → Prop} {out : Int32 × Int32} (CX : cx cX2_chooseBase none 4 RX2 wsX2_chooseBase (dC, dI) (TY cyB cyC cyI cyJ cyZ) p s m args meth c) (hA : ∀ q : Nat, s.heap.size ≤ q → A q) (n : Nat) : J_X2_chooseBase_69 p l e s m args below meth c dC dI cyB cyC cyI cyJ cyZ aN aS aF aB aR aSc N_significandEnd N_exponentEnd S_count S_cutShort Sc A out (f_X2_chooseBase_69 n N_significandEnd N_exponentEnd S_count S_cutShort Sc) := by
  intro N_base N_first x1 x2 H locs hf hP hD hS ls hl
  obtain ⟨hx, hb, hr, hml, hown, hts, hlocks, hK, hN⟩ := id CX
  unfold f_X2_chooseBase_69 at hf
  refine lv_iconst (v := (0 : Int32)) hx hb dX2_chooseBase_69 (by decide) ?_
  exact k_X2_chooseBase_70 (aF := aF) (aB := aB) (aR := aR) CX hA n _ _ _ _ _ _ _ hf hP hD hS ls (lv_sub hl [0, 1, 2] rfl)
def f_X2_chooseBase_35 (n : Nat) (N_significandEnd : Int32) (N_exponentEnd : Int32) (S_count : Int32) (S_cutShort : Int32) (Sc : Nat → Int32) (N_base : Int32) (N_first : Int32) (x1 : Int32) (t0 : Int32) : Option (Int32 × Int32) :=
  bd (f_X2_hasMark n x1 (98 : Int32) (66 : Int32) N_base N_first N_significandEnd N_exponentEnd S_count S_cutShort Sc) fun o1 =>
  if o1 = 0 then
  (f_X2_chooseBase_69 n N_significandEnd N_exponentEnd S_count S_cutShort Sc N_base N_first x1 t0)
  else
  (bd (f_X6_look n (x1 + (2 : Int32)) S_count S_cutShort Sc) fun o2 =>
  bd (f_X9_digitOf n o2 ) fun o3 =>
  if (2 : Int32) ≤ o3 then
  (f_X2_chooseBase_69 n N_significandEnd N_exponentEnd S_count S_cutShort Sc N_base N_first x1 t0)
  else
  (f_X2_chooseBase_70 n N_significandEnd N_exponentEnd S_count S_cutShort Sc N_base N_first x1 t0 (1 : Int32)))
set_option maxHeartbeats 4000000 in
set_option maxRecDepth 100000 in
theorem k_X2_chooseBase_35 {p : Program} {l : Launch} {e : Env} {s : State} {m : MethodId} {args : Array Value} {below : List Frame} {meth : Method} {c : Code} {dC : Nat → ClassId} {dI : Nat → Nat → Nat} {cyB cyC cyI cyJ cyZ : ClassId} {aN aS aF aB aR aSc : Nat} {N_significandEnd : Int32} {N_exponentEnd : Int32} {S_count : Int32} {S_cutShort : Int32} {Sc : Nat → Int32} {A : Nat → Prop} {out : Int32 × Int32} (CX : cx cX2_chooseBase none 4 RX2 wsX2_chooseBase (dC, dI) (TY cyB cyC cyI cyJ cyZ) p s m args meth c) (hA : ∀ q : Nat, s.heap.size ≤ q → A q) (n : Nat) : J_X2_chooseBase_35 p l e s m args below meth c dC dI cyB cyC cyI cyJ cyZ aN aS aF aB aR aSc N_significandEnd N_exponentEnd S_count S_cutShort Sc A out (f_X2_chooseBase_35 n N_significandEnd N_exponentEnd S_count S_cutShort Sc) := by
  intro N_base N_first x1 t0 H locs hf hP hD hS ls hl
  obtain ⟨hx, hb, hr, hml, hown, hts, hlocks, hK, hN⟩ := id CX
  unfold f_X2_chooseBase_35 at hf
  refine lv_istore_n (lv' := [(2, .int t0), (0, .ref aN), (1, .int x1)]) hx hb dX2_chooseBase_35 rfl hl (by decide) rfl (fun ls hl => ?_)
  refine lv_aload_n hx hb dX2_chooseBase_36 rfl (lv_at hl 1 rfl) ?_
  refine lv_iload_n hx hb dX2_chooseBase_37 rfl (lv_at hl 2 rfl) ?_
  refine lv_bipush (v := (98 : Int32)) hx hb dX2_chooseBase_38 (by decide) ?_
  refine lv_bipush (v := (66 : Int32)) hx hb dX2_chooseBase_40 (by decide) ?_
  obtain ⟨z1, hz1, hf⟩ := bd_ok hf
  have hPc := hP.sub (ws' := [(aN, .inr (2, [.ref aS, .ref aF, .ref aB, .ref aR, .int N_base, .int N_first, .int N_significandEnd, .int N_exponentEnd])), (aS, .inr (6, [.ref aSc, .int S_count, .int S_cutShort])), (aSc, .inl (cyC, 81920, .inl Sc))]) [0, 1, 2] rfl
  refine vp_callSi (va_Run.run (va_runV (As := [.int x1, .int (98 : Int32), .int (66 : Int32)]) (rest := []) ⟨hx, hb, hml, hown, hts⟩ (m_X2_hasMark l dC dI cyB cyC cyI cyJ cyZ aN aS aF aB aR aSc  x1 (98 : Int32) (66 : Int32) N_base N_first N_significandEnd N_exponentEnd S_count S_cutShort Sc n z1 hz1) (cwV 3 hts gX2_chooseBase_X2_hasMark rfl rfl rfl (by decide +kernel) ⟨Nat.le_of_ble_eq_true rfl, Nat.le_of_ble_eq_true rfl⟩) (proV (va_recv hK hP (ci := 2) (q0 := 0) rfl rfl) hPc hK hN) rfl rfl hl.1 rfl (lv_room (Nat.le_of_ble_eq_true rfl)) dX2_chooseBase_42 ⟨Nat.le_of_ble_eq_true rfl, Nat.le_of_ble_eq_true rfl⟩)) (fun o1 hr9 => ?_)
  subst hr9
  refine lv_if_eq (tgt := 69) hx hb dX2_chooseBase_45 (by decide) (fun hc => ?_) (fun hc => ?_)
  · have hf := (if_pos hc).symm.trans hf
    exact k_X2_chooseBase_69 (aF := aF) (aB := aB) (aR := aR) CX hA n _ _ _ _ _ _ hf hP hD hS ls (lv_sub hl [1, 2, 0] rfl)
  · have hf := (if_neg hc).symm.trans hf
    refine lv_aload_n hx hb dX2_chooseBase_48 rfl (lv_at hl 1 rfl) ?_
    refine va_get (D := (dC, dI)) (ci := 2) (v := .ref aS) (C := RX2) (T := TX2) (N := 8) hx hb hts i_X2_chooseBase_X2 hown hK hP 0 rfl rfl 0 (by decide) (hts (.fieldLink RX2 9 "TokenRow$Numbers" "source" "LTokenRow$Source;") (List.mem_of_getElem? (i := 1) rfl)) (fun _ h9 => h9) rfl dX2_chooseBase_49 ?_
    refine lv_iload_n hx hb dX2_chooseBase_52 rfl (lv_at hl 2 rfl) ?_
    refine lv_iconst (v := (2 : Int32)) hx hb dX2_chooseBase_53 (by decide) ?_
    refine lv_iadd hx hb dX2_chooseBase_54 ?_
    obtain ⟨z2, hz2, hf⟩ := bd_ok hf
    have hPc := hP.sub (ws' := [(aS, .inr (6, [.ref aSc, .int S_count, .int S_cutShort])), (aSc, .inl (cyC, 81920, .inl Sc))]) [1, 2] rfl
    refine vp_callSi (va_Run.run (va_runV (As := [.int (x1 + (2 : Int32))]) (rest := []) ⟨hx, hb, hml, hown, hts⟩ (m_X6_look l dC dI cyB cyC cyI cyJ cyZ aS aSc  (x1 + (2 : Int32)) S_count S_cutShort Sc n z2 hz2) (cwV 1 hts gX2_chooseBase_X6_look rfl rfl rfl (by decide +kernel) ⟨Nat.le_of_ble_eq_true rfl, Nat.le_of_ble_eq_true rfl⟩) (proV (va_recv hK hP (ci := 6) (q0 := 1) rfl rfl) hPc hK hN) rfl rfl hl.1 rfl (lv_room (Nat.le_of_ble_eq_true rfl)) dX2_chooseBase_55 ⟨Nat.le_of_ble_eq_true rfl, Nat.le_of_ble_eq_true rfl⟩)) (fun o2 hr9 => ?_)
    subst hr9
    obtain ⟨z3, hz3, hf⟩ := bd_ok hf
    have hPc := hP.sub (ws' := []) [] rfl
    refine vp_callSi (va_Run.run (va_runSN (As := [.int o2]) (rest := []) ⟨hx, hb, hml, hown, hts⟩ (m_X9_digitOf l dC dI cyB cyC cyI cyJ cyZ   o2  n z3 hz3) ⟨va_cnB 1 hts ggX2_chooseBase_X9_digitOf rfl rfl rfl (hN (.methodLinkNest RX2 117 yX9_digitOf RX9) (List.mem_of_getElem? (i := 9) rfl)) (hts (.initialized RX9) (List.mem_of_getElem? (i := 21) rfl)) (by decide +kernel) ⟨Nat.le_of_ble_eq_true rfl, Nat.le_of_ble_eq_true rfl⟩, (hts (.static yX9_digitOf) (List.mem_of_getElem? (i := 20) rfl)), trivial⟩ (proS hPc hK hN) rfl rfl hl.1 rfl (lv_room (Nat.le_of_ble_eq_true rfl)) dX2_chooseBase_58 ⟨Nat.le_of_ble_eq_true rfl, Nat.le_of_ble_eq_true rfl⟩)) (fun o3 hr9 => ?_)
    subst hr9
    refine lv_iconst (v := (2 : Int32)) hx hb dX2_chooseBase_61 (by decide) ?_
    refine lv_icmp_ge (tgt := 69) hx hb dX2_chooseBase_62 (by decide) (fun hc => ?_) (fun hc => ?_)
    · have hf := (if_pos hc).symm.trans hf
      exact k_X2_chooseBase_69 (aF := aF) (aB := aB) (aR := aR) CX hA n _ _ _ _ _ _ hf hP hD hS ls (lv_sub hl [1, 2, 0] rfl)
    · have hf := (if_neg hc).symm.trans hf
      refine lv_iconst (v := (1 : Int32)) hx hb dX2_chooseBase_65 (by decide) ?_
      refine lv_goto (tgt := 70) hx hb dX2_chooseBase_66 (by decide) ?_
      exact k_X2_chooseBase_70 (aF := aF) (aB := aB) (aR := aR) CX hA n _ _ _ _ _ _ _ hf hP hD hS ls (lv_sub hl [1, 2, 0] rfl)
def f_X2_chooseBase_34 (n : Nat) (N_significandEnd : Int32) (N_exponentEnd : Int32) (S_count : Int32) (S_cutShort : Int32) (Sc : Nat → Int32) (N_base : Int32) (N_first : Int32) (x1 : Int32) : Option (Int32 × Int32) :=
  f_X2_chooseBase_35 n N_significandEnd N_exponentEnd S_count S_cutShort Sc N_base N_first x1 (0 : Int32)
set_option maxHeartbeats 4000000 in
set_option maxRecDepth 100000 in
theorem k_X2_chooseBase_34 {p : Program} {l : Launch} {e : Env} {s : State} {m : MethodId} {args : Array Value} {below : List Frame} {meth : Method} {c : Code} {dC : Nat → ClassId} {dI : Nat → Nat → Nat} {cyB cyC cyI cyJ cyZ : ClassId} {aN aS aF aB aR aSc : Nat} {N_significandEnd : Int32} {N_exponentEnd : Int32} {S_count : Int32} {S_cutShort : Int32} {Sc : Nat → Int32} {A : Nat → Prop} {out : Int32 × Int32} (CX : cx cX2_chooseBase none 4 RX2 wsX2_chooseBase (dC, dI) (TY cyB cyC cyI cyJ cyZ) p s m args meth c) (hA : ∀ q : Nat, s.heap.size ≤ q → A q) (n : Nat) : J_X2_chooseBase_34 p l e s m args below meth c dC dI cyB cyC cyI cyJ cyZ aN aS aF aB aR aSc N_significandEnd N_exponentEnd S_count S_cutShort Sc A out (f_X2_chooseBase_34 n N_significandEnd N_exponentEnd S_count S_cutShort Sc) := by
  intro N_base N_first x1 H locs hf hP hD hS ls hl
  obtain ⟨hx, hb, hr, hml, hown, hts, hlocks, hK, hN⟩ := id CX
  unfold f_X2_chooseBase_34 at hf
  refine lv_iconst (v := (0 : Int32)) hx hb dX2_chooseBase_34 (by decide) ?_
  exact k_X2_chooseBase_35 (aF := aF) (aB := aB) (aR := aR) CX hA n _ _ _ _ _ _ hf hP hD hS ls (lv_sub hl [0, 1] rfl)
def f_X2_chooseBase_0 (n : Nat) (N_significandEnd : Int32) (N_exponentEnd : Int32) (S_count : Int32) (S_cutShort : Int32) (Sc : Nat → Int32) (N_base : Int32) (N_first : Int32) (x1 : Int32) : Option (Int32 × Int32) :=
  bd (f_X2_hasMark n x1 (120 : Int32) (88 : Int32) N_base N_first N_significandEnd N_exponentEnd S_count S_cutShort Sc) fun o1 =>
  if o1 = 0 then
  (f_X2_chooseBase_34 n N_significandEnd N_exponentEnd S_count S_cutShort Sc N_base N_first x1)
  else
  (bd (f_X6_look n (x1 + (2 : Int32)) S_count S_cutShort Sc) fun o2 =>
  bd (f_X9_digitOf n o2 ) fun o3 =>
  if (16 : Int32) ≤ o3 then
  (f_X2_chooseBase_34 n N_significandEnd N_exponentEnd S_count S_cutShort Sc N_base N_first x1)
  else
  (f_X2_chooseBase_35 n N_significandEnd N_exponentEnd S_count S_cutShort Sc N_base N_first x1 (1 : Int32)))
set_option maxHeartbeats 4000000 in
set_option maxRecDepth 100000 in
theorem k_X2_chooseBase_0 {p : Program} {l : Launch} {e : Env} {s : State} {m : MethodId} {args : Array Value} {below : List Frame} {meth : Method} {c : Code} {dC : Nat → ClassId} {dI : Nat → Nat → Nat} {cyB cyC cyI cyJ cyZ : ClassId} {aN aS aF aB aR aSc : Nat} {N_significandEnd : Int32} {N_exponentEnd : Int32} {S_count : Int32} {S_cutShort : Int32} {Sc : Nat → Int32} {A : Nat → Prop} {out : Int32 × Int32} (CX : cx cX2_chooseBase none 4 RX2 wsX2_chooseBase (dC, dI) (TY cyB cyC cyI cyJ cyZ) p s m args meth c) (hA : ∀ q : Nat, s.heap.size ≤ q → A q) (n : Nat) : J_X2_chooseBase_0 p l e s m args below meth c dC dI cyB cyC cyI cyJ cyZ aN aS aF aB aR aSc N_significandEnd N_exponentEnd S_count S_cutShort Sc A out (f_X2_chooseBase_0 n N_significandEnd N_exponentEnd S_count S_cutShort Sc) := by
  intro N_base N_first x1 H locs hf hP hD hS ls hl
  obtain ⟨hx, hb, hr, hml, hown, hts, hlocks, hK, hN⟩ := id CX
  unfold f_X2_chooseBase_0 at hf
  refine lv_aload_n hx hb dX2_chooseBase_0 rfl (lv_at hl 0 rfl) ?_
  refine lv_iload_n hx hb dX2_chooseBase_1 rfl (lv_at hl 1 rfl) ?_
  refine lv_bipush (v := (120 : Int32)) hx hb dX2_chooseBase_2 (by decide) ?_
  refine lv_bipush (v := (88 : Int32)) hx hb dX2_chooseBase_4 (by decide) ?_
  obtain ⟨z1, hz1, hf⟩ := bd_ok hf
  have hPc := hP.sub (ws' := [(aN, .inr (2, [.ref aS, .ref aF, .ref aB, .ref aR, .int N_base, .int N_first, .int N_significandEnd, .int N_exponentEnd])), (aS, .inr (6, [.ref aSc, .int S_count, .int S_cutShort])), (aSc, .inl (cyC, 81920, .inl Sc))]) [0, 1, 2] rfl
  refine vp_callSi (va_Run.run (va_runV (As := [.int x1, .int (120 : Int32), .int (88 : Int32)]) (rest := []) ⟨hx, hb, hml, hown, hts⟩ (m_X2_hasMark l dC dI cyB cyC cyI cyJ cyZ aN aS aF aB aR aSc  x1 (120 : Int32) (88 : Int32) N_base N_first N_significandEnd N_exponentEnd S_count S_cutShort Sc n z1 hz1) (cwV 3 hts gX2_chooseBase_X2_hasMark rfl rfl rfl (by decide +kernel) ⟨Nat.le_of_ble_eq_true rfl, Nat.le_of_ble_eq_true rfl⟩) (proV (va_recv hK hP (ci := 2) (q0 := 0) rfl rfl) hPc hK hN) rfl rfl hl.1 rfl (lv_room (Nat.le_of_ble_eq_true rfl)) dX2_chooseBase_6 ⟨Nat.le_of_ble_eq_true rfl, Nat.le_of_ble_eq_true rfl⟩)) (fun o1 hr9 => ?_)
  subst hr9
  refine lv_if_eq (tgt := 34) hx hb dX2_chooseBase_9 (by decide) (fun hc => ?_) (fun hc => ?_)
  · have hf := (if_pos hc).symm.trans hf
    exact k_X2_chooseBase_34 (aF := aF) (aB := aB) (aR := aR) CX hA n _ _ _ _ _ hf hP hD hS ls (lv_sub hl [0, 1] rfl)
  · have hf := (if_neg hc).symm.trans hf
    refine lv_aload_n hx hb dX2_chooseBase_12 rfl (lv_at hl 0 rfl) ?_
    refine va_get (D := (dC, dI)) (ci := 2) (v := .ref aS) (C := RX2) (T := TX2) (N := 8) hx hb hts i_X2_chooseBase_X2 hown hK hP 0 rfl rfl 0 (by decide) (hts (.fieldLink RX2 9 "TokenRow$Numbers" "source" "LTokenRow$Source;") (List.mem_of_getElem? (i := 1) rfl)) (fun _ h9 => h9) rfl dX2_chooseBase_13 ?_
    refine lv_iload_n hx hb dX2_chooseBase_16 rfl (lv_at hl 1 rfl) ?_
    refine lv_iconst (v := (2 : Int32)) hx hb dX2_chooseBase_17 (by decide) ?_
    refine lv_iadd hx hb dX2_chooseBase_18 ?_
    obtain ⟨z2, hz2, hf⟩ := bd_ok hf
    have hPc := hP.sub (ws' := [(aS, .inr (6, [.ref aSc, .int S_count, .int S_cutShort])), (aSc, .inl (cyC, 81920, .inl Sc))]) [1, 2] rfl
    refine vp_callSi (va_Run.run (va_runV (As := [.int (x1 + (2 : Int32))]) (rest := []) ⟨hx, hb, hml, hown, hts⟩ (m_X6_look l dC dI cyB cyC cyI cyJ cyZ aS aSc  (x1 + (2 : Int32)) S_count S_cutShort Sc n z2 hz2) (cwV 1 hts gX2_chooseBase_X6_look rfl rfl rfl (by decide +kernel) ⟨Nat.le_of_ble_eq_true rfl, Nat.le_of_ble_eq_true rfl⟩) (proV (va_recv hK hP (ci := 6) (q0 := 1) rfl rfl) hPc hK hN) rfl rfl hl.1 rfl (lv_room (Nat.le_of_ble_eq_true rfl)) dX2_chooseBase_19 ⟨Nat.le_of_ble_eq_true rfl, Nat.le_of_ble_eq_true rfl⟩)) (fun o2 hr9 => ?_)
    subst hr9
    obtain ⟨z3, hz3, hf⟩ := bd_ok hf
    have hPc := hP.sub (ws' := []) [] rfl
    refine vp_callSi (va_Run.run (va_runSN (As := [.int o2]) (rest := []) ⟨hx, hb, hml, hown, hts⟩ (m_X9_digitOf l dC dI cyB cyC cyI cyJ cyZ   o2  n z3 hz3) ⟨va_cnB 1 hts ggX2_chooseBase_X9_digitOf rfl rfl rfl (hN (.methodLinkNest RX2 117 yX9_digitOf RX9) (List.mem_of_getElem? (i := 9) rfl)) (hts (.initialized RX9) (List.mem_of_getElem? (i := 21) rfl)) (by decide +kernel) ⟨Nat.le_of_ble_eq_true rfl, Nat.le_of_ble_eq_true rfl⟩, (hts (.static yX9_digitOf) (List.mem_of_getElem? (i := 20) rfl)), trivial⟩ (proS hPc hK hN) rfl rfl hl.1 rfl (lv_room (Nat.le_of_ble_eq_true rfl)) dX2_chooseBase_22 ⟨Nat.le_of_ble_eq_true rfl, Nat.le_of_ble_eq_true rfl⟩)) (fun o3 hr9 => ?_)
    subst hr9
    refine lv_bipush (v := (16 : Int32)) hx hb dX2_chooseBase_25 (by decide) ?_
    refine lv_icmp_ge (tgt := 34) hx hb dX2_chooseBase_27 (by decide) (fun hc => ?_) (fun hc => ?_)
    · have hf := (if_pos hc).symm.trans hf
      exact k_X2_chooseBase_34 (aF := aF) (aB := aB) (aR := aR) CX hA n _ _ _ _ _ hf hP hD hS ls (lv_sub hl [0, 1] rfl)
    · have hf := (if_neg hc).symm.trans hf
      refine lv_iconst (v := (1 : Int32)) hx hb dX2_chooseBase_30 (by decide) ?_
      refine lv_goto (tgt := 35) hx hb dX2_chooseBase_31 (by decide) ?_
      exact k_X2_chooseBase_35 (aF := aF) (aB := aB) (aR := aR) CX hA n _ _ _ _ _ _ hf hP hD hS ls (lv_sub hl [0, 1] rfl)
def f_X2_chooseBase (n : Nat) (p1 : Int32) (N_base : Int32) (N_first : Int32) (N_significandEnd : Int32) (N_exponentEnd : Int32) (S_count : Int32) (S_cutShort : Int32) (Sc : Nat → Int32) : Option (Int32 × Int32) := f_X2_chooseBase_0 n N_significandEnd N_exponentEnd S_count S_cutShort Sc N_base N_first p1
set_option maxHeartbeats 4000000 in
set_option maxRecDepth 100000 in
/-- TokenRow$Numbers.chooseBase(I)V -/
theorem m_X2_chooseBase (l : Launch) (dC : Nat → ClassId) (dI : Nat → Nat → Nat) (cyB cyC cyI cyJ cyZ : ClassId) (aN aS aF aB aR aSc : Nat) (sz : Nat) (p1 : Int32) (N_base : Int32) (N_first : Int32) (N_significandEnd : Int32) (N_exponentEnd : Int32) (S_count : Int32) (S_cutShort : Int32) (Sc : Nat → Int32) (n : Nat) (out : Int32 × Int32) (hf : f_X2_chooseBase n p1 N_base N_first N_significandEnd N_exponentEnd S_count S_cutShort Sc = some out) : Met l yX2_chooseBase wsX2_chooseBase rm_X2_chooseBase (Prw (dC, dI) (TY cyB cyC cyI cyJ cyZ) [.ref aN, .int p1] sz [(aN, .inr (2, [.ref aS, .ref aF, .ref aB, .ref aR, .int N_base, .int N_first, .int N_significandEnd, .int N_exponentEnd])), (aS, .inr (6, [.ref aSc, .int S_count, .int S_cutShort])), (aSc, .inl (cyC, 81920, .inl Sc))]) (va_Qv (fun (u : Int32 × Int32) => u = out) (Bw (dC, dI) (va_A [(aN, .inr (2, [.ref aS, .ref aF, .ref aB, .ref aR, .int N_base, .int N_first, .int N_significandEnd, .int N_exponentEnd])), (aS, .inr (6, [.ref aSc, .int S_count, .int S_cutShort])), (aSc, .inl (cyC, 81920, .inl Sc))] sz) (fun u => [(aN, .inr (2, [.ref aS, .ref aF, .ref aB, .ref aR, .int u.1, .int u.2, .int N_significandEnd, .int N_exponentEnd])), (aS, .inr (6, [.ref aSc, .int S_count, .int S_cutShort])), (aSc, .inl (cyC, 81920, .inl Sc))])) (va_A [(aN, .inr (2, [.ref aS, .ref aF, .ref aB, .ref aR, .int N_base, .int N_first, .int N_significandEnd, .int N_exponentEnd])), (aS, .inr (6, [.ref aSc, .int S_count, .int S_cutShort])), (aSc, .inl (cyC, 81920, .inl Sc))] sz)) 0 0 (va_A [(aN, .inr (2, [.ref aS, .ref aF, .ref aB, .ref aR, .int N_base, .int N_first, .int N_significandEnd, .int N_exponentEnd])), (aS, .inr (6, [.ref aSc, .int S_count, .int S_cutShort])), (aSc, .inl (cyC, 81920, .inl Sc))] sz) := by
  refine Met.ofW (cc := cX2_chooseBase) (maxL := 4) (ret := none) (by decide) rfl ?_
  intro p e s m args below meth c s₁ B hml hv
  obtain ⟨rfl, hsz, hP, hK, hD0, hN⟩ := hv
  subst hsz
  have hD := hD0.self (sz := s.heap.size)
  have CX : cx cX2_chooseBase none 4 RX2 wsX2_chooseBase (dC, dI) (TY cyB cyC cyI cyJ cyZ) p s m ([.ref aN, .int p1] : List Value).toArray meth c := ⟨B.exec, B.bytes, B.returns, hml, findClass_of_methodNamed B.named, atoms_spec (ws := wsX2_chooseBase) B.pre, B.notSynchronized, hK, hN⟩
  have hl := lv_entry ([.ref aN, .int p1]) (n := 4) (Nat.le_of_ble_eq_true rfl)
  rw [lg_entry_eq]
  exact k_X2_chooseBase_0 (aF := aF) (aB := aB) (aR := aR) CX (fun q h => Or.inr h) n _ _ _ _ _ hf hP hD va_S.rf _ hl
abbrev rm_X2_takeWhole : Room := { frames := 4, cells := 0, slots := 0, locals := 90 }
theorem i_X2_takeWhole_X0 : ∀ w ∈ u_ws RX0 TX0 2, w ∈ wsX2_takeWhole := fun _ h => (List.mem_cons_of_mem _ (List.mem_append_left _ (List.mem_append_right _ h)))
theorem i_X2_takeWhole_X1 : ∀ w ∈ u_ws RX1 TX1 4, w ∈ wsX2_takeWhole := fun _ h => (List.mem_cons_of_mem _ (List.mem_append_right _ h))
theorem i_X2_takeWhole_X2 : ∀ w ∈ u_ws RX2 TX2 8, w ∈ wsX2_takeWhole := fun _ h => (List.mem_cons_of_mem _ (List.mem_append_left _ (List.mem_append_left _ (List.mem_append_left _ (List.mem_append_right _ h)))))
theorem i_X2_takeWhole_X6 : ∀ w ∈ u_ws RX6 TX6 3, w ∈ wsX2_takeWhole := fun _ h => (List.mem_cons_of_mem _ (List.mem_append_left _ (List.mem_append_left _ (List.mem_append_right _ h))))
def J_X2_takeWhole_124 (p : Program) (l : Launch) (e : Env) (s : State) (m : MethodId) (args : Array Value) (below : List Frame) (meth : Method) (c : Code) (dC : Nat → ClassId) (dI : Nat → Nat → Nat) (cyB cyC cyI cyJ cyZ : ClassId) (aN aS aF aB aR aSc aBl : Nat) (N_significandEnd : Int32) (N_exponentEnd : Int32) (S_count : Int32) (S_cutShort : Int32) (Sc : Nat → Int32) (A : Nat → Prop) (out : Int32 × Int32 × Int32 × Int32 × Int64 × Int32 × Int32 × Int32 × (Nat → Int32)) (g : Int32 → Int32 → Int32 → Int64 → Int32 → Int32 → Int32 → (Nat → Int32) → Int32 → Int64 → Int32 → Int32 → Option (Int32 × Int32 × Int32 × Int32 × Int64 × Int32 × Int32 × Int32 × (Nat → Int32))) : Prop := ∀ (N_base : Int32) (N_first : Int32) (F_kind : Int32) (F_says : Int64) (F_start : Int32) (F_behind : Int32) (B_used : Int32) (Bl : Nat → Int32) (x3 : Int32) (x5 : Int64) (t0 : Int32) (t1 : Int32) (H : Heap) (locs : List Loc), g N_base N_first F_kind F_says F_start F_behind B_used Bl x3 x5 t0 t1 = some out → va_P (dC, dI) vwCl [(aN, .inr (2, [.ref aS, .ref aF, .ref aB, .ref aR, .int N_base, .int N_first, .int N_significandEnd, .int N_exponentEnd])), (aS, .inr (6, [.ref aSc, .int S_count, .int S_cutShort])), (aSc, .inl (cyC, 81920, .inl Sc)), (aF, .inr (1, [.int F_kind, .long F_says, .int F_start, .int F_behind])), (aB, .inr (0, [.ref aBl, .int B_used])), (aBl, .inl (cyI, 136, .inl Bl))] H → va_D A [(aN, .inr (2, [.ref aS, .ref aF, .ref aB, .ref aR, .int N_base, .int N_first, .int N_significandEnd, .int N_exponentEnd])), (aS, .inr (6, [.ref aSc, .int S_count, .int S_cutShort])), (aSc, .inl (cyC, 81920, .inl Sc)), (aF, .inr (1, [.int F_kind, .long F_says, .int F_start, .int F_behind])), (aB, .inr (0, [.ref aBl, .int B_used])), (aBl, .inl (cyI, 136, .inl Bl))] → va_S A s.heap H locs → ∀ ls : Array Slot, lv_has ls 7 [(0, .ref aN), (3, .int x3), (5, .long x5)] → W p l e rm_X2_takeWhole s m args below meth c H locs 0 0 (MQ below (va_Qi (fun (r : Int32) (u : Int32 × Int32 × Int32 × Int64 × Int32 × Int32 × Int32 × (Nat → Int32)) => (r, u) = out) (Bw (dC, dI) A (fun u => [(aN, .inr (2, [.ref aS, .ref aF, .ref aB, .ref aR, .int u.1, .int u.2.1, .int N_significandEnd, .int N_exponentEnd])), (aS, .inr (6, [.ref aSc, .int S_count, .int S_cutShort])), (aSc, .inl (cyC, 81920, .inl Sc)), (aF, .inr (1, [.int u.2.2.1, .long u.2.2.2.1, .int u.2.2.2.2.1, .int u.2.2.2.2.2.1])), (aB, .inr (0, [.ref aBl, .int u.2.2.2.2.2.2.1])), (aBl, .inl (cyI, 136, .inl u.2.2.2.2.2.2.2))])) A) args s 0 0 A) (F0 m 124 ls [.int t1, .int t0])
def J_X2_takeWhole_100 (p : Program) (l : Launch) (e : Env) (s : State) (m : MethodId) (args : Array Value) (below : List Frame) (meth : Method) (c : Code) (dC : Nat → ClassId) (dI : Nat → Nat → Nat) (cyB cyC cyI cyJ cyZ : ClassId) (aN aS aF aB aR aSc aBl : Nat) (N_significandEnd : Int32) (N_exponentEnd : Int32) (S_count : Int32) (S_cutShort : Int32) (Sc : Nat → Int32) (A : Nat → Prop) (out : Int32 × Int32 × Int32 × Int32 × Int64 × Int32 × Int32 × Int32 × (Nat → Int32)) (g : Int32 → Int32 → Int32 → Int64 → Int32 → Int32 → Int32 → (Nat → Int32) → Int32 → Int32 → Int32 → Int64 → Int32 → Int64 → Option (Int32 × Int32 × Int32 × Int32 × Int64 × Int32 × Int32 × Int32 × (Nat → Int32))) : Prop := ∀ (N_base : Int32) (N_first : Int32) (F_kind : Int32) (F_says : Int64) (F_start : Int32) (F_behind : Int32) (B_used : Int32) (Bl : Nat → Int32) (x1 : Int32) (x3 : Int32) (x4 : Int32) (x5 : Int64) (t1 : Int32) (t2 : Int64) (H : Heap) (locs : List Loc), g N_base N_first F_kind F_says F_start F_behind B_used Bl x1 x3 x4 x5 t1 t2 = some out → va_P (dC, dI) vwCl [(aN, .inr (2, [.ref aS, .ref aF, .ref aB, .ref aR, .int N_base, .int N_first, .int N_significandEnd, .int N_exponentEnd])), (aS, .inr (6, [.ref aSc, .int S_count, .int S_cutShort])), (aSc, .inl (cyC, 81920, .inl Sc)), (aF, .inr (1, [.int F_kind, .long F_says, .int F_start, .int F_behind])), (aB, .inr (0, [.ref aBl, .int B_used])), (aBl, .inl (cyI, 136, .inl Bl))] H → va_D A [(aN, .inr (2, [.ref aS, .ref aF, .ref aB, .ref aR, .int N_base, .int N_first, .int N_significandEnd, .int N_exponentEnd])), (aS, .inr (6, [.ref aSc, .int S_count, .int S_cutShort])), (aSc, .inl (cyC, 81920, .inl Sc)), (aF, .inr (1, [.int F_kind, .long F_says, .int F_start, .int F_behind])), (aB, .inr (0, [.ref aBl, .int B_used])), (aBl, .inl (cyI, 136, .inl Bl))] → va_S A s.heap H locs → ∀ ls : Array Slot, lv_has ls 7 [(0, .ref aN), (1, .int x1), (3, .int x3), (4, .int x4), (5, .long x5)] → W p l e rm_X2_takeWhole s m args below meth c H locs 0 0 (MQ below (va_Qi (fun (r : Int32) (u : Int32 × Int32 × Int32 × Int64 × Int32 × Int32 × Int32 × (Nat → Int32)) => (r, u) = out) (Bw (dC, dI) A (fun u => [(aN, .inr (2, [.ref aS, .ref aF, .ref aB, .ref aR, .int u.1, .int u.2.1, .int N_significandEnd, .int N_exponentEnd])), (aS, .inr (6, [.ref aSc, .int S_count, .int S_cutShort])), (aSc, .inl (cyC, 81920, .inl Sc)), (aF, .inr (1, [.int u.2.2.1, .long u.2.2.2.1, .int u.2.2.2.2.1, .int u.2.2.2.2.2.1])), (aB, .inr (0, [.ref aBl, .int u.2.2.2.2.2.2.1])), (aBl, .inl (cyI, 136, .inl u.2.2.2.2.2.2.2))])) A) args s 0 0 A) (F0 m 100 ls [.long t2, .int t1, .ref aF])
def J_X2_takeWhole_87 (p : Program) (l : Launch) (e : Env) (s : State) (m : MethodId) (args : Array Value) (below : List Frame) (meth : Method) (c : Code) (dC : Nat → ClassId) (dI : Nat → Nat → Nat) (cyB cyC cyI cyJ cyZ : ClassId) (aN aS aF aB aR aSc aBl : Nat) (N_significandEnd : Int32) (N_exponentEnd : Int32) (S_count : Int32) (S_cutShort : Int32) (Sc : Nat → Int32) (A : Nat → Prop) (out : Int32 × Int32 × Int32 × Int32 × Int64 × Int32 × Int32 × Int32 × (Nat → Int32)) (g : Int32 → Int32 → Int32 → Int64 → Int32 → Int32 → Int32 → (Nat → Int32) → Int32 → Int32 → Int32 → Int64 → Int32 → Option (Int32 × Int32 × Int32 × Int32 × Int64 × Int32 × Int32 × Int32 × (Nat → Int32))) : Prop := ∀ (N_base : Int32) (N_first : Int32) (F_kind : Int32) (F_says : Int64) (F_start : Int32) (F_behind : Int32) (B_used : Int32) (Bl : Nat → Int32) (x1 : Int32) (x3 : Int32) (x4 : Int32) (x5 : Int64) (t1 : Int32) (H : Heap) (locs : List Loc), g N_base N_first F_kind F_says F_start F_behind B_used Bl x1 x3 x4 x5 t1 = some out → va_P (dC, dI) vwCl [(aN, .inr (2, [.ref aS, .ref aF, .ref aB, .ref aR, .int N_base, .int N_first, .int N_significandEnd, .int N_exponentEnd])), (aS, .inr (6, [.ref aSc, .int S_count, .int S_cutShort])), (aSc, .inl (cyC, 81920, .inl Sc)), (aF, .inr (1, [.int F_kind, .long F_says, .int F_start, .int F_behind])), (aB, .inr (0, [.ref aBl, .int B_used])), (aBl, .inl (cyI, 136, .inl Bl))] H → va_D A [(aN, .inr (2, [.ref aS, .ref aF, .ref aB, .ref aR, .int N_base, .int N_first, .int N_significandEnd, .int N_exponentEnd])), (aS, .inr (6, [.ref aSc, .int S_count, .int S_cutShort])), (aSc, .inl (cyC, 81920, .inl Sc)), (aF, .inr (1, [.int F_kind, .long F_says, .int F_start, .int F_behind])), (aB, .inr (0, [.ref aBl, .int B_used])), (aBl, .inl (cyI, 136, .inl Bl))] → va_S A s.heap H locs → ∀ ls : Array Slot, lv_has ls 7 [(0, .ref aN), (1, .int x1), (3, .int x3), (4, .int x4), (5, .long x5)] → W p l e rm_X2_takeWhole s m args below meth c H locs 0 0 (MQ below (va_Qi (fun (r : Int32) (u : Int32 × Int32 × Int32 × Int64 × Int32 × Int32 × Int32 × (Nat → Int32)) => (r, u) = out) (Bw (dC, dI) A (fun u => [(aN, .inr (2, [.ref aS, .ref aF, .ref aB, .ref aR, .int u.1, .int u.2.1, .int N_significandEnd, .int N_exponentEnd])), (aS, .inr (6, [.ref aSc, .int S_count, .int S_cutShort])), (aSc, .inl (cyC, 81920, .inl Sc)), (aF, .inr (1, [.int u.2.2.1, .long u.2.2.2.1, .int u.2.2.2.2.1, .int u.2.2.2.2.2.1])), (aB, .inr (0, [.ref aBl, .int u.2.2.2.2.2.2.1])), (aBl, .inl (cyI, 136, .inl u.2.2.2.2.2.2.2))])) A) args s 0 0 A) (F0 m 87 ls [.int t1, .ref aF])
def J_X2_takeWhole_39 (p : Program) (l : Launch) (e : Env) (s : State) (m : MethodId) (args : Array Value) (below : List Frame) (meth : Method) (c : Code) (dC : Nat → ClassId) (dI : Nat → Nat → Nat) (cyB cyC cyI cyJ cyZ : ClassId) (aN aS aF aB aR aSc aBl : Nat) (N_significandEnd : Int32) (N_exponentEnd : Int32) (S_count : Int32) (S_cutShort : Int32) (Sc : Nat → Int32) (A : Nat → Prop) (out : Int32 × Int32 × Int32 × Int32 × Int64 × Int32 × Int32 × Int32 × (Nat → Int32)) (g : Int32 → Int32 → Int32 → Int64 → Int32 → Int32 → Int32 → (Nat → Int32) → Int32 → Int32 → Int32 → Int32 → Option (Int32 × Int32 × Int32 × Int32 × Int64 × Int32 × Int32 × Int32 × (Nat → Int32))) : Prop := ∀ (N_base : Int32) (N_first : Int32) (F_kind : Int32) (F_says : Int64) (F_start : Int32) (F_behind : Int32) (B_used : Int32) (Bl : Nat → Int32) (x1 : Int32) (x2 : Int32) (x3 : Int32) (t0 : Int32) (H : Heap) (locs : List Loc), g N_base N_first F_kind F_says F_start F_behind B_used Bl x1 x2 x3 t0 = some out → va_P (dC, dI) vwCl [(aN, .inr (2, [.ref aS, .ref aF, .ref aB, .ref aR, .int N_base, .int N_first, .int N_significandEnd, .int N_exponentEnd])), (aS, .inr (6, [.ref aSc, .int S_count, .int S_cutShort])), (aSc, .inl (cyC, 81920, .inl Sc)), (aF, .inr (1, [.int F_kind, .long F_says, .int F_start, .int F_behind])), (aB, .inr (0, [.ref aBl, .int B_used])), (aBl, .inl (cyI, 136, .inl Bl))] H → va_D A [(aN, .inr (2, [.ref aS, .ref aF, .ref aB, .ref aR, .int N_base, .int N_first, .int N_significandEnd, .int N_exponentEnd])), (aS, .inr (6, [.ref aSc, .int S_count, .int S_cutShort])), (aSc, .inl (cyC, 81920, .inl Sc)), (aF, .inr (1, [.int F_kind, .long F_says, .int F_start, .int F_behind])), (aB, .inr (0, [.ref aBl, .int B_used])), (aBl, .inl (cyI, 136, .inl Bl))] → va_S A s.heap H locs → ∀ ls : Array Slot, lv_has ls 7 [(0, .ref aN), (1, .int x1), (2, .int x2), (3, .int x3)] → W p l e rm_X2_takeWhole s m args below meth c H locs 0 0 (MQ below (va_Qi (fun (r : Int32) (u : Int32 × Int32 × Int32 × Int64 × Int32 × Int32 × Int32 × (Nat → Int32)) => (r, u) = out) (Bw (dC, dI) A (fun u => [(aN, .inr (2, [.ref aS, .ref aF, .ref aB, .ref aR, .int u.1, .int u.2.1, .int N_significandEnd, .int N_exponentEnd])), (aS, .inr (6, [.ref aSc, .int S_count, .int S_cutShort])), (aSc, .inl (cyC, 81920, .inl Sc)), (aF, .inr (1, [.int u.2.2.1, .long u.2.2.2.1, .int u.2.2.2.2.1, .int u.2.2.2.2.2.1])), (aB, .inr (0, [.ref aBl, .int u.2.2.2.2.2.2.1])), (aBl, .inl (cyI, 136, .inl u.2.2.2.2.2.2.2))])) A) args s 0 0 A) (F0 m 39 ls [.int t0])
def J_X2_takeWhole_0 (p : Program) (l : Launch) (e : Env) (s : State) (m : MethodId) (args : Array Value) (below : List Frame) (meth : Method) (c : Code) (dC : Nat → ClassId) (dI : Nat → Nat → Nat) (cyB cyC cyI cyJ cyZ : ClassId) (aN aS aF aB aR aSc aBl : Nat) (N_significandEnd : Int32) (N_exponentEnd : Int32) (S_count : Int32) (S_cutShort : Int32) (Sc : Nat → Int32) (A : Nat → Prop) (out : Int32 × Int32 × Int32 × Int32 × Int64 × Int32 × Int32 × Int32 × (Nat → Int32)) (g : Int32 → Int32 → Int32 → Int64 → Int32 → Int32 → Int32 → (Nat → Int32) → Int32 → Option (Int32 × Int32 × Int32 × Int32 × Int64 × Int32 × Int32 × Int32 × (Nat → Int32))) : Prop := ∀ (N_base : Int32) (N_first : Int32) (F_kind : Int32) (F_says : Int64) (F_start : Int32) (F_behind : Int32) (B_used : Int32) (Bl : Nat → Int32) (x1 : Int32) (H : Heap) (locs : List Loc), g N_base N_first F_kind F_says F_start F_behind B_used Bl x1 = some out → va_P (dC, dI) vwCl [(aN, .inr (2, [.ref aS, .ref aF, .ref aB, .ref aR, .int N_base, .int N_first, .int N_significandEnd, .int N_exponentEnd])), (aS, .inr (6, [.ref aSc, .int S_count, .int S_cutShort])), (aSc, .inl (cyC, 81920, .inl Sc)), (aF, .inr (1, [.int F_kind, .long F_says, .int F_start, .int F_behind])), (aB, .inr (0, [.ref aBl, .int B_used])), (aBl, .inl (cyI, 136, .inl Bl))] H → va_D A [(aN, .inr (2, [.ref aS, .ref aF, .ref aB, .ref aR, .int N_base, .int N_first, .int N_significandEnd, .int N_exponentEnd])), (aS, .inr (6, [.ref aSc, .int S_count, .int S_cutShort])), (aSc, .inl (cyC, 81920, .inl Sc)), (aF, .inr (1, [.int F_kind, .long F_says, .int F_start, .int F_behind])), (aB, .inr (0, [.ref aBl, .int B_used])), (aBl, .inl (cyI, 136, .inl Bl))] → va_S A s.heap H locs → ∀ ls : Array Slot, lv_has ls 7 [(0, .ref aN), (1, .int x1)] → W p l e rm_X2_takeWhole s m args below meth c H locs 0 0 (MQ below (va_Qi (fun (r : Int32) (u : Int32 × Int32 × Int32 × Int64 × Int32 × Int32 × Int32 × (Nat → Int32)) => (r, u) = out) (Bw (dC, dI) A (fun u => [(aN, .inr (2, [.ref aS, .ref aF, .ref aB, .ref aR, .int u.1, .int u.2.1, .int N_significandEnd, .int N_exponentEnd])), (aS, .inr (6, [.ref aSc, .int S_count, .int S_cutShort])), (aSc, .inl (cyC, 81920, .inl Sc)), (aF, .inr (1, [.int u.2.2.1, .long u.2.2.2.1, .int u.2.2.2.2.1, .int u.2.2.2.2.2.1])), (aB, .inr (0, [.ref aBl, .int u.2.2.2.2.2.2.1])), (aBl, .inl (cyI, 136, .inl u.2.2.2.2.2.2.2))])) A) args s 0 0 A) (F0 m 0 ls [])
def f_X2_takeWhole_124 (n : Nat) (N_significandEnd : Int32) (N_exponentEnd : Int32) (S_count : Int32) (S_cutShort : Int32) (Sc : Nat → Int32) (N_base : Int32) (N_first : Int32) (F_kind : Int32) (F_says : Int64) (F_start : Int32) (F_behind : Int32) (B_used : Int32) (Bl : Nat → Int32) (x3 : Int32) (x5 : Int64) (t0 : Int32) (t1 : Int32) : Option (Int32 × Int32 × Int32 × Int32 × Int64 × Int32 × Int32 × Int32 × (Nat → Int32)) :=
  if t1 < t0 then
  (some ((0 : Int32), N_base, N_first, F_kind, F_says, F_start, F_behind, B_used, Bl))
  else
  (if N_base = (10 : Int32) then
  (bd (f_X2_isAtMostMinimum n x5 x3 ) fun o1 =>
  if o1 = 0 then
  (some ((0 : Int32), N_base, N_first, F_kind, F_says, F_start, F_behind, B_used, Bl))
  else
  (some ((1 : Int32), N_base, N_first, F_kind, F_says, F_start, F_behind, B_used, Bl)))
  else
  (some ((1 : Int32), N_base, N_first, F_kind, F_says, F_start, F_behind, B_used, Bl)))
set_option maxHeartbeats 4000000 in
set_option maxRecDepth 100000 in
theorem k_X2_takeWhole_124 {p : Program} {l : Launch} {e : Env} {s : State} {m : MethodId} {args : Array Value} {below : List Frame} {meth : Method} {c : Code} {dC : Nat → ClassId} {dI : Nat → Nat → Nat} {cyB cyC cyI cyJ cyZ : ClassId} {aN aS aF aB aR aSc aBl : Nat} {N_significandEnd : Int32} {N_exponentEnd : Int32} {S_count : Int32} {S_cutShort : Int32} {Sc : Nat → Int32} {A : Nat → Prop} {out : Int32 × Int32 × Int32 × Int32 × Int64 × Int32 × Int32 × Int32 × (Nat → Int32)} (CX : cx cX2_takeWhole (some .boolean) 7 RX2 wsX2_takeWhole (dC, dI) (TY cyB cyC cyI cyJ cyZ) p s m args meth c) (hA : ∀ q : Nat, s.heap.size ≤ q → A q) (n : Nat) : J_X2_takeWhole_124 p l e s m args below meth c dC dI cyB cyC cyI cyJ cyZ aN aS aF aB aR aSc aBl N_significandEnd N_exponentEnd S_count S_cutShort Sc A out (f_X2_takeWhole_124 n N_significandEnd N_exponentEnd S_count S_cutShort Sc) := by
  intro N_base N_first F_kind F_says F_start F_behind B_used Bl x3 x5 t0 t1 H locs hf hP hD hS ls hl
  obtain ⟨hx, hb, hr, hml, hown, hts, hlocks, hK, hN⟩ := id CX
  unfold f_X2_takeWhole_124 at hf
  refine lv_icmp_gt (tgt := 149) hx hb dX2_takeWhole_124 (by decide) (fun hc => ?_) (fun hc => ?_)
  · have hf := (if_pos hc).symm.trans hf
    refine lv_iconst (v := (0 : Int32)) hx hb dX2_takeWhole_149 (by decide) ?_
    exact W.zret (v := (0 : Int32)) (ty := .boolean) hx hb hr rfl (fun t ht hW => ⟨⟨_, (N_base, N_first, F_kind, F_says, F_start, F_behind, B_used, Bl), rfl, Option.some.inj hf, by rw [ht]; exact hP, hD⟩, hS.F ht⟩) hS.2.2 dX2_takeWhole_150
  · have hf := (if_neg hc).symm.trans hf
    refine lv_aload_n hx hb dX2_takeWhole_127 rfl (lv_at hl 0 rfl) ?_
    refine va_get (D := (dC, dI)) (ci := 2) (v := .int N_base) (C := RX2) (T := TX2) (N := 8) hx hb hts i_X2_takeWhole_X2 hown hK hP 0 rfl rfl 4 (by decide) (hts (.fieldLink RX2 39 "TokenRow$Numbers" "base" "I") (List.mem_of_getElem? (i := 2) rfl)) (fun _ h9 => h9) rfl dX2_takeWhole_128 ?_
    refine lv_bipush (v := (10 : Int32)) hx hb dX2_takeWhole_131 (by decide) ?_
    refine lv_icmp_ne (tgt := 145) hx hb dX2_takeWhole_133 (by decide) (fun hc => ?_) (fun hc => ?_)
    · have hf := (if_neg hc).symm.trans hf
      refine lv_iconst (v := (1 : Int32)) hx hb dX2_takeWhole_145 (by decide) ?_
      refine lv_goto (tgt := 150) hx hb dX2_takeWhole_146 (by decide) ?_
      exact W.zret (v := (1 : Int32)) (ty := .boolean) hx hb hr rfl (fun t ht hW => ⟨⟨_, (N_base, N_first, F_kind, F_says, F_start, F_behind, B_used, Bl), rfl, Option.some.inj hf, by rw [ht]; exact hP, hD⟩, hS.F ht⟩) hS.2.2 dX2_takeWhole_150
    · have hf := (if_pos hc).symm.trans hf
      refine lv_lload hx hb dX2_takeWhole_136 (lv_at hl 2 rfl) ?_
      refine lv_iload_n hx hb dX2_takeWhole_138 rfl (lv_at hl 1 rfl) ?_
      obtain ⟨z1, hz1, hf⟩ := bd_ok hf
      have hPc := hP.sub (ws' := []) [] rfl
      refine vp_callSi (va_Run.run (va_runS (As := [.long x5, .int x3]) (rest := []) ⟨hx, hb, hml, hown, hts⟩ (m_X2_isAtMostMinimum l dC dI cyB cyC cyI cyJ cyZ   x5 x3  n z1 hz1) (va_cwS 2 hts gX2_takeWhole_X2_isAtMostMinimum rfl rfl rfl (by decide +kernel) ⟨Nat.le_of_ble_eq_true rfl, Nat.le_of_ble_eq_true rfl⟩) (proS hPc hK hN) rfl rfl hl.1 rfl (lv_room (Nat.le_of_ble_eq_true rfl)) dX2_takeWhole_139 ⟨Nat.le_of_ble_eq_true rfl, Nat.le_of_ble_eq_true rfl⟩)) (fun o1 hr9 => ?_)
      subst hr9
      refine lv_if_eq (tgt := 149) hx hb dX2_takeWhole_142 (by decide) (fun hc => ?_) (fun hc => ?_)
      · have hf := (if_pos hc).symm.trans hf
        refine lv_iconst (v := (0 : Int32)) hx hb dX2_takeWhole_149 (by decide) ?_
        exact W.zret (v := (0 : Int32)) (ty := .boolean) hx hb hr rfl (fun t ht hW => ⟨⟨_, (N_base, N_first, F_kind, F_says, F_start, F_behind, B_used, Bl), rfl, Option.some.inj hf, by rw [ht]; exact hP, hD⟩, hS.F ht⟩) hS.2.2 dX2_takeWhole_150
      · have hf := (if_neg hc).symm.trans hf
        refine lv_iconst (v := (1 : Int32)) hx hb dX2_takeWhole_145 (by decide) ?_
        refine lv_goto (tgt := 150) hx hb dX2_takeWhole_146 (by decide) ?_
        exact W.zret (v := (1 : Int32)) (ty := .boolean) hx hb hr rfl (fun t ht hW => ⟨⟨_, (N_base, N_first, F_kind, F_says, F_start, F_behind, B_used, Bl), rfl, Option.some.inj hf, by rw [ht]; exact hP, hD⟩, hS.F ht⟩) hS.2.2 dX2_takeWhole_150
def f_X2_takeWhole_100 (n : Nat) (N_significandEnd : Int32) (N_exponentEnd : Int32) (S_count : Int32) (S_cutShort : Int32) (Sc : Nat → Int32) (N_base : Int32) (N_first : Int32) (F_kind : Int32) (F_says : Int64) (F_start : Int32) (F_behind : Int32) (B_used : Int32) (Bl : Nat → Int32) (x1 : Int32) (x3 : Int32) (x4 : Int32) (x5 : Int64) (t1 : Int32) (t2 : Int64) : Option (Int32 × Int32 × Int32 × Int32 × Int64 × Int32 × Int32 × Int32 × (Nat → Int32)) :=
  bd (f_X1_set n t1 t2 x1 x4 F_kind F_says F_start F_behind) fun u3 =>
  bd (f_X0_bitLength n  B_used Bl) fun o4 =>
  if x3 = 0 then
  (f_X2_takeWhole_124 n N_significandEnd N_exponentEnd S_count S_cutShort Sc N_base N_first u3.1 u3.2.1 u3.2.2.1 u3.2.2.2 B_used Bl x3 x5 o4 (32 : Int32))
  else
  (f_X2_takeWhole_124 n N_significandEnd N_exponentEnd S_count S_cutShort Sc N_base N_first u3.1 u3.2.1 u3.2.2.1 u3.2.2.2 B_used Bl x3 x5 o4 (64 : Int32))
set_option maxHeartbeats 4000000 in
set_option maxRecDepth 100000 in
theorem k_X2_takeWhole_100 {p : Program} {l : Launch} {e : Env} {s : State} {m : MethodId} {args : Array Value} {below : List Frame} {meth : Method} {c : Code} {dC : Nat → ClassId} {dI : Nat → Nat → Nat} {cyB cyC cyI cyJ cyZ : ClassId} {aN aS aF aB aR aSc aBl : Nat} {N_significandEnd : Int32} {N_exponentEnd : Int32} {S_count : Int32} {S_cutShort : Int32} {Sc : Nat → Int32} {A : Nat → Prop} {out : Int32 × Int32 × Int32 × Int32 × Int64 × Int32 × Int32 × Int32 × (Nat → Int32)} (CX : cx cX2_takeWhole (some .boolean) 7 RX2 wsX2_takeWhole (dC, dI) (TY cyB cyC cyI cyJ cyZ) p s m args meth c) (hA : ∀ q : Nat, s.heap.size ≤ q → A q) (n : Nat) : J_X2_takeWhole_100 p l e s m args below meth c dC dI cyB cyC cyI cyJ cyZ aN aS aF aB aR aSc aBl N_significandEnd N_exponentEnd S_count S_cutShort Sc A out (f_X2_takeWhole_100 n N_significandEnd N_exponentEnd S_count S_cutShort Sc) := by
  intro N_base N_first F_kind F_says F_start F_behind B_used Bl x1 x3 x4 x5 t1 t2 H locs hf hP hD hS ls hl
  obtain ⟨hx, hb, hr, hml, hown, hts, hlocks, hK, hN⟩ := id CX
  unfold f_X2_takeWhole_100 at hf
  refine lv_iload_n hx hb dX2_takeWhole_100 rfl (lv_at hl 1 rfl) ?_
  refine lv_iload hx hb dX2_takeWhole_101 (lv_at hl 3 rfl) ?_
  obtain ⟨z1, hz1, hf⟩ := bd_ok hf
  have hPc := hP.sub (ws' := [(aF, .inr (1, [.int F_kind, .long F_says, .int F_start, .int F_behind]))]) [3] rfl
  have hDc := hD.sub (ws' := [(aF, .inr (1, [.int F_kind, .long F_says, .int F_start, .int F_behind]))]) [3] (by decide) rfl
  have hFc := va_free (wc := [(aF, .inr (1, [.int F_kind, .long F_says, .int F_start, .int F_behind]))]) hD hS hA [3] rfl
  refine va_callv (va_runV (As := [.int t1, .long t2, .int x1, .int x4]) (rest := []) ⟨hx, hb, hml, hown, hts⟩ (m_X1_set l dC dI cyB cyC cyI cyJ cyZ aF  H.size t1 t2 x1 x4 F_kind F_says F_start F_behind n z1 hz1) (cwV 4 hts gX2_takeWhole_X1_set rfl rfl rfl (by decide +kernel) ⟨Nat.le_of_ble_eq_true rfl, Nat.le_of_ble_eq_true rfl⟩) (prwV (va_recv hK hP (ci := 1) (q0 := 3) rfl rfl) hPc hK hDc hN) rfl rfl hl.1 rfl (lv_room (Nat.le_of_ble_eq_true rfl)) dX2_takeWhole_103 ⟨Nat.le_of_ble_eq_true rfl, Nat.le_of_ble_eq_true rfl⟩) hS (fun q _ h => hFc q h) hFc (fun u3 t9 H2 locs ht hvm hw hB hz1 hk1 hS => ?_)
  subst hw
  obtain ⟨hP1, hD1⟩ := hB
  rw [ht] at hP1
  obtain ⟨hP, hD⟩ := va_join (wr := [(aN, .inr (2, [.ref aS, .ref aF, .ref aB, .ref aR, .int N_base, .int N_first, .int N_significandEnd, .int N_exponentEnd])), (aS, .inr (6, [.ref aSc, .int S_count, .int S_cutShort])), (aSc, .inl (cyC, 81920, .inl Sc)), (aB, .inr (0, [.ref aBl, .int B_used])), (aBl, .inl (cyI, 136, .inl Bl))]) (w1 := [(aF, .inr (1, [.int u3.1, .long u3.2.1, .int u3.2.2.1, .int u3.2.2.2]))]) hP hD [3] [0, 1, 2, 4, 5] rfl rfl (by decide) (by decide) hk1 hFc hP1 hD1
  have hP := hP.sub (ws' := [(aN, .inr (2, [.ref aS, .ref aF, .ref aB, .ref aR, .int N_base, .int N_first, .int N_significandEnd, .int N_exponentEnd])), (aS, .inr (6, [.ref aSc, .int S_count, .int S_cutShort])), (aSc, .inl (cyC, 81920, .inl Sc)), (aF, .inr (1, [.int u3.1, .long u3.2.1, .int u3.2.2.1, .int u3.2.2.2])), (aB, .inr (0, [.ref aBl, .int B_used])), (aBl, .inl (cyI, 136, .inl Bl))]) [0, 1, 2, 5, 3, 4] rfl
  have hD := hD.sub (ws' := [(aN, .inr (2, [.ref aS, .ref aF, .ref aB, .ref aR, .int N_base, .int N_first, .int N_significandEnd, .int N_exponentEnd])), (aS, .inr (6, [.ref aSc, .int S_count, .int S_cutShort])), (aSc, .inl (cyC, 81920, .inl Sc)), (aF, .inr (1, [.int u3.1, .long u3.2.1, .int u3.2.2.1, .int u3.2.2.2])), (aB, .inr (0, [.ref aBl, .int B_used])), (aBl, .inl (cyI, 136, .inl Bl))]) [0, 1, 2, 5, 3, 4] (by decide) rfl
  refine lv_aload_n hx hb dX2_takeWhole_106 rfl (lv_at hl 0 rfl) ?_
  refine va_get (D := (dC, dI)) (ci := 2) (v := .ref aB) (C := RX2) (T := TX2) (N := 8) hx hb hts i_X2_takeWhole_X2 hown hK hP 0 rfl rfl 2 (by decide) (hts (.fieldLink RX2 22 "TokenRow$Numbers" "digits" "LTokenRow$Big;") (List.mem_of_getElem? (i := 3) rfl)) (fun _ h9 => h9) rfl dX2_takeWhole_107 ?_
  obtain ⟨z4, hz4, hf⟩ := bd_ok hf
  have hPc := hP.sub (ws' := [(aB, .inr (0, [.ref aBl, .int B_used])), (aBl, .inl (cyI, 136, .inl Bl))]) [4, 5] rfl
  refine vp_callSi (va_Run.run (va_runV (As := []) (rest := []) ⟨hx, hb, hml, hown, hts⟩ (m_X0_bitLength l dC dI cyB cyC cyI cyJ cyZ aB aBl   B_used Bl n z4 hz4) (cwV 0 hts gX2_takeWhole_X0_bitLength rfl rfl rfl (by decide +kernel) ⟨Nat.le_of_ble_eq_true rfl, Nat.le_of_ble_eq_true rfl⟩) (proV (va_recv hK hP (ci := 0) (q0 := 4) rfl rfl) hPc hK hN) rfl rfl hl.1 rfl (lv_room (Nat.le_of_ble_eq_true rfl)) dX2_takeWhole_110 ⟨Nat.le_of_ble_eq_true rfl, Nat.le_of_ble_eq_true rfl⟩)) (fun o4 hr9 => ?_)
  subst hr9
  refine lv_iload_n hx hb dX2_takeWhole_113 rfl (lv_at hl 2 rfl) ?_
  refine lv_if_eq (tgt := 122) hx hb dX2_takeWhole_114 (by decide) (fun hc => ?_) (fun hc => ?_)
  · have hf := (if_pos hc).symm.trans hf
    refine lv_bipush (v := (32 : Int32)) hx hb dX2_takeWhole_122 (by decide) ?_
    exact k_X2_takeWhole_124 (aR := aR) CX hA n _ _ _ _ _ _ _ _ _ _ _ _ _ _ hf hP hD hS ls (lv_sub hl [0, 2, 4] rfl)
  · have hf := (if_neg hc).symm.trans hf
    refine lv_bipush (v := (64 : Int32)) hx hb dX2_takeWhole_117 (by decide) ?_
    refine lv_goto (tgt := 124) hx hb dX2_takeWhole_119 (by decide) ?_
    exact k_X2_takeWhole_124 (aR := aR) CX hA n _ _ _ _ _ _ _ _ _ _ _ _ _ _ hf hP hD hS ls (lv_sub hl [0, 2, 4] rfl)
def f_X2_takeWhole_87 (n : Nat) (N_significandEnd : Int32) (N_exponentEnd : Int32) (S_count : Int32) (S_cutShort : Int32) (Sc : Nat → Int32) (N_base : Int32) (N_first : Int32) (F_kind : Int32) (F_says : Int64) (F_start : Int32) (F_behind : Int32) (B_used : Int32) (Bl : Nat → Int32) (x1 : Int32) (x3 : Int32) (x4 : Int32) (x5 : Int64) (t1 : Int32) : Option (Int32 × Int32 × Int32 × Int32 × Int64 × Int32 × Int32 × Int32 × (Nat → Int32)) :=
  if x3 = 0 then
  (f_X2_takeWhole_100 n N_significandEnd N_exponentEnd S_count S_cutShort Sc N_base N_first F_kind F_says F_start F_behind B_used Bl x1 x3 x4 x5 t1 x5.toInt32.toInt64)
  else
  (f_X2_takeWhole_100 n N_significandEnd N_exponentEnd S_count S_cutShort Sc N_base N_first F_kind F_says F_start F_behind B_used Bl x1 x3 x4 x5 t1 x5)
set_option maxHeartbeats 4000000 in
set_option maxRecDepth 100000 in
theorem k_X2_takeWhole_87 {p : Program} {l : Launch} {e : Env} {s : State} {m : MethodId} {args : Array Value} {below : List Frame} {meth : Method} {c : Code} {dC : Nat → ClassId} {dI : Nat → Nat → Nat} {cyB cyC cyI cyJ cyZ : ClassId} {aN aS aF aB aR aSc aBl : Nat} {N_significandEnd : Int32} {N_exponentEnd : Int32} {S_count : Int32} {S_cutShort : Int32} {Sc : Nat → Int32} {A : Nat → Prop} {out : Int32 × Int32 × Int32 × Int32 × Int64 × Int32 × Int32 × Int32 × (Nat → Int32)} (CX : cx cX2_takeWhole (some .boolean) 7 RX2 wsX2_takeWhole (dC, dI) (TY cyB cyC cyI cyJ cyZ) p s m args meth c) (hA : ∀ q : Nat, s.heap.size ≤ q → A q) (n : Nat) : J_X2_takeWhole_87 p l e s m args below meth c dC dI cyB cyC cyI cyJ cyZ aN aS aF aB aR aSc aBl N_significandEnd N_exponentEnd S_count S_cutShort Sc A out (f_X2_takeWhole_87 n N_significandEnd N_exponentEnd S_count S_cutShort Sc) := by
  intro N_base N_first F_kind F_says F_start F_behind B_used Bl x1 x3 x4 x5 t1 H locs hf hP hD hS ls hl
  obtain ⟨hx, hb, hr, hml, hown, hts, hlocks, hK, hN⟩ := id CX
  unfold f_X2_takeWhole_87 at hf
  refine lv_iload_n hx hb dX2_takeWhole_87 rfl (lv_at hl 2 rfl) ?_
  refine lv_if_eq (tgt := 96) hx hb dX2_takeWhole_88 (by decide) (fun hc => ?_) (fun hc => ?_)
  · have hf := (if_pos hc).symm.trans hf
    refine lv_lload hx hb dX2_takeWhole_96 (lv_at hl 4 rfl) ?_
    refine lv_l2i (v := x5.toInt32) hx hb dX2_takeWhole_98 rfl ?_
    refine lv_i2l (v := x5.toInt32.toInt64) hx hb dX2_takeWhole_99 rfl ?_
    exact k_X2_takeWhole_100 (aR := aR) CX hA n _ _ _ _ _ _ _ _ _ _ _ _ _ _ _ _ hf hP hD hS ls (lv_sub hl [0, 1, 2, 3, 4] rfl)
  · have hf := (if_neg hc).symm.trans hf
    refine lv_lload hx hb dX2_takeWhole_91 (lv_at hl 4 rfl) ?_
    refine lv_goto (tgt := 100) hx hb dX2_takeWhole_93 (by decide) ?_
    exact k_X2_takeWhole_100 (aR := aR) CX hA n _ _ _ _ _ _ _ _ _ _ _ _ _ _ _ _ hf hP hD hS ls (lv_sub hl [0, 1, 2, 3, 4] rfl)
def f_X2_takeWhole_39 (n : Nat) (N_significandEnd : Int32) (N_exponentEnd : Int32) (S_count : Int32) (S_cutShort : Int32) (Sc : Nat → Int32) (N_base : Int32) (N_first : Int32) (F_kind : Int32) (F_says : Int64) (F_start : Int32) (F_behind : Int32) (B_used : Int32) (Bl : Nat → Int32) (x1 : Int32) (x2 : Int32) (x3 : Int32) (t0 : Int32) : Option (Int32 × Int32 × Int32 × Int32 × Int64 × Int32 × Int32 × Int32 × (Nat → Int32)) :=
  if (t0 - x1) ≤ (1000 : Int32) then
  (bd (f_X2_sumUp n N_first x2 N_base N_first N_significandEnd N_exponentEnd S_count S_cutShort Sc B_used Bl) fun qu3 =>
  lt_ qu3.1 fun r4 => lt_ qu3.2 fun u3 =>
  bd (f_X0_low n  u3.1 u3.2) fun o5 =>
  if x3 = 0 then
  (f_X2_takeWhole_87 n N_significandEnd N_exponentEnd S_count S_cutShort Sc N_base N_first F_kind F_says F_start F_behind u3.1 u3.2 x1 x3 t0 o5 (61 : Int32))
  else
  (f_X2_takeWhole_87 n N_significandEnd N_exponentEnd S_count S_cutShort Sc N_base N_first F_kind F_says F_start F_behind u3.1 u3.2 x1 x3 t0 o5 (62 : Int32)))
  else
  (some ((0 : Int32), N_base, N_first, F_kind, F_says, F_start, F_behind, B_used, Bl))
set_option maxHeartbeats 4000000 in
set_option maxRecDepth 100000 in
theorem k_X2_takeWhole_39 {p : Program} {l : Launch} {e : Env} {s : State} {m : MethodId} {args : Array Value} {below : List Frame} {meth : Method} {c : Code} {dC : Nat → ClassId} {dI : Nat → Nat → Nat} {cyB cyC cyI cyJ cyZ : ClassId} {aN aS aF aB aR aSc aBl : Nat} {N_significandEnd : Int32} {N_exponentEnd : Int32} {S_count : Int32} {S_cutShort : Int32} {Sc : Nat → Int32} {A : Nat → Prop} {out : Int32 × Int32 × Int32 × Int32 × Int64 × Int32 × Int32 × Int32 × (Nat → Int32)} (CX : cx cX2_takeWhole (some .boolean) 7 RX2 wsX2_takeWhole (dC, dI) (TY cyB cyC cyI cyJ cyZ) p s m args meth c) (hA : ∀ q : Nat, s.heap.size ≤ q → A q) (n : Nat) : J_X2_takeWhole_39 p l e s m args below meth c dC dI cyB cyC cyI cyJ cyZ aN aS aF aB aR aSc aBl N_significandEnd N_exponentEnd S_count S_cutShort Sc A out (f_X2_takeWhole_39 n N_significandEnd N_exponentEnd S_count S_cutShort Sc) := by
  intro N_base N_first F_kind F_says F_start F_behind B_used Bl x1 x2 x3 t0 H locs hf hP hD hS ls hl
  obtain ⟨hx, hb, hr, hml, hown, hts, hlocks, hK, hN⟩ := id CX
  unfold f_X2_takeWhole_39 at hf
  refine lv_istore (lv' := [(4, .int t0), (0, .ref aN), (1, .int x1), (2, .int x2), (3, .int x3)]) hx hb dX2_takeWhole_39 hl (by decide) rfl (fun ls hl => ?_)
  refine lv_iload hx hb dX2_takeWhole_41 (lv_at hl 0 rfl) ?_
  refine lv_iload_n hx hb dX2_takeWhole_43 rfl (lv_at hl 2 rfl) ?_
  refine lv_isub hx hb dX2_takeWhole_44 ?_
  refine lv_sipush (v := (1000 : Int32)) hx hb dX2_takeWhole_45 (by decide) ?_
  refine lv_icmp_le (tgt := 53) hx hb dX2_takeWhole_48 (by decide) (fun hc => ?_) (fun hc => ?_)
  · have hf := (if_pos hc).symm.trans hf
    refine lv_aload_n hx hb dX2_takeWhole_53 rfl (lv_at hl 1 rfl) ?_
    refine lv_aload_n hx hb dX2_takeWhole_54 rfl (lv_at hl 1 rfl) ?_
    refine va_get (D := (dC, dI)) (ci := 2) (v := .int N_first) (C := RX2) (T := TX2) (N := 8) hx hb hts i_X2_takeWhole_X2 hown hK hP 0 rfl rfl 5 (by decide) (hts (.fieldLink RX2 43 "TokenRow$Numbers" "first" "I") (List.mem_of_getElem? (i := 1) rfl)) (fun _ h9 => h9) rfl dX2_takeWhole_55 ?_
    refine lv_iload_n hx hb dX2_takeWhole_58 rfl (lv_at hl 3 rfl) ?_
    obtain ⟨z1, hz1, hf⟩ := bd_ok hf
    have hPc := hP.sub (ws' := [(aN, .inr (2, [.ref aS, .ref aF, .ref aB, .ref aR, .int N_base, .int N_first, .int N_significandEnd, .int N_exponentEnd])), (aS, .inr (6, [.ref aSc, .int S_count, .int S_cutShort])), (aSc, .inl (cyC, 81920, .inl Sc)), (aB, .inr (0, [.ref aBl, .int B_used])), (aBl, .inl (cyI, 136, .inl Bl))]) [0, 1, 2, 4, 5] rfl
    have hDc := hD.sub (ws' := [(aN, .inr (2, [.ref aS, .ref aF, .ref aB, .ref aR, .int N_base, .int N_first, .int N_significandEnd, .int N_exponentEnd])), (aS, .inr (6, [.ref aSc, .int S_count, .int S_cutShort])), (aSc, .inl (cyC, 81920, .inl Sc)), (aB, .inr (0, [.ref aBl, .int B_used])), (aBl, .inl (cyI, 136, .inl Bl))]) [0, 1, 2, 4, 5] (by decide) rfl
    have hFc := va_free (wc := [(aN, .inr (2, [.ref aS, .ref aF, .ref aB, .ref aR, .int N_base, .int N_first, .int N_significandEnd, .int N_exponentEnd])), (aS, .inr (6, [.ref aSc, .int S_count, .int S_cutShort])), (aSc, .inl (cyC, 81920, .inl Sc)), (aB, .inr (0, [.ref aBl, .int B_used])), (aBl, .inl (cyI, 136, .inl Bl))]) hD hS hA [0, 1, 2, 4, 5] rfl
    refine va_calli (va_runV (As := [.int N_first, .int x2]) (rest := []) ⟨hx, hb, hml, hown, hts⟩ (m_X2_sumUp l dC dI cyB cyC cyI cyJ cyZ aN aS aF aB aR aSc aBl  H.size N_first x2 N_base N_first N_significandEnd N_exponentEnd S_count S_cutShort Sc B_used Bl n z1 hz1) (cwV 2 hts gX2_takeWhole_X2_sumUp rfl rfl rfl (by decide +kernel) ⟨Nat.le_of_ble_eq_true rfl, Nat.le_of_ble_eq_true rfl⟩) (prwV (va_recv hK hP (ci := 2) (q0 := 0) rfl rfl) hPc hK hDc hN) rfl rfl hl.1 rfl (lv_room (Nat.le_of_ble_eq_true rfl)) dX2_takeWhole_59 ⟨Nat.le_of_ble_eq_true rfl, Nat.le_of_ble_eq_true rfl⟩) hS (fun q _ h => hFc q h) hFc (fun r4 u3 t9 H2 locs ht hvm hw hB hz1 hk1 hS => ?_)
    subst hw
    obtain ⟨hP1, hD1⟩ := hB
    rw [ht] at hP1
    have hf := lt_ok hf r4 rfl
    have hf := lt_ok hf u3 rfl
    obtain ⟨hP, hD⟩ := va_join (wr := [(aF, .inr (1, [.int F_kind, .long F_says, .int F_start, .int F_behind]))]) (w1 := [(aN, .inr (2, [.ref aS, .ref aF, .ref aB, .ref aR, .int N_base, .int N_first, .int N_significandEnd, .int N_exponentEnd])), (aS, .inr (6, [.ref aSc, .int S_count, .int S_cutShort])), (aSc, .inl (cyC, 81920, .inl Sc)), (aB, .inr (0, [.ref aBl, .int u3.1])), (aBl, .inl (cyI, 136, .inl u3.2))]) hP hD [0, 1, 2, 4, 5] [3] rfl rfl (by decide) (by decide) hk1 hFc hP1 hD1
    have hP := hP.sub (ws' := [(aN, .inr (2, [.ref aS, .ref aF, .ref aB, .ref aR, .int N_base, .int N_first, .int N_significandEnd, .int N_exponentEnd])), (aS, .inr (6, [.ref aSc, .int S_count, .int S_cutShort])), (aSc, .inl (cyC, 81920, .inl Sc)), (aF, .inr (1, [.int F_kind, .long F_says, .int F_start, .int F_behind])), (aB, .inr (0, [.ref aBl, .int u3.1])), (aBl, .inl (cyI, 136, .inl u3.2))]) [1, 2, 3, 0, 4, 5] rfl
    have hD := hD.sub (ws' := [(aN, .inr (2, [.ref aS, .ref aF, .ref aB, .ref aR, .int N_base, .int N_first, .int N_significandEnd, .int N_exponentEnd])), (aS, .inr (6, [.ref aSc, .int S_count, .int S_cutShort])), (aSc, .inl (cyC, 81920, .inl Sc)), (aF, .inr (1, [.int F_kind, .long F_says, .int F_start, .int F_behind])), (aB, .inr (0, [.ref aBl, .int u3.1])), (aBl, .inl (cyI, 136, .inl u3.2))]) [1, 2, 3, 0, 4, 5] (by decide) rfl
    refine lv_pop hx hb dX2_takeWhole_62 rfl ?_
    refine lv_aload_n hx hb dX2_takeWhole_63 rfl (lv_at hl 1 rfl) ?_
    refine va_get (D := (dC, dI)) (ci := 2) (v := .ref aB) (C := RX2) (T := TX2) (N := 8) hx hb hts i_X2_takeWhole_X2 hown hK hP 0 rfl rfl 2 (by decide) (hts (.fieldLink RX2 22 "TokenRow$Numbers" "digits" "LTokenRow$Big;") (List.mem_of_getElem? (i := 3) rfl)) (fun _ h9 => h9) rfl dX2_takeWhole_64 ?_
    obtain ⟨z5, hz5, hf⟩ := bd_ok hf
    have hPc := hP.sub (ws' := [(aB, .inr (0, [.ref aBl, .int u3.1])), (aBl, .inl (cyI, 136, .inl u3.2))]) [4, 5] rfl
    refine vp_callSl (va_Run.run (va_runV (As := []) (rest := []) ⟨hx, hb, hml, hown, hts⟩ (m_X0_low l dC dI cyB cyC cyI cyJ cyZ aB aBl   u3.1 u3.2 n z5 hz5) (cwV 0 hts gX2_takeWhole_X0_low rfl rfl rfl (by decide +kernel) ⟨Nat.le_of_ble_eq_true rfl, Nat.le_of_ble_eq_true rfl⟩) (proV (va_recv hK hP (ci := 0) (q0 := 4) rfl rfl) hPc hK hN) rfl rfl hl.1 rfl (lv_room (Nat.le_of_ble_eq_true rfl)) dX2_takeWhole_67 ⟨Nat.le_of_ble_eq_true rfl, Nat.le_of_ble_eq_true rfl⟩)) (fun o5 hr9 => ?_)
    subst hr9
    refine lv_lstore (lv' := [(5, .long o5), (4, .int t0), (0, .ref aN), (1, .int x1), (2, .int x2), (3, .int x3)]) hx hb dX2_takeWhole_70 hl (by decide) rfl (fun ls hl => ?_)
    refine lv_aload_n hx hb dX2_takeWhole_72 rfl (lv_at hl 2 rfl) ?_
    refine va_get (D := (dC, dI)) (ci := 2) (v := .ref aF) (C := RX2) (T := TX2) (N := 8) hx hb hts i_X2_takeWhole_X2 hown hK hP 0 rfl rfl 1 (by decide) (hts (.fieldLink RX2 15 "TokenRow$Numbers" "found" "LTokenRow$Found;") (List.mem_of_getElem? (i := 4) rfl)) (fun _ h9 => h9) rfl dX2_takeWhole_73 ?_
    refine lv_iload_n hx hb dX2_takeWhole_76 rfl (lv_at hl 5 rfl) ?_
    refine lv_if_eq (tgt := 85) hx hb dX2_takeWhole_77 (by decide) (fun hc => ?_) (fun hc => ?_)
    · have hf := (if_pos hc).symm.trans hf
      refine lv_bipush (v := (61 : Int32)) hx hb dX2_takeWhole_85 (by decide) ?_
      exact k_X2_takeWhole_87 (aR := aR) CX hA n _ _ _ _ _ _ _ _ _ _ _ _ _ _ _ hf hP hD hS ls (lv_sub hl [2, 3, 5, 1, 0] rfl)
    · have hf := (if_neg hc).symm.trans hf
      refine lv_bipush (v := (62 : Int32)) hx hb dX2_takeWhole_80 (by decide) ?_
      refine lv_goto (tgt := 87) hx hb dX2_takeWhole_82 (by decide) ?_
      exact k_X2_takeWhole_87 (aR := aR) CX hA n _ _ _ _ _ _ _ _ _ _ _ _ _ _ _ hf hP hD hS ls (lv_sub hl [2, 3, 5, 1, 0] rfl)
  · have hf := (if_neg hc).symm.trans hf
    refine lv_iconst (v := (0 : Int32)) hx hb dX2_takeWhole_51 (by decide) ?_
    exact W.zret (v := (0 : Int32)) (ty := .boolean) hx hb hr rfl (fun t ht hW => ⟨⟨_, (N_base, N_first, F_kind, F_says, F_start, F_behind, B_used, Bl), rfl, Option.some.inj hf, by rw [ht]; exact hP, hD⟩, hS.F ht⟩) hS.2.2 dX2_takeWhole_52
def f_X2_takeWhole_0 (n : Nat) (N_significandEnd : Int32) (N_exponentEnd : Int32) (S_count : Int32) (S_cutShort : Int32) (Sc : Nat → Int32) (N_base : Int32) (N_first : Int32) (F_kind : Int32) (F_says : Int64) (F_start : Int32) (F_behind : Int32) (B_used : Int32) (Bl : Nat → Int32) (x1 : Int32) : Option (Int32 × Int32 × Int32 × Int32 × Int64 × Int32 × Int32 × Int32 × (Nat → Int32)) :=
  bd (f_X2_chooseBase n x1 N_base N_first N_significandEnd N_exponentEnd S_count S_cutShort Sc) fun u3 =>
  bd (f_X2_behindDigits n u3.2 u3.1 u3.1 u3.2 N_significandEnd N_exponentEnd S_count S_cutShort Sc) fun o4 =>
  bd (f_X2_isEither n o4 (108 : Int32) (76 : Int32) u3.1 u3.2 N_significandEnd N_exponentEnd S_count S_cutShort Sc) fun o5 =>
  if o5 = 0 then
  (f_X2_takeWhole_39 n N_significandEnd N_exponentEnd S_count S_cutShort Sc u3.1 u3.2 F_kind F_says F_start F_behind B_used Bl x1 o4 o5 o4)
  else
  (f_X2_takeWhole_39 n N_significandEnd N_exponentEnd S_count S_cutShort Sc u3.1 u3.2 F_kind F_says F_start F_behind B_used Bl x1 o4 o5 (o4 + (1 : Int32)))
set_option maxHeartbeats 4000000 in
set_option maxRecDepth 100000 in
theorem k_X2_takeWhole_0 {p : Program} {l : Launch} {e : Env} {s : State} {m : MethodId} {args : Array Value} {below : List Frame} {meth : Method} {c : Code} {dC : Nat → ClassId} {dI : Nat → Nat → Nat} {cyB cyC cyI cyJ cyZ : ClassId} {aN aS aF aB aR aSc aBl : Nat} {N_significandEnd : Int32} {N_exponentEnd : Int32} {S_count : Int32} {S_cutShort : Int32} {Sc : Nat → Int32} {A : Nat → Prop} {out : Int32 × Int32 × Int32 × Int32 × Int64 × Int32 × Int32 × Int32 × (Nat → Int32)} (CX : cx cX2_takeWhole (some .boolean) 7 RX2 wsX2_takeWhole (dC, dI) (TY cyB cyC cyI cyJ cyZ) p s m args meth c) (hA : ∀ q : Nat, s.heap.size ≤ q → A q) (n : Nat) : J_X2_takeWhole_0 p l e s m args below meth c dC dI cyB cyC cyI cyJ cyZ aN aS aF aB aR aSc aBl N_significandEnd N_exponentEnd S_count S_cutShort Sc A out (f_X2_takeWhole_0 n N_significandEnd N_exponentEnd S_count S_cutShort Sc) := by
  intro N_base N_first F_kind F_says F_start F_behind B_used Bl x1 H locs hf hP hD hS ls hl
  obtain ⟨hx, hb, hr, hml, hown, hts, hlocks, hK, hN⟩ := id CX
  unfold f_X2_takeWhole_0 at hf
  refine lv_aload_n hx hb dX2_takeWhole_0 rfl (lv_at hl 0 rfl) ?_
  refine lv_iload_n hx hb dX2_takeWhole_1 rfl (lv_at hl 1 rfl) ?_
  obtain ⟨z1, hz1, hf⟩ := bd_ok hf
  have hPc := hP.sub (ws' := [(aN, .inr (2, [.ref aS, .ref aF, .ref aB, .ref aR, .int N_base, .int N_first, .int N_significandEnd, .int N_exponentEnd])), (aS, .inr (6, [.ref aSc, .int S_count, .int S_cutShort])), (aSc, .inl (cyC, 81920, .inl Sc))]) [0, 1, 2] rfl
  have hDc := hD.sub (ws' := [(aN, .inr (2, [.ref aS, .ref aF, .ref aB, .ref aR, .int N_base, .int N_first, .int N_significandEnd, .int N_exponentEnd])), (aS, .inr (6, [.ref aSc, .int S_count, .int S_cutShort])), (aSc, .inl (cyC, 81920, .inl Sc))]) [0, 1, 2] (by decide) rfl
  have hFc := va_free (wc := [(aN, .inr (2, [.ref aS, .ref aF, .ref aB, .ref aR, .int N_base, .int N_first, .int N_significandEnd, .int N_exponentEnd])), (aS, .inr (6, [.ref aSc, .int S_count, .int S_cutShort])), (aSc, .inl (cyC, 81920, .inl Sc))]) hD hS hA [0, 1, 2] rfl
  refine va_callv (va_runV (As := [.int x1]) (rest := []) ⟨hx, hb, hml, hown, hts⟩ (m_X2_chooseBase l dC dI cyB cyC cyI cyJ cyZ aN aS aF aB aR aSc  H.size x1 N_base N_first N_significandEnd N_exponentEnd S_count S_cutShort Sc n z1 hz1) (cwV 1 hts gX2_takeWhole_X2_chooseBase rfl rfl rfl (by decide +kernel) ⟨Nat.le_of_ble_eq_true rfl, Nat.le_of_ble_eq_true rfl⟩) (prwV (va_recv hK hP (ci := 2) (q0 := 0) rfl rfl) hPc hK hDc hN) rfl rfl hl.1 rfl (lv_room (Nat.le_of_ble_eq_true rfl)) dX2_takeWhole_2 ⟨Nat.le_of_ble_eq_true rfl, Nat.le_of_ble_eq_true rfl⟩) hS (fun q _ h => hFc q h) hFc (fun u3 t9 H2 locs ht hvm hw hB hz1 hk1 hS => ?_)
  subst hw
  obtain ⟨hP1, hD1⟩ := hB
  rw [ht] at hP1
  obtain ⟨hP, hD⟩ := va_join (wr := [(aF, .inr (1, [.int F_kind, .long F_says, .int F_start, .int F_behind])), (aB, .inr (0, [.ref aBl, .int B_used])), (aBl, .inl (cyI, 136, .inl Bl))]) (w1 := [(aN, .inr (2, [.ref aS, .ref aF, .ref aB, .ref aR, .int u3.1, .int u3.2, .int N_significandEnd, .int N_exponentEnd])), (aS, .inr (6, [.ref aSc, .int S_count, .int S_cutShort])), (aSc, .inl (cyC, 81920, .inl Sc))]) hP hD [0, 1, 2] [3, 4, 5] rfl rfl (by decide) (by decide) hk1 hFc hP1 hD1
  have hP := hP.sub (ws' := [(aN, .inr (2, [.ref aS, .ref aF, .ref aB, .ref aR, .int u3.1, .int u3.2, .int N_significandEnd, .int N_exponentEnd])), (aS, .inr (6, [.ref aSc, .int S_count, .int S_cutShort])), (aSc, .inl (cyC, 81920, .inl Sc)), (aF, .inr (1, [.int F_kind, .long F_says, .int F_start, .int F_behind])), (aB, .inr (0, [.ref aBl, .int B_used])), (aBl, .inl (cyI, 136, .inl Bl))]) [3, 4, 5, 0, 1, 2] rfl
  have hD := hD.sub (ws' := [(aN, .inr (2, [.ref aS, .ref aF, .ref aB, .ref aR, .int u3.1, .int u3.2, .int N_significandEnd, .int N_exponentEnd])), (aS, .inr (6, [.ref aSc, .int S_count, .int S_cutShort])), (aSc, .inl (cyC, 81920, .inl Sc)), (aF, .inr (1, [.int F_kind, .long F_says, .int F_start, .int F_behind])), (aB, .inr (0, [.ref aBl, .int B_used])), (aBl, .inl (cyI, 136, .inl Bl))]) [3, 4, 5, 0, 1, 2] (by decide) rfl
  refine lv_aload_n hx hb dX2_takeWhole_5 rfl (lv_at hl 0 rfl) ?_
  refine lv_aload_n hx hb dX2_takeWhole_6 rfl (lv_at hl 0 rfl) ?_
  refine va_get (D := (dC, dI)) (ci := 2) (v := .int u3.2) (C := RX2) (T := TX2) (N := 8) hx hb hts i_X2_takeWhole_X2 hown hK hP 0 rfl rfl 5 (by decide) (hts (.fieldLink RX2 43 "TokenRow$Numbers" "first" "I") (List.mem_of_getElem? (i := 1) rfl)) (fun _ h9 => h9) rfl dX2_takeWhole_7 ?_
  refine lv_aload_n hx hb dX2_takeWhole_10 rfl (lv_at hl 0 rfl) ?_
  refine va_get (D := (dC, dI)) (ci := 2) (v := .int u3.1) (C := RX2) (T := TX2) (N := 8) hx hb hts i_X2_takeWhole_X2 hown hK hP 0 rfl rfl 4 (by decide) (hts (.fieldLink RX2 39 "TokenRow$Numbers" "base" "I") (List.mem_of_getElem? (i := 2) rfl)) (fun _ h9 => h9) rfl dX2_takeWhole_11 ?_
  obtain ⟨z4, hz4, hf⟩ := bd_ok hf
  have hPc := hP.sub (ws' := [(aN, .inr (2, [.ref aS, .ref aF, .ref aB, .ref aR, .int u3.1, .int u3.2, .int N_significandEnd, .int N_exponentEnd])), (aS, .inr (6, [.ref aSc, .int S_count, .int S_cutShort])), (aSc, .inl (cyC, 81920, .inl Sc))]) [0, 1, 2] rfl
  refine vp_callSi (va_Run.run (va_runV (As := [.int u3.2, .int u3.1]) (rest := []) ⟨hx, hb, hml, hown, hts⟩ (m_X2_behindDigits l dC dI cyB cyC cyI cyJ cyZ aN aS aF aB aR aSc  u3.2 u3.1 u3.1 u3.2 N_significandEnd N_exponentEnd S_count S_cutShort Sc n z4 hz4) (cwV 2 hts gX2_takeWhole_X2_behindDigits rfl rfl rfl (by decide +kernel) ⟨Nat.le_of_ble_eq_true rfl, Nat.le_of_ble_eq_true rfl⟩) (proV (va_recv hK hP (ci := 2) (q0 := 0) rfl rfl) hPc hK hN) rfl rfl hl.1 rfl (lv_room (Nat.le_of_ble_eq_true rfl)) dX2_takeWhole_14 ⟨Nat.le_of_ble_eq_true rfl, Nat.le_of_ble_eq_true rfl⟩)) (fun o4 hr9 => ?_)
  subst hr9
  refine lv_istore_n (lv' := [(2, .int o4), (0, .ref aN), (1, .int x1)]) hx hb dX2_takeWhole_17 rfl hl (by decide) rfl (fun ls hl => ?_)
  refine lv_aload_n hx hb dX2_takeWhole_18 rfl (lv_at hl 1 rfl) ?_
  refine lv_iload_n hx hb dX2_takeWhole_19 rfl (lv_at hl 0 rfl) ?_
  refine lv_bipush (v := (108 : Int32)) hx hb dX2_takeWhole_20 (by decide) ?_
  refine lv_bipush (v := (76 : Int32)) hx hb dX2_takeWhole_22 (by decide) ?_
  obtain ⟨z5, hz5, hf⟩ := bd_ok hf
  have hPc := hP.sub (ws' := [(aN, .inr (2, [.ref aS, .ref aF, .ref aB, .ref aR, .int u3.1, .int u3.2, .int N_significandEnd, .int N_exponentEnd])), (aS, .inr (6, [.ref aSc, .int S_count, .int S_cutShort])), (aSc, .inl (cyC, 81920, .inl Sc))]) [0, 1, 2] rfl
  refine vp_callSi (va_Run.run (va_runV (As := [.int o4, .int (108 : Int32), .int (76 : Int32)]) (rest := []) ⟨hx, hb, hml, hown, hts⟩ (m_X2_isEither l dC dI cyB cyC cyI cyJ cyZ aN aS aF aB aR aSc  o4 (108 : Int32) (76 : Int32) u3.1 u3.2 N_significandEnd N_exponentEnd S_count S_cutShort Sc n z5 hz5) (cwV 3 hts gX2_takeWhole_X2_isEither rfl rfl rfl (by decide +kernel) ⟨Nat.le_of_ble_eq_true rfl, Nat.le_of_ble_eq_true rfl⟩) (proV (va_recv hK hP (ci := 2) (q0 := 0) rfl rfl) hPc hK hN) rfl rfl hl.1 rfl (lv_room (Nat.le_of_ble_eq_true rfl)) dX2_takeWhole_24 ⟨Nat.le_of_ble_eq_true rfl, Nat.le_of_ble_eq_true rfl⟩)) (fun o5 hr9 => ?_)
  subst hr9
  refine lv_istore_n (lv' := [(3, .int o5), (2, .int o4), (0, .ref aN), (1, .int x1)]) hx hb dX2_takeWhole_27 rfl hl (by decide) rfl (fun ls hl => ?_)
  refine lv_iload_n hx hb dX2_takeWhole_28 rfl (lv_at hl 0 rfl) ?_
  refine lv_if_eq (tgt := 38) hx hb dX2_takeWhole_29 (by decide) (fun hc => ?_) (fun hc => ?_)
  · have hf := (if_pos hc).symm.trans hf
    refine lv_iload_n hx hb dX2_takeWhole_38 rfl (lv_at hl 1 rfl) ?_
    exact k_X2_takeWhole_39 (aR := aR) CX hA n _ _ _ _ _ _ _ _ _ _ _ _ _ _ hf hP hD hS ls (lv_sub hl [2, 3, 1, 0] rfl)
  · have hf := (if_neg hc).symm.trans hf
    refine lv_iload_n hx hb dX2_takeWhole_32 rfl (lv_at hl 1 rfl) ?_
    refine lv_iconst (v := (1 : Int32)) hx hb dX2_takeWhole_33 (by decide) ?_
    refine lv_iadd hx hb dX2_takeWhole_34 ?_
    refine lv_goto (tgt := 39) hx hb dX2_takeWhole_35 (by decide) ?_
    exact k_X2_takeWhole_39 (aR := aR) CX hA n _ _ _ _ _ _ _ _ _ _ _ _ _ _ hf hP hD hS ls (lv_sub hl [2, 3, 1, 0] rfl)
def f_X2_takeWhole (n : Nat) (p1 : Int32) (N_base : Int32) (N_first : Int32) (N_significandEnd : Int32) (N_exponentEnd : Int32) (S_count : Int32) (S_cutShort : Int32) (Sc : Nat → Int32) (F_kind : Int32) (F_says : Int64) (F_start : Int32) (F_behind : Int32) (B_used : Int32) (Bl : Nat → Int32) : Option (Int32 × Int32 × Int32 × Int32 × Int64 × Int32 × Int32 × Int32 × (Nat → Int32)) := f_X2_takeWhole_0 n N_significandEnd N_exponentEnd S_count S_cutShort Sc N_base N_first F_kind F_says F_start F_behind B_used Bl p1
set_option maxHeartbeats 4000000 in
set_option maxRecDepth 100000 in
/-- TokenRow$Numbers.takeWhole(I)Z -/
theorem m_X2_takeWhole (l : Launch) (dC : Nat → ClassId) (dI : Nat → Nat → Nat) (cyB cyC cyI cyJ cyZ : ClassId) (aN aS aF aB aR aSc aBl : Nat) (sz : Nat) (p1 : Int32) (N_base : Int32) (N_first : Int32) (N_significandEnd : Int32) (N_exponentEnd : Int32) (S_count : Int32) (S_cutShort : Int32) (Sc : Nat → Int32) (F_kind : Int32) (F_says : Int64) (F_start : Int32) (F_behind : Int32) (B_used : Int32) (Bl : Nat → Int32) (n : Nat) (out : Int32 × Int32 × Int32 × Int32 × Int64 × Int32 × Int32 × Int32 × (Nat → Int32)) (hf : f_X2_takeWhole n p1 N_base N_first N_significandEnd N_exponentEnd S_count S_cutShort Sc F_kind F_says F_start F_behind B_used Bl = some out) : Met l yX2_takeWhole wsX2_takeWhole rm_X2_takeWhole (Prw (dC, dI) (TY cyB cyC cyI cyJ cyZ) [.ref aN, .int p1] sz [(aN, .inr (2, [.ref aS, .ref aF, .ref aB, .ref aR, .int N_base, .int N_first, .int N_significandEnd, .int N_exponentEnd])), (aS, .inr (6, [.ref aSc, .int S_count, .int S_cutShort])), (aSc, .inl (cyC, 81920, .inl Sc)), (aF, .inr (1, [.int F_kind, .long F_says, .int F_start, .int F_behind])), (aB, .inr (0, [.ref aBl, .int B_used])), (aBl, .inl (cyI, 136, .inl Bl))]) (va_Qi (fun (r : Int32) (u : Int32 × Int32 × Int32 × Int64 × Int32 × Int32 × Int32 × (Nat → Int32)) => (r, u) = out) (Bw (dC, dI) (va_A [(aN, .inr (2, [.ref aS, .ref aF, .ref aB, .ref aR, .int N_base, .int N_first, .int N_significandEnd, .int N_exponentEnd])), (aS, .inr (6, [.ref aSc, .int S_count, .int S_cutShort])), (aSc, .inl (cyC, 81920, .inl Sc)), (aF, .inr (1, [.int F_kind, .long F_says, .int F_start, .int F_behind])), (aB, .inr (0, [.ref aBl, .int B_used])), (aBl, .inl (cyI, 136, .inl Bl))] sz) (fun u => [(aN, .inr (2, [.ref aS, .ref aF, .ref aB, .ref aR, .int u.1, .int u.2.1, .int N_significandEnd, .int N_exponentEnd])), (aS, .inr (6, [.ref aSc, .int S_count, .int S_cutShort])), (aSc, .inl (cyC, 81920, .inl Sc)), (aF, .inr (1, [.int u.2.2.1, .long u.2.2.2.1, .int u.2.2.2.2.1, .int u.2.2.2.2.2.1])), (aB, .inr (0, [.ref aBl, .int u.2.2.2.2.2.2.1])), (aBl, .inl (cyI, 136, .inl u.2.2.2.2.2.2.2))])) (va_A [(aN, .inr (2, [.ref aS, .ref aF, .ref aB, .ref aR, .int N_base, .int N_first, .int N_significandEnd, .int N_exponentEnd])), (aS, .inr (6, [.ref aSc, .int S_count, .int S_cutShort])), (aSc, .inl (cyC, 81920, .inl Sc)), (aF, .inr (1, [.int F_kind, .long F_says, .int F_start, .int F_behind])), (aB, .inr (0, [.ref aBl, .int B_used])), (aBl, .inl (cyI, 136, .inl Bl))] sz)) 0 0 (va_A [(aN, .inr (2, [.ref aS, .ref aF, .ref aB, .ref aR, .int N_base, .int N_first, .int N_significandEnd, .int N_exponentEnd])), (aS, .inr (6, [.ref aSc, .int S_count, .int S_cutShort])), (aSc, .inl (cyC, 81920, .inl Sc)), (aF, .inr (1, [.int F_kind, .long F_says, .int F_start, .int F_behind])), (aB, .inr (0, [.ref aBl, .int B_used])), (aBl, .inl (cyI, 136, .inl Bl))] sz) := by
  refine Met.ofW (cc := cX2_takeWhole) (maxL := 7) (ret := (some .boolean)) (by decide) rfl ?_
  intro p e s m args below meth c s₁ B hml hv
  obtain ⟨rfl, hsz, hP, hK, hD0, hN⟩ := hv
  subst hsz
  have hD := hD0.self (sz := s.heap.size)
  have CX : cx cX2_takeWhole (some .boolean) 7 RX2 wsX2_takeWhole (dC, dI) (TY cyB cyC cyI cyJ cyZ) p s m ([.ref aN, .int p1] : List Value).toArray meth c := ⟨B.exec, B.bytes, B.returns, hml, findClass_of_methodNamed B.named, atoms_spec (ws := wsX2_takeWhole) B.pre, B.notSynchronized, hK, hN⟩
  have hl := lv_entry ([.ref aN, .int p1]) (n := 7) (Nat.le_of_ble_eq_true rfl)
  rw [lg_entry_eq]
  exact k_X2_takeWhole_0 (aR := aR) CX (fun q h => Or.inr h) n _ _ _ _ _ _ _ _ _ _ _ hf hP hD va_S.rf _ hl
abbrev rm_X2_takeBroken : Room := { frames := 4, cells := 0, slots := 0, locals := 98 }
theorem i_X2_takeBroken_X0 : ∀ w ∈ u_ws RX0 TX0 2, w ∈ wsX2_takeBroken := fun _ h => (List.mem_cons_of_mem _ (List.mem_append_left _ (List.mem_append_left _ (List.mem_append_right _ h))))
theorem i_X2_takeBroken_X1 : ∀ w ∈ u_ws RX1 TX1 4, w ∈ wsX2_takeBroken := fun _ h => (List.mem_cons_of_mem _ (List.mem_append_right _ h))
theorem i_X2_takeBroken_X2 : ∀ w ∈ u_ws RX2 TX2 8, w ∈ wsX2_takeBroken := fun _ h => (List.mem_cons_of_mem _ (List.mem_append_left _ (List.mem_append_left _ (List.mem_append_left _ (List.mem_append_left _ (List.mem_append_right _ h))))))
theorem i_X2_takeBroken_X5 : ∀ w ∈ u_ws RX5 TX5 3, w ∈ wsX2_takeBroken := fun _ h => (List.mem_cons_of_mem _ (List.mem_append_left _ (List.mem_append_right _ h)))
theorem i_X2_takeBroken_X6 : ∀ w ∈ u_ws RX6 TX6 3, w ∈ wsX2_takeBroken := fun _ h => (List.mem_cons_of_mem _ (List.mem_append_left _ (List.mem_append_left _ (List.mem_append_left _ (List.mem_append_right _ h)))))
def J_X2_takeBroken_145 (p : Program) (l : Launch) (e : Env) (s : State) (m : MethodId) (args : Array Value) (below : List Frame) (meth : Method) (c : Code) (dC : Nat → ClassId) (dI : Nat → Nat → Nat) (cyB cyC cyI cyJ cyZ : ClassId) (aN aS aF aB aR aSc aBl aE aEl : Nat) (N_base : Int32) (N_first : Int32) (N_significandEnd : Int32) (N_exponentEnd : Int32) (S_count : Int32) (S_cutShort : Int32) (Sc : Nat → Int32) (A : Nat → Prop) (out : Int32 × Int32 × Int64 × Int32 × Int32 × Int32 × (Nat → Int32) × Int64 × Int32 × (Nat → Int32)) (g : Int32 → Int64 → Int32 → Int32 → Int32 → (Nat → Int32) → Int64 → Int32 → (Nat → Int32) → Int32 → Int32 → Int32 → Int32 → Option (Int32 × Int32 × Int64 × Int32 × Int32 × Int32 × (Nat → Int32) × Int64 × Int32 × (Nat → Int32))) : Prop := ∀ (F_kind : Int32) (F_says : Int64) (F_start : Int32) (F_behind : Int32) (B_used : Int32) (Bl : Nat → Int32) (R_bits : Int64) (E_used : Int32) (El : Nat → Int32) (x1 : Int32) (x3 : Int32) (x6 : Int32) (t1 : Int32) (H : Heap) (locs : List Loc), g F_kind F_says F_start F_behind B_used Bl R_bits E_used El x1 x3 x6 t1 = some out → va_P (dC, dI) vwCl [(aN, .inr (2, [.ref aS, .ref aF, .ref aB, .ref aR, .int N_base, .int N_first, .int N_significandEnd, .int N_exponentEnd])), (aS, .inr (6, [.ref aSc, .int S_count, .int S_cutShort])), (aSc, .inl (cyC, 81920, .inl Sc)), (aF, .inr (1, [.int F_kind, .long F_says, .int F_start, .int F_behind])), (aB, .inr (0, [.ref aBl, .int B_used])), (aBl, .inl (cyI, 136, .inl Bl)), (aR, .inr (5, [.ref aB, .ref aE, .long R_bits])), (aE, .inr (0, [.ref aEl, .int E_used])), (aEl, .inl (cyI, 136, .inl El))] H → va_D A [(aN, .inr (2, [.ref aS, .ref aF, .ref aB, .ref aR, .int N_base, .int N_first, .int N_significandEnd, .int N_exponentEnd])), (aS, .inr (6, [.ref aSc, .int S_count, .int S_cutShort])), (aSc, .inl (cyC, 81920, .inl Sc)), (aF, .inr (1, [.int F_kind, .long F_says, .int F_start, .int F_behind])), (aB, .inr (0, [.ref aBl, .int B_used])), (aBl, .inl (cyI, 136, .inl Bl)), (aR, .inr (5, [.ref aB, .ref aE, .long R_bits])), (aE, .inr (0, [.ref aEl, .int E_used])), (aEl, .inl (cyI, 136, .inl El))] → va_S A s.heap H locs → ∀ ls : Array Slot, lv_has ls 7 [(0, .ref aN), (1, .int x1), (3, .int x3), (6, .int x6)] → W p l e rm_X2_takeBroken s m args below meth c H locs 0 0 (MQ below (va_Qi (fun (r : Int32) (u : Int32 × Int64 × Int32 × Int32 × Int32 × (Nat → Int32) × Int64 × Int32 × (Nat → Int32)) => (r, u) = out) (Bw (dC, dI) A (fun u => [(aN, .inr (2, [.ref aS, .ref aF, .ref aB, .ref aR, .int N_base, .int N_first, .int N_significandEnd, .int N_exponentEnd])), (aS, .inr (6, [.ref aSc, .int S_count, .int S_cutShort])), (aSc, .inl (cyC, 81920, .inl Sc)), (aF, .inr (1, [.int u.1, .long u.2.1, .int u.2.2.1, .int u.2.2.2.1])), (aB, .inr (0, [.ref aBl, .int u.2.2.2.2.1])), (aBl, .inl (cyI, 136, .inl u.2.2.2.2.2.1)), (aR, .inr (5, [.ref aB, .ref aE, .long u.2.2.2.2.2.2.1])), (aE, .inr (0, [.ref aEl, .int u.2.2.2.2.2.2.2.1])), (aEl, .inl (cyI, 136, .inl u.2.2.2.2.2.2.2.2))])) A) args s 0 0 A) (F0 m 145 ls [.int t1, .ref aF])
def J_X2_takeBroken_115 (p : Program) (l : Launch) (e : Env) (s : State) (m : MethodId) (args : Array Value) (below : List Frame) (meth : Method) (c : Code) (dC : Nat → ClassId) (dI : Nat → Nat → Nat) (cyB cyC cyI cyJ cyZ : ClassId) (aN aS aF aB aR aSc aBl aE aEl : Nat) (N_base : Int32) (N_first : Int32) (N_significandEnd : Int32) (N_exponentEnd : Int32) (S_count : Int32) (S_cutShort : Int32) (Sc : Nat → Int32) (A : Nat → Prop) (out : Int32 × Int32 × Int64 × Int32 × Int32 × Int32 × (Nat → Int32) × Int64 × Int32 × (Nat → Int32)) (g : Int32 → Int64 → Int32 → Int32 → Int32 → (Nat → Int32) → Int64 → Int32 → (Nat → Int32) → Int32 → Int32 → Int32 → Int32 → Int32 → Option (Int32 × Int32 × Int64 × Int32 × Int32 × Int32 × (Nat → Int32) × Int64 × Int32 × (Nat → Int32))) : Prop := ∀ (F_kind : Int32) (F_says : Int64) (F_start : Int32) (F_behind : Int32) (B_used : Int32) (Bl : Nat → Int32) (R_bits : Int64) (E_used : Int32) (El : Nat → Int32) (x1 : Int32) (x2 : Int32) (x3 : Int32) (x5 : Int32) (t1 : Int32) (H : Heap) (locs : List Loc), g F_kind F_says F_start F_behind B_used Bl R_bits E_used El x1 x2 x3 x5 t1 = some out → va_P (dC, dI) vwCl [(aN, .inr (2, [.ref aS, .ref aF, .ref aB, .ref aR, .int N_base, .int N_first, .int N_significandEnd, .int N_exponentEnd])), (aS, .inr (6, [.ref aSc, .int S_count, .int S_cutShort])), (aSc, .inl (cyC, 81920, .inl Sc)), (aF, .inr (1, [.int F_kind, .long F_says, .int F_start, .int F_behind])), (aB, .inr (0, [.ref aBl, .int B_used])), (aBl, .inl (cyI, 136, .inl Bl)), (aR, .inr (5, [.ref aB, .ref aE, .long R_bits])), (aE, .inr (0, [.ref aEl, .int E_used])), (aEl, .inl (cyI, 136, .inl El))] H → va_D A [(aN, .inr (2, [.ref aS, .ref aF, .ref aB, .ref aR, .int N_base, .int N_first, .int N_significandEnd, .int N_exponentEnd])), (aS, .inr (6, [.ref aSc, .int S_count, .int S_cutShort])), (aSc, .inl (cyC, 81920, .inl Sc)), (aF, .inr (1, [.int F_kind, .long F_says, .int F_start, .int F_behind])), (aB, .inr (0, [.ref aBl, .int B_used])), (aBl, .inl (cyI, 136, .inl Bl)), (aR, .inr (5, [.ref aB, .ref aE, .long R_bits])), (aE, .inr (0, [.ref aEl, .int E_used])), (aEl, .inl (cyI, 136, .inl El))] → va_S A s.heap H locs → ∀ ls : Array Slot, lv_has ls 7 [(0, .ref aN), (1, .int x1), (2, .int x2), (3, .int x3), (5, .int x5)] → W p l e rm_X2_takeBroken s m args below meth c H locs 0 0 (MQ below (va_Qi (fun (r : Int32) (u : Int32 × Int64 × Int32 × Int32 × Int32 × (Nat → Int32) × Int64 × Int32 × (Nat → Int32)) => (r, u) = out) (Bw (dC, dI) A (fun u => [(aN, .inr (2, [.ref aS, .ref aF, .ref aB, .ref aR, .int N_base, .int N_first, .int N_significandEnd, .int N_exponentEnd])), (aS, .inr (6, [.ref aSc, .int S_count, .int S_cutShort])), (aSc, .inl (cyC, 81920, .inl Sc)), (aF, .inr (1, [.int u.1, .long u.2.1, .int u.2.2.1, .int u.2.2.2.1])), (aB, .inr (0, [.ref aBl, .int u.2.2.2.2.1])), (aBl, .inl (cyI, 136, .inl u.2.2.2.2.2.1)), (aR, .inr (5, [.ref aB, .ref aE, .long u.2.2.2.2.2.2.1])), (aE, .inr (0, [.ref aEl, .int u.2.2.2.2.2.2.2.1])), (aEl, .inl (cyI, 136, .inl u.2.2.2.2.2.2.2.2))])) A) args s 0 0 A) (F0 m 115 ls [.int t1, .ref aR])
def J_X2_takeBroken_94 (p : Program) (l : Launch) (e : Env) (s : State) (m : MethodId) (args : Array Value) (below : List Frame) (meth : Method) (c : Code) (dC : Nat → ClassId) (dI : Nat → Nat → Nat) (cyB cyC cyI cyJ cyZ : ClassId) (aN aS aF aB aR aSc aBl aE aEl : Nat) (N_base : Int32) (N_first : Int32) (N_significandEnd : Int32) (N_exponentEnd : Int32) (S_count : Int32) (S_cutShort : Int32) (Sc : Nat → Int32) (A : Nat → Prop) (out : Int32 × Int32 × Int64 × Int32 × Int32 × Int32 × (Nat → Int32) × Int64 × Int32 × (Nat → Int32)) (g : Int32 → Int64 → Int32 → Int32 → Int32 → (Nat → Int32) → Int64 → Int32 → (Nat → Int32) → Int32 → Int32 → Int32 → Int32 → Option (Int32 × Int32 × Int64 × Int32 × Int32 × Int32 × (Nat → Int32) × Int64 × Int32 × (Nat → Int32))) : Prop := ∀ (F_kind : Int32) (F_says : Int64) (F_start : Int32) (F_behind : Int32) (B_used : Int32) (Bl : Nat → Int32) (R_bits : Int64) (E_used : Int32) (El : Nat → Int32) (x1 : Int32) (x2 : Int32) (x3 : Int32) (t0 : Int32) (H : Heap) (locs : List Loc), g F_kind F_says F_start F_behind B_used Bl R_bits E_used El x1 x2 x3 t0 = some out → va_P (dC, dI) vwCl [(aN, .inr (2, [.ref aS, .ref aF, .ref aB, .ref aR, .int N_base, .int N_first, .int N_significandEnd, .int N_exponentEnd])), (aS, .inr (6, [.ref aSc, .int S_count, .int S_cutShort])), (aSc, .inl (cyC, 81920, .inl Sc)), (aF, .inr (1, [.int F_kind, .long F_says, .int F_start, .int F_behind])), (aB, .inr (0, [.ref aBl, .int B_used])), (aBl, .inl (cyI, 136, .inl Bl)), (aR, .inr (5, [.ref aB, .ref aE, .long R_bits])), (aE, .inr (0, [.ref aEl, .int E_used])), (aEl, .inl (cyI, 136, .inl El))] H → va_D A [(aN, .inr (2, [.ref aS, .ref aF, .ref aB, .ref aR, .int N_base, .int N_first, .int N_significandEnd, .int N_exponentEnd])), (aS, .inr (6, [.ref aSc, .int S_count, .int S_cutShort])), (aSc, .inl (cyC, 81920, .inl Sc)), (aF, .inr (1, [.int F_kind, .long F_says, .int F_start, .int F_behind])), (aB, .inr (0, [.ref aBl, .int B_used])), (aBl, .inl (cyI, 136, .inl Bl)), (aR, .inr (5, [.ref aB, .ref aE, .long R_bits])), (aE, .inr (0, [.ref aEl, .int E_used])), (aEl, .inl (cyI, 136, .inl El))] → va_S A s.heap H locs → ∀ ls : Array Slot, lv_has ls 7 [(0, .ref aN), (1, .int x1), (2, .int x2), (3, .int x3)] → W p l e rm_X2_takeBroken s m args below meth c H locs 0 0 (MQ below (va_Qi (fun (r : Int32) (u : Int32 × Int64 × Int32 × Int32 × Int32 × (Nat → Int32) × Int64 × Int32 × (Nat → Int32)) => (r, u) = out) (Bw (dC, dI) A (fun u => [(aN, .inr (2, [.ref aS, .ref aF, .ref aB, .ref aR, .int N_base, .int N_first, .int N_significandEnd, .int N_exponentEnd])), (aS, .inr (6, [.ref aSc, .int S_count, .int S_cutShort])), (aSc, .inl (cyC, 81920, .inl Sc)), (aF, .inr (1, [.int u.1, .long u.2.1, .int u.2.2.1, .int u.2.2.2.1])), (aB, .inr (0, [.ref aBl, .int u.2.2.2.2.1])), (aBl, .inl (cyI, 136, .inl u.2.2.2.2.2.1)), (aR, .inr (5, [.ref aB, .ref aE, .long u.2.2.2.2.2.2.1])), (aE, .inr (0, [.ref aEl, .int u.2.2.2.2.2.2.2.1])), (aEl, .inl (cyI, 136, .inl u.2.2.2.2.2.2.2.2))])) A) args s 0 0 A) (F0 m 94 ls [.int t0])
def J_X2_takeBroken_37 (p : Program) (l : Launch) (e : Env) (s : State) (m : MethodId) (args : Array Value) (below : List Frame) (meth : Method) (c : Code) (dC : Nat → ClassId) (dI : Nat → Nat → Nat) (cyB cyC cyI cyJ cyZ : ClassId) (aN aS aF aB aR aSc aBl aE aEl : Nat) (N_base : Int32) (N_first : Int32) (N_significandEnd : Int32) (N_exponentEnd : Int32) (S_count : Int32) (S_cutShort : Int32) (Sc : Nat → Int32) (A : Nat → Prop) (out : Int32 × Int32 × Int64 × Int32 × Int32 × Int32 × (Nat → Int32) × Int64 × Int32 × (Nat → Int32)) (g : Int32 → Int64 → Int32 → Int32 → Int32 → (Nat → Int32) → Int64 → Int32 → (Nat → Int32) → Int32 → Int32 → Int32 → Option (Int32 × Int32 × Int64 × Int32 × Int32 × Int32 × (Nat → Int32) × Int64 × Int32 × (Nat → Int32))) : Prop := ∀ (F_kind : Int32) (F_says : Int64) (F_start : Int32) (F_behind : Int32) (B_used : Int32) (Bl : Nat → Int32) (R_bits : Int64) (E_used : Int32) (El : Nat → Int32) (x1 : Int32) (x2 : Int32) (t0 : Int32) (H : Heap) (locs : List Loc), g F_kind F_says F_start F_behind B_used Bl R_bits E_used El x1 x2 t0 = some out → va_P (dC, dI) vwCl [(aN, .inr (2, [.ref aS, .ref aF, .ref aB, .ref aR, .int N_base, .int N_first, .int N_significandEnd, .int N_exponentEnd])), (aS, .inr (6, [.ref aSc, .int S_count, .int S_cutShort])), (aSc, .inl (cyC, 81920, .inl Sc)), (aF, .inr (1, [.int F_kind, .long F_says, .int F_start, .int F_behind])), (aB, .inr (0, [.ref aBl, .int B_used])), (aBl, .inl (cyI, 136, .inl Bl)), (aR, .inr (5, [.ref aB, .ref aE, .long R_bits])), (aE, .inr (0, [.ref aEl, .int E_used])), (aEl, .inl (cyI, 136, .inl El))] H → va_D A [(aN, .inr (2, [.ref aS, .ref aF, .ref aB, .ref aR, .int N_base, .int N_first, .int N_significandEnd, .int N_exponentEnd])), (aS, .inr (6, [.ref aSc, .int S_count, .int S_cutShort])), (aSc, .inl (cyC, 81920, .inl Sc)), (aF, .inr (1, [.int F_kind, .long F_says, .int F_start, .int F_behind])), (aB, .inr (0, [.ref aBl, .int B_used])), (aBl, .inl (cyI, 136, .inl Bl)), (aR, .inr (5, [.ref aB, .ref aE, .long R_bits])), (aE, .inr (0, [.ref aEl, .int E_used])), (aEl, .inl (cyI, 136, .inl El))] → va_S A s.heap H locs → ∀ ls : Array Slot, lv_has ls 7 [(0, .ref aN), (1, .int x1), (2, .int x2)] → W p l e rm_X2_takeBroken s m args below meth c H locs 0 0 (MQ below (va_Qi (fun (r : Int32) (u : Int32 × Int64 × Int32 × Int32 × Int32 × (Nat → Int32) × Int64 × Int32 × (Nat → Int32)) => (r, u) = out) (Bw (dC, dI) A (fun u => [(aN, .inr (2, [.ref aS, .ref aF, .ref aB, .ref aR, .int N_base, .int N_first, .int N_significandEnd, .int N_exponentEnd])), (aS, .inr (6, [.ref aSc, .int S_count, .int S_cutShort])), (aSc, .inl (cyC, 81920, .inl Sc)), (aF, .inr (1, [.int u.1, .long u.2.1, .int u.2.2.1, .int u.2.2.2.1])), (aB, .inr (0, [.ref aBl, .int u.2.2.2.2.1])), (aBl, .inl (cyI, 136, .inl u.2.2.2.2.2.1)), (aR, .inr (5, [.ref aB, .ref aE, .long u.2.2.2.2.2.2.1])), (aE, .inr (0, [.ref aEl, .int u.2.2.2.2.2.2.2.1])), (aEl, .inl (cyI, 136, .inl u.2.2.2.2.2.2.2.2))])) A) args s 0 0 A) (F0 m 37 ls [.int t0])
def J_X2_takeBroken_24 (p : Program) (l : Launch) (e : Env) (s : State) (m : MethodId) (args : Array Value) (below : List Frame) (meth : Method) (c : Code) (dC : Nat → ClassId) (dI : Nat → Nat → Nat) (cyB cyC cyI cyJ cyZ : ClassId) (aN aS aF aB aR aSc aBl aE aEl : Nat) (N_base : Int32) (N_first : Int32) (N_significandEnd : Int32) (N_exponentEnd : Int32) (S_count : Int32) (S_cutShort : Int32) (Sc : Nat → Int32) (A : Nat → Prop) (out : Int32 × Int32 × Int64 × Int32 × Int32 × Int32 × (Nat → Int32) × Int64 × Int32 × (Nat → Int32)) (g : Int32 → Int64 → Int32 → Int32 → Int32 → (Nat → Int32) → Int64 → Int32 → (Nat → Int32) → Int32 → Int32 → Option (Int32 × Int32 × Int64 × Int32 × Int32 × Int32 × (Nat → Int32) × Int64 × Int32 × (Nat → Int32))) : Prop := ∀ (F_kind : Int32) (F_says : Int64) (F_start : Int32) (F_behind : Int32) (B_used : Int32) (Bl : Nat → Int32) (R_bits : Int64) (E_used : Int32) (El : Nat → Int32) (x1 : Int32) (x2 : Int32) (H : Heap) (locs : List Loc), g F_kind F_says F_start F_behind B_used Bl R_bits E_used El x1 x2 = some out → va_P (dC, dI) vwCl [(aN, .inr (2, [.ref aS, .ref aF, .ref aB, .ref aR, .int N_base, .int N_first, .int N_significandEnd, .int N_exponentEnd])), (aS, .inr (6, [.ref aSc, .int S_count, .int S_cutShort])), (aSc, .inl (cyC, 81920, .inl Sc)), (aF, .inr (1, [.int F_kind, .long F_says, .int F_start, .int F_behind])), (aB, .inr (0, [.ref aBl, .int B_used])), (aBl, .inl (cyI, 136, .inl Bl)), (aR, .inr (5, [.ref aB, .ref aE, .long R_bits])), (aE, .inr (0, [.ref aEl, .int E_used])), (aEl, .inl (cyI, 136, .inl El))] H → va_D A [(aN, .inr (2, [.ref aS, .ref aF, .ref aB, .ref aR, .int N_base, .int N_first, .int N_significandEnd, .int N_exponentEnd])), (aS, .inr (6, [.ref aSc, .int S_count, .int S_cutShort])), (aSc, .inl (cyC, 81920, .inl Sc)), (aF, .inr (1, [.int F_kind, .long F_says, .int F_start, .int F_behind])), (aB, .inr (0, [.ref aBl, .int B_used])), (aBl, .inl (cyI, 136, .inl Bl)), (aR, .inr (5, [.ref aB, .ref aE, .long R_bits])), (aE, .inr (0, [.ref aEl, .int E_used])), (aEl, .inl (cyI, 136, .inl El))] → va_S A s.heap H locs → ∀ ls : Array Slot, lv_has ls 7 [(0, .ref aN), (1, .int x1), (2, .int x2)] → W p l e rm_X2_takeBroken s m args below meth c H locs 0 0 (MQ below (va_Qi (fun (r : Int32) (u : Int32 × Int64 × Int32 × Int32 × Int32 × (Nat → Int32) × Int64 × Int32 × (Nat → Int32)) => (r, u) = out) (Bw (dC, dI) A (fun u => [(aN, .inr (2, [.ref aS, .ref aF, .ref aB, .ref aR, .int N_base, .int N_first, .int N_significandEnd, .int N_exponentEnd])), (aS, .inr (6, [.ref aSc, .int S_count, .int S_cutShort])), (aSc, .inl (cyC, 81920, .inl Sc)), (aF, .inr (1, [.int u.1, .long u.2.1, .int u.2.2.1, .int u.2.2.2.1])), (aB, .inr (0, [.ref aBl, .int u.2.2.2.2.1])), (aBl, .inl (cyI, 136, .inl u.2.2.2.2.2.1)), (aR, .inr (5, [.ref aB, .ref aE, .long u.2.2.2.2.2.2.1])), (aE, .inr (0, [.ref aEl, .int u.2.2.2.2.2.2.2.1])), (aEl, .inl (cyI, 136, .inl u.2.2.2.2.2.2.2.2))])) A) args s 0 0 A) (F0 m 24 ls [])
def J_X2_takeBroken_0 (p : Program) (l : Launch) (e : Env) (s : State) (m : MethodId) (args : Array Value) (below : List Frame) (meth : Method) (c : Code) (dC : Nat → ClassId) (dI : Nat → Nat → Nat) (cyB cyC cyI cyJ cyZ : ClassId) (aN aS aF aB aR aSc aBl aE aEl : Nat) (N_base : Int32) (N_first : Int32) (N_significandEnd : Int32) (N_exponentEnd : Int32) (S_count : Int32) (S_cutShort : Int32) (Sc : Nat → Int32) (A : Nat → Prop) (out : Int32 × Int32 × Int64 × Int32 × Int32 × Int32 × (Nat → Int32) × Int64 × Int32 × (Nat → Int32)) (g : Int32 → Int64 → Int32 → Int32 → Int32 → (Nat → Int32) → Int64 → Int32 → (Nat → Int32) → Int32 → Option (Int32 × Int32 × Int64 × Int32 × Int32 × Int32 × (Nat → Int32) × Int64 × Int32 × (Nat → Int32))) : Prop := ∀ (F_kind : Int32) (F_says : Int64) (F_start : Int32) (F_behind : Int32) (B_used : Int32) (Bl : Nat → Int32) (R_bits : Int64) (E_used : Int32) (El : Nat → Int32) (x1 : Int32) (H : Heap) (locs : List Loc), g F_kind F_says F_start F_behind B_used Bl R_bits E_used El x1 = some out → va_P (dC, dI) vwCl [(aN, .inr (2, [.ref aS, .ref aF, .ref aB, .ref aR, .int N_base, .int N_first, .int N_significandEnd, .int N_exponentEnd])), (aS, .inr (6, [.ref aSc, .int S_count, .int S_cutShort])), (aSc, .inl (cyC, 81920, .inl Sc)), (aF, .inr (1, [.int F_kind, .long F_says, .int F_start, .int F_behind])), (aB, .inr (0, [.ref aBl, .int B_used])), (aBl, .inl (cyI, 136, .inl Bl)), (aR, .inr (5, [.ref aB, .ref aE, .long R_bits])), (aE, .inr (0, [.ref aEl, .int E_used])), (aEl, .inl (cyI, 136, .inl El))] H → va_D A [(aN, .inr (2, [.ref aS, .ref aF, .ref aB, .ref aR, .int N_base, .int N_first, .int N_significandEnd, .int N_exponentEnd])), (aS, .inr (6, [.ref aSc, .int S_count, .int S_cutShort])), (aSc, .inl (cyC, 81920, .inl Sc)), (aF, .inr (1, [.int F_kind, .long F_says, .int F_start, .int F_behind])), (aB, .inr (0, [.ref aBl, .int B_used])), (aBl, .inl (cyI, 136, .inl Bl)), (aR, .inr (5, [.ref aB, .ref aE, .long R_bits])), (aE, .inr (0, [.ref aEl, .int E_used])), (aEl, .inl (cyI, 136, .inl El))] → va_S A s.heap H locs → ∀ ls : Array Slot, lv_has ls 7 [(0, .ref aN), (1, .int x1)] → W p l e rm_X2_takeBroken s m args below meth c H locs 0 0 (MQ below (va_Qi (fun (r : Int32) (u : Int32 × Int64 × Int32 × Int32 × Int32 × (Nat → Int32) × Int64 × Int32 × (Nat → Int32)) => (r, u) = out) (Bw (dC, dI) A (fun u => [(aN, .inr (2, [.ref aS, .ref aF, .ref aB, .ref aR, .int N_base, .int N_first, .int N_significandEnd, .int N_exponentEnd])), (aS, .inr (6, [.ref aSc, .int S_count, .int S_cutShort])), (aSc, .inl (cyC, 81920, .inl Sc)), (aF, .inr (1, [.int u.1, .long u.2.1, .int u.2.2.1, .int u.2.2.2.1])), (aB, .inr (0, [.ref aBl, .int u.2.2.2.2.1])), (aBl, .inl (cyI, 136, .inl u.2.2.2.2.2.1)), (aR, .inr (5, [.ref aB, .ref aE, .long u.2.2.2.2.2.2.1])), (aE, .inr (0, [.ref aEl, .int u.2.2.2.2.2.2.2.1])), (aEl, .inl (cyI, 136, .inl u.2.2.2.2.2.2.2.2))])) A) args s 0 0 A) (F0 m 0 ls [])
def f_X2_takeBroken_145 (n : Nat) (N_base : Int32) (N_first : Int32) (N_significandEnd : Int32) (N_exponentEnd : Int32) (S_count : Int32) (S_cutShort : Int32) (Sc : Nat → Int32) (F_kind : Int32) (F_says : Int64) (F_start : Int32) (F_behind : Int32) (B_used : Int32) (Bl : Nat → Int32) (R_bits : Int64) (E_used : Int32) (El : Nat → Int32) (x1 : Int32) (x3 : Int32) (x6 : Int32) (t1 : Int32) : Option (Int32 × Int32 × Int64 × Int32 × Int32 × Int32 × (Nat → Int32) × Int64 × Int32 × (Nat → Int32)) :=
  bd (f_X5_bits n  R_bits) fun o1 =>
  bd (f_X1_set n t1 o1 x1 x3 F_kind F_says F_start F_behind) fun u4 =>
  gu (zb x6) (
  some (x6, u4.1, u4.2.1, u4.2.2.1, u4.2.2.2, B_used, Bl, R_bits, E_used, El))
set_option maxHeartbeats 4000000 in
set_option maxRecDepth 100000 in
theorem k_X2_takeBroken_145 {p : Program} {l : Launch} {e : Env} {s : State} {m : MethodId} {args : Array Value} {below : List Frame} {meth : Method} {c : Code} {dC : Nat → ClassId} {dI : Nat → Nat → Nat} {cyB cyC cyI cyJ cyZ : ClassId} {aN aS aF aB aR aSc aBl aE aEl : Nat} {N_base : Int32} {N_first : Int32} {N_significandEnd : Int32} {N_exponentEnd : Int32} {S_count : Int32} {S_cutShort : Int32} {Sc : Nat → Int32} {A : Nat → Prop} {out : Int32 × Int32 × Int64 × Int32 × Int32 × Int32 × (Nat → Int32) × Int64 × Int32 × (Nat → Int32)} (CX : cx cX2_takeBroken (some .boolean) 7 RX2 wsX2_takeBroken (dC, dI) (TY cyB cyC cyI cyJ cyZ) p s m args meth c) (hA : ∀ q : Nat, s.heap.size ≤ q → A q) (n : Nat) : J_X2_takeBroken_145 p l e s m args below meth c dC dI cyB cyC cyI cyJ cyZ aN aS aF aB aR aSc aBl aE aEl N_base N_first N_significandEnd N_exponentEnd S_count S_cutShort Sc A out (f_X2_takeBroken_145 n N_base N_first N_significandEnd N_exponentEnd S_count S_cutShort Sc) := by
  intro F_kind F_says F_start F_behind B_used Bl R_bits E_used El x1 x3 x6 t1 H locs hf hP hD hS ls hl
  obtain ⟨hx, hb, hr, hml, hown, hts, hlocks, hK, hN⟩ := id CX
  unfold f_X2_takeBroken_145 at hf
  refine lv_aload_n hx hb dX2_takeBroken_145 rfl (lv_at hl 0 rfl) ?_
  refine va_get (D := (dC, dI)) (ci := 2) (v := .ref aR) (C := RX2) (T := TX2) (N := 8) hx hb hts i_X2_takeBroken_X2 hown hK hP 0 rfl rfl 3 (by decide) (hts (.fieldLink RX2 31 "TokenRow$Numbers" "rounding" "LTokenRow$Rounding;") (List.mem_of_getElem? (i := 5) rfl)) (fun _ h9 => h9) rfl dX2_takeBroken_146 ?_
  obtain ⟨z1, hz1, hf⟩ := bd_ok hf
  have hPc := hP.sub (ws' := [(aR, .inr (5, [.ref aB, .ref aE, .long R_bits]))]) [6] rfl
  refine vp_callSl (va_Run.run (va_runV (As := []) (rest := [.int t1, .ref aF]) ⟨hx, hb, hml, hown, hts⟩ (m_X5_bits l dC dI cyB cyC cyI cyJ cyZ aR aB aE   R_bits n z1 hz1) (cwV 0 hts gX2_takeBroken_X5_bits rfl rfl rfl (by decide +kernel) ⟨Nat.le_of_ble_eq_true rfl, Nat.le_of_ble_eq_true rfl⟩) (proV (va_recv hK hP (ci := 5) (q0 := 6) rfl rfl) hPc hK hN) rfl rfl hl.1 rfl (lv_room (Nat.le_of_ble_eq_true rfl)) dX2_takeBroken_149 ⟨Nat.le_of_ble_eq_true rfl, Nat.le_of_ble_eq_true rfl⟩)) (fun o1 hr9 => ?_)
  subst hr9
  refine lv_iload_n hx hb dX2_takeBroken_152 rfl (lv_at hl 1 rfl) ?_
  refine lv_iload_n hx hb dX2_takeBroken_153 rfl (lv_at hl 2 rfl) ?_
  obtain ⟨z2, hz2, hf⟩ := bd_ok hf
  have hPc := hP.sub (ws' := [(aF, .inr (1, [.int F_kind, .long F_says, .int F_start, .int F_behind]))]) [3] rfl
  have hDc := hD.sub (ws' := [(aF, .inr (1, [.int F_kind, .long F_says, .int F_start, .int F_behind]))]) [3] (by decide) rfl
  have hFc := va_free (wc := [(aF, .inr (1, [.int F_kind, .long F_says, .int F_start, .int F_behind]))]) hD hS hA [3] rfl
  refine va_callv (va_runV (As := [.int t1, .long o1, .int x1, .int x3]) (rest := []) ⟨hx, hb, hml, hown, hts⟩ (m_X1_set l dC dI cyB cyC cyI cyJ cyZ aF  H.size t1 o1 x1 x3 F_kind F_says F_start F_behind n z2 hz2) (cwV 4 hts gX2_takeBroken_X1_set rfl rfl rfl (by decide +kernel) ⟨Nat.le_of_ble_eq_true rfl, Nat.le_of_ble_eq_true rfl⟩) (prwV (va_recv hK hP (ci := 1) (q0 := 3) rfl rfl) hPc hK hDc hN) rfl rfl hl.1 rfl (lv_room (Nat.le_of_ble_eq_true rfl)) dX2_takeBroken_154 ⟨Nat.le_of_ble_eq_true rfl, Nat.le_of_ble_eq_true rfl⟩) hS (fun q _ h => hFc q h) hFc (fun u4 t9 H3 locs ht hvm hw hB hz1 hk1 hS => ?_)
  subst hw
  obtain ⟨hP1, hD1⟩ := hB
  rw [ht] at hP1
  obtain ⟨hP, hD⟩ := va_join (wr := [(aN, .inr (2, [.ref aS, .ref aF, .ref aB, .ref aR, .int N_base, .int N_first, .int N_significandEnd, .int N_exponentEnd])), (aS, .inr (6, [.ref aSc, .int S_count, .int S_cutShort])), (aSc, .inl (cyC, 81920, .inl Sc)), (aB, .inr (0, [.ref aBl, .int B_used])), (aBl, .inl (cyI, 136, .inl Bl)), (aR, .inr (5, [.ref aB, .ref aE, .long R_bits])), (aE, .inr (0, [.ref aEl, .int E_used])), (aEl, .inl (cyI, 136, .inl El))]) (w1 := [(aF, .inr (1, [.int u4.1, .long u4.2.1, .int u4.2.2.1, .int u4.2.2.2]))]) hP hD [3] [0, 1, 2, 4, 5, 6, 7, 8] rfl rfl (by decide) (by decide) hk1 hFc hP1 hD1
  have hP := hP.sub (ws' := [(aN, .inr (2, [.ref aS, .ref aF, .ref aB, .ref aR, .int N_base, .int N_first, .int N_significandEnd, .int N_exponentEnd])), (aS, .inr (6, [.ref aSc, .int S_count, .int S_cutShort])), (aSc, .inl (cyC, 81920, .inl Sc)), (aF, .inr (1, [.int u4.1, .long u4.2.1, .int u4.2.2.1, .int u4.2.2.2])), (aB, .inr (0, [.ref aBl, .int B_used])), (aBl, .inl (cyI, 136, .inl Bl)), (aR, .inr (5, [.ref aB, .ref aE, .long R_bits])), (aE, .inr (0, [.ref aEl, .int E_used])), (aEl, .inl (cyI, 136, .inl El))]) [0, 1, 2, 8, 3, 4, 5, 6, 7] rfl
  have hD := hD.sub (ws' := [(aN, .inr (2, [.ref aS, .ref aF, .ref aB, .ref aR, .int N_base, .int N_first, .int N_significandEnd, .int N_exponentEnd])), (aS, .inr (6, [.ref aSc, .int S_count, .int S_cutShort])), (aSc, .inl (cyC, 81920, .inl Sc)), (aF, .inr (1, [.int u4.1, .long u4.2.1, .int u4.2.2.1, .int u4.2.2.2])), (aB, .inr (0, [.ref aBl, .int B_used])), (aBl, .inl (cyI, 136, .inl Bl)), (aR, .inr (5, [.ref aB, .ref aE, .long R_bits])), (aE, .inr (0, [.ref aEl, .int E_used])), (aEl, .inl (cyI, 136, .inl El))]) [0, 1, 2, 8, 3, 4, 5, 6, 7] (by decide) rfl
  refine lv_iload hx hb dX2_takeBroken_157 (lv_at hl 3 rfl) ?_
  obtain ⟨hg, hf⟩ := gu_ok hf
  exact W.zret (v := x6) (ty := .boolean) hx hb hr (zb_n hg) (fun t ht hW => ⟨⟨_, (u4.1, u4.2.1, u4.2.2.1, u4.2.2.2, B_used, Bl, R_bits, E_used, El), rfl, Option.some.inj hf, by rw [ht]; exact hP, hD⟩, hS.F ht⟩) hS.2.2 dX2_takeBroken_159
def f_X2_takeBroken_115 (n : Nat) (N_base : Int32) (N_first : Int32) (N_significandEnd : Int32) (N_exponentEnd : Int32) (S_count : Int32) (S_cutShort : Int32) (Sc : Nat → Int32) (F_kind : Int32) (F_says : Int64) (F_start : Int32) (F_behind : Int32) (B_used : Int32) (Bl : Nat → Int32) (R_bits : Int64) (E_used : Int32) (El : Nat → Int32) (x1 : Int32) (x2 : Int32) (x3 : Int32) (x5 : Int32) (t1 : Int32) : Option (Int32 × Int32 × Int64 × Int32 × Int32 × Int32 × (Nat → Int32) × Int64 × Int32 × (Nat → Int32)) :=
  bd (f_X5_scaleByFive n t1 R_bits B_used Bl E_used El) fun u3 =>
  bd (f_X5_round n x5 x2 R_bits u3.1 u3.2.1 u3.2.2.1 u3.2.2.2) fun qu6 =>
  lt_ qu6.1 fun r7 => lt_ qu6.2 fun u6 =>
  if x2 = 0 then
  (f_X2_takeBroken_145 n N_base N_first N_significandEnd N_exponentEnd S_count S_cutShort Sc F_kind F_says F_start F_behind u6.2.1 u6.2.2.1 u6.1 u6.2.2.2.1 u6.2.2.2.2 x1 x3 r7 (64 : Int32))
  else
  (f_X2_takeBroken_145 n N_base N_first N_significandEnd N_exponentEnd S_count S_cutShort Sc F_kind F_says F_start F_behind u6.2.1 u6.2.2.1 u6.1 u6.2.2.2.1 u6.2.2.2.2 x1 x3 r7 (63 : Int32))
set_option maxHeartbeats 4000000 in
set_option maxRecDepth 100000 in
theorem k_X2_takeBroken_115 {p : Program} {l : Launch} {e : Env} {s : State} {m : MethodId} {args : Array Value} {below : List Frame} {meth : Method} {c : Code} {dC : Nat → ClassId} {dI : Nat → Nat → Nat} {cyB cyC cyI cyJ cyZ : ClassId} {aN aS aF aB aR aSc aBl aE aEl : Nat} {N_base : Int32} {N_first : Int32} {N_significandEnd : Int32} {N_exponentEnd : Int32} {S_count : Int32} {S_cutShort : Int32} {Sc : Nat → Int32} {A : Nat → Prop} {out : Int32 × Int32 × Int64 × Int32 × Int32 × Int32 × (Nat → Int32) × Int64 × Int32 × (Nat → Int32)} (CX : cx cX2_takeBroken (some .boolean) 7 RX2 wsX2_takeBroken (dC, dI) (TY cyB cyC cyI cyJ cyZ) p s m args meth c) (hA : ∀ q : Nat, s.heap.size ≤ q → A q) (n : Nat) : J_X2_takeBroken_115 p l e s m args below meth c dC dI cyB cyC cyI cyJ cyZ aN aS aF aB aR aSc aBl aE aEl N_base N_first N_significandEnd N_exponentEnd S_count S_cutShort Sc A out (f_X2_takeBroken_115 n N_base N_first N_significandEnd N_exponentEnd S_count S_cutShort Sc) := by
  intro F_kind F_says F_start F_behind B_used Bl R_bits E_used El x1 x2 x3 x5 t1 H locs hf hP hD hS ls hl
  obtain ⟨hx, hb, hr, hml, hown, hts, hlocks, hK, hN⟩ := id CX
  unfold f_X2_takeBroken_115 at hf
  obtain ⟨z1, hz1, hf⟩ := bd_ok hf
  have hPc := hP.sub (ws' := [(aR, .inr (5, [.ref aB, .ref aE, .long R_bits])), (aB, .inr (0, [.ref aBl, .int B_used])), (aBl, .inl (cyI, 136, .inl Bl)), (aE, .inr (0, [.ref aEl, .int E_used])), (aEl, .inl (cyI, 136, .inl El))]) [6, 4, 5, 7, 8] rfl
  have hDc := hD.sub (ws' := [(aR, .inr (5, [.ref aB, .ref aE, .long R_bits])), (aB, .inr (0, [.ref aBl, .int B_used])), (aBl, .inl (cyI, 136, .inl Bl)), (aE, .inr (0, [.ref aEl, .int E_used])), (aEl, .inl (cyI, 136, .inl El))]) [6, 4, 5, 7, 8] (by decide) rfl
  have hFc := va_free (wc := [(aR, .inr (5, [.ref aB, .ref aE, .long R_bits])), (aB, .inr (0, [.ref aBl, .int B_used])), (aBl, .inl (cyI, 136, .inl Bl)), (aE, .inr (0, [.ref aEl, .int E_used])), (aEl, .inl (cyI, 136, .inl El))]) hD hS hA [6, 4, 5, 7, 8] rfl
  refine va_callv (va_runV (As := [.int t1]) (rest := []) ⟨hx, hb, hml, hown, hts⟩ (m_X5_scaleByFive l dC dI cyB cyC cyI cyJ cyZ aR aB aE aBl aEl  H.size t1 R_bits B_used Bl E_used El n z1 hz1) (cwV 1 hts gX2_takeBroken_X5_scaleByFive rfl rfl rfl (by decide +kernel) ⟨Nat.le_of_ble_eq_true rfl, Nat.le_of_ble_eq_true rfl⟩) (prwV (va_recv hK hP (ci := 5) (q0 := 6) rfl rfl) hPc hK hDc hN) rfl rfl hl.1 rfl (lv_room (Nat.le_of_ble_eq_true rfl)) dX2_takeBroken_115 ⟨Nat.le_of_ble_eq_true rfl, Nat.le_of_ble_eq_true rfl⟩) hS (fun q _ h => hFc q h) hFc (fun u3 t9 H2 locs ht hvm hw hB hz1 hk1 hS => ?_)
  subst hw
  obtain ⟨hP1, hD1⟩ := hB
  rw [ht] at hP1
  obtain ⟨hP, hD⟩ := va_join (wr := [(aN, .inr (2, [.ref aS, .ref aF, .ref aB, .ref aR, .int N_base, .int N_first, .int N_significandEnd, .int N_exponentEnd])), (aS, .inr (6, [.ref aSc, .int S_count, .int S_cutShort])), (aSc, .inl (cyC, 81920, .inl Sc)), (aF, .inr (1, [.int F_kind, .long F_says, .int F_start, .int F_behind]))]) (w1 := [(aR, .inr (5, [.ref aB, .ref aE, .long R_bits])), (aB, .inr (0, [.ref aBl, .int u3.1])), (aBl, .inl (cyI, 136, .inl u3.2.1)), (aE, .inr (0, [.ref aEl, .int u3.2.2.1])), (aEl, .inl (cyI, 136, .inl u3.2.2.2))]) hP hD [6, 4, 5, 7, 8] [0, 1, 2, 3] rfl rfl (by decide) (by decide) hk1 hFc hP1 hD1
  have hP := hP.sub (ws' := [(aN, .inr (2, [.ref aS, .ref aF, .ref aB, .ref aR, .int N_base, .int N_first, .int N_significandEnd, .int N_exponentEnd])), (aS, .inr (6, [.ref aSc, .int S_count, .int S_cutShort])), (aSc, .inl (cyC, 81920, .inl Sc)), (aF, .inr (1, [.int F_kind, .long F_says, .int F_start, .int F_behind])), (aB, .inr (0, [.ref aBl, .int u3.1])), (aBl, .inl (cyI, 136, .inl u3.2.1)), (aR, .inr (5, [.ref aB, .ref aE, .long R_bits])), (aE, .inr (0, [.ref aEl, .int u3.2.2.1])), (aEl, .inl (cyI, 136, .inl u3.2.2.2))]) [0, 1, 2, 3, 5, 6, 4, 7, 8] rfl
  have hD := hD.sub (ws' := [(aN, .inr (2, [.ref aS, .ref aF, .ref aB, .ref aR, .int N_base, .int N_first, .int N_significandEnd, .int N_exponentEnd])), (aS, .inr (6, [.ref aSc, .int S_count, .int S_cutShort])), (aSc, .inl (cyC, 81920, .inl Sc)), (aF, .inr (1, [.int F_kind, .long F_says, .int F_start, .int F_behind])), (aB, .inr (0, [.ref aBl, .int u3.1])), (aBl, .inl (cyI, 136, .inl u3.2.1)), (aR, .inr (5, [.ref aB, .ref aE, .long R_bits])), (aE, .inr (0, [.ref aEl, .int u3.2.2.1])), (aEl, .inl (cyI, 136, .inl u3.2.2.2))]) [0, 1, 2, 3, 5, 6, 4, 7, 8] (by decide) rfl
  refine lv_aload_n hx hb dX2_takeBroken_118 rfl (lv_at hl 0 rfl) ?_
  refine va_get (D := (dC, dI)) (ci := 2) (v := .ref aR) (C := RX2) (T := TX2) (N := 8) hx hb hts i_X2_takeBroken_X2 hown hK hP 0 rfl rfl 3 (by decide) (hts (.fieldLink RX2 31 "TokenRow$Numbers" "rounding" "LTokenRow$Rounding;") (List.mem_of_getElem? (i := 5) rfl)) (fun _ h9 => h9) rfl dX2_takeBroken_119 ?_
  refine lv_iload hx hb dX2_takeBroken_122 (lv_at hl 4 rfl) ?_
  refine lv_iload_n hx hb dX2_takeBroken_124 rfl (lv_at hl 2 rfl) ?_
  obtain ⟨z4, hz4, hf⟩ := bd_ok hf
  have hPc := hP.sub (ws' := [(aR, .inr (5, [.ref aB, .ref aE, .long R_bits])), (aB, .inr (0, [.ref aBl, .int u3.1])), (aBl, .inl (cyI, 136, .inl u3.2.1)), (aE, .inr (0, [.ref aEl, .int u3.2.2.1])), (aEl, .inl (cyI, 136, .inl u3.2.2.2))]) [6, 4, 5, 7, 8] rfl
  have hDc := hD.sub (ws' := [(aR, .inr (5, [.ref aB, .ref aE, .long R_bits])), (aB, .inr (0, [.ref aBl, .int u3.1])), (aBl, .inl (cyI, 136, .inl u3.2.1)), (aE, .inr (0, [.ref aEl, .int u3.2.2.1])), (aEl, .inl (cyI, 136, .inl u3.2.2.2))]) [6, 4, 5, 7, 8] (by decide) rfl
  have hFc := va_free (wc := [(aR, .inr (5, [.ref aB, .ref aE, .long R_bits])), (aB, .inr (0, [.ref aBl, .int u3.1])), (aBl, .inl (cyI, 136, .inl u3.2.1)), (aE, .inr (0, [.ref aEl, .int u3.2.2.1])), (aEl, .inl (cyI, 136, .inl u3.2.2.2))]) hD hS hA [6, 4, 5, 7, 8] rfl
  refine va_calli (va_runV (As := [.int x5, .int x2]) (rest := []) ⟨hx, hb, hml, hown, hts⟩ (m_X5_round l dC dI cyB cyC cyI cyJ cyZ aR aB aE aBl aEl  H2.size x5 x2 R_bits u3.1 u3.2.1 u3.2.2.1 u3.2.2.2 n z4 hz4) (cwV 2 hts gX2_takeBroken_X5_round rfl rfl rfl (by decide +kernel) ⟨Nat.le_of_ble_eq_true rfl, Nat.le_of_ble_eq_true rfl⟩) (prwV (va_recv hK hP (ci := 5) (q0 := 6) rfl rfl) hPc hK hDc hN) rfl rfl hl.1 rfl (lv_room (Nat.le_of_ble_eq_true rfl)) dX2_takeBroken_125 ⟨Nat.le_of_ble_eq_true rfl, Nat.le_of_ble_eq_true rfl⟩) hS (fun q _ h => hFc q h) hFc (fun r7 u6 t9 H5 locs ht hvm hw hB hz1 hk1 hS => ?_)
  subst hw
  obtain ⟨hP1, hD1⟩ := hB
  rw [ht] at hP1
  have hf := lt_ok hf r7 rfl
  have hf := lt_ok hf u6 rfl
  obtain ⟨hP, hD⟩ := va_join (wr := [(aN, .inr (2, [.ref aS, .ref aF, .ref aB, .ref aR, .int N_base, .int N_first, .int N_significandEnd, .int N_exponentEnd])), (aS, .inr (6, [.ref aSc, .int S_count, .int S_cutShort])), (aSc, .inl (cyC, 81920, .inl Sc)), (aF, .inr (1, [.int F_kind, .long F_says, .int F_start, .int F_behind]))]) (w1 := [(aR, .inr (5, [.ref aB, .ref aE, .long u6.1])), (aB, .inr (0, [.ref aBl, .int u6.2.1])), (aBl, .inl (cyI, 136, .inl u6.2.2.1)), (aE, .inr (0, [.ref aEl, .int u6.2.2.2.1])), (aEl, .inl (cyI, 136, .inl u6.2.2.2.2))]) hP hD [6, 4, 5, 7, 8] [0, 1, 2, 3] rfl rfl (by decide) (by decide) hk1 hFc hP1 hD1
  have hP := hP.sub (ws' := [(aN, .inr (2, [.ref aS, .ref aF, .ref aB, .ref aR, .int N_base, .int N_first, .int N_significandEnd, .int N_exponentEnd])), (aS, .inr (6, [.ref aSc, .int S_count, .int S_cutShort])), (aSc, .inl (cyC, 81920, .inl Sc)), (aF, .inr (1, [.int F_kind, .long F_says, .int F_start, .int F_behind])), (aB, .inr (0, [.ref aBl, .int u6.2.1])), (aBl, .inl (cyI, 136, .inl u6.2.2.1)), (aR, .inr (5, [.ref aB, .ref aE, .long u6.1])), (aE, .inr (0, [.ref aEl, .int u6.2.2.2.1])), (aEl, .inl (cyI, 136, .inl u6.2.2.2.2))]) [0, 1, 2, 3, 5, 6, 4, 7, 8] rfl
  have hD := hD.sub (ws' := [(aN, .inr (2, [.ref aS, .ref aF, .ref aB, .ref aR, .int N_base, .int N_first, .int N_significandEnd, .int N_exponentEnd])), (aS, .inr (6, [.ref aSc, .int S_count, .int S_cutShort])), (aSc, .inl (cyC, 81920, .inl Sc)), (aF, .inr (1, [.int F_kind, .long F_says, .int F_start, .int F_behind])), (aB, .inr (0, [.ref aBl, .int u6.2.1])), (aBl, .inl (cyI, 136, .inl u6.2.2.1)), (aR, .inr (5, [.ref aB, .ref aE, .long u6.1])), (aE, .inr (0, [.ref aEl, .int u6.2.2.2.1])), (aEl, .inl (cyI, 136, .inl u6.2.2.2.2))]) [0, 1, 2, 3, 5, 6, 4, 7, 8] (by decide) rfl
  refine lv_istore (lv' := [(6, .int r7), (0, .ref aN), (1, .int x1), (2, .int x2), (3, .int x3), (5, .int x5)]) hx hb dX2_takeBroken_128 hl (by decide) rfl (fun ls hl => ?_)
  refine lv_aload_n hx hb dX2_takeBroken_130 rfl (lv_at hl 1 rfl) ?_
  refine va_get (D := (dC, dI)) (ci := 2) (v := .ref aF) (C := RX2) (T := TX2) (N := 8) hx hb hts i_X2_takeBroken_X2 hown hK hP 0 rfl rfl 1 (by decide) (hts (.fieldLink RX2 15 "TokenRow$Numbers" "found" "LTokenRow$Found;") (List.mem_of_getElem? (i := 6) rfl)) (fun _ h9 => h9) rfl dX2_takeBroken_131 ?_
  refine lv_iload_n hx hb dX2_takeBroken_134 rfl (lv_at hl 3 rfl) ?_
  refine lv_if_eq (tgt := 143) hx hb dX2_takeBroken_135 (by decide) (fun hc => ?_) (fun hc => ?_)
  · have hf := (if_pos hc).symm.trans hf
    refine lv_bipush (v := (64 : Int32)) hx hb dX2_takeBroken_143 (by decide) ?_
    exact k_X2_takeBroken_145 CX hA n _ _ _ _ _ _ _ _ _ _ _ _ _ _ _ hf hP hD hS ls (lv_sub hl [1, 2, 4, 0] rfl)
  · have hf := (if_neg hc).symm.trans hf
    refine lv_bipush (v := (63 : Int32)) hx hb dX2_takeBroken_138 (by decide) ?_
    refine lv_goto (tgt := 145) hx hb dX2_takeBroken_140 (by decide) ?_
    exact k_X2_takeBroken_145 CX hA n _ _ _ _ _ _ _ _ _ _ _ _ _ _ _ hf hP hD hS ls (lv_sub hl [1, 2, 4, 0] rfl)
def f_X2_takeBroken_94 (n : Nat) (N_base : Int32) (N_first : Int32) (N_significandEnd : Int32) (N_exponentEnd : Int32) (S_count : Int32) (S_cutShort : Int32) (Sc : Nat → Int32) (F_kind : Int32) (F_says : Int64) (F_start : Int32) (F_behind : Int32) (B_used : Int32) (Bl : Nat → Int32) (R_bits : Int64) (E_used : Int32) (El : Nat → Int32) (x1 : Int32) (x2 : Int32) (x3 : Int32) (t0 : Int32) : Option (Int32 × Int32 × Int64 × Int32 × Int32 × Int32 × (Nat → Int32) × Int64 × Int32 × (Nat → Int32)) :=
  if N_base = (16 : Int32) then
  (f_X2_takeBroken_115 n N_base N_first N_significandEnd N_exponentEnd S_count S_cutShort Sc F_kind F_says F_start F_behind B_used Bl R_bits E_used El x1 x2 x3 t0 (0 : Int32))
  else
  (f_X2_takeBroken_115 n N_base N_first N_significandEnd N_exponentEnd S_count S_cutShort Sc F_kind F_says F_start F_behind B_used Bl R_bits E_used El x1 x2 x3 t0 t0)
set_option maxHeartbeats 4000000 in
set_option maxRecDepth 100000 in
theorem k_X2_takeBroken_94 {p : Program} {l : Launch} {e : Env} {s : State} {m : MethodId} {args : Array Value} {below : List Frame} {meth : Method} {c : Code} {dC : Nat → ClassId} {dI : Nat → Nat → Nat} {cyB cyC cyI cyJ cyZ : ClassId} {aN aS aF aB aR aSc aBl aE aEl : Nat} {N_base : Int32} {N_first : Int32} {N_significandEnd : Int32} {N_exponentEnd : Int32} {S_count : Int32} {S_cutShort : Int32} {Sc : Nat → Int32} {A : Nat → Prop} {out : Int32 × Int32 × Int64 × Int32 × Int32 × Int32 × (Nat → Int32) × Int64 × Int32 × (Nat → Int32)} (CX : cx cX2_takeBroken (some .boolean) 7 RX2 wsX2_takeBroken (dC, dI) (TY cyB cyC cyI cyJ cyZ) p s m args meth c) (hA : ∀ q : Nat, s.heap.size ≤ q → A q) (n : Nat) : J_X2_takeBroken_94 p l e s m args below meth c dC dI cyB cyC cyI cyJ cyZ aN aS aF aB aR aSc aBl aE aEl N_base N_first N_significandEnd N_exponentEnd S_count S_cutShort Sc A out (f_X2_takeBroken_94 n N_base N_first N_significandEnd N_exponentEnd S_count S_cutShort Sc) := by
  intro F_kind F_says F_start F_behind B_used Bl R_bits E_used El x1 x2 x3 t0 H locs hf hP hD hS ls hl
  obtain ⟨hx, hb, hr, hml, hown, hts, hlocks, hK, hN⟩ := id CX
  unfold f_X2_takeBroken_94 at hf
  refine lv_istore (lv' := [(5, .int t0), (0, .ref aN), (1, .int x1), (2, .int x2), (3, .int x3)]) hx hb dX2_takeBroken_94 hl (by decide) rfl (fun ls hl => ?_)
  refine lv_aload_n hx hb dX2_takeBroken_96 rfl (lv_at hl 1 rfl) ?_
  refine va_get (D := (dC, dI)) (ci := 2) (v := .ref aR) (C := RX2) (T := TX2) (N := 8) hx hb hts i_X2_takeBroken_X2 hown hK hP 0 rfl rfl 3 (by decide) (hts (.fieldLink RX2 31 "TokenRow$Numbers" "rounding" "LTokenRow$Rounding;") (List.mem_of_getElem? (i := 5) rfl)) (fun _ h9 => h9) rfl dX2_takeBroken_97 ?_
  refine lv_aload_n hx hb dX2_takeBroken_100 rfl (lv_at hl 1 rfl) ?_
  refine va_get (D := (dC, dI)) (ci := 2) (v := .int N_base) (C := RX2) (T := TX2) (N := 8) hx hb hts i_X2_takeBroken_X2 hown hK hP 0 rfl rfl 4 (by decide) (hts (.fieldLink RX2 39 "TokenRow$Numbers" "base" "I") (List.mem_of_getElem? (i := 4) rfl)) (fun _ h9 => h9) rfl dX2_takeBroken_101 ?_
  refine lv_bipush (v := (16 : Int32)) hx hb dX2_takeBroken_104 (by decide) ?_
  refine lv_icmp_ne (tgt := 113) hx hb dX2_takeBroken_106 (by decide) (fun hc => ?_) (fun hc => ?_)
  · have hf := (if_neg hc).symm.trans hf
    refine lv_iload hx hb dX2_takeBroken_113 (lv_at hl 0 rfl) ?_
    exact k_X2_takeBroken_115 CX hA n _ _ _ _ _ _ _ _ _ _ _ _ _ _ _ _ hf hP hD hS ls (lv_sub hl [1, 2, 3, 4, 0] rfl)
  · have hf := (if_pos hc).symm.trans hf
    refine lv_iconst (v := (0 : Int32)) hx hb dX2_takeBroken_109 (by decide) ?_
    refine lv_goto (tgt := 115) hx hb dX2_takeBroken_110 (by decide) ?_
    exact k_X2_takeBroken_115 CX hA n _ _ _ _ _ _ _ _ _ _ _ _ _ _ _ _ hf hP hD hS ls (lv_sub hl [1, 2, 3, 4, 0] rfl)
def f_X2_takeBroken_37 (n : Nat) (N_base : Int32) (N_first : Int32) (N_significandEnd : Int32) (N_exponentEnd : Int32) (S_count : Int32) (S_cutShort : Int32) (Sc : Nat → Int32) (F_kind : Int32) (F_says : Int64) (F_start : Int32) (F_behind : Int32) (B_used : Int32) (Bl : Nat → Int32) (R_bits : Int64) (E_used : Int32) (El : Nat → Int32) (x1 : Int32) (x2 : Int32) (t0 : Int32) : Option (Int32 × Int32 × Int64 × Int32 × Int32 × Int32 × (Nat → Int32) × Int64 × Int32 × (Nat → Int32)) :=
  if (t0 - x1) ≤ (1000 : Int32) then
  (bd (f_X2_sumUp n N_first N_significandEnd N_base N_first N_significandEnd N_exponentEnd S_count S_cutShort Sc B_used Bl) fun qu3 =>
  lt_ qu3.1 fun r4 => lt_ qu3.2 fun u3 =>
  if N_base = (16 : Int32) then
  (bd (f_X2_readExponent n  N_base N_first N_significandEnd N_exponentEnd S_count S_cutShort Sc) fun o7 =>
  f_X2_takeBroken_94 n N_base N_first N_significandEnd N_exponentEnd S_count S_cutShort Sc F_kind F_says F_start F_behind u3.1 u3.2 R_bits E_used El x1 x2 t0 (o7 - ((4 : Int32) * r4)))
  else
  (bd (f_X2_readExponent n  N_base N_first N_significandEnd N_exponentEnd S_count S_cutShort Sc) fun o5 =>
  bd (f_X2_bounded n (o5 - r4) ) fun o6 =>
  f_X2_takeBroken_94 n N_base N_first N_significandEnd N_exponentEnd S_count S_cutShort Sc F_kind F_says F_start F_behind u3.1 u3.2 R_bits E_used El x1 x2 t0 o6))
  else
  (some ((0 : Int32), F_kind, F_says, F_start, F_behind, B_used, Bl, R_bits, E_used, El))
set_option maxHeartbeats 4000000 in
set_option maxRecDepth 100000 in
theorem k_X2_takeBroken_37 {p : Program} {l : Launch} {e : Env} {s : State} {m : MethodId} {args : Array Value} {below : List Frame} {meth : Method} {c : Code} {dC : Nat → ClassId} {dI : Nat → Nat → Nat} {cyB cyC cyI cyJ cyZ : ClassId} {aN aS aF aB aR aSc aBl aE aEl : Nat} {N_base : Int32} {N_first : Int32} {N_significandEnd : Int32} {N_exponentEnd : Int32} {S_count : Int32} {S_cutShort : Int32} {Sc : Nat → Int32} {A : Nat → Prop} {out : Int32 × Int32 × Int64 × Int32 × Int32 × Int32 × (Nat → Int32) × Int64 × Int32 × (Nat → Int32)} (CX : cx cX2_takeBroken (some .boolean) 7 RX2 wsX2_takeBroken (dC, dI) (TY cyB cyC cyI cyJ cyZ) p s m args meth c) (hA : ∀ q : Nat, s.heap.size ≤ q → A q) (n : Nat) : J_X2_takeBroken_37 p l e s m args below meth c dC dI cyB cyC cyI cyJ cyZ aN aS aF aB aR aSc aBl aE aEl N_base N_first N_significandEnd N_exponentEnd S_count S_cutShort Sc A out (f_X2_takeBroken_37 n N_base N_first N_significandEnd N_exponentEnd S_count S_cutShort Sc) := by
  intro F_kind F_says F_start F_behind B_used Bl R_bits E_used El x1 x2 t0 H locs hf hP hD hS ls hl
  obtain ⟨hx, hb, hr, hml, hown, hts, hlocks, hK, hN⟩ := id CX
  unfold f_X2_takeBroken_37 at hf
  refine lv_istore_n (lv' := [(3, .int t0), (0, .ref aN), (1, .int x1), (2, .int x2)]) hx hb dX2_takeBroken_37 rfl hl (by decide) rfl (fun ls hl => ?_)
  refine lv_iload_n hx hb dX2_takeBroken_38 rfl (lv_at hl 0 rfl) ?_
  refine lv_iload_n hx hb dX2_takeBroken_39 rfl (lv_at hl 2 rfl) ?_
  refine lv_isub hx hb dX2_takeBroken_40 ?_
  refine lv_sipush (v := (1000 : Int32)) hx hb dX2_takeBroken_41 (by decide) ?_
  refine lv_icmp_le (tgt := 49) hx hb dX2_takeBroken_44 (by decide) (fun hc => ?_) (fun hc => ?_)
  · have hf := (if_pos hc).symm.trans hf
    refine lv_aload_n hx hb dX2_takeBroken_49 rfl (lv_at hl 1 rfl) ?_
    refine lv_aload_n hx hb dX2_takeBroken_50 rfl (lv_at hl 1 rfl) ?_
    refine va_get (D := (dC, dI)) (ci := 2) (v := .int N_first) (C := RX2) (T := TX2) (N := 8) hx hb hts i_X2_takeBroken_X2 hown hK hP 0 rfl rfl 5 (by decide) (hts (.fieldLink RX2 43 "TokenRow$Numbers" "first" "I") (List.mem_of_getElem? (i := 2) rfl)) (fun _ h9 => h9) rfl dX2_takeBroken_51 ?_
    refine lv_aload_n hx hb dX2_takeBroken_54 rfl (lv_at hl 1 rfl) ?_
    refine va_get (D := (dC, dI)) (ci := 2) (v := .int N_significandEnd) (C := RX2) (T := TX2) (N := 8) hx hb hts i_X2_takeBroken_X2 hown hK hP 0 rfl rfl 6 (by decide) (hts (.fieldLink RX2 56 "TokenRow$Numbers" "significandEnd" "I") (List.mem_of_getElem? (i := 3) rfl)) (fun _ h9 => h9) rfl dX2_takeBroken_55 ?_
    obtain ⟨z1, hz1, hf⟩ := bd_ok hf
    have hPc := hP.sub (ws' := [(aN, .inr (2, [.ref aS, .ref aF, .ref aB, .ref aR, .int N_base, .int N_first, .int N_significandEnd, .int N_exponentEnd])), (aS, .inr (6, [.ref aSc, .int S_count, .int S_cutShort])), (aSc, .inl (cyC, 81920, .inl Sc)), (aB, .inr (0, [.ref aBl, .int B_used])), (aBl, .inl (cyI, 136, .inl Bl))]) [0, 1, 2, 4, 5] rfl
    have hDc := hD.sub (ws' := [(aN, .inr (2, [.ref aS, .ref aF, .ref aB, .ref aR, .int N_base, .int N_first, .int N_significandEnd, .int N_exponentEnd])), (aS, .inr (6, [.ref aSc, .int S_count, .int S_cutShort])), (aSc, .inl (cyC, 81920, .inl Sc)), (aB, .inr (0, [.ref aBl, .int B_used])), (aBl, .inl (cyI, 136, .inl Bl))]) [0, 1, 2, 4, 5] (by decide) rfl
    have hFc := va_free (wc := [(aN, .inr (2, [.ref aS, .ref aF, .ref aB, .ref aR, .int N_base, .int N_first, .int N_significandEnd, .int N_exponentEnd])), (aS, .inr (6, [.ref aSc, .int S_count, .int S_cutShort])), (aSc, .inl (cyC, 81920, .inl Sc)), (aB, .inr (0, [.ref aBl, .int B_used])), (aBl, .inl (cyI, 136, .inl Bl))]) hD hS hA [0, 1, 2, 4, 5] rfl
    refine va_calli (va_runV (As := [.int N_first, .int N_significandEnd]) (rest := []) ⟨hx, hb, hml, hown, hts⟩ (m_X2_sumUp l dC dI cyB cyC cyI cyJ cyZ aN aS aF aB aR aSc aBl  H.size N_first N_significandEnd N_base N_first N_significandEnd N_exponentEnd S_count S_cutShort Sc B_used Bl n z1 hz1) (cwV 2 hts gX2_takeBroken_X2_sumUp rfl rfl rfl (by decide +kernel) ⟨Nat.le_of_ble_eq_true rfl, Nat.le_of_ble_eq_true rfl⟩) (prwV (va_recv hK hP (ci := 2) (q0 := 0) rfl rfl) hPc hK hDc hN) rfl rfl hl.1 rfl (lv_room (Nat.le_of_ble_eq_true rfl)) dX2_takeBroken_58 ⟨Nat.le_of_ble_eq_true rfl, Nat.le_of_ble_eq_true rfl⟩) hS (fun q _ h => hFc q h) hFc (fun r4 u3 t9 H2 locs ht hvm hw hB hz1 hk1 hS => ?_)
    subst hw
    obtain ⟨hP1, hD1⟩ := hB
    rw [ht] at hP1
    have hf := lt_ok hf r4 rfl
    have hf := lt_ok hf u3 rfl
    obtain ⟨hP, hD⟩ := va_join (wr := [(aF, .inr (1, [.int F_kind, .long F_says, .int F_start, .int F_behind])), (aR, .inr (5, [.ref aB, .ref aE, .long R_bits])), (aE, .inr (0, [.ref aEl, .int E_used])), (aEl, .inl (cyI, 136, .inl El))]) (w1 := [(aN, .inr (2, [.ref aS, .ref aF, .ref aB, .ref aR, .int N_base, .int N_first, .int N_significandEnd, .int N_exponentEnd])), (aS, .inr (6, [.ref aSc, .int S_count, .int S_cutShort])), (aSc, .inl (cyC, 81920, .inl Sc)), (aB, .inr (0, [.ref aBl, .int u3.1])), (aBl, .inl (cyI, 136, .inl u3.2))]) hP hD [0, 1, 2, 4, 5] [3, 6, 7, 8] rfl rfl (by decide) (by decide) hk1 hFc hP1 hD1
    have hP := hP.sub (ws' := [(aN, .inr (2, [.ref aS, .ref aF, .ref aB, .ref aR, .int N_base, .int N_first, .int N_significandEnd, .int N_exponentEnd])), (aS, .inr (6, [.ref aSc, .int S_count, .int S_cutShort])), (aSc, .inl (cyC, 81920, .inl Sc)), (aF, .inr (1, [.int F_kind, .long F_says, .int F_start, .int F_behind])), (aB, .inr (0, [.ref aBl, .int u3.1])), (aBl, .inl (cyI, 136, .inl u3.2)), (aR, .inr (5, [.ref aB, .ref aE, .long R_bits])), (aE, .inr (0, [.ref aEl, .int E_used])), (aEl, .inl (cyI, 136, .inl El))]) [4, 5, 6, 0, 7, 8, 1, 2, 3] rfl
    have hD := hD.sub (ws' := [(aN, .inr (2, [.ref aS, .ref aF, .ref aB, .ref aR, .int N_base, .int N_first, .int N_significandEnd, .int N_exponentEnd])), (aS, .inr (6, [.ref aSc, .int S_count, .int S_cutShort])), (aSc, .inl (cyC, 81920, .inl Sc)), (aF, .inr (1, [.int F_kind, .long F_says, .int F_start, .int F_behind])), (aB, .inr (0, [.ref aBl, .int u3.1])), (aBl, .inl (cyI, 136, .inl u3.2)), (aR, .inr (5, [.ref aB, .ref aE, .long R_bits])), (aE, .inr (0, [.ref aEl, .int E_used])), (aEl, .inl (cyI, 136, .inl El))]) [4, 5, 6, 0, 7, 8, 1, 2, 3] (by decide) rfl
    refine lv_istore (lv' := [(4, .int r4), (3, .int t0), (0, .ref aN), (1, .int x1), (2, .int x2)]) hx hb dX2_takeBroken_61 hl (by decide) rfl (fun ls hl => ?_)
    refine lv_aload_n hx hb dX2_takeBroken_63 rfl (lv_at hl 2 rfl) ?_
    refine va_get (D := (dC, dI)) (ci := 2) (v := .int N_base) (C := RX2) (T := TX2) (N := 8) hx hb hts i_X2_takeBroken_X2 hown hK hP 0 rfl rfl 4 (by decide) (hts (.fieldLink RX2 39 "TokenRow$Numbers" "base" "I") (List.mem_of_getElem? (i := 4) rfl)) (fun _ h9 => h9) rfl dX2_takeBroken_64 ?_
    refine lv_bipush (v := (16 : Int32)) hx hb dX2_takeBroken_67 (by decide) ?_
    refine lv_icmp_ne (tgt := 84) hx hb dX2_takeBroken_69 (by decide) (fun hc => ?_) (fun hc => ?_)
    · have hf := (if_neg hc).symm.trans hf
      refine lv_aload_n hx hb dX2_takeBroken_84 rfl (lv_at hl 2 rfl) ?_
      obtain ⟨z5, hz5, hf⟩ := bd_ok hf
      have hPc := hP.sub (ws' := [(aN, .inr (2, [.ref aS, .ref aF, .ref aB, .ref aR, .int N_base, .int N_first, .int N_significandEnd, .int N_exponentEnd])), (aS, .inr (6, [.ref aSc, .int S_count, .int S_cutShort])), (aSc, .inl (cyC, 81920, .inl Sc))]) [0, 1, 2] rfl
      refine vp_callSi (va_Run.run (va_runV (As := []) (rest := []) ⟨hx, hb, hml, hown, hts⟩ (m_X2_readExponent l dC dI cyB cyC cyI cyJ cyZ aN aS aF aB aR aSc   N_base N_first N_significandEnd N_exponentEnd S_count S_cutShort Sc n z5 hz5) (cwV 0 hts gX2_takeBroken_X2_readExponent rfl rfl rfl (by decide +kernel) ⟨Nat.le_of_ble_eq_true rfl, Nat.le_of_ble_eq_true rfl⟩) (proV (va_recv hK hP (ci := 2) (q0 := 0) rfl rfl) hPc hK hN) rfl rfl hl.1 rfl (lv_room (Nat.le_of_ble_eq_true rfl)) dX2_takeBroken_85 ⟨Nat.le_of_ble_eq_true rfl, Nat.le_of_ble_eq_true rfl⟩)) (fun o5 hr9 => ?_)
      subst hr9
      refine lv_iload hx hb dX2_takeBroken_88 (lv_at hl 0 rfl) ?_
      refine lv_isub hx hb dX2_takeBroken_90 ?_
      obtain ⟨z6, hz6, hf⟩ := bd_ok hf
      have hPc := hP.sub (ws' := []) [] rfl
      refine vp_callSi (va_Run.run (va_runS (As := [.int (o5 - r4)]) (rest := []) ⟨hx, hb, hml, hown, hts⟩ (m_X2_bounded l dC dI cyB cyC cyI cyJ cyZ   (o5 - r4)  n z6 hz6) (va_cwS 1 hts gX2_takeBroken_X2_bounded rfl rfl rfl (by decide +kernel) ⟨Nat.le_of_ble_eq_true rfl, Nat.le_of_ble_eq_true rfl⟩) (proS hPc hK hN) rfl rfl hl.1 rfl (lv_room (Nat.le_of_ble_eq_true rfl)) dX2_takeBroken_91 ⟨Nat.le_of_ble_eq_true rfl, Nat.le_of_ble_eq_true rfl⟩)) (fun o6 hr9 => ?_)
      subst hr9
      exact k_X2_takeBroken_94 CX hA n _ _ _ _ _ _ _ _ _ _ _ _ _ _ _ hf hP hD hS ls (lv_sub hl [2, 3, 4, 1] rfl)
    · have hf := (if_pos hc).symm.trans hf
      refine lv_aload_n hx hb dX2_takeBroken_72 rfl (lv_at hl 2 rfl) ?_
      obtain ⟨z7, hz7, hf⟩ := bd_ok hf
      have hPc := hP.sub (ws' := [(aN, .inr (2, [.ref aS, .ref aF, .ref aB, .ref aR, .int N_base, .int N_first, .int N_significandEnd, .int N_exponentEnd])), (aS, .inr (6, [.ref aSc, .int S_count, .int S_cutShort])), (aSc, .inl (cyC, 81920, .inl Sc))]) [0, 1, 2] rfl
      refine vp_callSi (va_Run.run (va_runV (As := []) (rest := []) ⟨hx, hb, hml, hown, hts⟩ (m_X2_readExponent l dC dI cyB cyC cyI cyJ cyZ aN aS aF aB aR aSc   N_base N_first N_significandEnd N_exponentEnd S_count S_cutShort Sc n z7 hz7) (cwV 0 hts gX2_takeBroken_X2_readExponent rfl rfl rfl (by decide +kernel) ⟨Nat.le_of_ble_eq_true rfl, Nat.le_of_ble_eq_true rfl⟩) (proV (va_recv hK hP (ci := 2) (q0 := 0) rfl rfl) hPc hK hN) rfl rfl hl.1 rfl (lv_room (Nat.le_of_ble_eq_true rfl)) dX2_takeBroken_73 ⟨Nat.le_of_ble_eq_true rfl, Nat.le_of_ble_eq_true rfl⟩)) (fun o7 hr9 => ?_)
      subst hr9
      refine lv_iconst (v := (4 : Int32)) hx hb dX2_takeBroken_76 (by decide) ?_
      refine lv_iload hx hb dX2_takeBroken_77 (lv_at hl 0 rfl) ?_
      refine lv_imul hx hb dX2_takeBroken_79 ?_
      refine lv_isub hx hb dX2_takeBroken_80 ?_
      refine lv_goto (tgt := 94) hx hb dX2_takeBroken_81 (by decide) ?_
      exact k_X2_takeBroken_94 CX hA n _ _ _ _ _ _ _ _ _ _ _ _ _ _ _ hf hP hD hS ls (lv_sub hl [2, 3, 4, 1] rfl)
  · have hf := (if_neg hc).symm.trans hf
    refine lv_iconst (v := (0 : Int32)) hx hb dX2_takeBroken_47 (by decide) ?_
    exact W.zret (v := (0 : Int32)) (ty := .boolean) hx hb hr rfl (fun t ht hW => ⟨⟨_, (F_kind, F_says, F_start, F_behind, B_used, Bl, R_bits, E_used, El), rfl, Option.some.inj hf, by rw [ht]; exact hP, hD⟩, hS.F ht⟩) hS.2.2 dX2_takeBroken_48
def f_X2_takeBroken_24 (n : Nat) (N_base : Int32) (N_first : Int32) (N_significandEnd : Int32) (N_exponentEnd : Int32) (S_count : Int32) (S_cutShort : Int32) (Sc : Nat → Int32) (F_kind : Int32) (F_says : Int64) (F_start : Int32) (F_behind : Int32) (B_used : Int32) (Bl : Nat → Int32) (R_bits : Int64) (E_used : Int32) (El : Nat → Int32) (x1 : Int32) (x2 : Int32) : Option (Int32 × Int32 × Int64 × Int32 × Int32 × Int32 × (Nat → Int32) × Int64 × Int32 × (Nat → Int32)) :=
  f_X2_takeBroken_37 n N_base N_first N_significandEnd N_exponentEnd S_count S_cutShort Sc F_kind F_says F_start F_behind B_used Bl R_bits E_used El x1 x2 (N_exponentEnd + (1 : Int32))
set_option maxHeartbeats 4000000 in
set_option maxRecDepth 100000 in
theorem k_X2_takeBroken_24 {p : Program} {l : Launch} {e : Env} {s : State} {m : MethodId} {args : Array Value} {below : List Frame} {meth : Method} {c : Code} {dC : Nat → ClassId} {dI : Nat → Nat → Nat} {cyB cyC cyI cyJ cyZ : ClassId} {aN aS aF aB aR aSc aBl aE aEl : Nat} {N_base : Int32} {N_first : Int32} {N_significandEnd : Int32} {N_exponentEnd : Int32} {S_count : Int32} {S_cutShort : Int32} {Sc : Nat → Int32} {A : Nat → Prop} {out : Int32 × Int32 × Int64 × Int32 × Int32 × Int32 × (Nat → Int32) × Int64 × Int32 × (Nat → Int32)} (CX : cx cX2_takeBroken (some .boolean) 7 RX2 wsX2_takeBroken (dC, dI) (TY cyB cyC cyI cyJ cyZ) p s m args meth c) (hA : ∀ q : Nat, s.heap.size ≤ q → A q) (n : Nat) : J_X2_takeBroken_24 p l e s m args below meth c dC dI cyB cyC cyI cyJ cyZ aN aS aF aB aR aSc aBl aE aEl N_base N_first N_significandEnd N_exponentEnd S_count S_cutShort Sc A out (f_X2_takeBroken_24 n N_base N_first N_significandEnd N_exponentEnd S_count S_cutShort Sc) := by
  intro F_kind F_says F_start F_behind B_used Bl R_bits E_used El x1 x2 H locs hf hP hD hS ls hl
  obtain ⟨hx, hb, hr, hml, hown, hts, hlocks, hK, hN⟩ := id CX
  unfold f_X2_takeBroken_24 at hf
  refine lv_aload_n hx hb dX2_takeBroken_24 rfl (lv_at hl 0 rfl) ?_
  refine va_get (D := (dC, dI)) (ci := 2) (v := .int N_exponentEnd) (C := RX2) (T := TX2) (N := 8) hx hb hts i_X2_takeBroken_X2 hown hK hP 0 rfl rfl 7 (by decide) (hts (.fieldLink RX2 63 "TokenRow$Numbers" "exponentEnd" "I") (List.mem_of_getElem? (i := 1) rfl)) (fun _ h9 => h9) rfl dX2_takeBroken_25 ?_
  refine lv_iconst (v := (1 : Int32)) hx hb dX2_takeBroken_28 (by decide) ?_
  refine lv_iadd hx hb dX2_takeBroken_29 ?_
  refine lv_goto (tgt := 37) hx hb dX2_takeBroken_30 (by decide) ?_
  exact k_X2_takeBroken_37 CX hA n _ _ _ _ _ _ _ _ _ _ _ _ _ _ hf hP hD hS ls (lv_sub hl [0, 1, 2] rfl)
def f_X2_takeBroken_0 (n : Nat) (N_base : Int32) (N_first : Int32) (N_significandEnd : Int32) (N_exponentEnd : Int32) (S_count : Int32) (S_cutShort : Int32) (Sc : Nat → Int32) (F_kind : Int32) (F_says : Int64) (F_start : Int32) (F_behind : Int32) (B_used : Int32) (Bl : Nat → Int32) (R_bits : Int64) (E_used : Int32) (El : Nat → Int32) (x1 : Int32) : Option (Int32 × Int32 × Int64 × Int32 × Int32 × Int32 × (Nat → Int32) × Int64 × Int32 × (Nat → Int32)) :=
  bd (f_X2_isFloatLetter n N_exponentEnd N_base N_first N_significandEnd N_exponentEnd S_count S_cutShort Sc) fun o1 =>
  if o1 = 0 then
  (bd (f_X2_isDoubleLetter n N_exponentEnd N_base N_first N_significandEnd N_exponentEnd S_count S_cutShort Sc) fun o2 =>
  if o2 = 0 then
  (f_X2_takeBroken_37 n N_base N_first N_significandEnd N_exponentEnd S_count S_cutShort Sc F_kind F_says F_start F_behind B_used Bl R_bits E_used El x1 o1 N_exponentEnd)
  else
  (f_X2_takeBroken_24 n N_base N_first N_significandEnd N_exponentEnd S_count S_cutShort Sc F_kind F_says F_start F_behind B_used Bl R_bits E_used El x1 o1))
  else
  (f_X2_takeBroken_24 n N_base N_first N_significandEnd N_exponentEnd S_count S_cutShort Sc F_kind F_says F_start F_behind B_used Bl R_bits E_used El x1 o1)
set_option maxHeartbeats 4000000 in
set_option maxRecDepth 100000 in
theorem k_X2_takeBroken_0 {p : Program} {l : Launch} {e : Env} {s : State} {m : MethodId} {args : Array Value} {below : List Frame} {meth : Method} {c : Code} {dC : Nat → ClassId} {dI : Nat → Nat → Nat} {cyB cyC cyI cyJ cyZ : ClassId} {aN aS aF aB aR aSc aBl aE aEl : Nat} {N_base : Int32} {N_first : Int32} {N_significandEnd : Int32} {N_exponentEnd : Int32} {S_count : Int32} {S_cutShort : Int32} {Sc : Nat → Int32} {A : Nat → Prop} {out : Int32 × Int32 × Int64 × Int32 × Int32 × Int32 × (Nat → Int32) × Int64 × Int32 × (Nat → Int32)} (CX : cx cX2_takeBroken (some .boolean) 7 RX2 wsX2_takeBroken (dC, dI) (TY cyB cyC cyI cyJ cyZ) p s m args meth c) (hA : ∀ q : Nat, s.heap.size ≤ q → A q) (n : Nat) : J_X2_takeBroken_0 p l e s m args below meth c dC dI cyB cyC cyI cyJ cyZ aN aS aF aB aR aSc aBl aE aEl N_base N_first N_significandEnd N_exponentEnd S_count S_cutShort Sc A out (f_X2_takeBroken_0 n N_base N_first N_significandEnd N_exponentEnd S_count S_cutShort Sc) := by
  intro F_kind F_says F_start F_behind B_used Bl R_bits E_used El x1 H locs hf hP hD hS ls hl
  obtain ⟨hx, hb, hr, hml, hown, hts, hlocks, hK, hN⟩ := id CX
  unfold f_X2_takeBroken_0 at hf
  refine lv_aload_n hx hb dX2_takeBroken_0 rfl (lv_at hl 0 rfl) ?_
  refine lv_aload_n hx hb dX2_takeBroken_1 rfl (lv_at hl 0 rfl) ?_
  refine va_get (D := (dC, dI)) (ci := 2) (v := .int N_exponentEnd) (C := RX2) (T := TX2) (N := 8) hx hb hts i_X2_takeBroken_X2 hown hK hP 0 rfl rfl 7 (by decide) (hts (.fieldLink RX2 63 "TokenRow$Numbers" "exponentEnd" "I") (List.mem_of_getElem? (i := 1) rfl)) (fun _ h9 => h9) rfl dX2_takeBroken_2 ?_
  obtain ⟨z1, hz1, hf⟩ := bd_ok hf
  have hPc := hP.sub (ws' := [(aN, .inr (2, [.ref aS, .ref aF, .ref aB, .ref aR, .int N_base, .int N_first, .int N_significandEnd, .int N_exponentEnd])), (aS, .inr (6, [.ref aSc, .int S_count, .int S_cutShort])), (aSc, .inl (cyC, 81920, .inl Sc))]) [0, 1, 2] rfl
  refine vp_callSi (va_Run.run (va_runV (As := [.int N_exponentEnd]) (rest := []) ⟨hx, hb, hml, hown, hts⟩ (m_X2_isFloatLetter l dC dI cyB cyC cyI cyJ cyZ aN aS aF aB aR aSc  N_exponentEnd N_base N_first N_significandEnd N_exponentEnd S_count S_cutShort Sc n z1 hz1) (cwV 1 hts gX2_takeBroken_X2_isFloatLetter rfl rfl rfl (by decide +kernel) ⟨Nat.le_of_ble_eq_true rfl, Nat.le_of_ble_eq_true rfl⟩) (proV (va_recv hK hP (ci := 2) (q0 := 0) rfl rfl) hPc hK hN) rfl rfl hl.1 rfl (lv_room (Nat.le_of_ble_eq_true rfl)) dX2_takeBroken_5 ⟨Nat.le_of_ble_eq_true rfl, Nat.le_of_ble_eq_true rfl⟩)) (fun o1 hr9 => ?_)
  subst hr9
  refine lv_istore_n (lv' := [(2, .int o1), (0, .ref aN), (1, .int x1)]) hx hb dX2_takeBroken_8 rfl hl (by decide) rfl (fun ls hl => ?_)
  refine lv_iload_n hx hb dX2_takeBroken_9 rfl (lv_at hl 0 rfl) ?_
  refine lv_if_ne (tgt := 24) hx hb dX2_takeBroken_10 (by decide) (fun hc => ?_) (fun hc => ?_)
  · have hf := (if_neg hc).symm.trans hf
    exact k_X2_takeBroken_24 CX hA n _ _ _ _ _ _ _ _ _ _ _ _ _ hf hP hD hS ls (lv_sub hl [1, 2, 0] rfl)
  · have hf := (if_pos hc).symm.trans hf
    refine lv_aload_n hx hb dX2_takeBroken_13 rfl (lv_at hl 1 rfl) ?_
    refine lv_aload_n hx hb dX2_takeBroken_14 rfl (lv_at hl 1 rfl) ?_
    refine va_get (D := (dC, dI)) (ci := 2) (v := .int N_exponentEnd) (C := RX2) (T := TX2) (N := 8) hx hb hts i_X2_takeBroken_X2 hown hK hP 0 rfl rfl 7 (by decide) (hts (.fieldLink RX2 63 "TokenRow$Numbers" "exponentEnd" "I") (List.mem_of_getElem? (i := 1) rfl)) (fun _ h9 => h9) rfl dX2_takeBroken_15 ?_
    obtain ⟨z2, hz2, hf⟩ := bd_ok hf
    have hPc := hP.sub (ws' := [(aN, .inr (2, [.ref aS, .ref aF, .ref aB, .ref aR, .int N_base, .int N_first, .int N_significandEnd, .int N_exponentEnd])), (aS, .inr (6, [.ref aSc, .int S_count, .int S_cutShort])), (aSc, .inl (cyC, 81920, .inl Sc))]) [0, 1, 2] rfl
    refine vp_callSi (va_Run.run (va_runV (As := [.int N_exponentEnd]) (rest := []) ⟨hx, hb, hml, hown, hts⟩ (m_X2_isDoubleLetter l dC dI cyB cyC cyI cyJ cyZ aN aS aF aB aR aSc  N_exponentEnd N_base N_first N_significandEnd N_exponentEnd S_count S_cutShort Sc n z2 hz2) (cwV 1 hts gX2_takeBroken_X2_isDoubleLetter rfl rfl rfl (by decide +kernel) ⟨Nat.le_of_ble_eq_true rfl, Nat.le_of_ble_eq_true rfl⟩) (proV (va_recv hK hP (ci := 2) (q0 := 0) rfl rfl) hPc hK hN) rfl rfl hl.1 rfl (lv_room (Nat.le_of_ble_eq_true rfl)) dX2_takeBroken_18 ⟨Nat.le_of_ble_eq_true rfl, Nat.le_of_ble_eq_true rfl⟩)) (fun o2 hr9 => ?_)
    subst hr9
    refine lv_if_eq (tgt := 33) hx hb dX2_takeBroken_21 (by decide) (fun hc => ?_) (fun hc => ?_)
    · have hf := (if_pos hc).symm.trans hf
      refine lv_aload_n hx hb dX2_takeBroken_33 rfl (lv_at hl 1 rfl) ?_
      refine va_get (D := (dC, dI)) (ci := 2) (v := .int N_exponentEnd) (C := RX2) (T := TX2) (N := 8) hx hb hts i_X2_takeBroken_X2 hown hK hP 0 rfl rfl 7 (by decide) (hts (.fieldLink RX2 63 "TokenRow$Numbers" "exponentEnd" "I") (List.mem_of_getElem? (i := 1) rfl)) (fun _ h9 => h9) rfl dX2_takeBroken_34 ?_
      exact k_X2_takeBroken_37 CX hA n _ _ _ _ _ _ _ _ _ _ _ _ _ _ hf hP hD hS ls (lv_sub hl [1, 2, 0] rfl)
    · have hf := (if_neg hc).symm.trans hf
      exact k_X2_takeBroken_24 CX hA n _ _ _ _ _ _ _ _ _ _ _ _ _ hf hP hD hS ls (lv_sub hl [1, 2, 0] rfl)
def f_X2_takeBroken (n : Nat) (p1 : Int32) (N_base : Int32) (N_first : Int32) (N_significandEnd : Int32) (N_exponentEnd : Int32) (S_count : Int32) (S_cutShort : Int32) (Sc : Nat → Int32) (F_kind : Int32) (F_says : Int64) (F_start : Int32) (F_behind : Int32) (B_used : Int32) (Bl : Nat → Int32) (R_bits : Int64) (E_used : Int32) (El : Nat → Int32) : Option (Int32 × Int32 × Int64 × Int32 × Int32 × Int32 × (Nat → Int32) × Int64 × Int32 × (Nat → Int32)) := f_X2_takeBroken_0 n N_base N_first N_significandEnd N_exponentEnd S_count S_cutShort Sc F_kind F_says F_start F_behind B_used Bl R_bits E_used El p1
set_option maxHeartbeats 4000000 in
set_option maxRecDepth 100000 in
/-- TokenRow$Numbers.takeBroken(I)Z -/
theorem m_X2_takeBroken (l : Launch) (dC : Nat → ClassId) (dI : Nat → Nat → Nat) (cyB cyC cyI cyJ cyZ : ClassId) (aN aS aF aB aR aSc aBl aE aEl : Nat) (sz : Nat) (p1 : Int32) (N_base : Int32) (N_first : Int32) (N_significandEnd : Int32) (N_exponentEnd : Int32) (S_count : Int32) (S_cutShort : Int32) (Sc : Nat → Int32) (F_kind : Int32) (F_says : Int64) (F_start : Int32) (F_behind : Int32) (B_used : Int32) (Bl : Nat → Int32) (R_bits : Int64) (E_used : Int32) (El : Nat → Int32) (n : Nat) (out : Int32 × Int32 × Int64 × Int32 × Int32 × Int32 × (Nat → Int32) × Int64 × Int32 × (Nat → Int32)) (hf : f_X2_takeBroken n p1 N_base N_first N_significandEnd N_exponentEnd S_count S_cutShort Sc F_kind F_says F_start F_behind B_used Bl R_bits E_used El = some out) : Met l yX2_takeBroken wsX2_takeBroken rm_X2_takeBroken (Prw (dC, dI) (TY cyB cyC cyI cyJ cyZ) [.ref aN, .int p1] sz [(aN, .inr (2, [.ref aS, .ref aF, .ref aB, .ref aR, .int N_base, .int N_first, .int N_significandEnd, .int N_exponentEnd])), (aS, .inr (6, [.ref aSc, .int S_count, .int S_cutShort])), (aSc, .inl (cyC, 81920, .inl Sc)), (aF, .inr (1, [.int F_kind, .long F_says, .int F_start, .int F_behind])), (aB, .inr (0, [.ref aBl, .int B_used])), (aBl, .inl (cyI, 136, .inl Bl)), (aR, .inr (5, [.ref aB, .ref aE, .long R_bits])), (aE, .inr (0, [.ref aEl, .int E_used])), (aEl, .inl (cyI, 136, .inl El))]) (va_Qi (fun (r : Int32) (u : Int32 × Int64 × Int32 × Int32 × Int32 × (Nat → Int32) × Int64 × Int32 × (Nat → Int32)) => (r, u) = out) (Bw (dC, dI) (va_A [(aN, .inr (2, [.ref aS, .ref aF, .ref aB, .ref aR, .int N_base, .int N_first, .int N_significandEnd, .int N_exponentEnd])), (aS, .inr (6, [.ref aSc, .int S_count, .int S_cutShort])), (aSc, .inl (cyC, 81920, .inl Sc)), (aF, .inr (1, [.int F_kind, .long F_says, .int F_start, .int F_behind])), (aB, .inr (0, [.ref aBl, .int B_used])), (aBl, .inl (cyI, 136, .inl Bl)), (aR, .inr (5, [.ref aB, .ref aE, .long R_bits])), (aE, .inr (0, [.ref aEl, .int E_used])), (aEl, .inl (cyI, 136, .inl El))] sz) (fun u => [(aN, .inr (2, [.ref aS, .ref aF, .ref aB, .ref aR, .int N_base, .int N_first, .int N_significandEnd, .int N_exponentEnd])), (aS, .inr (6, [.ref aSc, .int S_count, .int S_cutShort])), (aSc, .inl (cyC, 81920, .inl Sc)), (aF, .inr (1, [.int u.1, .long u.2.1, .int u.2.2.1, .int u.2.2.2.1])), (aB, .inr (0, [.ref aBl, .int u.2.2.2.2.1])), (aBl, .inl (cyI, 136, .inl u.2.2.2.2.2.1)), (aR, .inr (5, [.ref aB, .ref aE, .long u.2.2.2.2.2.2.1])), (aE, .inr (0, [.ref aEl, .int u.2.2.2.2.2.2.2.1])), (aEl, .inl (cyI, 136, .inl u.2.2.2.2.2.2.2.2))])) (va_A [(aN, .inr (2, [.ref aS, .ref aF, .ref aB, .ref aR, .int N_base, .int N_first, .int N_significandEnd, .int N_exponentEnd])), (aS, .inr (6, [.ref aSc, .int S_count, .int S_cutShort])), (aSc, .inl (cyC, 81920, .inl Sc)), (aF, .inr (1, [.int F_kind, .long F_says, .int F_start, .int F_behind])), (aB, .inr (0, [.ref aBl, .int B_used])), (aBl, .inl (cyI, 136, .inl Bl)), (aR, .inr (5, [.ref aB, .ref aE, .long R_bits])), (aE, .inr (0, [.ref aEl, .int E_used])), (aEl, .inl (cyI, 136, .inl El))] sz)) 0 0 (va_A [(aN, .inr (2, [.ref aS, .ref aF, .ref aB, .ref aR, .int N_base, .int N_first, .int N_significandEnd, .int N_exponentEnd])), (aS, .inr (6, [.ref aSc, .int S_count, .int S_cutShort])), (aSc, .inl (cyC, 81920, .inl Sc)), (aF, .inr (1, [.int F_kind, .long F_says, .int F_start, .int F_behind])), (aB, .inr (0, [.ref aBl, .int B_used])), (aBl, .inl (cyI, 136, .inl Bl)), (aR, .inr (5, [.ref aB, .ref aE, .long R_bits])), (aE, .inr (0, [.ref aEl, .int E_used])), (aEl, .inl (cyI, 136, .inl El))] sz) := by
  refine Met.ofW (cc := cX2_takeBroken) (maxL := 7) (ret := (some .boolean)) (by decide) rfl ?_
  intro p e s m args below meth c s₁ B hml hv
  obtain ⟨rfl, hsz, hP, hK, hD0, hN⟩ := hv
  subst hsz
  have hD := hD0.self (sz := s.heap.size)
  have CX : cx cX2_takeBroken (some .boolean) 7 RX2 wsX2_takeBroken (dC, dI) (TY cyB cyC cyI cyJ cyZ) p s m ([.ref aN, .int p1] : List Value).toArray meth c := ⟨B.exec, B.bytes, B.returns, hml, findClass_of_methodNamed B.named, atoms_spec (ws := wsX2_takeBroken) B.pre, B.notSynchronized, hK, hN⟩
  have hl := lv_entry ([.ref aN, .int p1]) (n := 7) (Nat.le_of_ble_eq_true rfl)
  rw [lg_entry_eq]
  exact k_X2_takeBroken_0 CX (fun q h => Or.inr h) n _ _ _ _ _ _ _ _ _ _ _ _ hf hP hD va_S.rf _ hl
