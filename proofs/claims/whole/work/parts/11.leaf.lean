abbrev rm_X6_look : Room := { frames := 0, cells := 0, slots := 0, locals := 0 }
theorem i_X6_look_X6 : ∀ w ∈ u_ws RX6 TX6 3, w ∈ wsX6_look := fun _ h => (List.mem_cons_of_mem _ (List.mem_append_right _ h))
def J_X6_look_0 (p : Program) (l : Launch) (e : Env) (s : State) (m : MethodId) (args : Array Value) (below : List Frame) (meth : Method) (c : Code) (dC : Nat → ClassId) (dI : Nat → Nat → Nat) (cyB cyC cyI cyJ cyZ : ClassId) (aS aSc : Nat) (S_count : Int32) (S_cutShort : Int32) (Sc : Nat → Int32) (out : Int32) (g : Int32 → Option (Int32)) : Prop := ∀ (x1 : Int32), g x1 = some out → ∀ ls : Array Slot, lv_has ls 2 [(0, .ref aS), (1, .int x1)] → W p l e rm_X6_look s m args below meth c s.heap [] 0 0 (MQ below (vp_Si (fun r => r = out)) args s 0 0 (fun _ => False)) (F0 m 0 ls [])
def f_X6_look_0 (n : Nat) (S_count : Int32) (S_cutShort : Int32) (Sc : Nat → Int32) (x1 : Int32) : Option (Int32) :=
  if x1 < 0 then
  (some (-1 : Int32))
  else
  (if S_count ≤ x1 then
  (some (-1 : Int32))
  else
  (gu (gd x1 81920) (
  some (Sc (x1).toNatClampNeg))))
set_option maxHeartbeats 4000000 in
set_option maxRecDepth 100000 in
theorem k_X6_look_0 {p : Program} {l : Launch} {e : Env} {s : State} {m : MethodId} {args : Array Value} {below : List Frame} {meth : Method} {c : Code} {dC : Nat → ClassId} {dI : Nat → Nat → Nat} {cyB cyC cyI cyJ cyZ : ClassId} {aS aSc : Nat} {S_count : Int32} {S_cutShort : Int32} {Sc : Nat → Int32} {out : Int32} (CX : cx cX6_look (some .int) 2 RX6 wsX6_look (dC, dI) (TY cyB cyC cyI cyJ cyZ) p s m args meth c) (hP : va_P (dC, dI) vwCl [(aS, .inr (6, [.ref aSc, .int S_count, .int S_cutShort])), (aSc, .inl (cyC, 81920, .inl Sc))] s.heap) (n : Nat) : J_X6_look_0 p l e s m args below meth c dC dI cyB cyC cyI cyJ cyZ aS aSc S_count S_cutShort Sc out (f_X6_look_0 n S_count S_cutShort Sc) := by
  intro x1 hf ls hl
  obtain ⟨hx, hb, hr, hml, hown, hts, hlocks, hK, hN⟩ := id CX
  unfold f_X6_look_0 at hf
  refine lv_iload_n hx hb dX6_look_0 rfl (lv_at hl 1 rfl) ?_
  refine lv_if_lt (tgt := 21) hx hb dX6_look_1 (by decide) (fun hc => ?_) (fun hc => ?_)
  · have hf := (if_pos hc).symm.trans hf
    refine lv_iconst (v := (-1 : Int32)) hx hb dX6_look_21 (by decide) ?_
    exact W.iret (v := (-1 : Int32)) hx hb hr (fun t ht hW => ⟨_, rfl, Option.some.inj hf, ht⟩) (fun _ h => nomatch h) dX6_look_22
  · have hf := (if_neg hc).symm.trans hf
    refine lv_iload_n hx hb dX6_look_4 rfl (lv_at hl 1 rfl) ?_
    refine lv_aload_n hx hb dX6_look_5 rfl (lv_at hl 0 rfl) ?_
    refine va_get (D := (dC, dI)) (ci := 6) (v := .int S_count) (C := RX6) (T := TX6) (N := 3) hx hb hts i_X6_look_X6 hown hK hP 0 rfl rfl 1 (by decide) (hts (.fieldLink RX6 16 "TokenRow$Source" "count" "I") (List.mem_of_getElem? (i := 1) rfl)) (fun _ h9 => h9) rfl dX6_look_6 ?_
    refine lv_icmp_ge (tgt := 21) hx hb dX6_look_9 (by decide) (fun hc => ?_) (fun hc => ?_)
    · have hf := (if_pos hc).symm.trans hf
      refine lv_iconst (v := (-1 : Int32)) hx hb dX6_look_21 (by decide) ?_
      exact W.iret (v := (-1 : Int32)) hx hb hr (fun t ht hW => ⟨_, rfl, Option.some.inj hf, ht⟩) (fun _ h => nomatch h) dX6_look_22
    · have hf := (if_neg hc).symm.trans hf
      refine lv_aload_n hx hb dX6_look_12 rfl (lv_at hl 0 rfl) ?_
      refine va_get (D := (dC, dI)) (ci := 6) (v := .ref aSc) (C := RX6) (T := TX6) (N := 3) hx hb hts i_X6_look_X6 hown hK hP 0 rfl rfl 0 (by decide) (hts (.fieldLink RX6 10 "TokenRow$Source" "characters" "[C") (List.mem_of_getElem? (i := 2) rfl)) (fun _ h9 => h9) rfl dX6_look_13 ?_
      refine lv_iload_n hx hb dX6_look_16 rfl (lv_at hl 1 rfl) ?_
      obtain ⟨hg, hf⟩ := gu_ok hf
      refine va_cald hx hb hK hP 1 1 rfl rfl (gd_in hg) dX6_look_17 ?_
      refine lv_goto (tgt := 22) hx hb dX6_look_18 (by decide) ?_
      exact W.iret (v := Sc (x1).toNatClampNeg) hx hb hr (fun t ht hW => ⟨_, rfl, Option.some.inj hf, ht⟩) (fun _ h => nomatch h) dX6_look_22
def f_X6_look (n : Nat) (p1 : Int32) (S_count : Int32) (S_cutShort : Int32) (Sc : Nat → Int32) : Option (Int32) := f_X6_look_0 n S_count S_cutShort Sc p1
set_option maxHeartbeats 4000000 in
set_option maxRecDepth 100000 in
/-- TokenRow$Source.look(I)I -/
theorem m_X6_look (l : Launch) (dC : Nat → ClassId) (dI : Nat → Nat → Nat) (cyB cyC cyI cyJ cyZ : ClassId) (aS aSc : Nat) (p1 : Int32) (S_count : Int32) (S_cutShort : Int32) (Sc : Nat → Int32) (n : Nat) (out : Int32) (hf : f_X6_look n p1 S_count S_cutShort Sc = some out) : Met l yX6_look wsX6_look rm_X6_look (Pro (dC, dI) (TY cyB cyC cyI cyJ cyZ) [.ref aS, .int p1] [(aS, .inr (6, [.ref aSc, .int S_count, .int S_cutShort])), (aSc, .inl (cyC, 81920, .inl Sc))]) (vp_Si (fun r => r = out)) 0 0 (fun _ => False) := by
  refine Met.ofW (cc := cX6_look) (maxL := 2) (ret := (some .int)) (by decide) rfl ?_
  intro p e s m args below meth c s₁ B hml hv
  obtain ⟨rfl, hP, hK, hN⟩ := hv
  have CX : cx cX6_look (some .int) 2 RX6 wsX6_look (dC, dI) (TY cyB cyC cyI cyJ cyZ) p s m ([.ref aS, .int p1] : List Value).toArray meth c := ⟨B.exec, B.bytes, B.returns, hml, findClass_of_methodNamed B.named, atoms_spec (ws := wsX6_look) B.pre, B.notSynchronized, hK, hN⟩
  have hl := lv_entry ([.ref aS, .int p1]) (n := 2) (Nat.le_of_ble_eq_true rfl)
  rw [lg_entry_eq]
  exact k_X6_look_0 CX hP n _ hf _ hl
abbrev rm_X9_digitOf : Room := { frames := 0, cells := 0, slots := 0, locals := 0 }
def J_X9_digitOf_37 (p : Program) (l : Launch) (e : Env) (s : State) (m : MethodId) (args : Array Value) (below : List Frame) (meth : Method) (c : Code) (dC : Nat → ClassId) (dI : Nat → Nat → Nat) (cyB cyC cyI cyJ cyZ : ClassId) (out : Int32) (g : Int32 → Option (Int32)) : Prop := ∀ (x0 : Int32), g x0 = some out → ∀ ls : Array Slot, lv_has ls 1 [(0, .int x0)] → W p l e rm_X9_digitOf s m args below meth c s.heap [] 0 0 (MQ below (vp_Si (fun r => r = out)) args s 0 0 (fun _ => False)) (F0 m 37 ls [])
def J_X9_digitOf_17 (p : Program) (l : Launch) (e : Env) (s : State) (m : MethodId) (args : Array Value) (below : List Frame) (meth : Method) (c : Code) (dC : Nat → ClassId) (dI : Nat → Nat → Nat) (cyB cyC cyI cyJ cyZ : ClassId) (out : Int32) (g : Int32 → Option (Int32)) : Prop := ∀ (x0 : Int32), g x0 = some out → ∀ ls : Array Slot, lv_has ls 1 [(0, .int x0)] → W p l e rm_X9_digitOf s m args below meth c s.heap [] 0 0 (MQ below (vp_Si (fun r => r = out)) args s 0 0 (fun _ => False)) (F0 m 17 ls [])
def J_X9_digitOf_0 (p : Program) (l : Launch) (e : Env) (s : State) (m : MethodId) (args : Array Value) (below : List Frame) (meth : Method) (c : Code) (dC : Nat → ClassId) (dI : Nat → Nat → Nat) (cyB cyC cyI cyJ cyZ : ClassId) (out : Int32) (g : Int32 → Option (Int32)) : Prop := ∀ (x0 : Int32), g x0 = some out → ∀ ls : Array Slot, lv_has ls 1 [(0, .int x0)] → W p l e rm_X9_digitOf s m args below meth c s.heap [] 0 0 (MQ below (vp_Si (fun r => r = out)) args s 0 0 (fun _ => False)) (F0 m 0 ls [])
def f_X9_digitOf_37 (n : Nat) (x0 : Int32) : Option (Int32) :=
  if x0 < (65 : Int32) then
  (some (16 : Int32))
  else
  (if (70 : Int32) < x0 then
  (some (16 : Int32))
  else
  (some ((x0 - (65 : Int32)) + (10 : Int32))))
set_option maxHeartbeats 4000000 in
set_option maxRecDepth 100000 in
theorem k_X9_digitOf_37 {p : Program} {l : Launch} {e : Env} {s : State} {m : MethodId} {args : Array Value} {below : List Frame} {meth : Method} {c : Code} {dC : Nat → ClassId} {dI : Nat → Nat → Nat} {cyB cyC cyI cyJ cyZ : ClassId} {out : Int32} (CX : cx cX9_digitOf (some .int) 1 RX9 wsX9_digitOf (dC, dI) (TY cyB cyC cyI cyJ cyZ) p s m args meth c) (hP : va_P (dC, dI) vwCl [] s.heap) (n : Nat) : J_X9_digitOf_37 p l e s m args below meth c dC dI cyB cyC cyI cyJ cyZ out (f_X9_digitOf_37 n) := by
  intro x0 hf ls hl
  obtain ⟨hx, hb, hr, hml, hown, hts, hlocks, hK, hN⟩ := id CX
  unfold f_X9_digitOf_37 at hf
  refine lv_iload_n hx hb dX9_digitOf_37 rfl (lv_at hl 0 rfl) ?_
  refine lv_bipush (v := (65 : Int32)) hx hb dX9_digitOf_38 (by decide) ?_
  refine lv_icmp_lt (tgt := 57) hx hb dX9_digitOf_40 (by decide) (fun hc => ?_) (fun hc => ?_)
  · have hf := (if_pos hc).symm.trans hf
    refine lv_bipush (v := (16 : Int32)) hx hb dX9_digitOf_57 (by decide) ?_
    exact W.iret (v := (16 : Int32)) hx hb hr (fun t ht hW => ⟨_, rfl, Option.some.inj hf, ht⟩) (fun _ h => nomatch h) dX9_digitOf_59
  · have hf := (if_neg hc).symm.trans hf
    refine lv_iload_n hx hb dX9_digitOf_43 rfl (lv_at hl 0 rfl) ?_
    refine lv_bipush (v := (70 : Int32)) hx hb dX9_digitOf_44 (by decide) ?_
    refine lv_icmp_gt (tgt := 57) hx hb dX9_digitOf_46 (by decide) (fun hc => ?_) (fun hc => ?_)
    · have hf := (if_pos hc).symm.trans hf
      refine lv_bipush (v := (16 : Int32)) hx hb dX9_digitOf_57 (by decide) ?_
      exact W.iret (v := (16 : Int32)) hx hb hr (fun t ht hW => ⟨_, rfl, Option.some.inj hf, ht⟩) (fun _ h => nomatch h) dX9_digitOf_59
    · have hf := (if_neg hc).symm.trans hf
      refine lv_iload_n hx hb dX9_digitOf_49 rfl (lv_at hl 0 rfl) ?_
      refine lv_bipush (v := (65 : Int32)) hx hb dX9_digitOf_50 (by decide) ?_
      refine lv_isub hx hb dX9_digitOf_52 ?_
      refine lv_bipush (v := (10 : Int32)) hx hb dX9_digitOf_53 (by decide) ?_
      refine lv_iadd hx hb dX9_digitOf_55 ?_
      exact W.iret (v := (x0 - (65 : Int32)) + (10 : Int32)) hx hb hr (fun t ht hW => ⟨_, rfl, Option.some.inj hf, ht⟩) (fun _ h => nomatch h) dX9_digitOf_56
def f_X9_digitOf_17 (n : Nat) (x0 : Int32) : Option (Int32) :=
  if x0 < (97 : Int32) then
  (f_X9_digitOf_37 n x0)
  else
  (if (102 : Int32) < x0 then
  (f_X9_digitOf_37 n x0)
  else
  (some ((x0 - (97 : Int32)) + (10 : Int32))))
set_option maxHeartbeats 4000000 in
set_option maxRecDepth 100000 in
theorem k_X9_digitOf_17 {p : Program} {l : Launch} {e : Env} {s : State} {m : MethodId} {args : Array Value} {below : List Frame} {meth : Method} {c : Code} {dC : Nat → ClassId} {dI : Nat → Nat → Nat} {cyB cyC cyI cyJ cyZ : ClassId} {out : Int32} (CX : cx cX9_digitOf (some .int) 1 RX9 wsX9_digitOf (dC, dI) (TY cyB cyC cyI cyJ cyZ) p s m args meth c) (hP : va_P (dC, dI) vwCl [] s.heap) (n : Nat) : J_X9_digitOf_17 p l e s m args below meth c dC dI cyB cyC cyI cyJ cyZ out (f_X9_digitOf_17 n) := by
  intro x0 hf ls hl
  obtain ⟨hx, hb, hr, hml, hown, hts, hlocks, hK, hN⟩ := id CX
  unfold f_X9_digitOf_17 at hf
  refine lv_iload_n hx hb dX9_digitOf_17 rfl (lv_at hl 0 rfl) ?_
  refine lv_bipush (v := (97 : Int32)) hx hb dX9_digitOf_18 (by decide) ?_
  refine lv_icmp_lt (tgt := 37) hx hb dX9_digitOf_20 (by decide) (fun hc => ?_) (fun hc => ?_)
  · have hf := (if_pos hc).symm.trans hf
    exact k_X9_digitOf_37 CX hP n _ hf ls (lv_sub hl [0] rfl)
  · have hf := (if_neg hc).symm.trans hf
    refine lv_iload_n hx hb dX9_digitOf_23 rfl (lv_at hl 0 rfl) ?_
    refine lv_bipush (v := (102 : Int32)) hx hb dX9_digitOf_24 (by decide) ?_
    refine lv_icmp_gt (tgt := 37) hx hb dX9_digitOf_26 (by decide) (fun hc => ?_) (fun hc => ?_)
    · have hf := (if_pos hc).symm.trans hf
      exact k_X9_digitOf_37 CX hP n _ hf ls (lv_sub hl [0] rfl)
    · have hf := (if_neg hc).symm.trans hf
      refine lv_iload_n hx hb dX9_digitOf_29 rfl (lv_at hl 0 rfl) ?_
      refine lv_bipush (v := (97 : Int32)) hx hb dX9_digitOf_30 (by decide) ?_
      refine lv_isub hx hb dX9_digitOf_32 ?_
      refine lv_bipush (v := (10 : Int32)) hx hb dX9_digitOf_33 (by decide) ?_
      refine lv_iadd hx hb dX9_digitOf_35 ?_
      exact W.iret (v := (x0 - (97 : Int32)) + (10 : Int32)) hx hb hr (fun t ht hW => ⟨_, rfl, Option.some.inj hf, ht⟩) (fun _ h => nomatch h) dX9_digitOf_36
def f_X9_digitOf_0 (n : Nat) (x0 : Int32) : Option (Int32) :=
  if x0 < (48 : Int32) then
  (f_X9_digitOf_17 n x0)
  else
  (if (57 : Int32) < x0 then
  (f_X9_digitOf_17 n x0)
  else
  (some (x0 - (48 : Int32))))
set_option maxHeartbeats 4000000 in
set_option maxRecDepth 100000 in
theorem k_X9_digitOf_0 {p : Program} {l : Launch} {e : Env} {s : State} {m : MethodId} {args : Array Value} {below : List Frame} {meth : Method} {c : Code} {dC : Nat → ClassId} {dI : Nat → Nat → Nat} {cyB cyC cyI cyJ cyZ : ClassId} {out : Int32} (CX : cx cX9_digitOf (some .int) 1 RX9 wsX9_digitOf (dC, dI) (TY cyB cyC cyI cyJ cyZ) p s m args meth c) (hP : va_P (dC, dI) vwCl [] s.heap) (n : Nat) : J_X9_digitOf_0 p l e s m args below meth c dC dI cyB cyC cyI cyJ cyZ out (f_X9_digitOf_0 n) := by
  intro x0 hf ls hl
  obtain ⟨hx, hb, hr, hml, hown, hts, hlocks, hK, hN⟩ := id CX
  unfold f_X9_digitOf_0 at hf
  refine lv_iload_n hx hb dX9_digitOf_0 rfl (lv_at hl 0 rfl) ?_
  refine lv_bipush (v := (48 : Int32)) hx hb dX9_digitOf_1 (by decide) ?_
  refine lv_icmp_lt (tgt := 17) hx hb dX9_digitOf_3 (by decide) (fun hc => ?_) (fun hc => ?_)
  · have hf := (if_pos hc).symm.trans hf
    exact k_X9_digitOf_17 CX hP n _ hf ls (lv_sub hl [0] rfl)
  · have hf := (if_neg hc).symm.trans hf
    refine lv_iload_n hx hb dX9_digitOf_6 rfl (lv_at hl 0 rfl) ?_
    refine lv_bipush (v := (57 : Int32)) hx hb dX9_digitOf_7 (by decide) ?_
    refine lv_icmp_gt (tgt := 17) hx hb dX9_digitOf_9 (by decide) (fun hc => ?_) (fun hc => ?_)
    · have hf := (if_pos hc).symm.trans hf
      exact k_X9_digitOf_17 CX hP n _ hf ls (lv_sub hl [0] rfl)
    · have hf := (if_neg hc).symm.trans hf
      refine lv_iload_n hx hb dX9_digitOf_12 rfl (lv_at hl 0 rfl) ?_
      refine lv_bipush (v := (48 : Int32)) hx hb dX9_digitOf_13 (by decide) ?_
      refine lv_isub hx hb dX9_digitOf_15 ?_
      exact W.iret (v := x0 - (48 : Int32)) hx hb hr (fun t ht hW => ⟨_, rfl, Option.some.inj hf, ht⟩) (fun _ h => nomatch h) dX9_digitOf_16
def f_X9_digitOf (n : Nat) (p0 : Int32) : Option (Int32) := f_X9_digitOf_0 n p0
set_option maxHeartbeats 4000000 in
set_option maxRecDepth 100000 in
/-- TokenRow.digitOf(I)I -/
theorem m_X9_digitOf (l : Launch) (dC : Nat → ClassId) (dI : Nat → Nat → Nat) (cyB cyC cyI cyJ cyZ : ClassId) (p0 : Int32) (n : Nat) (out : Int32) (hf : f_X9_digitOf n p0 = some out) : Met l yX9_digitOf wsX9_digitOf rm_X9_digitOf (Pro (dC, dI) (TY cyB cyC cyI cyJ cyZ) [.int p0] []) (vp_Si (fun r => r = out)) 0 0 (fun _ => False) := by
  refine Met.ofW (cc := cX9_digitOf) (maxL := 1) (ret := (some .int)) (by decide) rfl ?_
  intro p e s m args below meth c s₁ B hml hv
  obtain ⟨rfl, hP, hK, hN⟩ := hv
  have CX : cx cX9_digitOf (some .int) 1 RX9 wsX9_digitOf (dC, dI) (TY cyB cyC cyI cyJ cyZ) p s m ([.int p0] : List Value).toArray meth c := ⟨B.exec, B.bytes, B.returns, hml, findClass_of_methodNamed B.named, atoms_spec (ws := wsX9_digitOf) B.pre, B.notSynchronized, hK, hN⟩
  have hl := lv_entry ([.int p0]) (n := 1) (Nat.le_of_ble_eq_true rfl)
  rw [lg_entry_eq]
  exact k_X9_digitOf_0 CX hP n _ hf _ hl
abbrev rm_X9_isDecimal : Room := { frames := 1, cells := 0, slots := 0, locals := 20 }
def J_X9_isDecimal_0 (p : Program) (l : Launch) (e : Env) (s : State) (m : MethodId) (args : Array Value) (below : List Frame) (meth : Method) (c : Code) (dC : Nat → ClassId) (dI : Nat → Nat → Nat) (cyB cyC cyI cyJ cyZ : ClassId) (out : Int32) (g : Int32 → Option (Int32)) : Prop := ∀ (x0 : Int32), g x0 = some out → ∀ ls : Array Slot, lv_has ls 1 [(0, .int x0)] → W p l e rm_X9_isDecimal s m args below meth c s.heap [] 0 0 (MQ below (vp_Si (fun r => r = out)) args s 0 0 (fun _ => False)) (F0 m 0 ls [])
def f_X9_isDecimal_0 (n : Nat) (x0 : Int32) : Option (Int32) :=
  bd (f_X9_digitOf n x0 ) fun o1 =>
  if (10 : Int32) ≤ o1 then
  (some (0 : Int32))
  else
  (some (1 : Int32))
set_option maxHeartbeats 4000000 in
set_option maxRecDepth 100000 in
theorem k_X9_isDecimal_0 {p : Program} {l : Launch} {e : Env} {s : State} {m : MethodId} {args : Array Value} {below : List Frame} {meth : Method} {c : Code} {dC : Nat → ClassId} {dI : Nat → Nat → Nat} {cyB cyC cyI cyJ cyZ : ClassId} {out : Int32} (CX : cx cX9_isDecimal (some .boolean) 1 RX9 wsX9_isDecimal (dC, dI) (TY cyB cyC cyI cyJ cyZ) p s m args meth c) (hP : va_P (dC, dI) vwCl [] s.heap) (n : Nat) : J_X9_isDecimal_0 p l e s m args below meth c dC dI cyB cyC cyI cyJ cyZ out (f_X9_isDecimal_0 n) := by
  intro x0 hf ls hl
  obtain ⟨hx, hb, hr, hml, hown, hts, hlocks, hK, hN⟩ := id CX
  unfold f_X9_isDecimal_0 at hf
  refine lv_iload_n hx hb dX9_isDecimal_0 rfl (lv_at hl 0 rfl) ?_
  obtain ⟨z1, hz1, hf⟩ := bd_ok hf
  have hPc := hP.sub (ws' := []) [] rfl
  refine vp_callSi (va_Run.run (va_runS (As := [.int x0]) (rest := []) ⟨hx, hb, hml, hown, hts⟩ (m_X9_digitOf l dC dI cyB cyC cyI cyJ cyZ   x0  n z1 hz1) (va_cwS 1 hts gX9_isDecimal_X9_digitOf rfl rfl rfl (by decide +kernel) ⟨Nat.le_of_ble_eq_true rfl, Nat.le_of_ble_eq_true rfl⟩) (proS hPc hK hN) rfl rfl hl.1 rfl (lv_room (Nat.le_of_ble_eq_true rfl)) dX9_isDecimal_1 ⟨Nat.le_of_ble_eq_true rfl, Nat.le_of_ble_eq_true rfl⟩)) (fun o1 hr9 => ?_)
  subst hr9
  refine lv_bipush (v := (10 : Int32)) hx hb dX9_isDecimal_4 (by decide) ?_
  refine lv_icmp_ge (tgt := 13) hx hb dX9_isDecimal_6 (by decide) (fun hc => ?_) (fun hc => ?_)
  · have hf := (if_pos hc).symm.trans hf
    refine lv_iconst (v := (0 : Int32)) hx hb dX9_isDecimal_13 (by decide) ?_
    exact W.zret (v := (0 : Int32)) (ty := .boolean) hx hb hr rfl (fun t ht hW => ⟨_, rfl, Option.some.inj hf, ht⟩) (fun _ h => nomatch h) dX9_isDecimal_14
  · have hf := (if_neg hc).symm.trans hf
    refine lv_iconst (v := (1 : Int32)) hx hb dX9_isDecimal_9 (by decide) ?_
    refine lv_goto (tgt := 14) hx hb dX9_isDecimal_10 (by decide) ?_
    exact W.zret (v := (1 : Int32)) (ty := .boolean) hx hb hr rfl (fun t ht hW => ⟨_, rfl, Option.some.inj hf, ht⟩) (fun _ h => nomatch h) dX9_isDecimal_14
def f_X9_isDecimal (n : Nat) (p0 : Int32) : Option (Int32) := f_X9_isDecimal_0 n p0
set_option maxHeartbeats 4000000 in
set_option maxRecDepth 100000 in
/-- TokenRow.isDecimal(I)Z -/
theorem m_X9_isDecimal (l : Launch) (dC : Nat → ClassId) (dI : Nat → Nat → Nat) (cyB cyC cyI cyJ cyZ : ClassId) (p0 : Int32) (n : Nat) (out : Int32) (hf : f_X9_isDecimal n p0 = some out) : Met l yX9_isDecimal wsX9_isDecimal rm_X9_isDecimal (Pro (dC, dI) (TY cyB cyC cyI cyJ cyZ) [.int p0] []) (vp_Si (fun r => r = out)) 0 0 (fun _ => False) := by
  refine Met.ofW (cc := cX9_isDecimal) (maxL := 1) (ret := (some .boolean)) (by decide) rfl ?_
  intro p e s m args below meth c s₁ B hml hv
  obtain ⟨rfl, hP, hK, hN⟩ := hv
  have CX : cx cX9_isDecimal (some .boolean) 1 RX9 wsX9_isDecimal (dC, dI) (TY cyB cyC cyI cyJ cyZ) p s m ([.int p0] : List Value).toArray meth c := ⟨B.exec, B.bytes, B.returns, hml, findClass_of_methodNamed B.named, atoms_spec (ws := wsX9_isDecimal) B.pre, B.notSynchronized, hK, hN⟩
  have hl := lv_entry ([.int p0]) (n := 1) (Nat.le_of_ble_eq_true rfl)
  rw [lg_entry_eq]
  exact k_X9_isDecimal_0 CX hP n _ hf _ hl
abbrev rm_X9_isLineEnd : Room := { frames := 0, cells := 0, slots := 0, locals := 0 }
def J_X9_isLineEnd_0 (p : Program) (l : Launch) (e : Env) (s : State) (m : MethodId) (args : Array Value) (below : List Frame) (meth : Method) (c : Code) (dC : Nat → ClassId) (dI : Nat → Nat → Nat) (cyB cyC cyI cyJ cyZ : ClassId) (out : Int32) (g : Int32 → Option (Int32)) : Prop := ∀ (x0 : Int32), g x0 = some out → ∀ ls : Array Slot, lv_has ls 1 [(0, .int x0)] → W p l e rm_X9_isLineEnd s m args below meth c s.heap [] 0 0 (MQ below (vp_Si (fun r => r = out)) args s 0 0 (fun _ => False)) (F0 m 0 ls [])
def f_X9_isLineEnd_0 (n : Nat) (x0 : Int32) : Option (Int32) :=
  if x0 = (10 : Int32) then
  (some (1 : Int32))
  else
  (if x0 = (13 : Int32) then
  (some (1 : Int32))
  else
  (some (0 : Int32)))
set_option maxHeartbeats 4000000 in
set_option maxRecDepth 100000 in
theorem k_X9_isLineEnd_0 {p : Program} {l : Launch} {e : Env} {s : State} {m : MethodId} {args : Array Value} {below : List Frame} {meth : Method} {c : Code} {dC : Nat → ClassId} {dI : Nat → Nat → Nat} {cyB cyC cyI cyJ cyZ : ClassId} {out : Int32} (CX : cx cX9_isLineEnd (some .boolean) 1 RX9 wsX9_isLineEnd (dC, dI) (TY cyB cyC cyI cyJ cyZ) p s m args meth c) (hP : va_P (dC, dI) vwCl [] s.heap) (n : Nat) : J_X9_isLineEnd_0 p l e s m args below meth c dC dI cyB cyC cyI cyJ cyZ out (f_X9_isLineEnd_0 n) := by
  intro x0 hf ls hl
  obtain ⟨hx, hb, hr, hml, hown, hts, hlocks, hK, hN⟩ := id CX
  unfold f_X9_isLineEnd_0 at hf
  refine lv_iload_n hx hb dX9_isLineEnd_0 rfl (lv_at hl 0 rfl) ?_
  refine lv_bipush (v := (10 : Int32)) hx hb dX9_isLineEnd_1 (by decide) ?_
  refine lv_icmp_eq (tgt := 12) hx hb dX9_isLineEnd_3 (by decide) (fun hc => ?_) (fun hc => ?_)
  · have hf := (if_pos hc).symm.trans hf
    refine lv_iconst (v := (1 : Int32)) hx hb dX9_isLineEnd_12 (by decide) ?_
    refine lv_goto (tgt := 17) hx hb dX9_isLineEnd_13 (by decide) ?_
    exact W.zret (v := (1 : Int32)) (ty := .boolean) hx hb hr rfl (fun t ht hW => ⟨_, rfl, Option.some.inj hf, ht⟩) (fun _ h => nomatch h) dX9_isLineEnd_17
  · have hf := (if_neg hc).symm.trans hf
    refine lv_iload_n hx hb dX9_isLineEnd_6 rfl (lv_at hl 0 rfl) ?_
    refine lv_bipush (v := (13 : Int32)) hx hb dX9_isLineEnd_7 (by decide) ?_
    refine lv_icmp_ne (tgt := 16) hx hb dX9_isLineEnd_9 (by decide) (fun hc => ?_) (fun hc => ?_)
    · have hf := (if_neg hc).symm.trans hf
      refine lv_iconst (v := (0 : Int32)) hx hb dX9_isLineEnd_16 (by decide) ?_
      exact W.zret (v := (0 : Int32)) (ty := .boolean) hx hb hr rfl (fun t ht hW => ⟨_, rfl, Option.some.inj hf, ht⟩) (fun _ h => nomatch h) dX9_isLineEnd_17
    · have hf := (if_pos hc).symm.trans hf
      refine lv_iconst (v := (1 : Int32)) hx hb dX9_isLineEnd_12 (by decide) ?_
      refine lv_goto (tgt := 17) hx hb dX9_isLineEnd_13 (by decide) ?_
      exact W.zret (v := (1 : Int32)) (ty := .boolean) hx hb hr rfl (fun t ht hW => ⟨_, rfl, Option.some.inj hf, ht⟩) (fun _ h => nomatch h) dX9_isLineEnd_17
def f_X9_isLineEnd (n : Nat) (p0 : Int32) : Option (Int32) := f_X9_isLineEnd_0 n p0
set_option maxHeartbeats 4000000 in
set_option maxRecDepth 100000 in
/-- TokenRow.isLineEnd(I)Z -/
theorem m_X9_isLineEnd (l : Launch) (dC : Nat → ClassId) (dI : Nat → Nat → Nat) (cyB cyC cyI cyJ cyZ : ClassId) (p0 : Int32) (n : Nat) (out : Int32) (hf : f_X9_isLineEnd n p0 = some out) : Met l yX9_isLineEnd wsX9_isLineEnd rm_X9_isLineEnd (Pro (dC, dI) (TY cyB cyC cyI cyJ cyZ) [.int p0] []) (vp_Si (fun r => r = out)) 0 0 (fun _ => False) := by
  refine Met.ofW (cc := cX9_isLineEnd) (maxL := 1) (ret := (some .boolean)) (by decide) rfl ?_
  intro p e s m args below meth c s₁ B hml hv
  obtain ⟨rfl, hP, hK, hN⟩ := hv
  have CX : cx cX9_isLineEnd (some .boolean) 1 RX9 wsX9_isLineEnd (dC, dI) (TY cyB cyC cyI cyJ cyZ) p s m ([.int p0] : List Value).toArray meth c := ⟨B.exec, B.bytes, B.returns, hml, findClass_of_methodNamed B.named, atoms_spec (ws := wsX9_isLineEnd) B.pre, B.notSynchronized, hK, hN⟩
  have hl := lv_entry ([.int p0]) (n := 1) (Nat.le_of_ble_eq_true rfl)
  rw [lg_entry_eq]
  exact k_X9_isLineEnd_0 CX hP n _ hf _ hl
abbrev rm_X6_count : Room := { frames := 0, cells := 0, slots := 0, locals := 0 }
theorem i_X6_count_X6 : ∀ w ∈ u_ws RX6 TX6 3, w ∈ wsX6_count := fun _ h => (List.mem_cons_of_mem _ (List.mem_append_right _ h))
def J_X6_count_0 (p : Program) (l : Launch) (e : Env) (s : State) (m : MethodId) (args : Array Value) (below : List Frame) (meth : Method) (c : Code) (dC : Nat → ClassId) (dI : Nat → Nat → Nat) (cyB cyC cyI cyJ cyZ : ClassId) (aS aSc : Nat) (S_count : Int32) (S_cutShort : Int32) (out : Int32) (g : Option (Int32)) : Prop := g = some out → ∀ ls : Array Slot, lv_has ls 1 [(0, .ref aS)] → W p l e rm_X6_count s m args below meth c s.heap [] 0 0 (MQ below (vp_Si (fun r => r = out)) args s 0 0 (fun _ => False)) (F0 m 0 ls [])
def f_X6_count_0 (n : Nat) (S_count : Int32) (S_cutShort : Int32) : Option (Int32) :=
  some S_count
set_option maxHeartbeats 4000000 in
set_option maxRecDepth 100000 in
theorem k_X6_count_0 {p : Program} {l : Launch} {e : Env} {s : State} {m : MethodId} {args : Array Value} {below : List Frame} {meth : Method} {c : Code} {dC : Nat → ClassId} {dI : Nat → Nat → Nat} {cyB cyC cyI cyJ cyZ : ClassId} {aS aSc : Nat} {S_count : Int32} {S_cutShort : Int32} {out : Int32} (CX : cx cX6_count (some .int) 1 RX6 wsX6_count (dC, dI) (TY cyB cyC cyI cyJ cyZ) p s m args meth c) (hP : va_P (dC, dI) vwCl [(aS, .inr (6, [.ref aSc, .int S_count, .int S_cutShort]))] s.heap) (n : Nat) : J_X6_count_0 p l e s m args below meth c dC dI cyB cyC cyI cyJ cyZ aS aSc S_count S_cutShort out (f_X6_count_0 n S_count S_cutShort) := by
  intro hf ls hl
  obtain ⟨hx, hb, hr, hml, hown, hts, hlocks, hK, hN⟩ := id CX
  unfold f_X6_count_0 at hf
  refine lv_aload_n hx hb dX6_count_0 rfl (lv_at hl 0 rfl) ?_
  refine va_get (D := (dC, dI)) (ci := 6) (v := .int S_count) (C := RX6) (T := TX6) (N := 3) hx hb hts i_X6_count_X6 hown hK hP 0 rfl rfl 1 (by decide) (hts (.fieldLink RX6 16 "TokenRow$Source" "count" "I") (List.mem_of_getElem? (i := 1) rfl)) (fun _ h9 => h9) rfl dX6_count_1 ?_
  exact W.iret (v := S_count) hx hb hr (fun t ht hW => ⟨_, rfl, Option.some.inj hf, ht⟩) (fun _ h => nomatch h) dX6_count_4
def f_X6_count (n : Nat) (S_count : Int32) (S_cutShort : Int32) : Option (Int32) := f_X6_count_0 n S_count S_cutShort 
set_option maxHeartbeats 4000000 in
set_option maxRecDepth 100000 in
/-- TokenRow$Source.count()I -/
theorem m_X6_count (l : Launch) (dC : Nat → ClassId) (dI : Nat → Nat → Nat) (cyB cyC cyI cyJ cyZ : ClassId) (aS aSc : Nat) (S_count : Int32) (S_cutShort : Int32) (n : Nat) (out : Int32) (hf : f_X6_count n S_count S_cutShort = some out) : Met l yX6_count wsX6_count rm_X6_count (Pro (dC, dI) (TY cyB cyC cyI cyJ cyZ) [.ref aS] [(aS, .inr (6, [.ref aSc, .int S_count, .int S_cutShort]))]) (vp_Si (fun r => r = out)) 0 0 (fun _ => False) := by
  refine Met.ofW (cc := cX6_count) (maxL := 1) (ret := (some .int)) (by decide) rfl ?_
  intro p e s m args below meth c s₁ B hml hv
  obtain ⟨rfl, hP, hK, hN⟩ := hv
  have CX : cx cX6_count (some .int) 1 RX6 wsX6_count (dC, dI) (TY cyB cyC cyI cyJ cyZ) p s m ([.ref aS] : List Value).toArray meth c := ⟨B.exec, B.bytes, B.returns, hml, findClass_of_methodNamed B.named, atoms_spec (ws := wsX6_count) B.pre, B.notSynchronized, hK, hN⟩
  have hl := lv_entry ([.ref aS]) (n := 1) (Nat.le_of_ble_eq_true rfl)
  rw [lg_entry_eq]
  exact k_X6_count_0 (aSc := aSc) CX hP n  hf _ hl
abbrev rm_X6_isCutShort : Room := { frames := 0, cells := 0, slots := 0, locals := 0 }
theorem i_X6_isCutShort_X6 : ∀ w ∈ u_ws RX6 TX6 3, w ∈ wsX6_isCutShort := fun _ h => (List.mem_cons_of_mem _ (List.mem_append_right _ h))
def J_X6_isCutShort_0 (p : Program) (l : Launch) (e : Env) (s : State) (m : MethodId) (args : Array Value) (below : List Frame) (meth : Method) (c : Code) (dC : Nat → ClassId) (dI : Nat → Nat → Nat) (cyB cyC cyI cyJ cyZ : ClassId) (aS aSc : Nat) (S_count : Int32) (S_cutShort : Int32) (out : Int32) (g : Option (Int32)) : Prop := g = some out → ∀ ls : Array Slot, lv_has ls 1 [(0, .ref aS)] → W p l e rm_X6_isCutShort s m args below meth c s.heap [] 0 0 (MQ below (vp_Si (fun r => r = out)) args s 0 0 (fun _ => False)) (F0 m 0 ls [])
def f_X6_isCutShort_0 (n : Nat) (S_count : Int32) (S_cutShort : Int32) : Option (Int32) :=
  gu (zb S_cutShort) (
  some S_cutShort)
set_option maxHeartbeats 4000000 in
set_option maxRecDepth 100000 in
theorem k_X6_isCutShort_0 {p : Program} {l : Launch} {e : Env} {s : State} {m : MethodId} {args : Array Value} {below : List Frame} {meth : Method} {c : Code} {dC : Nat → ClassId} {dI : Nat → Nat → Nat} {cyB cyC cyI cyJ cyZ : ClassId} {aS aSc : Nat} {S_count : Int32} {S_cutShort : Int32} {out : Int32} (CX : cx cX6_isCutShort (some .boolean) 1 RX6 wsX6_isCutShort (dC, dI) (TY cyB cyC cyI cyJ cyZ) p s m args meth c) (hP : va_P (dC, dI) vwCl [(aS, .inr (6, [.ref aSc, .int S_count, .int S_cutShort]))] s.heap) (n : Nat) : J_X6_isCutShort_0 p l e s m args below meth c dC dI cyB cyC cyI cyJ cyZ aS aSc S_count S_cutShort out (f_X6_isCutShort_0 n S_count S_cutShort) := by
  intro hf ls hl
  obtain ⟨hx, hb, hr, hml, hown, hts, hlocks, hK, hN⟩ := id CX
  unfold f_X6_isCutShort_0 at hf
  refine lv_aload_n hx hb dX6_isCutShort_0 rfl (lv_at hl 0 rfl) ?_
  refine va_get (D := (dC, dI)) (ci := 6) (v := .int S_cutShort) (C := RX6) (T := TX6) (N := 3) hx hb hts i_X6_isCutShort_X6 hown hK hP 0 rfl rfl 2 (by decide) (hts (.fieldLink RX6 20 "TokenRow$Source" "cutShort" "Z") (List.mem_of_getElem? (i := 1) rfl)) (fun _ h9 => h9) rfl dX6_isCutShort_1 ?_
  obtain ⟨hg, hf⟩ := gu_ok hf
  exact W.zret (v := S_cutShort) (ty := .boolean) hx hb hr (zb_n hg) (fun t ht hW => ⟨_, rfl, Option.some.inj hf, ht⟩) (fun _ h => nomatch h) dX6_isCutShort_4
def f_X6_isCutShort (n : Nat) (S_count : Int32) (S_cutShort : Int32) : Option (Int32) := f_X6_isCutShort_0 n S_count S_cutShort 
set_option maxHeartbeats 4000000 in
set_option maxRecDepth 100000 in
/-- TokenRow$Source.isCutShort()Z -/
theorem m_X6_isCutShort (l : Launch) (dC : Nat → ClassId) (dI : Nat → Nat → Nat) (cyB cyC cyI cyJ cyZ : ClassId) (aS aSc : Nat) (S_count : Int32) (S_cutShort : Int32) (n : Nat) (out : Int32) (hf : f_X6_isCutShort n S_count S_cutShort = some out) : Met l yX6_isCutShort wsX6_isCutShort rm_X6_isCutShort (Pro (dC, dI) (TY cyB cyC cyI cyJ cyZ) [.ref aS] [(aS, .inr (6, [.ref aSc, .int S_count, .int S_cutShort]))]) (vp_Si (fun r => r = out)) 0 0 (fun _ => False) := by
  refine Met.ofW (cc := cX6_isCutShort) (maxL := 1) (ret := (some .boolean)) (by decide) rfl ?_
  intro p e s m args below meth c s₁ B hml hv
  obtain ⟨rfl, hP, hK, hN⟩ := hv
  have CX : cx cX6_isCutShort (some .boolean) 1 RX6 wsX6_isCutShort (dC, dI) (TY cyB cyC cyI cyJ cyZ) p s m ([.ref aS] : List Value).toArray meth c := ⟨B.exec, B.bytes, B.returns, hml, findClass_of_methodNamed B.named, atoms_spec (ws := wsX6_isCutShort) B.pre, B.notSynchronized, hK, hN⟩
  have hl := lv_entry ([.ref aS]) (n := 1) (Nat.le_of_ble_eq_true rfl)
  rw [lg_entry_eq]
  exact k_X6_isCutShort_0 (aSc := aSc) CX hP n  hf _ hl
abbrev rm_X0_set : Room := { frames := 0, cells := 0, slots := 0, locals := 0 }
theorem i_X0_set_X0 : ∀ w ∈ u_ws RX0 TX0 2, w ∈ wsX0_set := fun _ h => (List.mem_cons_of_mem _ (List.mem_append_right _ h))
def J_X0_set_17 (p : Program) (l : Launch) (e : Env) (s : State) (m : MethodId) (args : Array Value) (below : List Frame) (meth : Method) (c : Code) (dC : Nat → ClassId) (dI : Nat → Nat → Nat) (cyB cyC cyI cyJ cyZ : ClassId) (aB aBl : Nat) (A : Nat → Prop) (out : Int32 × (Nat → Int32)) (g : Int32 → (Nat → Int32) → Int32 → Option (Int32 × (Nat → Int32))) : Prop := ∀ (B_used : Int32) (Bl : Nat → Int32) (t1 : Int32) (H : Heap) (locs : List Loc), g B_used Bl t1 = some out → va_P (dC, dI) vwCl [(aB, .inr (0, [.ref aBl, .int B_used])), (aBl, .inl (cyI, 136, .inl Bl))] H → va_D A [(aB, .inr (0, [.ref aBl, .int B_used])), (aBl, .inl (cyI, 136, .inl Bl))] → va_S A s.heap H locs → ∀ ls : Array Slot, lv_has ls 2 [] → W p l e rm_X0_set s m args below meth c H locs 0 0 (MQ below (va_Qv (fun (u : Int32 × (Nat → Int32)) => u = out) (Bw (dC, dI) A (fun u => [(aB, .inr (0, [.ref aBl, .int u.1])), (aBl, .inl (cyI, 136, .inl u.2))])) A) args s 0 0 A) (F0 m 17 ls [.int t1, .ref aB])
def J_X0_set_0 (p : Program) (l : Launch) (e : Env) (s : State) (m : MethodId) (args : Array Value) (below : List Frame) (meth : Method) (c : Code) (dC : Nat → ClassId) (dI : Nat → Nat → Nat) (cyB cyC cyI cyJ cyZ : ClassId) (aB aBl : Nat) (A : Nat → Prop) (out : Int32 × (Nat → Int32)) (g : Int32 → (Nat → Int32) → Int32 → Option (Int32 × (Nat → Int32))) : Prop := ∀ (B_used : Int32) (Bl : Nat → Int32) (x1 : Int32) (H : Heap) (locs : List Loc), g B_used Bl x1 = some out → va_P (dC, dI) vwCl [(aB, .inr (0, [.ref aBl, .int B_used])), (aBl, .inl (cyI, 136, .inl Bl))] H → va_D A [(aB, .inr (0, [.ref aBl, .int B_used])), (aBl, .inl (cyI, 136, .inl Bl))] → va_S A s.heap H locs → ∀ ls : Array Slot, lv_has ls 2 [(0, .ref aB), (1, .int x1)] → W p l e rm_X0_set s m args below meth c H locs 0 0 (MQ below (va_Qv (fun (u : Int32 × (Nat → Int32)) => u = out) (Bw (dC, dI) A (fun u => [(aB, .inr (0, [.ref aBl, .int u.1])), (aBl, .inl (cyI, 136, .inl u.2))])) A) args s 0 0 A) (F0 m 0 ls [])
def f_X0_set_17 (n : Nat) (B_used : Int32) (Bl : Nat → Int32) (t1 : Int32) : Option (Int32 × (Nat → Int32)) :=
  some (t1, Bl)
set_option maxHeartbeats 4000000 in
set_option maxRecDepth 100000 in
theorem k_X0_set_17 {p : Program} {l : Launch} {e : Env} {s : State} {m : MethodId} {args : Array Value} {below : List Frame} {meth : Method} {c : Code} {dC : Nat → ClassId} {dI : Nat → Nat → Nat} {cyB cyC cyI cyJ cyZ : ClassId} {aB aBl : Nat} {A : Nat → Prop} {out : Int32 × (Nat → Int32)} (CX : cx cX0_set none 2 RX0 wsX0_set (dC, dI) (TY cyB cyC cyI cyJ cyZ) p s m args meth c) (hA : ∀ q : Nat, s.heap.size ≤ q → A q) (n : Nat) : J_X0_set_17 p l e s m args below meth c dC dI cyB cyC cyI cyJ cyZ aB aBl A out (f_X0_set_17 n) := by
  intro B_used Bl t1 H locs hf hP hD hS ls hl
  obtain ⟨hx, hb, hr, hml, hown, hts, hlocks, hK, hN⟩ := id CX
  unfold f_X0_set_17 at hf
  refine va_put (D := (dC, dI)) (ci := 0) (v := .int t1) (ty := .int) (C := RX0) (T := TX0) (N := 2) hx hb hts i_X0_set_X0 tyX0 tyX0_ok nmX0 hown hK hP hD hS 0 rfl rfl 1 (by decide) (hts (.fieldLink RX0 13 "TokenRow$Big" "used" "I") (List.mem_of_getElem? (i := 2) rfl)) (fun _ h9 => h9) rfl (by decide +kernel) rfl rfl (Nat.le_of_ble_eq_true rfl) dX0_set_17 (fun H1 locs hP hD hS => ?_)
  have hP : va_P (dC, dI) vwCl [(aB, .inr (0, [.ref aBl, .int t1])), (aBl, .inl (cyI, 136, .inl Bl))] H1 := hP
  have hD : va_D A [(aB, .inr (0, [.ref aBl, .int t1])), (aBl, .inl (cyI, 136, .inl Bl))] := hD
  exact W.vret hx hb hr (fun t ht hW => ⟨⟨(t1, Bl), rfl, Option.some.inj hf, by rw [ht]; exact hP, hD⟩, hS.F ht⟩) hS.2.2 dX0_set_20
def f_X0_set_0 (n : Nat) (B_used : Int32) (Bl : Nat → Int32) (x1 : Int32) : Option (Int32 × (Nat → Int32)) :=
  gu (gd (0 : Int32) 136) (
  if x1 = 0 then
  (f_X0_set_17 n B_used (upd Bl ((0 : Int32)).toNatClampNeg x1) (0 : Int32))
  else
  (f_X0_set_17 n B_used (upd Bl ((0 : Int32)).toNatClampNeg x1) (1 : Int32)))
set_option maxHeartbeats 4000000 in
set_option maxRecDepth 100000 in
theorem k_X0_set_0 {p : Program} {l : Launch} {e : Env} {s : State} {m : MethodId} {args : Array Value} {below : List Frame} {meth : Method} {c : Code} {dC : Nat → ClassId} {dI : Nat → Nat → Nat} {cyB cyC cyI cyJ cyZ : ClassId} {aB aBl : Nat} {A : Nat → Prop} {out : Int32 × (Nat → Int32)} (CX : cx cX0_set none 2 RX0 wsX0_set (dC, dI) (TY cyB cyC cyI cyJ cyZ) p s m args meth c) (hA : ∀ q : Nat, s.heap.size ≤ q → A q) (n : Nat) : J_X0_set_0 p l e s m args below meth c dC dI cyB cyC cyI cyJ cyZ aB aBl A out (f_X0_set_0 n) := by
  intro B_used Bl x1 H locs hf hP hD hS ls hl
  obtain ⟨hx, hb, hr, hml, hown, hts, hlocks, hK, hN⟩ := id CX
  unfold f_X0_set_0 at hf
  refine lv_aload_n hx hb dX0_set_0 rfl (lv_at hl 0 rfl) ?_
  refine va_get (D := (dC, dI)) (ci := 0) (v := .ref aBl) (C := RX0) (T := TX0) (N := 2) hx hb hts i_X0_set_X0 hown hK hP 0 rfl rfl 0 (by decide) (hts (.fieldLink RX0 9 "TokenRow$Big" "limbs" "[I") (List.mem_of_getElem? (i := 1) rfl)) (fun _ h9 => h9) rfl dX0_set_1 ?_
  refine lv_iconst (v := (0 : Int32)) hx hb dX0_set_4 (by decide) ?_
  refine lv_iload_n hx hb dX0_set_5 rfl (lv_at hl 1 rfl) ?_
  obtain ⟨hg, hf⟩ := gu_ok hf
  refine va_iast hx hb hK hP hD hS 1 2 rfl rfl (gd_in hg) dX0_set_6 (fun H1 locs hP hD hS => ?_)
  have hP : va_P (dC, dI) vwCl [(aB, .inr (0, [.ref aBl, .int B_used])), (aBl, .inl (cyI, 136, .inl (upd Bl ((0 : Int32)).toNatClampNeg x1)))] H1 := hP
  have hD : va_D A [(aB, .inr (0, [.ref aBl, .int B_used])), (aBl, .inl (cyI, 136, .inl (upd Bl ((0 : Int32)).toNatClampNeg x1)))] := hD
  refine lv_aload_n hx hb dX0_set_7 rfl (lv_at hl 0 rfl) ?_
  refine lv_iload_n hx hb dX0_set_8 rfl (lv_at hl 1 rfl) ?_
  refine lv_if_ne (tgt := 16) hx hb dX0_set_9 (by decide) (fun hc => ?_) (fun hc => ?_)
  · have hf := (if_neg hc).symm.trans hf
    refine lv_iconst (v := (1 : Int32)) hx hb dX0_set_16 (by decide) ?_
    exact k_X0_set_17 CX hA n _ _ _ _ _ hf hP hD hS ls (lv_sub hl [] rfl)
  · have hf := (if_pos hc).symm.trans hf
    refine lv_iconst (v := (0 : Int32)) hx hb dX0_set_12 (by decide) ?_
    refine lv_goto (tgt := 17) hx hb dX0_set_13 (by decide) ?_
    exact k_X0_set_17 CX hA n _ _ _ _ _ hf hP hD hS ls (lv_sub hl [] rfl)
def f_X0_set (n : Nat) (p1 : Int32) (B_used : Int32) (Bl : Nat → Int32) : Option (Int32 × (Nat → Int32)) := f_X0_set_0 n B_used Bl p1
set_option maxHeartbeats 4000000 in
set_option maxRecDepth 100000 in
/-- TokenRow$Big.set(I)V -/
theorem m_X0_set (l : Launch) (dC : Nat → ClassId) (dI : Nat → Nat → Nat) (cyB cyC cyI cyJ cyZ : ClassId) (aB aBl : Nat) (sz : Nat) (p1 : Int32) (B_used : Int32) (Bl : Nat → Int32) (n : Nat) (out : Int32 × (Nat → Int32)) (hf : f_X0_set n p1 B_used Bl = some out) : Met l yX0_set wsX0_set rm_X0_set (Prw (dC, dI) (TY cyB cyC cyI cyJ cyZ) [.ref aB, .int p1] sz [(aB, .inr (0, [.ref aBl, .int B_used])), (aBl, .inl (cyI, 136, .inl Bl))]) (va_Qv (fun (u : Int32 × (Nat → Int32)) => u = out) (Bw (dC, dI) (va_A [(aB, .inr (0, [.ref aBl, .int B_used])), (aBl, .inl (cyI, 136, .inl Bl))] sz) (fun u => [(aB, .inr (0, [.ref aBl, .int u.1])), (aBl, .inl (cyI, 136, .inl u.2))])) (va_A [(aB, .inr (0, [.ref aBl, .int B_used])), (aBl, .inl (cyI, 136, .inl Bl))] sz)) 0 0 (va_A [(aB, .inr (0, [.ref aBl, .int B_used])), (aBl, .inl (cyI, 136, .inl Bl))] sz) := by
  refine Met.ofW (cc := cX0_set) (maxL := 2) (ret := none) (by decide) rfl ?_
  intro p e s m args below meth c s₁ B hml hv
  obtain ⟨rfl, hsz, hP, hK, hD0, hN⟩ := hv
  subst hsz
  have hD := hD0.self (sz := s.heap.size)
  have CX : cx cX0_set none 2 RX0 wsX0_set (dC, dI) (TY cyB cyC cyI cyJ cyZ) p s m ([.ref aB, .int p1] : List Value).toArray meth c := ⟨B.exec, B.bytes, B.returns, hml, findClass_of_methodNamed B.named, atoms_spec (ws := wsX0_set) B.pre, B.notSynchronized, hK, hN⟩
  have hl := lv_entry ([.ref aB, .int p1]) (n := 2) (Nat.le_of_ble_eq_true rfl)
  rw [lg_entry_eq]
  exact k_X0_set_0 CX (fun q h => Or.inr h) n _ _ _ _ _ hf hP hD va_S.rf _ hl
abbrev rm_X0_isZero : Room := { frames := 0, cells := 0, slots := 0, locals := 0 }
theorem i_X0_isZero_X0 : ∀ w ∈ u_ws RX0 TX0 2, w ∈ wsX0_isZero := fun _ h => (List.mem_cons_of_mem _ (List.mem_append_right _ h))
def J_X0_isZero_0 (p : Program) (l : Launch) (e : Env) (s : State) (m : MethodId) (args : Array Value) (below : List Frame) (meth : Method) (c : Code) (dC : Nat → ClassId) (dI : Nat → Nat → Nat) (cyB cyC cyI cyJ cyZ : ClassId) (aB aBl : Nat) (B_used : Int32) (out : Int32) (g : Option (Int32)) : Prop := g = some out → ∀ ls : Array Slot, lv_has ls 1 [(0, .ref aB)] → W p l e rm_X0_isZero s m args below meth c s.heap [] 0 0 (MQ below (vp_Si (fun r => r = out)) args s 0 0 (fun _ => False)) (F0 m 0 ls [])
def f_X0_isZero_0 (n : Nat) (B_used : Int32) : Option (Int32) :=
  if B_used = 0 then
  (some (1 : Int32))
  else
  (some (0 : Int32))
set_option maxHeartbeats 4000000 in
set_option maxRecDepth 100000 in
theorem k_X0_isZero_0 {p : Program} {l : Launch} {e : Env} {s : State} {m : MethodId} {args : Array Value} {below : List Frame} {meth : Method} {c : Code} {dC : Nat → ClassId} {dI : Nat → Nat → Nat} {cyB cyC cyI cyJ cyZ : ClassId} {aB aBl : Nat} {B_used : Int32} {out : Int32} (CX : cx cX0_isZero (some .boolean) 1 RX0 wsX0_isZero (dC, dI) (TY cyB cyC cyI cyJ cyZ) p s m args meth c) (hP : va_P (dC, dI) vwCl [(aB, .inr (0, [.ref aBl, .int B_used]))] s.heap) (n : Nat) : J_X0_isZero_0 p l e s m args below meth c dC dI cyB cyC cyI cyJ cyZ aB aBl B_used out (f_X0_isZero_0 n B_used) := by
  intro hf ls hl
  obtain ⟨hx, hb, hr, hml, hown, hts, hlocks, hK, hN⟩ := id CX
  unfold f_X0_isZero_0 at hf
  refine lv_aload_n hx hb dX0_isZero_0 rfl (lv_at hl 0 rfl) ?_
  refine va_get (D := (dC, dI)) (ci := 0) (v := .int B_used) (C := RX0) (T := TX0) (N := 2) hx hb hts i_X0_isZero_X0 hown hK hP 0 rfl rfl 1 (by decide) (hts (.fieldLink RX0 13 "TokenRow$Big" "used" "I") (List.mem_of_getElem? (i := 1) rfl)) (fun _ h9 => h9) rfl dX0_isZero_1 ?_
  refine lv_if_ne (tgt := 11) hx hb dX0_isZero_4 (by decide) (fun hc => ?_) (fun hc => ?_)
  · have hf := (if_neg hc).symm.trans hf
    refine lv_iconst (v := (0 : Int32)) hx hb dX0_isZero_11 (by decide) ?_
    exact W.zret (v := (0 : Int32)) (ty := .boolean) hx hb hr rfl (fun t ht hW => ⟨_, rfl, Option.some.inj hf, ht⟩) (fun _ h => nomatch h) dX0_isZero_12
  · have hf := (if_pos hc).symm.trans hf
    refine lv_iconst (v := (1 : Int32)) hx hb dX0_isZero_7 (by decide) ?_
    refine lv_goto (tgt := 12) hx hb dX0_isZero_8 (by decide) ?_
    exact W.zret (v := (1 : Int32)) (ty := .boolean) hx hb hr rfl (fun t ht hW => ⟨_, rfl, Option.some.inj hf, ht⟩) (fun _ h => nomatch h) dX0_isZero_12
def f_X0_isZero (n : Nat) (B_used : Int32) : Option (Int32) := f_X0_isZero_0 n B_used 
set_option maxHeartbeats 4000000 in
set_option maxRecDepth 100000 in
/-- TokenRow$Big.isZero()Z -/
theorem m_X0_isZero (l : Launch) (dC : Nat → ClassId) (dI : Nat → Nat → Nat) (cyB cyC cyI cyJ cyZ : ClassId) (aB aBl : Nat) (B_used : Int32) (n : Nat) (out : Int32) (hf : f_X0_isZero n B_used = some out) : Met l yX0_isZero wsX0_isZero rm_X0_isZero (Pro (dC, dI) (TY cyB cyC cyI cyJ cyZ) [.ref aB] [(aB, .inr (0, [.ref aBl, .int B_used]))]) (vp_Si (fun r => r = out)) 0 0 (fun _ => False) := by
  refine Met.ofW (cc := cX0_isZero) (maxL := 1) (ret := (some .boolean)) (by decide) rfl ?_
  intro p e s m args below meth c s₁ B hml hv
  obtain ⟨rfl, hP, hK, hN⟩ := hv
  have CX : cx cX0_isZero (some .boolean) 1 RX0 wsX0_isZero (dC, dI) (TY cyB cyC cyI cyJ cyZ) p s m ([.ref aB] : List Value).toArray meth c := ⟨B.exec, B.bytes, B.returns, hml, findClass_of_methodNamed B.named, atoms_spec (ws := wsX0_isZero) B.pre, B.notSynchronized, hK, hN⟩
  have hl := lv_entry ([.ref aB]) (n := 1) (Nat.le_of_ble_eq_true rfl)
  rw [lg_entry_eq]
  exact k_X0_isZero_0 (aBl := aBl) CX hP n  hf _ hl
abbrev rm_X0_low : Room := { frames := 0, cells := 0, slots := 0, locals := 0 }
theorem i_X0_low_X0 : ∀ w ∈ u_ws RX0 TX0 2, w ∈ wsX0_low := fun _ h => (List.mem_cons_of_mem _ (List.mem_append_right _ h))
def J_X0_low_46 (p : Program) (l : Launch) (e : Env) (s : State) (m : MethodId) (args : Array Value) (below : List Frame) (meth : Method) (c : Code) (dC : Nat → ClassId) (dI : Nat → Nat → Nat) (cyB cyC cyI cyJ cyZ : ClassId) (aB aBl : Nat) (B_used : Int32) (Bl : Nat → Int32) (out : Int64) (g : Int64 → Int64 → Option (Int64)) : Prop := ∀ (x1 : Int64) (t0 : Int64), g x1 t0 = some out → ∀ ls : Array Slot, lv_has ls 5 [(1, .long x1)] → W p l e rm_X0_low s m args below meth c s.heap [] 0 0 (MQ below (vp_Sl (fun r => r = out)) args s 0 0 (fun _ => False)) (F0 m 46 ls [.long t0])
def J_X0_low_22 (p : Program) (l : Launch) (e : Env) (s : State) (m : MethodId) (args : Array Value) (below : List Frame) (meth : Method) (c : Code) (dC : Nat → ClassId) (dI : Nat → Nat → Nat) (cyB cyC cyI cyJ cyZ : ClassId) (aB aBl : Nat) (B_used : Int32) (Bl : Nat → Int32) (out : Int64) (g : Int64 → Option (Int64)) : Prop := ∀ (t0 : Int64), g t0 = some out → ∀ ls : Array Slot, lv_has ls 5 [(0, .ref aB)] → W p l e rm_X0_low s m args below meth c s.heap [] 0 0 (MQ below (vp_Sl (fun r => r = out)) args s 0 0 (fun _ => False)) (F0 m 22 ls [.long t0])
def J_X0_low_0 (p : Program) (l : Launch) (e : Env) (s : State) (m : MethodId) (args : Array Value) (below : List Frame) (meth : Method) (c : Code) (dC : Nat → ClassId) (dI : Nat → Nat → Nat) (cyB cyC cyI cyJ cyZ : ClassId) (aB aBl : Nat) (B_used : Int32) (Bl : Nat → Int32) (out : Int64) (g : Option (Int64)) : Prop := g = some out → ∀ ls : Array Slot, lv_has ls 5 [(0, .ref aB)] → W p l e rm_X0_low s m args below meth c s.heap [] 0 0 (MQ below (vp_Sl (fun r => r = out)) args s 0 0 (fun _ => False)) (F0 m 0 ls [])
def f_X0_low_46 (n : Nat) (B_used : Int32) (Bl : Nat → Int32) (x1 : Int64) (t0 : Int64) : Option (Int64) :=
  some ((t0 <<< ((32 : Int32).toInt64 &&& 63)) ||| x1)
set_option maxHeartbeats 4000000 in
set_option maxRecDepth 100000 in
theorem k_X0_low_46 {p : Program} {l : Launch} {e : Env} {s : State} {m : MethodId} {args : Array Value} {below : List Frame} {meth : Method} {c : Code} {dC : Nat → ClassId} {dI : Nat → Nat → Nat} {cyB cyC cyI cyJ cyZ : ClassId} {aB aBl : Nat} {B_used : Int32} {Bl : Nat → Int32} {out : Int64} (CX : cx cX0_low (some .long) 5 RX0 wsX0_low (dC, dI) (TY cyB cyC cyI cyJ cyZ) p s m args meth c) (hP : va_P (dC, dI) vwCl [(aB, .inr (0, [.ref aBl, .int B_used])), (aBl, .inl (cyI, 136, .inl Bl))] s.heap) (n : Nat) : J_X0_low_46 p l e s m args below meth c dC dI cyB cyC cyI cyJ cyZ aB aBl B_used Bl out (f_X0_low_46 n B_used Bl) := by
  intro x1 t0 hf ls hl
  obtain ⟨hx, hb, hr, hml, hown, hts, hlocks, hK, hN⟩ := id CX
  unfold f_X0_low_46 at hf
  refine lv_lstore_n (lv' := [(3, .long t0), (1, .long x1)]) hx hb dX0_low_46 rfl hl (by decide) rfl (fun ls hl => ?_)
  refine lv_lload_n hx hb dX0_low_47 rfl (lv_at hl 0 rfl) ?_
  refine lv_bipush (v := (32 : Int32)) hx hb dX0_low_48 (by decide) ?_
  refine lv_lshl (v := t0 <<< ((32 : Int32).toInt64 &&& 63)) hx hb dX0_low_50 rfl ?_
  refine lv_lload_n hx hb dX0_low_51 rfl (lv_at hl 1 rfl) ?_
  refine lv_lor hx hb dX0_low_52 ?_
  exact W.lret (v := (t0 <<< ((32 : Int32).toInt64 &&& 63)) ||| x1) hx hb hr (fun t ht hW => ⟨_, rfl, Option.some.inj hf, ht⟩) (fun _ h => nomatch h) dX0_low_53
def f_X0_low_22 (n : Nat) (B_used : Int32) (Bl : Nat → Int32) (t0 : Int64) : Option (Int64) :=
  if B_used ≤ (1 : Int32) then
  (f_X0_low_46 n B_used Bl t0 (0 : Int64))
  else
  (gu (gd (1 : Int32) 136) (
  f_X0_low_46 n B_used Bl t0 (((Bl ((1 : Int32)).toNatClampNeg).toInt64) &&& (4294967295 : Int64))))
set_option maxHeartbeats 4000000 in
set_option maxRecDepth 100000 in
theorem k_X0_low_22 {p : Program} {l : Launch} {e : Env} {s : State} {m : MethodId} {args : Array Value} {below : List Frame} {meth : Method} {c : Code} {dC : Nat → ClassId} {dI : Nat → Nat → Nat} {cyB cyC cyI cyJ cyZ : ClassId} {aB aBl : Nat} {B_used : Int32} {Bl : Nat → Int32} {out : Int64} (CX : cx cX0_low (some .long) 5 RX0 wsX0_low (dC, dI) (TY cyB cyC cyI cyJ cyZ) p s m args meth c) (hP : va_P (dC, dI) vwCl [(aB, .inr (0, [.ref aBl, .int B_used])), (aBl, .inl (cyI, 136, .inl Bl))] s.heap) (n : Nat) : J_X0_low_22 p l e s m args below meth c dC dI cyB cyC cyI cyJ cyZ aB aBl B_used Bl out (f_X0_low_22 n B_used Bl) := by
  intro t0 hf ls hl
  obtain ⟨hx, hb, hr, hml, hown, hts, hlocks, hK, hN⟩ := id CX
  unfold f_X0_low_22 at hf
  refine lv_lstore_n (lv' := [(1, .long t0), (0, .ref aB)]) hx hb dX0_low_22 rfl hl (by decide) rfl (fun ls hl => ?_)
  refine lv_aload_n hx hb dX0_low_23 rfl (lv_at hl 1 rfl) ?_
  refine va_get (D := (dC, dI)) (ci := 0) (v := .int B_used) (C := RX0) (T := TX0) (N := 2) hx hb hts i_X0_low_X0 hown hK hP 0 rfl rfl 1 (by decide) (hts (.fieldLink RX0 13 "TokenRow$Big" "used" "I") (List.mem_of_getElem? (i := 1) rfl)) (fun _ h9 => h9) rfl dX0_low_24 ?_
  refine lv_iconst (v := (1 : Int32)) hx hb dX0_low_27 (by decide) ?_
  refine lv_icmp_le (tgt := 45) hx hb dX0_low_28 (by decide) (fun hc => ?_) (fun hc => ?_)
  · have hf := (if_pos hc).symm.trans hf
    refine lv_lconst (v := (0 : Int64)) hx hb dX0_low_45 (by decide) ?_
    exact k_X0_low_46 CX hP n _ _ hf ls (lv_sub hl [0] rfl)
  · have hf := (if_neg hc).symm.trans hf
    refine lv_aload_n hx hb dX0_low_31 rfl (lv_at hl 1 rfl) ?_
    refine va_get (D := (dC, dI)) (ci := 0) (v := .ref aBl) (C := RX0) (T := TX0) (N := 2) hx hb hts i_X0_low_X0 hown hK hP 0 rfl rfl 0 (by decide) (hts (.fieldLink RX0 9 "TokenRow$Big" "limbs" "[I") (List.mem_of_getElem? (i := 2) rfl)) (fun _ h9 => h9) rfl dX0_low_32 ?_
    refine lv_iconst (v := (1 : Int32)) hx hb dX0_low_35 (by decide) ?_
    obtain ⟨hg, hf⟩ := gu_ok hf
    refine va_iald hx hb hK hP 1 2 rfl rfl (gd_in hg) dX0_low_36 ?_
    refine lv_i2l (v := (Bl ((1 : Int32)).toNatClampNeg).toInt64) hx hb dX0_low_37 rfl ?_
    refine lv_ldc2 (v := (4294967295 : Int64)) hx hb hown (hts (.constantLong RX0 17 (4294967295)) (List.mem_of_getElem? (i := 3) rfl)) dX0_low_38 ?_
    refine lv_land hx hb dX0_low_41 ?_
    refine lv_goto (tgt := 46) hx hb dX0_low_42 (by decide) ?_
    exact k_X0_low_46 CX hP n _ _ hf ls (lv_sub hl [0] rfl)
def f_X0_low_0 (n : Nat) (B_used : Int32) (Bl : Nat → Int32) : Option (Int64) :=
  if B_used ≤ 0 then
  (f_X0_low_22 n B_used Bl (0 : Int64))
  else
  (gu (gd (0 : Int32) 136) (
  f_X0_low_22 n B_used Bl (((Bl ((0 : Int32)).toNatClampNeg).toInt64) &&& (4294967295 : Int64))))
set_option maxHeartbeats 4000000 in
set_option maxRecDepth 100000 in
theorem k_X0_low_0 {p : Program} {l : Launch} {e : Env} {s : State} {m : MethodId} {args : Array Value} {below : List Frame} {meth : Method} {c : Code} {dC : Nat → ClassId} {dI : Nat → Nat → Nat} {cyB cyC cyI cyJ cyZ : ClassId} {aB aBl : Nat} {B_used : Int32} {Bl : Nat → Int32} {out : Int64} (CX : cx cX0_low (some .long) 5 RX0 wsX0_low (dC, dI) (TY cyB cyC cyI cyJ cyZ) p s m args meth c) (hP : va_P (dC, dI) vwCl [(aB, .inr (0, [.ref aBl, .int B_used])), (aBl, .inl (cyI, 136, .inl Bl))] s.heap) (n : Nat) : J_X0_low_0 p l e s m args below meth c dC dI cyB cyC cyI cyJ cyZ aB aBl B_used Bl out (f_X0_low_0 n B_used Bl) := by
  intro hf ls hl
  obtain ⟨hx, hb, hr, hml, hown, hts, hlocks, hK, hN⟩ := id CX
  unfold f_X0_low_0 at hf
  refine lv_aload_n hx hb dX0_low_0 rfl (lv_at hl 0 rfl) ?_
  refine va_get (D := (dC, dI)) (ci := 0) (v := .int B_used) (C := RX0) (T := TX0) (N := 2) hx hb hts i_X0_low_X0 hown hK hP 0 rfl rfl 1 (by decide) (hts (.fieldLink RX0 13 "TokenRow$Big" "used" "I") (List.mem_of_getElem? (i := 1) rfl)) (fun _ h9 => h9) rfl dX0_low_1 ?_
  refine lv_if_le (tgt := 21) hx hb dX0_low_4 (by decide) (fun hc => ?_) (fun hc => ?_)
  · have hf := (if_pos hc).symm.trans hf
    refine lv_lconst (v := (0 : Int64)) hx hb dX0_low_21 (by decide) ?_
    exact k_X0_low_22 CX hP n _ hf ls (lv_sub hl [0] rfl)
  · have hf := (if_neg hc).symm.trans hf
    refine lv_aload_n hx hb dX0_low_7 rfl (lv_at hl 0 rfl) ?_
    refine va_get (D := (dC, dI)) (ci := 0) (v := .ref aBl) (C := RX0) (T := TX0) (N := 2) hx hb hts i_X0_low_X0 hown hK hP 0 rfl rfl 0 (by decide) (hts (.fieldLink RX0 9 "TokenRow$Big" "limbs" "[I") (List.mem_of_getElem? (i := 2) rfl)) (fun _ h9 => h9) rfl dX0_low_8 ?_
    refine lv_iconst (v := (0 : Int32)) hx hb dX0_low_11 (by decide) ?_
    obtain ⟨hg, hf⟩ := gu_ok hf
    refine va_iald hx hb hK hP 1 2 rfl rfl (gd_in hg) dX0_low_12 ?_
    refine lv_i2l (v := (Bl ((0 : Int32)).toNatClampNeg).toInt64) hx hb dX0_low_13 rfl ?_
    refine lv_ldc2 (v := (4294967295 : Int64)) hx hb hown (hts (.constantLong RX0 17 (4294967295)) (List.mem_of_getElem? (i := 3) rfl)) dX0_low_14 ?_
    refine lv_land hx hb dX0_low_17 ?_
    refine lv_goto (tgt := 22) hx hb dX0_low_18 (by decide) ?_
    exact k_X0_low_22 CX hP n _ hf ls (lv_sub hl [0] rfl)
def f_X0_low (n : Nat) (B_used : Int32) (Bl : Nat → Int32) : Option (Int64) := f_X0_low_0 n B_used Bl 
set_option maxHeartbeats 4000000 in
set_option maxRecDepth 100000 in
/-- TokenRow$Big.low()J -/
theorem m_X0_low (l : Launch) (dC : Nat → ClassId) (dI : Nat → Nat → Nat) (cyB cyC cyI cyJ cyZ : ClassId) (aB aBl : Nat) (B_used : Int32) (Bl : Nat → Int32) (n : Nat) (out : Int64) (hf : f_X0_low n B_used Bl = some out) : Met l yX0_low wsX0_low rm_X0_low (Pro (dC, dI) (TY cyB cyC cyI cyJ cyZ) [.ref aB] [(aB, .inr (0, [.ref aBl, .int B_used])), (aBl, .inl (cyI, 136, .inl Bl))]) (vp_Sl (fun r => r = out)) 0 0 (fun _ => False) := by
  refine Met.ofW (cc := cX0_low) (maxL := 5) (ret := (some .long)) (by decide) rfl ?_
  intro p e s m args below meth c s₁ B hml hv
  obtain ⟨rfl, hP, hK, hN⟩ := hv
  have CX : cx cX0_low (some .long) 5 RX0 wsX0_low (dC, dI) (TY cyB cyC cyI cyJ cyZ) p s m ([.ref aB] : List Value).toArray meth c := ⟨B.exec, B.bytes, B.returns, hml, findClass_of_methodNamed B.named, atoms_spec (ws := wsX0_low) B.pre, B.notSynchronized, hK, hN⟩
  have hl := lv_entry ([.ref aB]) (n := 5) (Nat.le_of_ble_eq_true rfl)
  rw [lg_entry_eq]
  exact k_X0_low_0 CX hP n  hf _ hl
abbrev rm_X0_limbOrZero : Room := { frames := 0, cells := 0, slots := 0, locals := 0 }
theorem i_X0_limbOrZero_X0 : ∀ w ∈ u_ws RX0 TX0 2, w ∈ wsX0_limbOrZero := fun _ h => (List.mem_cons_of_mem _ (List.mem_append_right _ h))
def J_X0_limbOrZero_0 (p : Program) (l : Launch) (e : Env) (s : State) (m : MethodId) (args : Array Value) (below : List Frame) (meth : Method) (c : Code) (dC : Nat → ClassId) (dI : Nat → Nat → Nat) (cyB cyC cyI cyJ cyZ : ClassId) (aB aBl : Nat) (B_used : Int32) (Bl : Nat → Int32) (out : Int64) (g : Int32 → Option (Int64)) : Prop := ∀ (x1 : Int32), g x1 = some out → ∀ ls : Array Slot, lv_has ls 2 [(0, .ref aB), (1, .int x1)] → W p l e rm_X0_limbOrZero s m args below meth c s.heap [] 0 0 (MQ below (vp_Sl (fun r => r = out)) args s 0 0 (fun _ => False)) (F0 m 0 ls [])
def f_X0_limbOrZero_0 (n : Nat) (B_used : Int32) (Bl : Nat → Int32) (x1 : Int32) : Option (Int64) :=
  if x1 < 0 then
  (some (0 : Int64))
  else
  (if B_used ≤ x1 then
  (some (0 : Int64))
  else
  (gu (gd x1 136) (
  some (((Bl (x1).toNatClampNeg).toInt64) &&& (4294967295 : Int64)))))
set_option maxHeartbeats 4000000 in
set_option maxRecDepth 100000 in
theorem k_X0_limbOrZero_0 {p : Program} {l : Launch} {e : Env} {s : State} {m : MethodId} {args : Array Value} {below : List Frame} {meth : Method} {c : Code} {dC : Nat → ClassId} {dI : Nat → Nat → Nat} {cyB cyC cyI cyJ cyZ : ClassId} {aB aBl : Nat} {B_used : Int32} {Bl : Nat → Int32} {out : Int64} (CX : cx cX0_limbOrZero (some .long) 2 RX0 wsX0_limbOrZero (dC, dI) (TY cyB cyC cyI cyJ cyZ) p s m args meth c) (hP : va_P (dC, dI) vwCl [(aB, .inr (0, [.ref aBl, .int B_used])), (aBl, .inl (cyI, 136, .inl Bl))] s.heap) (n : Nat) : J_X0_limbOrZero_0 p l e s m args below meth c dC dI cyB cyC cyI cyJ cyZ aB aBl B_used Bl out (f_X0_limbOrZero_0 n B_used Bl) := by
  intro x1 hf ls hl
  obtain ⟨hx, hb, hr, hml, hown, hts, hlocks, hK, hN⟩ := id CX
  unfold f_X0_limbOrZero_0 at hf
  refine lv_iload_n hx hb dX0_limbOrZero_0 rfl (lv_at hl 1 rfl) ?_
  refine lv_if_lt (tgt := 26) hx hb dX0_limbOrZero_1 (by decide) (fun hc => ?_) (fun hc => ?_)
  · have hf := (if_pos hc).symm.trans hf
    refine lv_lconst (v := (0 : Int64)) hx hb dX0_limbOrZero_26 (by decide) ?_
    exact W.lret (v := (0 : Int64)) hx hb hr (fun t ht hW => ⟨_, rfl, Option.some.inj hf, ht⟩) (fun _ h => nomatch h) dX0_limbOrZero_27
  · have hf := (if_neg hc).symm.trans hf
    refine lv_iload_n hx hb dX0_limbOrZero_4 rfl (lv_at hl 1 rfl) ?_
    refine lv_aload_n hx hb dX0_limbOrZero_5 rfl (lv_at hl 0 rfl) ?_
    refine va_get (D := (dC, dI)) (ci := 0) (v := .int B_used) (C := RX0) (T := TX0) (N := 2) hx hb hts i_X0_limbOrZero_X0 hown hK hP 0 rfl rfl 1 (by decide) (hts (.fieldLink RX0 13 "TokenRow$Big" "used" "I") (List.mem_of_getElem? (i := 1) rfl)) (fun _ h9 => h9) rfl dX0_limbOrZero_6 ?_
    refine lv_icmp_ge (tgt := 26) hx hb dX0_limbOrZero_9 (by decide) (fun hc => ?_) (fun hc => ?_)
    · have hf := (if_pos hc).symm.trans hf
      refine lv_lconst (v := (0 : Int64)) hx hb dX0_limbOrZero_26 (by decide) ?_
      exact W.lret (v := (0 : Int64)) hx hb hr (fun t ht hW => ⟨_, rfl, Option.some.inj hf, ht⟩) (fun _ h => nomatch h) dX0_limbOrZero_27
    · have hf := (if_neg hc).symm.trans hf
      refine lv_aload_n hx hb dX0_limbOrZero_12 rfl (lv_at hl 0 rfl) ?_
      refine va_get (D := (dC, dI)) (ci := 0) (v := .ref aBl) (C := RX0) (T := TX0) (N := 2) hx hb hts i_X0_limbOrZero_X0 hown hK hP 0 rfl rfl 0 (by decide) (hts (.fieldLink RX0 9 "TokenRow$Big" "limbs" "[I") (List.mem_of_getElem? (i := 2) rfl)) (fun _ h9 => h9) rfl dX0_limbOrZero_13 ?_
      refine lv_iload_n hx hb dX0_limbOrZero_16 rfl (lv_at hl 1 rfl) ?_
      obtain ⟨hg, hf⟩ := gu_ok hf
      refine va_iald hx hb hK hP 1 2 rfl rfl (gd_in hg) dX0_limbOrZero_17 ?_
      refine lv_i2l (v := (Bl (x1).toNatClampNeg).toInt64) hx hb dX0_limbOrZero_18 rfl ?_
      refine lv_ldc2 (v := (4294967295 : Int64)) hx hb hown (hts (.constantLong RX0 17 (4294967295)) (List.mem_of_getElem? (i := 3) rfl)) dX0_limbOrZero_19 ?_
      refine lv_land hx hb dX0_limbOrZero_22 ?_
      refine lv_goto (tgt := 27) hx hb dX0_limbOrZero_23 (by decide) ?_
      exact W.lret (v := ((Bl (x1).toNatClampNeg).toInt64) &&& (4294967295 : Int64)) hx hb hr (fun t ht hW => ⟨_, rfl, Option.some.inj hf, ht⟩) (fun _ h => nomatch h) dX0_limbOrZero_27
def f_X0_limbOrZero (n : Nat) (p1 : Int32) (B_used : Int32) (Bl : Nat → Int32) : Option (Int64) := f_X0_limbOrZero_0 n B_used Bl p1
set_option maxHeartbeats 4000000 in
set_option maxRecDepth 100000 in
/-- TokenRow$Big.limbOrZero(I)J -/
theorem m_X0_limbOrZero (l : Launch) (dC : Nat → ClassId) (dI : Nat → Nat → Nat) (cyB cyC cyI cyJ cyZ : ClassId) (aB aBl : Nat) (p1 : Int32) (B_used : Int32) (Bl : Nat → Int32) (n : Nat) (out : Int64) (hf : f_X0_limbOrZero n p1 B_used Bl = some out) : Met l yX0_limbOrZero wsX0_limbOrZero rm_X0_limbOrZero (Pro (dC, dI) (TY cyB cyC cyI cyJ cyZ) [.ref aB, .int p1] [(aB, .inr (0, [.ref aBl, .int B_used])), (aBl, .inl (cyI, 136, .inl Bl))]) (vp_Sl (fun r => r = out)) 0 0 (fun _ => False) := by
  refine Met.ofW (cc := cX0_limbOrZero) (maxL := 2) (ret := (some .long)) (by decide) rfl ?_
  intro p e s m args below meth c s₁ B hml hv
  obtain ⟨rfl, hP, hK, hN⟩ := hv
  have CX : cx cX0_limbOrZero (some .long) 2 RX0 wsX0_limbOrZero (dC, dI) (TY cyB cyC cyI cyJ cyZ) p s m ([.ref aB, .int p1] : List Value).toArray meth c := ⟨B.exec, B.bytes, B.returns, hml, findClass_of_methodNamed B.named, atoms_spec (ws := wsX0_limbOrZero) B.pre, B.notSynchronized, hK, hN⟩
  have hl := lv_entry ([.ref aB, .int p1]) (n := 2) (Nat.le_of_ble_eq_true rfl)
  rw [lg_entry_eq]
  exact k_X0_limbOrZero_0 CX hP n _ hf _ hl
abbrev rm_X0_dropZeros : Room := { frames := 0, cells := 0, slots := 0, locals := 0 }
theorem i_X0_dropZeros_X0 : ∀ w ∈ u_ws RX0 TX0 2, w ∈ wsX0_dropZeros := fun _ h => (List.mem_cons_of_mem _ (List.mem_append_right _ h))
def J_X0_dropZeros_0 (p : Program) (l : Launch) (e : Env) (s : State) (m : MethodId) (args : Array Value) (below : List Frame) (meth : Method) (c : Code) (dC : Nat → ClassId) (dI : Nat → Nat → Nat) (cyB cyC cyI cyJ cyZ : ClassId) (aB aBl : Nat) (Bl : Nat → Int32) (A : Nat → Prop) (out : Int32) (g : Int32 → Option (Int32)) : Prop := ∀ (B_used : Int32) (H : Heap) (locs : List Loc), g B_used = some out → va_P (dC, dI) vwCl [(aB, .inr (0, [.ref aBl, .int B_used])), (aBl, .inl (cyI, 136, .inl Bl))] H → va_D A [(aB, .inr (0, [.ref aBl, .int B_used])), (aBl, .inl (cyI, 136, .inl Bl))] → va_S A s.heap H locs → ∀ ls : Array Slot, lv_has ls 1 [(0, .ref aB)] → W p l e rm_X0_dropZeros s m args below meth c H locs 0 0 (MQ below (va_Qv (fun (u : Int32) => u = out) (Bw (dC, dI) A (fun u => [(aB, .inr (0, [.ref aBl, .int u])), (aBl, .inl (cyI, 136, .inl Bl))])) A) args s 0 0 A) (F0 m 0 ls [])
def fb_X0_dropZeros_0 (n : Nat) (r0 : Int32 → Option (Int32)) (Bl : Nat → Int32) (B_used : Int32) : Option (Int32) :=
  if B_used ≤ 0 then
  (some B_used)
  else
  (gu (gd (B_used - (1 : Int32)) 136) (
  if (Bl (B_used - (1 : Int32)).toNatClampNeg) = 0 then
  (lt_ (B_used - (1 : Int32)) fun y1 =>
  r0 y1)
  else
  (some B_used)))
set_option maxHeartbeats 4000000 in
set_option maxRecDepth 100000 in
theorem kb_X0_dropZeros_0 {p : Program} {l : Launch} {e : Env} {s : State} {m : MethodId} {args : Array Value} {below : List Frame} {meth : Method} {c : Code} {dC : Nat → ClassId} {dI : Nat → Nat → Nat} {cyB cyC cyI cyJ cyZ : ClassId} {aB aBl : Nat} {Bl : Nat → Int32} {A : Nat → Prop} {out : Int32} (CX : cx cX0_dropZeros none 1 RX0 wsX0_dropZeros (dC, dI) (TY cyB cyC cyI cyJ cyZ) p s m args meth c) (hA : ∀ q : Nat, s.heap.size ≤ q → A q) (n : Nat) {r0 : Int32 → Option (Int32)} (hr0 : J_X0_dropZeros_0 p l e s m args below meth c dC dI cyB cyC cyI cyJ cyZ aB aBl Bl A out r0) : J_X0_dropZeros_0 p l e s m args below meth c dC dI cyB cyC cyI cyJ cyZ aB aBl Bl A out (fb_X0_dropZeros_0 n r0 Bl) := by
  intro B_used H locs hf hP hD hS ls hl
  obtain ⟨hx, hb, hr, hml, hown, hts, hlocks, hK, hN⟩ := id CX
  unfold fb_X0_dropZeros_0 at hf
  refine lv_aload_n hx hb dX0_dropZeros_0 rfl (lv_at hl 0 rfl) ?_
  refine va_get (D := (dC, dI)) (ci := 0) (v := .int B_used) (C := RX0) (T := TX0) (N := 2) hx hb hts i_X0_dropZeros_X0 hown hK hP 0 rfl rfl 1 (by decide) (hts (.fieldLink RX0 13 "TokenRow$Big" "used" "I") (List.mem_of_getElem? (i := 1) rfl)) (fun _ h9 => h9) rfl dX0_dropZeros_1 ?_
  refine lv_if_le (tgt := 34) hx hb dX0_dropZeros_4 (by decide) (fun hc => ?_) (fun hc => ?_)
  · have hf := (if_pos hc).symm.trans hf
    exact W.vret hx hb hr (fun t ht hW => ⟨⟨B_used, rfl, Option.some.inj hf, by rw [ht]; exact hP, hD⟩, hS.F ht⟩) hS.2.2 dX0_dropZeros_34
  · have hf := (if_neg hc).symm.trans hf
    refine lv_aload_n hx hb dX0_dropZeros_7 rfl (lv_at hl 0 rfl) ?_
    refine va_get (D := (dC, dI)) (ci := 0) (v := .ref aBl) (C := RX0) (T := TX0) (N := 2) hx hb hts i_X0_dropZeros_X0 hown hK hP 0 rfl rfl 0 (by decide) (hts (.fieldLink RX0 9 "TokenRow$Big" "limbs" "[I") (List.mem_of_getElem? (i := 2) rfl)) (fun _ h9 => h9) rfl dX0_dropZeros_8 ?_
    refine lv_aload_n hx hb dX0_dropZeros_11 rfl (lv_at hl 0 rfl) ?_
    refine va_get (D := (dC, dI)) (ci := 0) (v := .int B_used) (C := RX0) (T := TX0) (N := 2) hx hb hts i_X0_dropZeros_X0 hown hK hP 0 rfl rfl 1 (by decide) (hts (.fieldLink RX0 13 "TokenRow$Big" "used" "I") (List.mem_of_getElem? (i := 1) rfl)) (fun _ h9 => h9) rfl dX0_dropZeros_12 ?_
    refine lv_iconst (v := (1 : Int32)) hx hb dX0_dropZeros_15 (by decide) ?_
    refine lv_isub hx hb dX0_dropZeros_16 ?_
    obtain ⟨hg, hf⟩ := gu_ok hf
    refine va_iald hx hb hK hP 1 2 rfl rfl (gd_in hg) dX0_dropZeros_17 ?_
    refine lv_if_ne (tgt := 34) hx hb dX0_dropZeros_18 (by decide) (fun hc => ?_) (fun hc => ?_)
    · have hf := (if_neg hc).symm.trans hf
      exact W.vret hx hb hr (fun t ht hW => ⟨⟨B_used, rfl, Option.some.inj hf, by rw [ht]; exact hP, hD⟩, hS.F ht⟩) hS.2.2 dX0_dropZeros_34
    · have hf := (if_pos hc).symm.trans hf
      refine lv_aload_n hx hb dX0_dropZeros_21 rfl (lv_at hl 0 rfl) ?_
      refine lv_dup hx hb dX0_dropZeros_22 rfl ?_
      refine va_get (D := (dC, dI)) (ci := 0) (v := .int B_used) (C := RX0) (T := TX0) (N := 2) hx hb hts i_X0_dropZeros_X0 hown hK hP 0 rfl rfl 1 (by decide) (hts (.fieldLink RX0 13 "TokenRow$Big" "used" "I") (List.mem_of_getElem? (i := 1) rfl)) (fun _ h9 => h9) rfl dX0_dropZeros_23 ?_
      refine lv_iconst (v := (1 : Int32)) hx hb dX0_dropZeros_26 (by decide) ?_
      refine lv_isub hx hb dX0_dropZeros_27 ?_
      refine lv_topi (fun y1 ey1 => ?_)
      have hf := lt_ok hf y1 ey1
      refine va_put (D := (dC, dI)) (ci := 0) (v := .int y1) (ty := .int) (C := RX0) (T := TX0) (N := 2) hx hb hts i_X0_dropZeros_X0 tyX0 tyX0_ok nmX0 hown hK hP hD hS 0 rfl rfl 1 (by decide) (hts (.fieldLink RX0 13 "TokenRow$Big" "used" "I") (List.mem_of_getElem? (i := 1) rfl)) (fun _ h9 => h9) rfl (by decide +kernel) rfl rfl (Nat.le_of_ble_eq_true rfl) dX0_dropZeros_28 (fun H2 locs hP hD hS => ?_)
      have hP : va_P (dC, dI) vwCl [(aB, .inr (0, [.ref aBl, .int y1])), (aBl, .inl (cyI, 136, .inl Bl))] H2 := hP
      have hD : va_D A [(aB, .inr (0, [.ref aBl, .int y1])), (aBl, .inl (cyI, 136, .inl Bl))] := hD
      refine lv_goto (tgt := 0) hx hb dX0_dropZeros_31 (by decide) ?_
      exact hr0 _ _ _ hf hP hD hS ls (lv_sub hl [0] rfl)
def f_X0_dropZeros_0 (n : Nat) (Bl : Nat → Int32) : Nat → Int32 → Option (Int32)
  | 0 => fun _ => none
  | k + 1 => fun B_used => fb_X0_dropZeros_0 n (f_X0_dropZeros_0 n Bl k) Bl B_used
set_option maxHeartbeats 4000000 in
set_option maxRecDepth 100000 in
theorem k_X0_dropZeros_0 {p : Program} {l : Launch} {e : Env} {s : State} {m : MethodId} {args : Array Value} {below : List Frame} {meth : Method} {c : Code} {dC : Nat → ClassId} {dI : Nat → Nat → Nat} {cyB cyC cyI cyJ cyZ : ClassId} {aB aBl : Nat} {Bl : Nat → Int32} {A : Nat → Prop} {out : Int32} (CX : cx cX0_dropZeros none 1 RX0 wsX0_dropZeros (dC, dI) (TY cyB cyC cyI cyJ cyZ) p s m args meth c) (hA : ∀ q : Nat, s.heap.size ≤ q → A q) (n : Nat) : ∀ k : Nat, J_X0_dropZeros_0 p l e s m args below meth c dC dI cyB cyC cyI cyJ cyZ aB aBl Bl A out (f_X0_dropZeros_0 n Bl k) := by
  intro k
  induction k with
  | zero =>
    intro B_used H locs hf
    exact absurd (show (none : Option (Int32)) = some out from hf) (by simp)
  | succ k ih =>
    exact kb_X0_dropZeros_0 CX hA n ih
def f_X0_dropZeros (n : Nat) (B_used : Int32) (Bl : Nat → Int32) : Option (Int32) := f_X0_dropZeros_0 n Bl n B_used 
set_option maxHeartbeats 4000000 in
set_option maxRecDepth 100000 in
/-- TokenRow$Big.dropZeros()V -/
theorem m_X0_dropZeros (l : Launch) (dC : Nat → ClassId) (dI : Nat → Nat → Nat) (cyB cyC cyI cyJ cyZ : ClassId) (aB aBl : Nat) (sz : Nat) (B_used : Int32) (Bl : Nat → Int32) (n : Nat) (out : Int32) (hf : f_X0_dropZeros n B_used Bl = some out) : Met l yX0_dropZeros wsX0_dropZeros rm_X0_dropZeros (Prw (dC, dI) (TY cyB cyC cyI cyJ cyZ) [.ref aB] sz [(aB, .inr (0, [.ref aBl, .int B_used])), (aBl, .inl (cyI, 136, .inl Bl))]) (va_Qv (fun (u : Int32) => u = out) (Bw (dC, dI) (va_A [(aB, .inr (0, [.ref aBl, .int B_used])), (aBl, .inl (cyI, 136, .inl Bl))] sz) (fun u => [(aB, .inr (0, [.ref aBl, .int u])), (aBl, .inl (cyI, 136, .inl Bl))])) (va_A [(aB, .inr (0, [.ref aBl, .int B_used])), (aBl, .inl (cyI, 136, .inl Bl))] sz)) 0 0 (va_A [(aB, .inr (0, [.ref aBl, .int B_used])), (aBl, .inl (cyI, 136, .inl Bl))] sz) := by
  refine Met.ofW (cc := cX0_dropZeros) (maxL := 1) (ret := none) (by decide) rfl ?_
  intro p e s m args below meth c s₁ B hml hv
  obtain ⟨rfl, hsz, hP, hK, hD0, hN⟩ := hv
  subst hsz
  have hD := hD0.self (sz := s.heap.size)
  have CX : cx cX0_dropZeros none 1 RX0 wsX0_dropZeros (dC, dI) (TY cyB cyC cyI cyJ cyZ) p s m ([.ref aB] : List Value).toArray meth c := ⟨B.exec, B.bytes, B.returns, hml, findClass_of_methodNamed B.named, atoms_spec (ws := wsX0_dropZeros) B.pre, B.notSynchronized, hK, hN⟩
  have hl := lv_entry ([.ref aB]) (n := 1) (Nat.le_of_ble_eq_true rfl)
  rw [lg_entry_eq]
  exact k_X0_dropZeros_0 CX (fun q h => Or.inr h) n n _ _ _ hf hP hD va_S.rf _ hl
abbrev rm_X0_timesPlus : Room := { frames := 0, cells := 0, slots := 0, locals := 0 }
theorem i_X0_timesPlus_X0 : ∀ w ∈ u_ws RX0 TX0 2, w ∈ wsX0_timesPlus := fun _ h => (List.mem_cons_of_mem _ (List.mem_append_right _ h))
def J_X0_timesPlus_6 (p : Program) (l : Launch) (e : Env) (s : State) (m : MethodId) (args : Array Value) (below : List Frame) (meth : Method) (c : Code) (dC : Nat → ClassId) (dI : Nat → Nat → Nat) (cyB cyC cyI cyJ cyZ : ClassId) (aB aBl : Nat) (A : Nat → Prop) (out : Int32 × (Nat → Int32)) (g : Int32 → (Nat → Int32) → Int32 → Int64 → Int32 → Option (Int32 × (Nat → Int32))) : Prop := ∀ (B_used : Int32) (Bl : Nat → Int32) (x1 : Int32) (x3 : Int64) (x5 : Int32) (H : Heap) (locs : List Loc), g B_used Bl x1 x3 x5 = some out → va_P (dC, dI) vwCl [(aB, .inr (0, [.ref aBl, .int B_used])), (aBl, .inl (cyI, 136, .inl Bl))] H → va_D A [(aB, .inr (0, [.ref aBl, .int B_used])), (aBl, .inl (cyI, 136, .inl Bl))] → va_S A s.heap H locs → ∀ ls : Array Slot, lv_has ls 6 [(0, .ref aB), (1, .int x1), (3, .long x3), (5, .int x5)] → W p l e rm_X0_timesPlus s m args below meth c H locs 0 0 (MQ below (va_Qv (fun (u : Int32 × (Nat → Int32)) => u = out) (Bw (dC, dI) A (fun u => [(aB, .inr (0, [.ref aBl, .int u.1])), (aBl, .inl (cyI, 136, .inl u.2))])) A) args s 0 0 A) (F0 m 6 ls [])
def J_X0_timesPlus_0 (p : Program) (l : Launch) (e : Env) (s : State) (m : MethodId) (args : Array Value) (below : List Frame) (meth : Method) (c : Code) (dC : Nat → ClassId) (dI : Nat → Nat → Nat) (cyB cyC cyI cyJ cyZ : ClassId) (aB aBl : Nat) (A : Nat → Prop) (out : Int32 × (Nat → Int32)) (g : Int32 → (Nat → Int32) → Int32 → Int32 → Option (Int32 × (Nat → Int32))) : Prop := ∀ (B_used : Int32) (Bl : Nat → Int32) (x1 : Int32) (x2 : Int32) (H : Heap) (locs : List Loc), g B_used Bl x1 x2 = some out → va_P (dC, dI) vwCl [(aB, .inr (0, [.ref aBl, .int B_used])), (aBl, .inl (cyI, 136, .inl Bl))] H → va_D A [(aB, .inr (0, [.ref aBl, .int B_used])), (aBl, .inl (cyI, 136, .inl Bl))] → va_S A s.heap H locs → ∀ ls : Array Slot, lv_has ls 6 [(0, .ref aB), (1, .int x1), (2, .int x2)] → W p l e rm_X0_timesPlus s m args below meth c H locs 0 0 (MQ below (va_Qv (fun (u : Int32 × (Nat → Int32)) => u = out) (Bw (dC, dI) A (fun u => [(aB, .inr (0, [.ref aBl, .int u.1])), (aBl, .inl (cyI, 136, .inl u.2))])) A) args s 0 0 A) (F0 m 0 ls [])
def fb_X0_timesPlus_6 (n : Nat) (r6 : Int32 → (Nat → Int32) → Int32 → Int64 → Int32 → Option (Int32 × (Nat → Int32))) (B_used : Int32) (Bl : Nat → Int32) (x1 : Int32) (x3 : Int64) (x5 : Int32) : Option (Int32 × (Nat → Int32)) :=
  if B_used ≤ x5 then
  (if (lg_cmp x3 (0 : Int64)) = 0 then
  (some (B_used, Bl))
  else
  (if (136 : Int32) ≤ B_used then
  (some (B_used, Bl))
  else
  (gu (gd B_used 136) (
  lt_ (B_used + (1 : Int32)) fun y2 =>
  some (y2, (upd Bl (B_used).toNatClampNeg x3.toInt32))))))
  else
  (gu (gd x5 136) (
  lt_ (x3 + ((((Bl (x5).toNatClampNeg).toInt64) &&& (4294967295 : Int64)) * x1.toInt64)) fun y4 =>
  gu (gd x5 136) (
  lt_ ((y4.toUInt64 >>> ((32 : Int32).toInt64.toUInt64 &&& Int64.toUInt64 63)).toInt64) fun y6 =>
  lt_ (x5 + (1 : Int32)) fun y7 =>
  r6 B_used (upd Bl (x5).toNatClampNeg y4.toInt32) x1 y6 y7)))
set_option maxHeartbeats 4000000 in
set_option maxRecDepth 100000 in
theorem kb_X0_timesPlus_6 {p : Program} {l : Launch} {e : Env} {s : State} {m : MethodId} {args : Array Value} {below : List Frame} {meth : Method} {c : Code} {dC : Nat → ClassId} {dI : Nat → Nat → Nat} {cyB cyC cyI cyJ cyZ : ClassId} {aB aBl : Nat} {A : Nat → Prop} {out : Int32 × (Nat → Int32)} (CX : cx cX0_timesPlus none 6 RX0 wsX0_timesPlus (dC, dI) (TY cyB cyC cyI cyJ cyZ) p s m args meth c) (hA : ∀ q : Nat, s.heap.size ≤ q → A q) (n : Nat) {r6 : Int32 → (Nat → Int32) → Int32 → Int64 → Int32 → Option (Int32 × (Nat → Int32))} (hr6 : J_X0_timesPlus_6 p l e s m args below meth c dC dI cyB cyC cyI cyJ cyZ aB aBl A out r6) : J_X0_timesPlus_6 p l e s m args below meth c dC dI cyB cyC cyI cyJ cyZ aB aBl A out (fb_X0_timesPlus_6 n r6) := by
  intro B_used Bl x1 x3 x5 H locs hf hP hD hS ls hl
  obtain ⟨hx, hb, hr, hml, hown, hts, hlocks, hK, hN⟩ := id CX
  unfold fb_X0_timesPlus_6 at hf
  refine lv_iload hx hb dX0_timesPlus_6 (lv_at hl 3 rfl) ?_
  refine lv_aload_n hx hb dX0_timesPlus_8 rfl (lv_at hl 0 rfl) ?_
  refine va_get (D := (dC, dI)) (ci := 0) (v := .int B_used) (C := RX0) (T := TX0) (N := 2) hx hb hts i_X0_timesPlus_X0 hown hK hP 0 rfl rfl 1 (by decide) (hts (.fieldLink RX0 13 "TokenRow$Big" "used" "I") (List.mem_of_getElem? (i := 1) rfl)) (fun _ h9 => h9) rfl dX0_timesPlus_9 ?_
  refine lv_icmp_ge (tgt := 53) hx hb dX0_timesPlus_12 (by decide) (fun hc => ?_) (fun hc => ?_)
  · have hf := (if_pos hc).symm.trans hf
    refine lv_lload_n hx hb dX0_timesPlus_53 rfl (lv_at hl 2 rfl) ?_
    refine lv_lconst (v := (0 : Int64)) hx hb dX0_timesPlus_54 (by decide) ?_
    refine W.lcmp hx hb dX0_timesPlus_55 ?_
    refine lv_if_eq (tgt := 90) hx hb dX0_timesPlus_56 (by decide) (fun hc => ?_) (fun hc => ?_)
    · have hf := (if_pos hc).symm.trans hf
      exact W.vret hx hb hr (fun t ht hW => ⟨⟨(B_used, Bl), rfl, Option.some.inj hf, by rw [ht]; exact hP, hD⟩, hS.F ht⟩) hS.2.2 dX0_timesPlus_90
    · have hf := (if_neg hc).symm.trans hf
      refine lv_aload_n hx hb dX0_timesPlus_59 rfl (lv_at hl 0 rfl) ?_
      refine va_get (D := (dC, dI)) (ci := 0) (v := .int B_used) (C := RX0) (T := TX0) (N := 2) hx hb hts i_X0_timesPlus_X0 hown hK hP 0 rfl rfl 1 (by decide) (hts (.fieldLink RX0 13 "TokenRow$Big" "used" "I") (List.mem_of_getElem? (i := 1) rfl)) (fun _ h9 => h9) rfl dX0_timesPlus_60 ?_
      refine lv_sipush (v := (136 : Int32)) hx hb dX0_timesPlus_63 (by decide) ?_
      refine lv_icmp_ge (tgt := 90) hx hb dX0_timesPlus_66 (by decide) (fun hc => ?_) (fun hc => ?_)
      · have hf := (if_pos hc).symm.trans hf
        exact W.vret hx hb hr (fun t ht hW => ⟨⟨(B_used, Bl), rfl, Option.some.inj hf, by rw [ht]; exact hP, hD⟩, hS.F ht⟩) hS.2.2 dX0_timesPlus_90
      · have hf := (if_neg hc).symm.trans hf
        refine lv_aload_n hx hb dX0_timesPlus_69 rfl (lv_at hl 0 rfl) ?_
        refine va_get (D := (dC, dI)) (ci := 0) (v := .ref aBl) (C := RX0) (T := TX0) (N := 2) hx hb hts i_X0_timesPlus_X0 hown hK hP 0 rfl rfl 0 (by decide) (hts (.fieldLink RX0 9 "TokenRow$Big" "limbs" "[I") (List.mem_of_getElem? (i := 2) rfl)) (fun _ h9 => h9) rfl dX0_timesPlus_70 ?_
        refine lv_aload_n hx hb dX0_timesPlus_73 rfl (lv_at hl 0 rfl) ?_
        refine va_get (D := (dC, dI)) (ci := 0) (v := .int B_used) (C := RX0) (T := TX0) (N := 2) hx hb hts i_X0_timesPlus_X0 hown hK hP 0 rfl rfl 1 (by decide) (hts (.fieldLink RX0 13 "TokenRow$Big" "used" "I") (List.mem_of_getElem? (i := 1) rfl)) (fun _ h9 => h9) rfl dX0_timesPlus_74 ?_
        refine lv_lload_n hx hb dX0_timesPlus_77 rfl (lv_at hl 2 rfl) ?_
        refine lv_l2i (v := x3.toInt32) hx hb dX0_timesPlus_78 rfl ?_
        obtain ⟨hg, hf⟩ := gu_ok hf
        refine va_iast hx hb hK hP hD hS 1 2 rfl rfl (gd_in hg) dX0_timesPlus_79 (fun H1 locs hP hD hS => ?_)
        have hP : va_P (dC, dI) vwCl [(aB, .inr (0, [.ref aBl, .int B_used])), (aBl, .inl (cyI, 136, .inl (upd Bl (B_used).toNatClampNeg x3.toInt32)))] H1 := hP
        have hD : va_D A [(aB, .inr (0, [.ref aBl, .int B_used])), (aBl, .inl (cyI, 136, .inl (upd Bl (B_used).toNatClampNeg x3.toInt32)))] := hD
        refine lv_aload_n hx hb dX0_timesPlus_80 rfl (lv_at hl 0 rfl) ?_
        refine lv_dup hx hb dX0_timesPlus_81 rfl ?_
        refine va_get (D := (dC, dI)) (ci := 0) (v := .int B_used) (C := RX0) (T := TX0) (N := 2) hx hb hts i_X0_timesPlus_X0 hown hK hP 0 rfl rfl 1 (by decide) (hts (.fieldLink RX0 13 "TokenRow$Big" "used" "I") (List.mem_of_getElem? (i := 1) rfl)) (fun _ h9 => h9) rfl dX0_timesPlus_82 ?_
        refine lv_iconst (v := (1 : Int32)) hx hb dX0_timesPlus_85 (by decide) ?_
        refine lv_iadd hx hb dX0_timesPlus_86 ?_
        refine lv_topi (fun y2 ey2 => ?_)
        have hf := lt_ok hf y2 ey2
        refine va_put (D := (dC, dI)) (ci := 0) (v := .int y2) (ty := .int) (C := RX0) (T := TX0) (N := 2) hx hb hts i_X0_timesPlus_X0 tyX0 tyX0_ok nmX0 hown hK hP hD hS 0 rfl rfl 1 (by decide) (hts (.fieldLink RX0 13 "TokenRow$Big" "used" "I") (List.mem_of_getElem? (i := 1) rfl)) (fun _ h9 => h9) rfl (by decide +kernel) rfl rfl (Nat.le_of_ble_eq_true rfl) dX0_timesPlus_87 (fun H3 locs hP hD hS => ?_)
        have hP : va_P (dC, dI) vwCl [(aB, .inr (0, [.ref aBl, .int y2])), (aBl, .inl (cyI, 136, .inl (upd Bl (B_used).toNatClampNeg x3.toInt32)))] H3 := hP
        have hD : va_D A [(aB, .inr (0, [.ref aBl, .int y2])), (aBl, .inl (cyI, 136, .inl (upd Bl (B_used).toNatClampNeg x3.toInt32)))] := hD
        exact W.vret hx hb hr (fun t ht hW => ⟨⟨(y2, (upd Bl (B_used).toNatClampNeg x3.toInt32)), rfl, Option.some.inj hf, by rw [ht]; exact hP, hD⟩, hS.F ht⟩) hS.2.2 dX0_timesPlus_90
  · have hf := (if_neg hc).symm.trans hf
    refine lv_lload_n hx hb dX0_timesPlus_15 rfl (lv_at hl 2 rfl) ?_
    refine lv_aload_n hx hb dX0_timesPlus_16 rfl (lv_at hl 0 rfl) ?_
    refine va_get (D := (dC, dI)) (ci := 0) (v := .ref aBl) (C := RX0) (T := TX0) (N := 2) hx hb hts i_X0_timesPlus_X0 hown hK hP 0 rfl rfl 0 (by decide) (hts (.fieldLink RX0 9 "TokenRow$Big" "limbs" "[I") (List.mem_of_getElem? (i := 2) rfl)) (fun _ h9 => h9) rfl dX0_timesPlus_17 ?_
    refine lv_iload hx hb dX0_timesPlus_20 (lv_at hl 3 rfl) ?_
    obtain ⟨hg, hf⟩ := gu_ok hf
    refine va_iald hx hb hK hP 1 2 rfl rfl (gd_in hg) dX0_timesPlus_22 ?_
    refine lv_i2l (v := (Bl (x5).toNatClampNeg).toInt64) hx hb dX0_timesPlus_23 rfl ?_
    refine lv_ldc2 (v := (4294967295 : Int64)) hx hb hown (hts (.constantLong RX0 17 (4294967295)) (List.mem_of_getElem? (i := 3) rfl)) dX0_timesPlus_24 ?_
    refine lv_land hx hb dX0_timesPlus_27 ?_
    refine lv_iload_n hx hb dX0_timesPlus_28 rfl (lv_at hl 1 rfl) ?_
    refine lv_i2l (v := x1.toInt64) hx hb dX0_timesPlus_29 rfl ?_
    refine lv_lmul hx hb dX0_timesPlus_30 ?_
    refine lv_ladd hx hb dX0_timesPlus_31 ?_
    refine lv_topl (fun y4 ey4 => ?_)
    have hf := lt_ok hf y4 ey4
    refine lv_lstore_n (lv' := [(3, .long y4), (0, .ref aB), (1, .int x1), (5, .int x5)]) hx hb dX0_timesPlus_32 rfl hl (by decide) rfl (fun ls hl => ?_)
    refine lv_aload_n hx hb dX0_timesPlus_33 rfl (lv_at hl 1 rfl) ?_
    refine va_get (D := (dC, dI)) (ci := 0) (v := .ref aBl) (C := RX0) (T := TX0) (N := 2) hx hb hts i_X0_timesPlus_X0 hown hK hP 0 rfl rfl 0 (by decide) (hts (.fieldLink RX0 9 "TokenRow$Big" "limbs" "[I") (List.mem_of_getElem? (i := 2) rfl)) (fun _ h9 => h9) rfl dX0_timesPlus_34 ?_
    refine lv_iload hx hb dX0_timesPlus_37 (lv_at hl 3 rfl) ?_
    refine lv_lload_n hx hb dX0_timesPlus_39 rfl (lv_at hl 0 rfl) ?_
    refine lv_l2i (v := y4.toInt32) hx hb dX0_timesPlus_40 rfl ?_
    obtain ⟨hg, hf⟩ := gu_ok hf
    refine va_iast hx hb hK hP hD hS 1 2 rfl rfl (gd_in hg) dX0_timesPlus_41 (fun H5 locs hP hD hS => ?_)
    have hP : va_P (dC, dI) vwCl [(aB, .inr (0, [.ref aBl, .int B_used])), (aBl, .inl (cyI, 136, .inl (upd Bl (x5).toNatClampNeg y4.toInt32)))] H5 := hP
    have hD : va_D A [(aB, .inr (0, [.ref aBl, .int B_used])), (aBl, .inl (cyI, 136, .inl (upd Bl (x5).toNatClampNeg y4.toInt32)))] := hD
    refine lv_lload_n hx hb dX0_timesPlus_42 rfl (lv_at hl 0 rfl) ?_
    refine lv_bipush (v := (32 : Int32)) hx hb dX0_timesPlus_43 (by decide) ?_
    refine lv_lushr (v := (y4.toUInt64 >>> ((32 : Int32).toInt64.toUInt64 &&& Int64.toUInt64 63)).toInt64) hx hb dX0_timesPlus_45 rfl ?_
    refine lv_topl (fun y6 ey6 => ?_)
    have hf := lt_ok hf y6 ey6
    refine lv_lstore_n (lv' := [(3, .long y6), (0, .ref aB), (1, .int x1), (5, .int x5)]) hx hb dX0_timesPlus_46 rfl hl (by decide) rfl (fun ls hl => ?_)
    obtain ⟨y7, ey7⟩ : ∃ y : Int32, y = x5 + (1 : Int32) := ⟨_, rfl⟩
    have hf := lt_ok hf y7 ey7
    refine lv_iinc (v := y7) (lv' := [(5, .int y7), (3, .long y6), (0, .ref aB), (1, .int x1)]) hx hb dX0_timesPlus_47 hl (k := 3) rfl (by rw [ey7]; rfl) (by decide) rfl (fun ls hl => ?_)
    refine lv_goto (tgt := 6) hx hb dX0_timesPlus_50 (by decide) ?_
    exact hr6 _ _ _ _ _ _ _ hf hP hD hS ls (lv_sub hl [2, 3, 1, 0] rfl)
def f_X0_timesPlus_6 (n : Nat) : Nat → Int32 → (Nat → Int32) → Int32 → Int64 → Int32 → Option (Int32 × (Nat → Int32))
  | 0 => fun _ _ _ _ _ => none
  | k + 1 => fun B_used Bl x1 x3 x5 => fb_X0_timesPlus_6 n (f_X0_timesPlus_6 n k) B_used Bl x1 x3 x5
set_option maxHeartbeats 4000000 in
set_option maxRecDepth 100000 in
theorem k_X0_timesPlus_6 {p : Program} {l : Launch} {e : Env} {s : State} {m : MethodId} {args : Array Value} {below : List Frame} {meth : Method} {c : Code} {dC : Nat → ClassId} {dI : Nat → Nat → Nat} {cyB cyC cyI cyJ cyZ : ClassId} {aB aBl : Nat} {A : Nat → Prop} {out : Int32 × (Nat → Int32)} (CX : cx cX0_timesPlus none 6 RX0 wsX0_timesPlus (dC, dI) (TY cyB cyC cyI cyJ cyZ) p s m args meth c) (hA : ∀ q : Nat, s.heap.size ≤ q → A q) (n : Nat) : ∀ k : Nat, J_X0_timesPlus_6 p l e s m args below meth c dC dI cyB cyC cyI cyJ cyZ aB aBl A out (f_X0_timesPlus_6 n k) := by
  intro k
  induction k with
  | zero =>
    intro B_used Bl x1 x3 x5 H locs hf
    exact absurd (show (none : Option (Int32 × (Nat → Int32))) = some out from hf) (by simp)
  | succ k ih =>
    exact kb_X0_timesPlus_6 CX hA n ih
def f_X0_timesPlus_0 (n : Nat) (B_used : Int32) (Bl : Nat → Int32) (x1 : Int32) (x2 : Int32) : Option (Int32 × (Nat → Int32)) :=
  f_X0_timesPlus_6 n n B_used Bl x1 x2.toInt64 (0 : Int32)
set_option maxHeartbeats 4000000 in
set_option maxRecDepth 100000 in
theorem k_X0_timesPlus_0 {p : Program} {l : Launch} {e : Env} {s : State} {m : MethodId} {args : Array Value} {below : List Frame} {meth : Method} {c : Code} {dC : Nat → ClassId} {dI : Nat → Nat → Nat} {cyB cyC cyI cyJ cyZ : ClassId} {aB aBl : Nat} {A : Nat → Prop} {out : Int32 × (Nat → Int32)} (CX : cx cX0_timesPlus none 6 RX0 wsX0_timesPlus (dC, dI) (TY cyB cyC cyI cyJ cyZ) p s m args meth c) (hA : ∀ q : Nat, s.heap.size ≤ q → A q) (n : Nat) : J_X0_timesPlus_0 p l e s m args below meth c dC dI cyB cyC cyI cyJ cyZ aB aBl A out (f_X0_timesPlus_0 n) := by
  intro B_used Bl x1 x2 H locs hf hP hD hS ls hl
  obtain ⟨hx, hb, hr, hml, hown, hts, hlocks, hK, hN⟩ := id CX
  unfold f_X0_timesPlus_0 at hf
  refine lv_iload_n hx hb dX0_timesPlus_0 rfl (lv_at hl 2 rfl) ?_
  refine lv_i2l (v := x2.toInt64) hx hb dX0_timesPlus_1 rfl ?_
  refine lv_lstore_n (lv' := [(3, .long x2.toInt64), (0, .ref aB), (1, .int x1), (2, .int x2)]) hx hb dX0_timesPlus_2 rfl hl (by decide) rfl (fun ls hl => ?_)
  refine lv_iconst (v := (0 : Int32)) hx hb dX0_timesPlus_3 (by decide) ?_
  refine lv_istore (lv' := [(5, .int (0 : Int32)), (3, .long x2.toInt64), (0, .ref aB), (1, .int x1), (2, .int x2)]) hx hb dX0_timesPlus_4 hl (by decide) rfl (fun ls hl => ?_)
  exact k_X0_timesPlus_6 CX hA n n _ _ _ _ _ _ _ hf hP hD hS ls (lv_sub hl [2, 3, 1, 0] rfl)
def f_X0_timesPlus (n : Nat) (p1 : Int32) (p2 : Int32) (B_used : Int32) (Bl : Nat → Int32) : Option (Int32 × (Nat → Int32)) := f_X0_timesPlus_0 n B_used Bl p1 p2
set_option maxHeartbeats 4000000 in
set_option maxRecDepth 100000 in
/-- TokenRow$Big.timesPlus(II)V -/
theorem m_X0_timesPlus (l : Launch) (dC : Nat → ClassId) (dI : Nat → Nat → Nat) (cyB cyC cyI cyJ cyZ : ClassId) (aB aBl : Nat) (sz : Nat) (p1 : Int32) (p2 : Int32) (B_used : Int32) (Bl : Nat → Int32) (n : Nat) (out : Int32 × (Nat → Int32)) (hf : f_X0_timesPlus n p1 p2 B_used Bl = some out) : Met l yX0_timesPlus wsX0_timesPlus rm_X0_timesPlus (Prw (dC, dI) (TY cyB cyC cyI cyJ cyZ) [.ref aB, .int p1, .int p2] sz [(aB, .inr (0, [.ref aBl, .int B_used])), (aBl, .inl (cyI, 136, .inl Bl))]) (va_Qv (fun (u : Int32 × (Nat → Int32)) => u = out) (Bw (dC, dI) (va_A [(aB, .inr (0, [.ref aBl, .int B_used])), (aBl, .inl (cyI, 136, .inl Bl))] sz) (fun u => [(aB, .inr (0, [.ref aBl, .int u.1])), (aBl, .inl (cyI, 136, .inl u.2))])) (va_A [(aB, .inr (0, [.ref aBl, .int B_used])), (aBl, .inl (cyI, 136, .inl Bl))] sz)) 0 0 (va_A [(aB, .inr (0, [.ref aBl, .int B_used])), (aBl, .inl (cyI, 136, .inl Bl))] sz) := by
  refine Met.ofW (cc := cX0_timesPlus) (maxL := 6) (ret := none) (by decide) rfl ?_
  intro p e s m args below meth c s₁ B hml hv
  obtain ⟨rfl, hsz, hP, hK, hD0, hN⟩ := hv
  subst hsz
  have hD := hD0.self (sz := s.heap.size)
  have CX : cx cX0_timesPlus none 6 RX0 wsX0_timesPlus (dC, dI) (TY cyB cyC cyI cyJ cyZ) p s m ([.ref aB, .int p1, .int p2] : List Value).toArray meth c := ⟨B.exec, B.bytes, B.returns, hml, findClass_of_methodNamed B.named, atoms_spec (ws := wsX0_timesPlus) B.pre, B.notSynchronized, hK, hN⟩
  have hl := lv_entry ([.ref aB, .int p1, .int p2]) (n := 6) (Nat.le_of_ble_eq_true rfl)
  rw [lg_entry_eq]
  exact k_X0_timesPlus_0 CX (fun q h => Or.inr h) n _ _ _ _ _ _ hf hP hD va_S.rf _ hl
abbrev rm_X0_compareWith : Room := { frames := 0, cells := 0, slots := 0, locals := 0 }
theorem i_X0_compareWith_X0 : ∀ w ∈ u_ws RX0 TX0 2, w ∈ wsX0_compareWith := fun _ h => (List.mem_cons_of_mem _ (List.mem_append_right _ h))
def J_X0_compareWith_35 (p : Program) (l : Launch) (e : Env) (s : State) (m : MethodId) (args : Array Value) (below : List Frame) (meth : Method) (c : Code) (dC : Nat → ClassId) (dI : Nat → Nat → Nat) (cyB cyC cyI cyJ cyZ : ClassId) (aB aBl aE aEl : Nat) (B_used : Int32) (Bl : Nat → Int32) (E_used : Int32) (El : Nat → Int32) (out : Int32) (g : Int32 → Option (Int32)) : Prop := ∀ (x2 : Int32), g x2 = some out → ∀ ls : Array Slot, lv_has ls 3 [(0, .ref aB), (1, .ref aE), (2, .int x2)] → W p l e rm_X0_compareWith s m args below meth c s.heap [] 0 0 (MQ below (vp_Si (fun r => r = out)) args s 0 0 (fun _ => False)) (F0 m 35 ls [])
def J_X0_compareWith_0 (p : Program) (l : Launch) (e : Env) (s : State) (m : MethodId) (args : Array Value) (below : List Frame) (meth : Method) (c : Code) (dC : Nat → ClassId) (dI : Nat → Nat → Nat) (cyB cyC cyI cyJ cyZ : ClassId) (aB aBl aE aEl : Nat) (B_used : Int32) (Bl : Nat → Int32) (E_used : Int32) (El : Nat → Int32) (out : Int32) (g : Option (Int32)) : Prop := g = some out → ∀ ls : Array Slot, lv_has ls 3 [(0, .ref aB), (1, .ref aE)] → W p l e rm_X0_compareWith s m args below meth c s.heap [] 0 0 (MQ below (vp_Si (fun r => r = out)) args s 0 0 (fun _ => False)) (F0 m 0 ls [])
def fb_X0_compareWith_35 (n : Nat) (r35 : Int32 → Option (Int32)) (B_used : Int32) (Bl : Nat → Int32) (E_used : Int32) (El : Nat → Int32) (x2 : Int32) : Option (Int32) :=
  if x2 < 0 then
  (some (0 : Int32))
  else
  (gu (gd x2 136) (
  gu (gd x2 136) (
  if (Bl (x2).toNatClampNeg) = (El (x2).toNatClampNeg) then
  (lt_ (x2 + (-1 : Int32)) fun y1 =>
  r35 y1)
  else
  (gu (gd x2 136) (
  gu (gd x2 136) (
  if 0 ≤ (lg_cmp (((Bl (x2).toNatClampNeg).toInt64) &&& (4294967295 : Int64)) (((El (x2).toNatClampNeg).toInt64) &&& (4294967295 : Int64))) then
  (some (1 : Int32))
  else
  (some (-1 : Int32))))))))
set_option maxHeartbeats 4000000 in
set_option maxRecDepth 100000 in
theorem kb_X0_compareWith_35 {p : Program} {l : Launch} {e : Env} {s : State} {m : MethodId} {args : Array Value} {below : List Frame} {meth : Method} {c : Code} {dC : Nat → ClassId} {dI : Nat → Nat → Nat} {cyB cyC cyI cyJ cyZ : ClassId} {aB aBl aE aEl : Nat} {B_used : Int32} {Bl : Nat → Int32} {E_used : Int32} {El : Nat → Int32} {out : Int32} (CX : cx cX0_compareWith (some .int) 3 RX0 wsX0_compareWith (dC, dI) (TY cyB cyC cyI cyJ cyZ) p s m args meth c) (hP : va_P (dC, dI) vwCl [(aB, .inr (0, [.ref aBl, .int B_used])), (aBl, .inl (cyI, 136, .inl Bl)), (aE, .inr (0, [.ref aEl, .int E_used])), (aEl, .inl (cyI, 136, .inl El))] s.heap) (n : Nat) {r35 : Int32 → Option (Int32)} (hr35 : J_X0_compareWith_35 p l e s m args below meth c dC dI cyB cyC cyI cyJ cyZ aB aBl aE aEl B_used Bl E_used El out r35) : J_X0_compareWith_35 p l e s m args below meth c dC dI cyB cyC cyI cyJ cyZ aB aBl aE aEl B_used Bl E_used El out (fb_X0_compareWith_35 n r35 B_used Bl E_used El) := by
  intro x2 hf ls hl
  obtain ⟨hx, hb, hr, hml, hown, hts, hlocks, hK, hN⟩ := id CX
  unfold fb_X0_compareWith_35 at hf
  refine lv_iload_n hx hb dX0_compareWith_35 rfl (lv_at hl 2 rfl) ?_
  refine lv_if_lt (tgt := 92) hx hb dX0_compareWith_36 (by decide) (fun hc => ?_) (fun hc => ?_)
  · have hf := (if_pos hc).symm.trans hf
    refine lv_iconst (v := (0 : Int32)) hx hb dX0_compareWith_92 (by decide) ?_
    exact W.iret (v := (0 : Int32)) hx hb hr (fun t ht hW => ⟨_, rfl, Option.some.inj hf, ht⟩) (fun _ h => nomatch h) dX0_compareWith_93
  · have hf := (if_neg hc).symm.trans hf
    refine lv_aload_n hx hb dX0_compareWith_39 rfl (lv_at hl 0 rfl) ?_
    refine va_get (D := (dC, dI)) (ci := 0) (v := .ref aBl) (C := RX0) (T := TX0) (N := 2) hx hb hts i_X0_compareWith_X0 hown hK hP 0 rfl rfl 0 (by decide) (hts (.fieldLink RX0 9 "TokenRow$Big" "limbs" "[I") (List.mem_of_getElem? (i := 2) rfl)) (fun _ h9 => h9) rfl dX0_compareWith_40 ?_
    refine lv_iload_n hx hb dX0_compareWith_43 rfl (lv_at hl 2 rfl) ?_
    obtain ⟨hg, hf⟩ := gu_ok hf
    refine va_iald hx hb hK hP 1 2 rfl rfl (gd_in hg) dX0_compareWith_44 ?_
    refine lv_aload_n hx hb dX0_compareWith_45 rfl (lv_at hl 1 rfl) ?_
    refine va_get (D := (dC, dI)) (ci := 0) (v := .ref aEl) (C := RX0) (T := TX0) (N := 2) hx hb hts i_X0_compareWith_X0 hown hK hP 2 rfl rfl 0 (by decide) (hts (.fieldLink RX0 9 "TokenRow$Big" "limbs" "[I") (List.mem_of_getElem? (i := 2) rfl)) (fun _ h9 => h9) rfl dX0_compareWith_46 ?_
    refine lv_iload_n hx hb dX0_compareWith_49 rfl (lv_at hl 2 rfl) ?_
    obtain ⟨hg, hf⟩ := gu_ok hf
    refine va_iald hx hb hK hP 3 2 rfl rfl (gd_in hg) dX0_compareWith_50 ?_
    refine lv_icmp_eq (tgt := 86) hx hb dX0_compareWith_51 (by decide) (fun hc => ?_) (fun hc => ?_)
    · have hf := (if_pos hc).symm.trans hf
      obtain ⟨y1, ey1⟩ : ∃ y : Int32, y = x2 + (-1 : Int32) := ⟨_, rfl⟩
      have hf := lt_ok hf y1 ey1
      refine lv_iinc (v := y1) (lv' := [(2, .int y1), (0, .ref aB), (1, .ref aE)]) hx hb dX0_compareWith_86 hl (k := 2) rfl (by rw [ey1]; rfl) (by decide) rfl (fun ls hl => ?_)
      refine lv_goto (tgt := 35) hx hb dX0_compareWith_89 (by decide) ?_
      exact hr35 _ hf ls (lv_sub hl [1, 2, 0] rfl)
    · have hf := (if_neg hc).symm.trans hf
      refine lv_aload_n hx hb dX0_compareWith_54 rfl (lv_at hl 0 rfl) ?_
      refine va_get (D := (dC, dI)) (ci := 0) (v := .ref aBl) (C := RX0) (T := TX0) (N := 2) hx hb hts i_X0_compareWith_X0 hown hK hP 0 rfl rfl 0 (by decide) (hts (.fieldLink RX0 9 "TokenRow$Big" "limbs" "[I") (List.mem_of_getElem? (i := 2) rfl)) (fun _ h9 => h9) rfl dX0_compareWith_55 ?_
      refine lv_iload_n hx hb dX0_compareWith_58 rfl (lv_at hl 2 rfl) ?_
      obtain ⟨hg, hf⟩ := gu_ok hf
      refine va_iald hx hb hK hP 1 2 rfl rfl (gd_in hg) dX0_compareWith_59 ?_
      refine lv_i2l (v := (Bl (x2).toNatClampNeg).toInt64) hx hb dX0_compareWith_60 rfl ?_
      refine lv_ldc2 (v := (4294967295 : Int64)) hx hb hown (hts (.constantLong RX0 17 (4294967295)) (List.mem_of_getElem? (i := 3) rfl)) dX0_compareWith_61 ?_
      refine lv_land hx hb dX0_compareWith_64 ?_
      refine lv_aload_n hx hb dX0_compareWith_65 rfl (lv_at hl 1 rfl) ?_
      refine va_get (D := (dC, dI)) (ci := 0) (v := .ref aEl) (C := RX0) (T := TX0) (N := 2) hx hb hts i_X0_compareWith_X0 hown hK hP 2 rfl rfl 0 (by decide) (hts (.fieldLink RX0 9 "TokenRow$Big" "limbs" "[I") (List.mem_of_getElem? (i := 2) rfl)) (fun _ h9 => h9) rfl dX0_compareWith_66 ?_
      refine lv_iload_n hx hb dX0_compareWith_69 rfl (lv_at hl 2 rfl) ?_
      obtain ⟨hg, hf⟩ := gu_ok hf
      refine va_iald hx hb hK hP 3 2 rfl rfl (gd_in hg) dX0_compareWith_70 ?_
      refine lv_i2l (v := (El (x2).toNatClampNeg).toInt64) hx hb dX0_compareWith_71 rfl ?_
      refine lv_ldc2 (v := (4294967295 : Int64)) hx hb hown (hts (.constantLong RX0 17 (4294967295)) (List.mem_of_getElem? (i := 3) rfl)) dX0_compareWith_72 ?_
      refine lv_land hx hb dX0_compareWith_75 ?_
      refine W.lcmp hx hb dX0_compareWith_76 ?_
      refine lv_if_ge (tgt := 84) hx hb dX0_compareWith_77 (by decide) (fun hc => ?_) (fun hc => ?_)
      · have hf := (if_pos hc).symm.trans hf
        refine lv_iconst (v := (1 : Int32)) hx hb dX0_compareWith_84 (by decide) ?_
        exact W.iret (v := (1 : Int32)) hx hb hr (fun t ht hW => ⟨_, rfl, Option.some.inj hf, ht⟩) (fun _ h => nomatch h) dX0_compareWith_85
      · have hf := (if_neg hc).symm.trans hf
        refine lv_iconst (v := (-1 : Int32)) hx hb dX0_compareWith_80 (by decide) ?_
        refine lv_goto (tgt := 85) hx hb dX0_compareWith_81 (by decide) ?_
        exact W.iret (v := (-1 : Int32)) hx hb hr (fun t ht hW => ⟨_, rfl, Option.some.inj hf, ht⟩) (fun _ h => nomatch h) dX0_compareWith_85
def f_X0_compareWith_35 (n : Nat) (B_used : Int32) (Bl : Nat → Int32) (E_used : Int32) (El : Nat → Int32) : Nat → Int32 → Option (Int32)
  | 0 => fun _ => none
  | k + 1 => fun x2 => fb_X0_compareWith_35 n (f_X0_compareWith_35 n B_used Bl E_used El k) B_used Bl E_used El x2
set_option maxHeartbeats 4000000 in
set_option maxRecDepth 100000 in
theorem k_X0_compareWith_35 {p : Program} {l : Launch} {e : Env} {s : State} {m : MethodId} {args : Array Value} {below : List Frame} {meth : Method} {c : Code} {dC : Nat → ClassId} {dI : Nat → Nat → Nat} {cyB cyC cyI cyJ cyZ : ClassId} {aB aBl aE aEl : Nat} {B_used : Int32} {Bl : Nat → Int32} {E_used : Int32} {El : Nat → Int32} {out : Int32} (CX : cx cX0_compareWith (some .int) 3 RX0 wsX0_compareWith (dC, dI) (TY cyB cyC cyI cyJ cyZ) p s m args meth c) (hP : va_P (dC, dI) vwCl [(aB, .inr (0, [.ref aBl, .int B_used])), (aBl, .inl (cyI, 136, .inl Bl)), (aE, .inr (0, [.ref aEl, .int E_used])), (aEl, .inl (cyI, 136, .inl El))] s.heap) (n : Nat) : ∀ k : Nat, J_X0_compareWith_35 p l e s m args below meth c dC dI cyB cyC cyI cyJ cyZ aB aBl aE aEl B_used Bl E_used El out (f_X0_compareWith_35 n B_used Bl E_used El k) := by
  intro k
  induction k with
  | zero =>
    intro x2 hf
    exact absurd (show (none : Option (Int32)) = some out from hf) (by simp)
  | succ k ih =>
    exact kb_X0_compareWith_35 CX hP n ih
def f_X0_compareWith_0 (n : Nat) (B_used : Int32) (Bl : Nat → Int32) (E_used : Int32) (El : Nat → Int32) : Option (Int32) :=
  if B_used = E_used then
  (lt_ (B_used - (1 : Int32)) fun y1 =>
  f_X0_compareWith_35 n B_used Bl E_used El n y1)
  else
  (if E_used ≤ B_used then
  (some (1 : Int32))
  else
  (some (-1 : Int32)))
set_option maxHeartbeats 4000000 in
set_option maxRecDepth 100000 in
theorem k_X0_compareWith_0 {p : Program} {l : Launch} {e : Env} {s : State} {m : MethodId} {args : Array Value} {below : List Frame} {meth : Method} {c : Code} {dC : Nat → ClassId} {dI : Nat → Nat → Nat} {cyB cyC cyI cyJ cyZ : ClassId} {aB aBl aE aEl : Nat} {B_used : Int32} {Bl : Nat → Int32} {E_used : Int32} {El : Nat → Int32} {out : Int32} (CX : cx cX0_compareWith (some .int) 3 RX0 wsX0_compareWith (dC, dI) (TY cyB cyC cyI cyJ cyZ) p s m args meth c) (hP : va_P (dC, dI) vwCl [(aB, .inr (0, [.ref aBl, .int B_used])), (aBl, .inl (cyI, 136, .inl Bl)), (aE, .inr (0, [.ref aEl, .int E_used])), (aEl, .inl (cyI, 136, .inl El))] s.heap) (n : Nat) : J_X0_compareWith_0 p l e s m args below meth c dC dI cyB cyC cyI cyJ cyZ aB aBl aE aEl B_used Bl E_used El out (f_X0_compareWith_0 n B_used Bl E_used El) := by
  intro hf ls hl
  obtain ⟨hx, hb, hr, hml, hown, hts, hlocks, hK, hN⟩ := id CX
  unfold f_X0_compareWith_0 at hf
  refine lv_aload_n hx hb dX0_compareWith_0 rfl (lv_at hl 0 rfl) ?_
  refine va_get (D := (dC, dI)) (ci := 0) (v := .int B_used) (C := RX0) (T := TX0) (N := 2) hx hb hts i_X0_compareWith_X0 hown hK hP 0 rfl rfl 1 (by decide) (hts (.fieldLink RX0 13 "TokenRow$Big" "used" "I") (List.mem_of_getElem? (i := 1) rfl)) (fun _ h9 => h9) rfl dX0_compareWith_1 ?_
  refine lv_aload_n hx hb dX0_compareWith_4 rfl (lv_at hl 1 rfl) ?_
  refine va_get (D := (dC, dI)) (ci := 0) (v := .int E_used) (C := RX0) (T := TX0) (N := 2) hx hb hts i_X0_compareWith_X0 hown hK hP 2 rfl rfl 1 (by decide) (hts (.fieldLink RX0 13 "TokenRow$Big" "used" "I") (List.mem_of_getElem? (i := 1) rfl)) (fun _ h9 => h9) rfl dX0_compareWith_5 ?_
  refine lv_icmp_eq (tgt := 28) hx hb dX0_compareWith_8 (by decide) (fun hc => ?_) (fun hc => ?_)
  · have hf := (if_pos hc).symm.trans hf
    refine lv_aload_n hx hb dX0_compareWith_28 rfl (lv_at hl 0 rfl) ?_
    refine va_get (D := (dC, dI)) (ci := 0) (v := .int B_used) (C := RX0) (T := TX0) (N := 2) hx hb hts i_X0_compareWith_X0 hown hK hP 0 rfl rfl 1 (by decide) (hts (.fieldLink RX0 13 "TokenRow$Big" "used" "I") (List.mem_of_getElem? (i := 1) rfl)) (fun _ h9 => h9) rfl dX0_compareWith_29 ?_
    refine lv_iconst (v := (1 : Int32)) hx hb dX0_compareWith_32 (by decide) ?_
    refine lv_isub hx hb dX0_compareWith_33 ?_
    refine lv_topi (fun y1 ey1 => ?_)
    have hf := lt_ok hf y1 ey1
    refine lv_istore_n (lv' := [(2, .int y1), (0, .ref aB), (1, .ref aE)]) hx hb dX0_compareWith_34 rfl hl (by decide) rfl (fun ls hl => ?_)
    exact k_X0_compareWith_35 CX hP n n _ hf ls (lv_sub hl [1, 2, 0] rfl)
  · have hf := (if_neg hc).symm.trans hf
    refine lv_aload_n hx hb dX0_compareWith_11 rfl (lv_at hl 0 rfl) ?_
    refine va_get (D := (dC, dI)) (ci := 0) (v := .int B_used) (C := RX0) (T := TX0) (N := 2) hx hb hts i_X0_compareWith_X0 hown hK hP 0 rfl rfl 1 (by decide) (hts (.fieldLink RX0 13 "TokenRow$Big" "used" "I") (List.mem_of_getElem? (i := 1) rfl)) (fun _ h9 => h9) rfl dX0_compareWith_12 ?_
    refine lv_aload_n hx hb dX0_compareWith_15 rfl (lv_at hl 1 rfl) ?_
    refine va_get (D := (dC, dI)) (ci := 0) (v := .int E_used) (C := RX0) (T := TX0) (N := 2) hx hb hts i_X0_compareWith_X0 hown hK hP 2 rfl rfl 1 (by decide) (hts (.fieldLink RX0 13 "TokenRow$Big" "used" "I") (List.mem_of_getElem? (i := 1) rfl)) (fun _ h9 => h9) rfl dX0_compareWith_16 ?_
    refine lv_icmp_ge (tgt := 26) hx hb dX0_compareWith_19 (by decide) (fun hc => ?_) (fun hc => ?_)
    · have hf := (if_pos hc).symm.trans hf
      refine lv_iconst (v := (1 : Int32)) hx hb dX0_compareWith_26 (by decide) ?_
      exact W.iret (v := (1 : Int32)) hx hb hr (fun t ht hW => ⟨_, rfl, Option.some.inj hf, ht⟩) (fun _ h => nomatch h) dX0_compareWith_27
    · have hf := (if_neg hc).symm.trans hf
      refine lv_iconst (v := (-1 : Int32)) hx hb dX0_compareWith_22 (by decide) ?_
      refine lv_goto (tgt := 27) hx hb dX0_compareWith_23 (by decide) ?_
      exact W.iret (v := (-1 : Int32)) hx hb hr (fun t ht hW => ⟨_, rfl, Option.some.inj hf, ht⟩) (fun _ h => nomatch h) dX0_compareWith_27
def f_X0_compareWith (n : Nat) (B_used : Int32) (Bl : Nat → Int32) (E_used : Int32) (El : Nat → Int32) : Option (Int32) := f_X0_compareWith_0 n B_used Bl E_used El 
set_option maxHeartbeats 4000000 in
set_option maxRecDepth 100000 in
/-- TokenRow$Big.compareWith(LTokenRow$Big;)I -/
theorem m_X0_compareWith (l : Launch) (dC : Nat → ClassId) (dI : Nat → Nat → Nat) (cyB cyC cyI cyJ cyZ : ClassId) (aB aBl aE aEl : Nat) (B_used : Int32) (Bl : Nat → Int32) (E_used : Int32) (El : Nat → Int32) (n : Nat) (out : Int32) (hf : f_X0_compareWith n B_used Bl E_used El = some out) : Met l yX0_compareWith wsX0_compareWith rm_X0_compareWith (Pro (dC, dI) (TY cyB cyC cyI cyJ cyZ) [.ref aB, .ref aE] [(aB, .inr (0, [.ref aBl, .int B_used])), (aBl, .inl (cyI, 136, .inl Bl)), (aE, .inr (0, [.ref aEl, .int E_used])), (aEl, .inl (cyI, 136, .inl El))]) (vp_Si (fun r => r = out)) 0 0 (fun _ => False) := by
  refine Met.ofW (cc := cX0_compareWith) (maxL := 3) (ret := (some .int)) (by decide) rfl ?_
  intro p e s m args below meth c s₁ B hml hv
  obtain ⟨rfl, hP, hK, hN⟩ := hv
  have CX : cx cX0_compareWith (some .int) 3 RX0 wsX0_compareWith (dC, dI) (TY cyB cyC cyI cyJ cyZ) p s m ([.ref aB, .ref aE] : List Value).toArray meth c := ⟨B.exec, B.bytes, B.returns, hml, findClass_of_methodNamed B.named, atoms_spec (ws := wsX0_compareWith) B.pre, B.notSynchronized, hK, hN⟩
  have hl := lv_entry ([.ref aB, .ref aE]) (n := 3) (Nat.le_of_ble_eq_true rfl)
  rw [lg_entry_eq]
  exact k_X0_compareWith_0 CX hP n  hf _ hl
abbrev rm_X0_subtract : Room := { frames := 1, cells := 0, slots := 0, locals := 20 }
theorem i_X0_subtract_X0 : ∀ w ∈ u_ws RX0 TX0 2, w ∈ wsX0_subtract := fun _ h => (List.mem_cons_of_mem _ (List.mem_append_right _ h))
def J_X0_subtract_5 (p : Program) (l : Launch) (e : Env) (s : State) (m : MethodId) (args : Array Value) (below : List Frame) (meth : Method) (c : Code) (dC : Nat → ClassId) (dI : Nat → Nat → Nat) (cyB cyC cyI cyJ cyZ : ClassId) (aB aBl aE aEl : Nat) (E_used : Int32) (El : Nat → Int32) (A : Nat → Prop) (out : Int32 × (Nat → Int32)) (g : Int32 → (Nat → Int32) → Int64 → Int32 → Option (Int32 × (Nat → Int32))) : Prop := ∀ (B_used : Int32) (Bl : Nat → Int32) (x2 : Int64) (x4 : Int32) (H : Heap) (locs : List Loc), g B_used Bl x2 x4 = some out → va_P (dC, dI) vwCl [(aB, .inr (0, [.ref aBl, .int B_used])), (aBl, .inl (cyI, 136, .inl Bl)), (aE, .inr (0, [.ref aEl, .int E_used])), (aEl, .inl (cyI, 136, .inl El))] H → va_D A [(aB, .inr (0, [.ref aBl, .int B_used])), (aBl, .inl (cyI, 136, .inl Bl)), (aE, .inr (0, [.ref aEl, .int E_used])), (aEl, .inl (cyI, 136, .inl El))] → va_S A s.heap H locs → ∀ ls : Array Slot, lv_has ls 7 [(0, .ref aB), (1, .ref aE), (2, .long x2), (4, .int x4)] → W p l e rm_X0_subtract s m args below meth c H locs 0 0 (MQ below (va_Qv (fun (u : Int32 × (Nat → Int32)) => u = out) (Bw (dC, dI) A (fun u => [(aB, .inr (0, [.ref aBl, .int u.1])), (aBl, .inl (cyI, 136, .inl u.2)), (aE, .inr (0, [.ref aEl, .int E_used])), (aEl, .inl (cyI, 136, .inl El))])) A) args s 0 0 A) (F0 m 5 ls [])
def J_X0_subtract_51 (p : Program) (l : Launch) (e : Env) (s : State) (m : MethodId) (args : Array Value) (below : List Frame) (meth : Method) (c : Code) (dC : Nat → ClassId) (dI : Nat → Nat → Nat) (cyB cyC cyI cyJ cyZ : ClassId) (aB aBl aE aEl : Nat) (E_used : Int32) (El : Nat → Int32) (A : Nat → Prop) (out : Int32 × (Nat → Int32)) (g : Int32 → (Nat → Int32) → Int64 → Int32 → Int64 → Int64 → Option (Int32 × (Nat → Int32))) : Prop := ∀ (B_used : Int32) (Bl : Nat → Int32) (x2 : Int64) (x4 : Int32) (t0 : Int64) (t1 : Int64) (H : Heap) (locs : List Loc), g B_used Bl x2 x4 t0 t1 = some out → va_P (dC, dI) vwCl [(aB, .inr (0, [.ref aBl, .int B_used])), (aBl, .inl (cyI, 136, .inl Bl)), (aE, .inr (0, [.ref aEl, .int E_used])), (aEl, .inl (cyI, 136, .inl El))] H → va_D A [(aB, .inr (0, [.ref aBl, .int B_used])), (aBl, .inl (cyI, 136, .inl Bl)), (aE, .inr (0, [.ref aEl, .int E_used])), (aEl, .inl (cyI, 136, .inl El))] → va_S A s.heap H locs → ∀ ls : Array Slot, lv_has ls 7 [(0, .ref aB), (1, .ref aE), (2, .long x2), (4, .int x4)] → W p l e rm_X0_subtract s m args below meth c H locs 0 0 (MQ below (va_Qv (fun (u : Int32 × (Nat → Int32)) => u = out) (Bw (dC, dI) A (fun u => [(aB, .inr (0, [.ref aBl, .int u.1])), (aBl, .inl (cyI, 136, .inl u.2)), (aE, .inr (0, [.ref aEl, .int E_used])), (aEl, .inl (cyI, 136, .inl El))])) A) args s 0 0 A) (F0 m 51 ls [.long t1, .long t0])
def J_X0_subtract_0 (p : Program) (l : Launch) (e : Env) (s : State) (m : MethodId) (args : Array Value) (below : List Frame) (meth : Method) (c : Code) (dC : Nat → ClassId) (dI : Nat → Nat → Nat) (cyB cyC cyI cyJ cyZ : ClassId) (aB aBl aE aEl : Nat) (E_used : Int32) (El : Nat → Int32) (A : Nat → Prop) (out : Int32 × (Nat → Int32)) (g : Int32 → (Nat → Int32) → Option (Int32 × (Nat → Int32))) : Prop := ∀ (B_used : Int32) (Bl : Nat → Int32) (H : Heap) (locs : List Loc), g B_used Bl = some out → va_P (dC, dI) vwCl [(aB, .inr (0, [.ref aBl, .int B_used])), (aBl, .inl (cyI, 136, .inl Bl)), (aE, .inr (0, [.ref aEl, .int E_used])), (aEl, .inl (cyI, 136, .inl El))] H → va_D A [(aB, .inr (0, [.ref aBl, .int B_used])), (aBl, .inl (cyI, 136, .inl Bl)), (aE, .inr (0, [.ref aEl, .int E_used])), (aEl, .inl (cyI, 136, .inl El))] → va_S A s.heap H locs → ∀ ls : Array Slot, lv_has ls 7 [(0, .ref aB), (1, .ref aE)] → W p l e rm_X0_subtract s m args below meth c H locs 0 0 (MQ below (va_Qv (fun (u : Int32 × (Nat → Int32)) => u = out) (Bw (dC, dI) A (fun u => [(aB, .inr (0, [.ref aBl, .int u.1])), (aBl, .inl (cyI, 136, .inl u.2)), (aE, .inr (0, [.ref aEl, .int E_used])), (aEl, .inl (cyI, 136, .inl El))])) A) args s 0 0 A) (F0 m 0 ls [])
def f_X0_subtract_51 (n : Nat) (r5 : Int32 → (Nat → Int32) → Int64 → Int32 → Option (Int32 × (Nat → Int32))) (E_used : Int32) (El : Nat → Int32) (B_used : Int32) (Bl : Nat → Int32) (x2 : Int64) (x4 : Int32) (t0 : Int64) (t1 : Int64) : Option (Int32 × (Nat → Int32)) :=
  lt_ ((t0 - t1) + x2) fun y1 =>
  gu (gd x4 136) (
  lt_ (y1 >>> ((32 : Int32).toInt64 &&& 63)) fun y3 =>
  lt_ (x4 + (1 : Int32)) fun y4 =>
  r5 B_used (upd Bl (x4).toNatClampNeg y1.toInt32) y3 y4)
set_option maxHeartbeats 4000000 in
set_option maxRecDepth 100000 in
theorem k_X0_subtract_51 {p : Program} {l : Launch} {e : Env} {s : State} {m : MethodId} {args : Array Value} {below : List Frame} {meth : Method} {c : Code} {dC : Nat → ClassId} {dI : Nat → Nat → Nat} {cyB cyC cyI cyJ cyZ : ClassId} {aB aBl aE aEl : Nat} {E_used : Int32} {El : Nat → Int32} {A : Nat → Prop} {out : Int32 × (Nat → Int32)} (CX : cx cX0_subtract none 7 RX0 wsX0_subtract (dC, dI) (TY cyB cyC cyI cyJ cyZ) p s m args meth c) (hA : ∀ q : Nat, s.heap.size ≤ q → A q) (n : Nat) {r5 : Int32 → (Nat → Int32) → Int64 → Int32 → Option (Int32 × (Nat → Int32))} (hr5 : J_X0_subtract_5 p l e s m args below meth c dC dI cyB cyC cyI cyJ cyZ aB aBl aE aEl E_used El A out r5) : J_X0_subtract_51 p l e s m args below meth c dC dI cyB cyC cyI cyJ cyZ aB aBl aE aEl E_used El A out (f_X0_subtract_51 n r5 E_used El) := by
  intro B_used Bl x2 x4 t0 t1 H locs hf hP hD hS ls hl
  obtain ⟨hx, hb, hr, hml, hown, hts, hlocks, hK, hN⟩ := id CX
  unfold f_X0_subtract_51 at hf
  refine lv_lsub hx hb dX0_subtract_51 ?_
  refine lv_lload_n hx hb dX0_subtract_52 rfl (lv_at hl 2 rfl) ?_
  refine lv_ladd hx hb dX0_subtract_53 ?_
  refine lv_topl (fun y1 ey1 => ?_)
  have hf := lt_ok hf y1 ey1
  refine lv_lstore (lv' := [(5, .long y1), (0, .ref aB), (1, .ref aE), (2, .long x2), (4, .int x4)]) hx hb dX0_subtract_54 hl (by decide) rfl (fun ls hl => ?_)
  refine lv_aload_n hx hb dX0_subtract_56 rfl (lv_at hl 1 rfl) ?_
  refine va_get (D := (dC, dI)) (ci := 0) (v := .ref aBl) (C := RX0) (T := TX0) (N := 2) hx hb hts i_X0_subtract_X0 hown hK hP 0 rfl rfl 0 (by decide) (hts (.fieldLink RX0 9 "TokenRow$Big" "limbs" "[I") (List.mem_of_getElem? (i := 2) rfl)) (fun _ h9 => h9) rfl dX0_subtract_57 ?_
  refine lv_iload hx hb dX0_subtract_60 (lv_at hl 4 rfl) ?_
  refine lv_lload hx hb dX0_subtract_62 (lv_at hl 0 rfl) ?_
  refine lv_l2i (v := y1.toInt32) hx hb dX0_subtract_64 rfl ?_
  obtain ⟨hg, hf⟩ := gu_ok hf
  refine va_iast hx hb hK hP hD hS 1 2 rfl rfl (gd_in hg) dX0_subtract_65 (fun H2 locs hP hD hS => ?_)
  have hP : va_P (dC, dI) vwCl [(aB, .inr (0, [.ref aBl, .int B_used])), (aBl, .inl (cyI, 136, .inl (upd Bl (x4).toNatClampNeg y1.toInt32))), (aE, .inr (0, [.ref aEl, .int E_used])), (aEl, .inl (cyI, 136, .inl El))] H2 := hP
  have hD : va_D A [(aB, .inr (0, [.ref aBl, .int B_used])), (aBl, .inl (cyI, 136, .inl (upd Bl (x4).toNatClampNeg y1.toInt32))), (aE, .inr (0, [.ref aEl, .int E_used])), (aEl, .inl (cyI, 136, .inl El))] := hD
  refine lv_lload hx hb dX0_subtract_66 (lv_at hl 0 rfl) ?_
  refine lv_bipush (v := (32 : Int32)) hx hb dX0_subtract_68 (by decide) ?_
  refine lv_lshr (v := y1 >>> ((32 : Int32).toInt64 &&& 63)) hx hb dX0_subtract_70 rfl ?_
  refine lv_topl (fun y3 ey3 => ?_)
  have hf := lt_ok hf y3 ey3
  refine lv_lstore_n (lv' := [(2, .long y3), (5, .long y1), (0, .ref aB), (1, .ref aE), (4, .int x4)]) hx hb dX0_subtract_71 rfl hl (by decide) rfl (fun ls hl => ?_)
  obtain ⟨y4, ey4⟩ : ∃ y : Int32, y = x4 + (1 : Int32) := ⟨_, rfl⟩
  have hf := lt_ok hf y4 ey4
  refine lv_iinc (v := y4) (lv' := [(4, .int y4), (2, .long y3), (5, .long y1), (0, .ref aB), (1, .ref aE)]) hx hb dX0_subtract_72 hl (k := 4) rfl (by rw [ey4]; rfl) (by decide) rfl (fun ls hl => ?_)
  refine lv_goto (tgt := 5) hx hb dX0_subtract_75 (by decide) ?_
  exact hr5 _ _ _ _ _ _ hf hP hD hS ls (lv_sub hl [3, 4, 1, 0] rfl)
def fb_X0_subtract_5 (n : Nat) (r5 : Int32 → (Nat → Int32) → Int64 → Int32 → Option (Int32 × (Nat → Int32))) (E_used : Int32) (El : Nat → Int32) (B_used : Int32) (Bl : Nat → Int32) (x2 : Int64) (x4 : Int32) : Option (Int32 × (Nat → Int32)) :=
  if B_used ≤ x4 then
  (bd (f_X0_dropZeros n  B_used Bl) fun u3 =>
  some (u3, Bl))
  else
  (gu (gd x4 136) (
  if E_used ≤ x4 then
  (f_X0_subtract_51 n r5 E_used El B_used Bl x2 x4 (((Bl (x4).toNatClampNeg).toInt64) &&& (4294967295 : Int64)) (0 : Int64))
  else
  (gu (gd x4 136) (
  f_X0_subtract_51 n r5 E_used El B_used Bl x2 x4 (((Bl (x4).toNatClampNeg).toInt64) &&& (4294967295 : Int64)) (((El (x4).toNatClampNeg).toInt64) &&& (4294967295 : Int64))))))
set_option maxHeartbeats 4000000 in
set_option maxRecDepth 100000 in
theorem kb_X0_subtract_5 {p : Program} {l : Launch} {e : Env} {s : State} {m : MethodId} {args : Array Value} {below : List Frame} {meth : Method} {c : Code} {dC : Nat → ClassId} {dI : Nat → Nat → Nat} {cyB cyC cyI cyJ cyZ : ClassId} {aB aBl aE aEl : Nat} {E_used : Int32} {El : Nat → Int32} {A : Nat → Prop} {out : Int32 × (Nat → Int32)} (CX : cx cX0_subtract none 7 RX0 wsX0_subtract (dC, dI) (TY cyB cyC cyI cyJ cyZ) p s m args meth c) (hA : ∀ q : Nat, s.heap.size ≤ q → A q) (n : Nat) {r5 : Int32 → (Nat → Int32) → Int64 → Int32 → Option (Int32 × (Nat → Int32))} (hr5 : J_X0_subtract_5 p l e s m args below meth c dC dI cyB cyC cyI cyJ cyZ aB aBl aE aEl E_used El A out r5) : J_X0_subtract_5 p l e s m args below meth c dC dI cyB cyC cyI cyJ cyZ aB aBl aE aEl E_used El A out (fb_X0_subtract_5 n r5 E_used El) := by
  intro B_used Bl x2 x4 H locs hf hP hD hS ls hl
  obtain ⟨hx, hb, hr, hml, hown, hts, hlocks, hK, hN⟩ := id CX
  unfold fb_X0_subtract_5 at hf
  refine lv_iload hx hb dX0_subtract_5 (lv_at hl 3 rfl) ?_
  refine lv_aload_n hx hb dX0_subtract_7 rfl (lv_at hl 0 rfl) ?_
  refine va_get (D := (dC, dI)) (ci := 0) (v := .int B_used) (C := RX0) (T := TX0) (N := 2) hx hb hts i_X0_subtract_X0 hown hK hP 0 rfl rfl 1 (by decide) (hts (.fieldLink RX0 13 "TokenRow$Big" "used" "I") (List.mem_of_getElem? (i := 1) rfl)) (fun _ h9 => h9) rfl dX0_subtract_8 ?_
  refine lv_icmp_ge (tgt := 78) hx hb dX0_subtract_11 (by decide) (fun hc => ?_) (fun hc => ?_)
  · have hf := (if_pos hc).symm.trans hf
    refine lv_aload_n hx hb dX0_subtract_78 rfl (lv_at hl 0 rfl) ?_
    obtain ⟨z1, hz1, hf⟩ := bd_ok hf
    have hPc := hP.sub (ws' := [(aB, .inr (0, [.ref aBl, .int B_used])), (aBl, .inl (cyI, 136, .inl Bl))]) [0, 1] rfl
    have hDc := hD.sub (ws' := [(aB, .inr (0, [.ref aBl, .int B_used])), (aBl, .inl (cyI, 136, .inl Bl))]) [0, 1] (by decide) rfl
    have hFc := va_free (wc := [(aB, .inr (0, [.ref aBl, .int B_used])), (aBl, .inl (cyI, 136, .inl Bl))]) hD hS hA [0, 1] rfl
    refine va_callv (va_runV (As := []) (rest := []) ⟨hx, hb, hml, hown, hts⟩ (m_X0_dropZeros l dC dI cyB cyC cyI cyJ cyZ aB aBl  H.size  B_used Bl n z1 hz1) (cwV 0 hts gX0_subtract_X0_dropZeros rfl rfl rfl (by decide +kernel) ⟨Nat.le_of_ble_eq_true rfl, Nat.le_of_ble_eq_true rfl⟩) (prwV (va_recv hK hP (ci := 0) (q0 := 0) rfl rfl) hPc hK hDc hN) rfl rfl hl.1 rfl (lv_room (Nat.le_of_ble_eq_true rfl)) dX0_subtract_79 ⟨Nat.le_of_ble_eq_true rfl, Nat.le_of_ble_eq_true rfl⟩) hS (fun q _ h => hFc q h) hFc (fun u3 t9 H2 locs ht hvm hw hB hz1 hk1 hS => ?_)
    subst hw
    obtain ⟨hP1, hD1⟩ := hB
    rw [ht] at hP1
    obtain ⟨hP, hD⟩ := va_join (wr := [(aE, .inr (0, [.ref aEl, .int E_used])), (aEl, .inl (cyI, 136, .inl El))]) (w1 := [(aB, .inr (0, [.ref aBl, .int u3])), (aBl, .inl (cyI, 136, .inl Bl))]) hP hD [0, 1] [2, 3] rfl rfl (by decide) (by decide) hk1 hFc hP1 hD1
    have hP := hP.sub (ws' := [(aB, .inr (0, [.ref aBl, .int u3])), (aBl, .inl (cyI, 136, .inl Bl)), (aE, .inr (0, [.ref aEl, .int E_used])), (aEl, .inl (cyI, 136, .inl El))]) [2, 3, 0, 1] rfl
    have hD := hD.sub (ws' := [(aB, .inr (0, [.ref aBl, .int u3])), (aBl, .inl (cyI, 136, .inl Bl)), (aE, .inr (0, [.ref aEl, .int E_used])), (aEl, .inl (cyI, 136, .inl El))]) [2, 3, 0, 1] (by decide) rfl
    exact W.vret hx hb hr (fun t ht hW => ⟨⟨(u3, Bl), rfl, Option.some.inj hf, by rw [ht]; exact hP, hD⟩, hS.F ht⟩) hS.2.2 dX0_subtract_82
  · have hf := (if_neg hc).symm.trans hf
    refine lv_aload_n hx hb dX0_subtract_14 rfl (lv_at hl 0 rfl) ?_
    refine va_get (D := (dC, dI)) (ci := 0) (v := .ref aBl) (C := RX0) (T := TX0) (N := 2) hx hb hts i_X0_subtract_X0 hown hK hP 0 rfl rfl 0 (by decide) (hts (.fieldLink RX0 9 "TokenRow$Big" "limbs" "[I") (List.mem_of_getElem? (i := 2) rfl)) (fun _ h9 => h9) rfl dX0_subtract_15 ?_
    refine lv_iload hx hb dX0_subtract_18 (lv_at hl 3 rfl) ?_
    obtain ⟨hg, hf⟩ := gu_ok hf
    refine va_iald hx hb hK hP 1 2 rfl rfl (gd_in hg) dX0_subtract_20 ?_
    refine lv_i2l (v := (Bl (x4).toNatClampNeg).toInt64) hx hb dX0_subtract_21 rfl ?_
    refine lv_ldc2 (v := (4294967295 : Int64)) hx hb hown (hts (.constantLong RX0 17 (4294967295)) (List.mem_of_getElem? (i := 3) rfl)) dX0_subtract_22 ?_
    refine lv_land hx hb dX0_subtract_25 ?_
    refine lv_iload hx hb dX0_subtract_26 (lv_at hl 3 rfl) ?_
    refine lv_aload_n hx hb dX0_subtract_28 rfl (lv_at hl 1 rfl) ?_
    refine va_get (D := (dC, dI)) (ci := 0) (v := .int E_used) (C := RX0) (T := TX0) (N := 2) hx hb hts i_X0_subtract_X0 hown hK hP 2 rfl rfl 1 (by decide) (hts (.fieldLink RX0 13 "TokenRow$Big" "used" "I") (List.mem_of_getElem? (i := 1) rfl)) (fun _ h9 => h9) rfl dX0_subtract_29 ?_
    refine lv_icmp_ge (tgt := 50) hx hb dX0_subtract_32 (by decide) (fun hc => ?_) (fun hc => ?_)
    · have hf := (if_pos hc).symm.trans hf
      refine lv_lconst (v := (0 : Int64)) hx hb dX0_subtract_50 (by decide) ?_
      exact k_X0_subtract_51 CX hA n hr5 _ _ _ _ _ _ _ _ hf hP hD hS ls (lv_sub hl [0, 1, 2, 3] rfl)
    · have hf := (if_neg hc).symm.trans hf
      refine lv_aload_n hx hb dX0_subtract_35 rfl (lv_at hl 1 rfl) ?_
      refine va_get (D := (dC, dI)) (ci := 0) (v := .ref aEl) (C := RX0) (T := TX0) (N := 2) hx hb hts i_X0_subtract_X0 hown hK hP 2 rfl rfl 0 (by decide) (hts (.fieldLink RX0 9 "TokenRow$Big" "limbs" "[I") (List.mem_of_getElem? (i := 2) rfl)) (fun _ h9 => h9) rfl dX0_subtract_36 ?_
      refine lv_iload hx hb dX0_subtract_39 (lv_at hl 3 rfl) ?_
      obtain ⟨hg, hf⟩ := gu_ok hf
      refine va_iald hx hb hK hP 3 2 rfl rfl (gd_in hg) dX0_subtract_41 ?_
      refine lv_i2l (v := (El (x4).toNatClampNeg).toInt64) hx hb dX0_subtract_42 rfl ?_
      refine lv_ldc2 (v := (4294967295 : Int64)) hx hb hown (hts (.constantLong RX0 17 (4294967295)) (List.mem_of_getElem? (i := 3) rfl)) dX0_subtract_43 ?_
      refine lv_land hx hb dX0_subtract_46 ?_
      refine lv_goto (tgt := 51) hx hb dX0_subtract_47 (by decide) ?_
      exact k_X0_subtract_51 CX hA n hr5 _ _ _ _ _ _ _ _ hf hP hD hS ls (lv_sub hl [0, 1, 2, 3] rfl)
def f_X0_subtract_5 (n : Nat) (E_used : Int32) (El : Nat → Int32) : Nat → Int32 → (Nat → Int32) → Int64 → Int32 → Option (Int32 × (Nat → Int32))
  | 0 => fun _ _ _ _ => none
  | k + 1 => fun B_used Bl x2 x4 => fb_X0_subtract_5 n (f_X0_subtract_5 n E_used El k) E_used El B_used Bl x2 x4
set_option maxHeartbeats 4000000 in
set_option maxRecDepth 100000 in
theorem k_X0_subtract_5 {p : Program} {l : Launch} {e : Env} {s : State} {m : MethodId} {args : Array Value} {below : List Frame} {meth : Method} {c : Code} {dC : Nat → ClassId} {dI : Nat → Nat → Nat} {cyB cyC cyI cyJ cyZ : ClassId} {aB aBl aE aEl : Nat} {E_used : Int32} {El : Nat → Int32} {A : Nat → Prop} {out : Int32 × (Nat → Int32)} (CX : cx cX0_subtract none 7 RX0 wsX0_subtract (dC, dI) (TY cyB cyC cyI cyJ cyZ) p s m args meth c) (hA : ∀ q : Nat, s.heap.size ≤ q → A q) (n : Nat) : ∀ k : Nat, J_X0_subtract_5 p l e s m args below meth c dC dI cyB cyC cyI cyJ cyZ aB aBl aE aEl E_used El A out (f_X0_subtract_5 n E_used El k) := by
  intro k
  induction k with
  | zero =>
    intro B_used Bl x2 x4 H locs hf
    exact absurd (show (none : Option (Int32 × (Nat → Int32))) = some out from hf) (by simp)
  | succ k ih =>
    exact kb_X0_subtract_5 CX hA n ih
def f_X0_subtract_0 (n : Nat) (E_used : Int32) (El : Nat → Int32) (B_used : Int32) (Bl : Nat → Int32) : Option (Int32 × (Nat → Int32)) :=
  f_X0_subtract_5 n E_used El n B_used Bl (0 : Int64) (0 : Int32)
set_option maxHeartbeats 4000000 in
set_option maxRecDepth 100000 in
theorem k_X0_subtract_0 {p : Program} {l : Launch} {e : Env} {s : State} {m : MethodId} {args : Array Value} {below : List Frame} {meth : Method} {c : Code} {dC : Nat → ClassId} {dI : Nat → Nat → Nat} {cyB cyC cyI cyJ cyZ : ClassId} {aB aBl aE aEl : Nat} {E_used : Int32} {El : Nat → Int32} {A : Nat → Prop} {out : Int32 × (Nat → Int32)} (CX : cx cX0_subtract none 7 RX0 wsX0_subtract (dC, dI) (TY cyB cyC cyI cyJ cyZ) p s m args meth c) (hA : ∀ q : Nat, s.heap.size ≤ q → A q) (n : Nat) : J_X0_subtract_0 p l e s m args below meth c dC dI cyB cyC cyI cyJ cyZ aB aBl aE aEl E_used El A out (f_X0_subtract_0 n E_used El) := by
  intro B_used Bl H locs hf hP hD hS ls hl
  obtain ⟨hx, hb, hr, hml, hown, hts, hlocks, hK, hN⟩ := id CX
  unfold f_X0_subtract_0 at hf
  refine lv_lconst (v := (0 : Int64)) hx hb dX0_subtract_0 (by decide) ?_
  refine lv_lstore_n (lv' := [(2, .long (0 : Int64)), (0, .ref aB), (1, .ref aE)]) hx hb dX0_subtract_1 rfl hl (by decide) rfl (fun ls hl => ?_)
  refine lv_iconst (v := (0 : Int32)) hx hb dX0_subtract_2 (by decide) ?_
  refine lv_istore (lv' := [(4, .int (0 : Int32)), (2, .long (0 : Int64)), (0, .ref aB), (1, .ref aE)]) hx hb dX0_subtract_3 hl (by decide) rfl (fun ls hl => ?_)
  exact k_X0_subtract_5 CX hA n n _ _ _ _ _ _ hf hP hD hS ls (lv_sub hl [2, 3, 1, 0] rfl)
def f_X0_subtract (n : Nat) (B_used : Int32) (Bl : Nat → Int32) (E_used : Int32) (El : Nat → Int32) : Option (Int32 × (Nat → Int32)) := f_X0_subtract_0 n E_used El B_used Bl 
set_option maxHeartbeats 4000000 in
set_option maxRecDepth 100000 in
/-- TokenRow$Big.subtract(LTokenRow$Big;)V -/
theorem m_X0_subtract (l : Launch) (dC : Nat → ClassId) (dI : Nat → Nat → Nat) (cyB cyC cyI cyJ cyZ : ClassId) (aB aBl aE aEl : Nat) (sz : Nat) (B_used : Int32) (Bl : Nat → Int32) (E_used : Int32) (El : Nat → Int32) (n : Nat) (out : Int32 × (Nat → Int32)) (hf : f_X0_subtract n B_used Bl E_used El = some out) : Met l yX0_subtract wsX0_subtract rm_X0_subtract (Prw (dC, dI) (TY cyB cyC cyI cyJ cyZ) [.ref aB, .ref aE] sz [(aB, .inr (0, [.ref aBl, .int B_used])), (aBl, .inl (cyI, 136, .inl Bl)), (aE, .inr (0, [.ref aEl, .int E_used])), (aEl, .inl (cyI, 136, .inl El))]) (va_Qv (fun (u : Int32 × (Nat → Int32)) => u = out) (Bw (dC, dI) (va_A [(aB, .inr (0, [.ref aBl, .int B_used])), (aBl, .inl (cyI, 136, .inl Bl)), (aE, .inr (0, [.ref aEl, .int E_used])), (aEl, .inl (cyI, 136, .inl El))] sz) (fun u => [(aB, .inr (0, [.ref aBl, .int u.1])), (aBl, .inl (cyI, 136, .inl u.2)), (aE, .inr (0, [.ref aEl, .int E_used])), (aEl, .inl (cyI, 136, .inl El))])) (va_A [(aB, .inr (0, [.ref aBl, .int B_used])), (aBl, .inl (cyI, 136, .inl Bl)), (aE, .inr (0, [.ref aEl, .int E_used])), (aEl, .inl (cyI, 136, .inl El))] sz)) 0 0 (va_A [(aB, .inr (0, [.ref aBl, .int B_used])), (aBl, .inl (cyI, 136, .inl Bl)), (aE, .inr (0, [.ref aEl, .int E_used])), (aEl, .inl (cyI, 136, .inl El))] sz) := by
  refine Met.ofW (cc := cX0_subtract) (maxL := 7) (ret := none) (by decide) rfl ?_
  intro p e s m args below meth c s₁ B hml hv
  obtain ⟨rfl, hsz, hP, hK, hD0, hN⟩ := hv
  subst hsz
  have hD := hD0.self (sz := s.heap.size)
  have CX : cx cX0_subtract none 7 RX0 wsX0_subtract (dC, dI) (TY cyB cyC cyI cyJ cyZ) p s m ([.ref aB, .ref aE] : List Value).toArray meth c := ⟨B.exec, B.bytes, B.returns, hml, findClass_of_methodNamed B.named, atoms_spec (ws := wsX0_subtract) B.pre, B.notSynchronized, hK, hN⟩
  have hl := lv_entry ([.ref aB, .ref aE]) (n := 7) (Nat.le_of_ble_eq_true rfl)
  rw [lg_entry_eq]
  exact k_X0_subtract_0 CX (fun q h => Or.inr h) n _ _ _ _ hf hP hD va_S.rf _ hl
abbrev rm_X0_timesPowerOfFive : Room := { frames := 1, cells := 0, slots := 0, locals := 25 }
theorem i_X0_timesPowerOfFive_X0 : ∀ w ∈ u_ws RX0 TX0 2, w ∈ wsX0_timesPowerOfFive := fun _ h => (List.mem_cons_of_mem _ (List.mem_append_right _ h))
def J_X0_timesPowerOfFive_2 (p : Program) (l : Launch) (e : Env) (s : State) (m : MethodId) (args : Array Value) (below : List Frame) (meth : Method) (c : Code) (dC : Nat → ClassId) (dI : Nat → Nat → Nat) (cyB cyC cyI cyJ cyZ : ClassId) (aB aBl : Nat) (A : Nat → Prop) (out : Int32 × (Nat → Int32)) (g : Int32 → (Nat → Int32) → Int32 → Option (Int32 × (Nat → Int32))) : Prop := ∀ (B_used : Int32) (Bl : Nat → Int32) (x2 : Int32) (H : Heap) (locs : List Loc), g B_used Bl x2 = some out → va_P (dC, dI) vwCl [(aB, .inr (0, [.ref aBl, .int B_used])), (aBl, .inl (cyI, 136, .inl Bl))] H → va_D A [(aB, .inr (0, [.ref aBl, .int B_used])), (aBl, .inl (cyI, 136, .inl Bl))] → va_S A s.heap H locs → ∀ ls : Array Slot, lv_has ls 3 [(0, .ref aB), (2, .int x2)] → W p l e rm_X0_timesPowerOfFive s m args below meth c H locs 0 0 (MQ below (va_Qv (fun (u : Int32 × (Nat → Int32)) => u = out) (Bw (dC, dI) A (fun u => [(aB, .inr (0, [.ref aBl, .int u.1])), (aBl, .inl (cyI, 136, .inl u.2))])) A) args s 0 0 A) (F0 m 2 ls [])
def J_X0_timesPowerOfFive_21 (p : Program) (l : Launch) (e : Env) (s : State) (m : MethodId) (args : Array Value) (below : List Frame) (meth : Method) (c : Code) (dC : Nat → ClassId) (dI : Nat → Nat → Nat) (cyB cyC cyI cyJ cyZ : ClassId) (aB aBl : Nat) (A : Nat → Prop) (out : Int32 × (Nat → Int32)) (g : Int32 → (Nat → Int32) → Int32 → Option (Int32 × (Nat → Int32))) : Prop := ∀ (B_used : Int32) (Bl : Nat → Int32) (x2 : Int32) (H : Heap) (locs : List Loc), g B_used Bl x2 = some out → va_P (dC, dI) vwCl [(aB, .inr (0, [.ref aBl, .int B_used])), (aBl, .inl (cyI, 136, .inl Bl))] H → va_D A [(aB, .inr (0, [.ref aBl, .int B_used])), (aBl, .inl (cyI, 136, .inl Bl))] → va_S A s.heap H locs → ∀ ls : Array Slot, lv_has ls 3 [(0, .ref aB), (2, .int x2)] → W p l e rm_X0_timesPowerOfFive s m args below meth c H locs 0 0 (MQ below (va_Qv (fun (u : Int32 × (Nat → Int32)) => u = out) (Bw (dC, dI) A (fun u => [(aB, .inr (0, [.ref aBl, .int u.1])), (aBl, .inl (cyI, 136, .inl u.2))])) A) args s 0 0 A) (F0 m 21 ls [])
def J_X0_timesPowerOfFive_0 (p : Program) (l : Launch) (e : Env) (s : State) (m : MethodId) (args : Array Value) (below : List Frame) (meth : Method) (c : Code) (dC : Nat → ClassId) (dI : Nat → Nat → Nat) (cyB cyC cyI cyJ cyZ : ClassId) (aB aBl : Nat) (A : Nat → Prop) (out : Int32 × (Nat → Int32)) (g : Int32 → (Nat → Int32) → Int32 → Option (Int32 × (Nat → Int32))) : Prop := ∀ (B_used : Int32) (Bl : Nat → Int32) (x1 : Int32) (H : Heap) (locs : List Loc), g B_used Bl x1 = some out → va_P (dC, dI) vwCl [(aB, .inr (0, [.ref aBl, .int B_used])), (aBl, .inl (cyI, 136, .inl Bl))] H → va_D A [(aB, .inr (0, [.ref aBl, .int B_used])), (aBl, .inl (cyI, 136, .inl Bl))] → va_S A s.heap H locs → ∀ ls : Array Slot, lv_has ls 3 [(0, .ref aB), (1, .int x1)] → W p l e rm_X0_timesPowerOfFive s m args below meth c H locs 0 0 (MQ below (va_Qv (fun (u : Int32 × (Nat → Int32)) => u = out) (Bw (dC, dI) A (fun u => [(aB, .inr (0, [.ref aBl, .int u.1])), (aBl, .inl (cyI, 136, .inl u.2))])) A) args s 0 0 A) (F0 m 0 ls [])
def fb_X0_timesPowerOfFive_21 (n : Nat) (r21 : Int32 → (Nat → Int32) → Int32 → Option (Int32 × (Nat → Int32))) (B_used : Int32) (Bl : Nat → Int32) (x2 : Int32) : Option (Int32 × (Nat → Int32)) :=
  if x2 ≤ 0 then
  (some (B_used, Bl))
  else
  (bd (f_X0_timesPlus n (5 : Int32) (0 : Int32) B_used Bl) fun u3 =>
  lt_ (x2 + (-1 : Int32)) fun y4 =>
  r21 u3.1 u3.2 y4)
set_option maxHeartbeats 4000000 in
set_option maxRecDepth 100000 in
theorem kb_X0_timesPowerOfFive_21 {p : Program} {l : Launch} {e : Env} {s : State} {m : MethodId} {args : Array Value} {below : List Frame} {meth : Method} {c : Code} {dC : Nat → ClassId} {dI : Nat → Nat → Nat} {cyB cyC cyI cyJ cyZ : ClassId} {aB aBl : Nat} {A : Nat → Prop} {out : Int32 × (Nat → Int32)} (CX : cx cX0_timesPowerOfFive none 3 RX0 wsX0_timesPowerOfFive (dC, dI) (TY cyB cyC cyI cyJ cyZ) p s m args meth c) (hA : ∀ q : Nat, s.heap.size ≤ q → A q) (n : Nat) {r21 : Int32 → (Nat → Int32) → Int32 → Option (Int32 × (Nat → Int32))} (hr21 : J_X0_timesPowerOfFive_21 p l e s m args below meth c dC dI cyB cyC cyI cyJ cyZ aB aBl A out r21) : J_X0_timesPowerOfFive_21 p l e s m args below meth c dC dI cyB cyC cyI cyJ cyZ aB aBl A out (fb_X0_timesPowerOfFive_21 n r21) := by
  intro B_used Bl x2 H locs hf hP hD hS ls hl
  obtain ⟨hx, hb, hr, hml, hown, hts, hlocks, hK, hN⟩ := id CX
  unfold fb_X0_timesPowerOfFive_21 at hf
  refine lv_iload_n hx hb dX0_timesPowerOfFive_21 rfl (lv_at hl 1 rfl) ?_
  refine lv_if_le (tgt := 37) hx hb dX0_timesPowerOfFive_22 (by decide) (fun hc => ?_) (fun hc => ?_)
  · have hf := (if_pos hc).symm.trans hf
    exact W.vret hx hb hr (fun t ht hW => ⟨⟨(B_used, Bl), rfl, Option.some.inj hf, by rw [ht]; exact hP, hD⟩, hS.F ht⟩) hS.2.2 dX0_timesPowerOfFive_37
  · have hf := (if_neg hc).symm.trans hf
    refine lv_aload_n hx hb dX0_timesPowerOfFive_25 rfl (lv_at hl 0 rfl) ?_
    refine lv_iconst (v := (5 : Int32)) hx hb dX0_timesPowerOfFive_26 (by decide) ?_
    refine lv_iconst (v := (0 : Int32)) hx hb dX0_timesPowerOfFive_27 (by decide) ?_
    obtain ⟨z1, hz1, hf⟩ := bd_ok hf
    have hPc := hP.sub (ws' := [(aB, .inr (0, [.ref aBl, .int B_used])), (aBl, .inl (cyI, 136, .inl Bl))]) [0, 1] rfl
    have hDc := hD.sub (ws' := [(aB, .inr (0, [.ref aBl, .int B_used])), (aBl, .inl (cyI, 136, .inl Bl))]) [0, 1] (by decide) rfl
    have hFc := va_free (wc := [(aB, .inr (0, [.ref aBl, .int B_used])), (aBl, .inl (cyI, 136, .inl Bl))]) hD hS hA [0, 1] rfl
    refine va_callv (va_runV (As := [.int (5 : Int32), .int (0 : Int32)]) (rest := []) ⟨hx, hb, hml, hown, hts⟩ (m_X0_timesPlus l dC dI cyB cyC cyI cyJ cyZ aB aBl  H.size (5 : Int32) (0 : Int32) B_used Bl n z1 hz1) (cwV 2 hts gX0_timesPowerOfFive_X0_timesPlus rfl rfl rfl (by decide +kernel) ⟨Nat.le_of_ble_eq_true rfl, Nat.le_of_ble_eq_true rfl⟩) (prwV (va_recv hK hP (ci := 0) (q0 := 0) rfl rfl) hPc hK hDc hN) rfl rfl hl.1 rfl (lv_room (Nat.le_of_ble_eq_true rfl)) dX0_timesPowerOfFive_28 ⟨Nat.le_of_ble_eq_true rfl, Nat.le_of_ble_eq_true rfl⟩) hS (fun q _ h => hFc q h) hFc (fun u3 t9 H2 locs ht hvm hw hB hz1 hk1 hS => ?_)
    subst hw
    obtain ⟨hP1, hD1⟩ := hB
    rw [ht] at hP1
    obtain ⟨hP, hD⟩ := va_join (wr := []) (w1 := [(aB, .inr (0, [.ref aBl, .int u3.1])), (aBl, .inl (cyI, 136, .inl u3.2))]) hP hD [0, 1] [] rfl rfl (by decide) (by decide) hk1 hFc hP1 hD1
    have hP := hP.sub (ws' := [(aB, .inr (0, [.ref aBl, .int u3.1])), (aBl, .inl (cyI, 136, .inl u3.2))]) [0, 1] rfl
    have hD := hD.sub (ws' := [(aB, .inr (0, [.ref aBl, .int u3.1])), (aBl, .inl (cyI, 136, .inl u3.2))]) [0, 1] (by decide) rfl
    obtain ⟨y4, ey4⟩ : ∃ y : Int32, y = x2 + (-1 : Int32) := ⟨_, rfl⟩
    have hf := lt_ok hf y4 ey4
    refine lv_iinc (v := y4) (lv' := [(2, .int y4), (0, .ref aB)]) hx hb dX0_timesPowerOfFive_31 hl (k := 1) rfl (by rw [ey4]; rfl) (by decide) rfl (fun ls hl => ?_)
    refine lv_goto (tgt := 21) hx hb dX0_timesPowerOfFive_34 (by decide) ?_
    exact hr21 _ _ _ _ _ hf hP hD hS ls (lv_sub hl [1, 0] rfl)
def f_X0_timesPowerOfFive_21 (n : Nat) : Nat → Int32 → (Nat → Int32) → Int32 → Option (Int32 × (Nat → Int32))
  | 0 => fun _ _ _ => none
  | k + 1 => fun B_used Bl x2 => fb_X0_timesPowerOfFive_21 n (f_X0_timesPowerOfFive_21 n k) B_used Bl x2
set_option maxHeartbeats 4000000 in
set_option maxRecDepth 100000 in
theorem k_X0_timesPowerOfFive_21 {p : Program} {l : Launch} {e : Env} {s : State} {m : MethodId} {args : Array Value} {below : List Frame} {meth : Method} {c : Code} {dC : Nat → ClassId} {dI : Nat → Nat → Nat} {cyB cyC cyI cyJ cyZ : ClassId} {aB aBl : Nat} {A : Nat → Prop} {out : Int32 × (Nat → Int32)} (CX : cx cX0_timesPowerOfFive none 3 RX0 wsX0_timesPowerOfFive (dC, dI) (TY cyB cyC cyI cyJ cyZ) p s m args meth c) (hA : ∀ q : Nat, s.heap.size ≤ q → A q) (n : Nat) : ∀ k : Nat, J_X0_timesPowerOfFive_21 p l e s m args below meth c dC dI cyB cyC cyI cyJ cyZ aB aBl A out (f_X0_timesPowerOfFive_21 n k) := by
  intro k
  induction k with
  | zero =>
    intro B_used Bl x2 H locs hf
    exact absurd (show (none : Option (Int32 × (Nat → Int32))) = some out from hf) (by simp)
  | succ k ih =>
    exact kb_X0_timesPowerOfFive_21 CX hA n ih
def fb_X0_timesPowerOfFive_2 (n : Nat) (r2 : Int32 → (Nat → Int32) → Int32 → Option (Int32 × (Nat → Int32))) (B_used : Int32) (Bl : Nat → Int32) (x2 : Int32) : Option (Int32 × (Nat → Int32)) :=
  if x2 < (13 : Int32) then
  (f_X0_timesPowerOfFive_21 n n B_used Bl x2)
  else
  (bd (f_X0_timesPlus n (1220703125 : Int32) (0 : Int32) B_used Bl) fun u3 =>
  lt_ (x2 + (-13 : Int32)) fun y4 =>
  r2 u3.1 u3.2 y4)
set_option maxHeartbeats 4000000 in
set_option maxRecDepth 100000 in
theorem kb_X0_timesPowerOfFive_2 {p : Program} {l : Launch} {e : Env} {s : State} {m : MethodId} {args : Array Value} {below : List Frame} {meth : Method} {c : Code} {dC : Nat → ClassId} {dI : Nat → Nat → Nat} {cyB cyC cyI cyJ cyZ : ClassId} {aB aBl : Nat} {A : Nat → Prop} {out : Int32 × (Nat → Int32)} (CX : cx cX0_timesPowerOfFive none 3 RX0 wsX0_timesPowerOfFive (dC, dI) (TY cyB cyC cyI cyJ cyZ) p s m args meth c) (hA : ∀ q : Nat, s.heap.size ≤ q → A q) (n : Nat) {r2 : Int32 → (Nat → Int32) → Int32 → Option (Int32 × (Nat → Int32))} (hr2 : J_X0_timesPowerOfFive_2 p l e s m args below meth c dC dI cyB cyC cyI cyJ cyZ aB aBl A out r2) : J_X0_timesPowerOfFive_2 p l e s m args below meth c dC dI cyB cyC cyI cyJ cyZ aB aBl A out (fb_X0_timesPowerOfFive_2 n r2) := by
  intro B_used Bl x2 H locs hf hP hD hS ls hl
  obtain ⟨hx, hb, hr, hml, hown, hts, hlocks, hK, hN⟩ := id CX
  unfold fb_X0_timesPowerOfFive_2 at hf
  refine lv_iload_n hx hb dX0_timesPowerOfFive_2 rfl (lv_at hl 1 rfl) ?_
  refine lv_bipush (v := (13 : Int32)) hx hb dX0_timesPowerOfFive_3 (by decide) ?_
  refine lv_icmp_lt (tgt := 21) hx hb dX0_timesPowerOfFive_5 (by decide) (fun hc => ?_) (fun hc => ?_)
  · have hf := (if_pos hc).symm.trans hf
    exact k_X0_timesPowerOfFive_21 CX hA n n _ _ _ _ _ hf hP hD hS ls (lv_sub hl [0, 1] rfl)
  · have hf := (if_neg hc).symm.trans hf
    refine lv_aload_n hx hb dX0_timesPowerOfFive_8 rfl (lv_at hl 0 rfl) ?_
    refine lv_ldc (v := (1220703125 : Int32)) hx hb hown (hts (.constant RX0 25 (1220703125)) (List.mem_of_getElem? (i := 1) rfl)) dX0_timesPowerOfFive_9 ?_
    refine lv_iconst (v := (0 : Int32)) hx hb dX0_timesPowerOfFive_11 (by decide) ?_
    obtain ⟨z1, hz1, hf⟩ := bd_ok hf
    have hPc := hP.sub (ws' := [(aB, .inr (0, [.ref aBl, .int B_used])), (aBl, .inl (cyI, 136, .inl Bl))]) [0, 1] rfl
    have hDc := hD.sub (ws' := [(aB, .inr (0, [.ref aBl, .int B_used])), (aBl, .inl (cyI, 136, .inl Bl))]) [0, 1] (by decide) rfl
    have hFc := va_free (wc := [(aB, .inr (0, [.ref aBl, .int B_used])), (aBl, .inl (cyI, 136, .inl Bl))]) hD hS hA [0, 1] rfl
    refine va_callv (va_runV (As := [.int (1220703125 : Int32), .int (0 : Int32)]) (rest := []) ⟨hx, hb, hml, hown, hts⟩ (m_X0_timesPlus l dC dI cyB cyC cyI cyJ cyZ aB aBl  H.size (1220703125 : Int32) (0 : Int32) B_used Bl n z1 hz1) (cwV 2 hts gX0_timesPowerOfFive_X0_timesPlus rfl rfl rfl (by decide +kernel) ⟨Nat.le_of_ble_eq_true rfl, Nat.le_of_ble_eq_true rfl⟩) (prwV (va_recv hK hP (ci := 0) (q0 := 0) rfl rfl) hPc hK hDc hN) rfl rfl hl.1 rfl (lv_room (Nat.le_of_ble_eq_true rfl)) dX0_timesPowerOfFive_12 ⟨Nat.le_of_ble_eq_true rfl, Nat.le_of_ble_eq_true rfl⟩) hS (fun q _ h => hFc q h) hFc (fun u3 t9 H2 locs ht hvm hw hB hz1 hk1 hS => ?_)
    subst hw
    obtain ⟨hP1, hD1⟩ := hB
    rw [ht] at hP1
    obtain ⟨hP, hD⟩ := va_join (wr := []) (w1 := [(aB, .inr (0, [.ref aBl, .int u3.1])), (aBl, .inl (cyI, 136, .inl u3.2))]) hP hD [0, 1] [] rfl rfl (by decide) (by decide) hk1 hFc hP1 hD1
    have hP := hP.sub (ws' := [(aB, .inr (0, [.ref aBl, .int u3.1])), (aBl, .inl (cyI, 136, .inl u3.2))]) [0, 1] rfl
    have hD := hD.sub (ws' := [(aB, .inr (0, [.ref aBl, .int u3.1])), (aBl, .inl (cyI, 136, .inl u3.2))]) [0, 1] (by decide) rfl
    obtain ⟨y4, ey4⟩ : ∃ y : Int32, y = x2 + (-13 : Int32) := ⟨_, rfl⟩
    have hf := lt_ok hf y4 ey4
    refine lv_iinc (v := y4) (lv' := [(2, .int y4), (0, .ref aB)]) hx hb dX0_timesPowerOfFive_15 hl (k := 1) rfl (by rw [ey4]; rfl) (by decide) rfl (fun ls hl => ?_)
    refine lv_goto (tgt := 2) hx hb dX0_timesPowerOfFive_18 (by decide) ?_
    exact hr2 _ _ _ _ _ hf hP hD hS ls (lv_sub hl [1, 0] rfl)
def f_X0_timesPowerOfFive_2 (n : Nat) : Nat → Int32 → (Nat → Int32) → Int32 → Option (Int32 × (Nat → Int32))
  | 0 => fun _ _ _ => none
  | k + 1 => fun B_used Bl x2 => fb_X0_timesPowerOfFive_2 n (f_X0_timesPowerOfFive_2 n k) B_used Bl x2
set_option maxHeartbeats 4000000 in
set_option maxRecDepth 100000 in
theorem k_X0_timesPowerOfFive_2 {p : Program} {l : Launch} {e : Env} {s : State} {m : MethodId} {args : Array Value} {below : List Frame} {meth : Method} {c : Code} {dC : Nat → ClassId} {dI : Nat → Nat → Nat} {cyB cyC cyI cyJ cyZ : ClassId} {aB aBl : Nat} {A : Nat → Prop} {out : Int32 × (Nat → Int32)} (CX : cx cX0_timesPowerOfFive none 3 RX0 wsX0_timesPowerOfFive (dC, dI) (TY cyB cyC cyI cyJ cyZ) p s m args meth c) (hA : ∀ q : Nat, s.heap.size ≤ q → A q) (n : Nat) : ∀ k : Nat, J_X0_timesPowerOfFive_2 p l e s m args below meth c dC dI cyB cyC cyI cyJ cyZ aB aBl A out (f_X0_timesPowerOfFive_2 n k) := by
  intro k
  induction k with
  | zero =>
    intro B_used Bl x2 H locs hf
    exact absurd (show (none : Option (Int32 × (Nat → Int32))) = some out from hf) (by simp)
  | succ k ih =>
    exact kb_X0_timesPowerOfFive_2 CX hA n ih
def f_X0_timesPowerOfFive_0 (n : Nat) (B_used : Int32) (Bl : Nat → Int32) (x1 : Int32) : Option (Int32 × (Nat → Int32)) :=
  f_X0_timesPowerOfFive_2 n n B_used Bl x1
set_option maxHeartbeats 4000000 in
set_option maxRecDepth 100000 in
theorem k_X0_timesPowerOfFive_0 {p : Program} {l : Launch} {e : Env} {s : State} {m : MethodId} {args : Array Value} {below : List Frame} {meth : Method} {c : Code} {dC : Nat → ClassId} {dI : Nat → Nat → Nat} {cyB cyC cyI cyJ cyZ : ClassId} {aB aBl : Nat} {A : Nat → Prop} {out : Int32 × (Nat → Int32)} (CX : cx cX0_timesPowerOfFive none 3 RX0 wsX0_timesPowerOfFive (dC, dI) (TY cyB cyC cyI cyJ cyZ) p s m args meth c) (hA : ∀ q : Nat, s.heap.size ≤ q → A q) (n : Nat) : J_X0_timesPowerOfFive_0 p l e s m args below meth c dC dI cyB cyC cyI cyJ cyZ aB aBl A out (f_X0_timesPowerOfFive_0 n) := by
  intro B_used Bl x1 H locs hf hP hD hS ls hl
  obtain ⟨hx, hb, hr, hml, hown, hts, hlocks, hK, hN⟩ := id CX
  unfold f_X0_timesPowerOfFive_0 at hf
  refine lv_iload_n hx hb dX0_timesPowerOfFive_0 rfl (lv_at hl 1 rfl) ?_
  refine lv_istore_n (lv' := [(2, .int x1), (0, .ref aB), (1, .int x1)]) hx hb dX0_timesPowerOfFive_1 rfl hl (by decide) rfl (fun ls hl => ?_)
  exact k_X0_timesPowerOfFive_2 CX hA n n _ _ _ _ _ hf hP hD hS ls (lv_sub hl [1, 0] rfl)
def f_X0_timesPowerOfFive (n : Nat) (p1 : Int32) (B_used : Int32) (Bl : Nat → Int32) : Option (Int32 × (Nat → Int32)) := f_X0_timesPowerOfFive_0 n B_used Bl p1
set_option maxHeartbeats 4000000 in
set_option maxRecDepth 100000 in
/-- TokenRow$Big.timesPowerOfFive(I)V -/
theorem m_X0_timesPowerOfFive (l : Launch) (dC : Nat → ClassId) (dI : Nat → Nat → Nat) (cyB cyC cyI cyJ cyZ : ClassId) (aB aBl : Nat) (sz : Nat) (p1 : Int32) (B_used : Int32) (Bl : Nat → Int32) (n : Nat) (out : Int32 × (Nat → Int32)) (hf : f_X0_timesPowerOfFive n p1 B_used Bl = some out) : Met l yX0_timesPowerOfFive wsX0_timesPowerOfFive rm_X0_timesPowerOfFive (Prw (dC, dI) (TY cyB cyC cyI cyJ cyZ) [.ref aB, .int p1] sz [(aB, .inr (0, [.ref aBl, .int B_used])), (aBl, .inl (cyI, 136, .inl Bl))]) (va_Qv (fun (u : Int32 × (Nat → Int32)) => u = out) (Bw (dC, dI) (va_A [(aB, .inr (0, [.ref aBl, .int B_used])), (aBl, .inl (cyI, 136, .inl Bl))] sz) (fun u => [(aB, .inr (0, [.ref aBl, .int u.1])), (aBl, .inl (cyI, 136, .inl u.2))])) (va_A [(aB, .inr (0, [.ref aBl, .int B_used])), (aBl, .inl (cyI, 136, .inl Bl))] sz)) 0 0 (va_A [(aB, .inr (0, [.ref aBl, .int B_used])), (aBl, .inl (cyI, 136, .inl Bl))] sz) := by
  refine Met.ofW (cc := cX0_timesPowerOfFive) (maxL := 3) (ret := none) (by decide) rfl ?_
  intro p e s m args below meth c s₁ B hml hv
  obtain ⟨rfl, hsz, hP, hK, hD0, hN⟩ := hv
  subst hsz
  have hD := hD0.self (sz := s.heap.size)
  have CX : cx cX0_timesPowerOfFive none 3 RX0 wsX0_timesPowerOfFive (dC, dI) (TY cyB cyC cyI cyJ cyZ) p s m ([.ref aB, .int p1] : List Value).toArray meth c := ⟨B.exec, B.bytes, B.returns, hml, findClass_of_methodNamed B.named, atoms_spec (ws := wsX0_timesPowerOfFive) B.pre, B.notSynchronized, hK, hN⟩
  have hl := lv_entry ([.ref aB, .int p1]) (n := 3) (Nat.le_of_ble_eq_true rfl)
  rw [lg_entry_eq]
  exact k_X0_timesPowerOfFive_0 CX (fun q h => Or.inr h) n _ _ _ _ _ hf hP hD va_S.rf _ hl
abbrev rm_X0_shiftLeft : Room := { frames := 1, cells := 0, slots := 0, locals := 21 }
theorem i_X0_shiftLeft_X0 : ∀ w ∈ u_ws RX0 TX0 2, w ∈ wsX0_shiftLeft := fun _ h => (List.mem_cons_of_mem _ (List.mem_append_right _ h))
def J_X0_shiftLeft_32 (p : Program) (l : Launch) (e : Env) (s : State) (m : MethodId) (args : Array Value) (below : List Frame) (meth : Method) (c : Code) (dC : Nat → ClassId) (dI : Nat → Nat → Nat) (cyB cyC cyI cyJ cyZ : ClassId) (aB aBl : Nat) (A : Nat → Prop) (out : Int32 × (Nat → Int32)) (g : Int32 → (Nat → Int32) → Int32 → Int32 → Int32 → Int32 → Option (Int32 × (Nat → Int32))) : Prop := ∀ (B_used : Int32) (Bl : Nat → Int32) (x2 : Int32) (x3 : Int32) (x4 : Int32) (x5 : Int32) (H : Heap) (locs : List Loc), g B_used Bl x2 x3 x4 x5 = some out → va_P (dC, dI) vwCl [(aB, .inr (0, [.ref aBl, .int B_used])), (aBl, .inl (cyI, 136, .inl Bl))] H → va_D A [(aB, .inr (0, [.ref aBl, .int B_used])), (aBl, .inl (cyI, 136, .inl Bl))] → va_S A s.heap H locs → ∀ ls : Array Slot, lv_has ls 8 [(0, .ref aB), (2, .int x2), (3, .int x3), (4, .int x4), (5, .int x5)] → W p l e rm_X0_shiftLeft s m args below meth c H locs 0 0 (MQ below (va_Qv (fun (u : Int32 × (Nat → Int32)) => u = out) (Bw (dC, dI) A (fun u => [(aB, .inr (0, [.ref aBl, .int u.1])), (aBl, .inl (cyI, 136, .inl u.2))])) A) args s 0 0 A) (F0 m 32 ls [])
def J_X0_shiftLeft_0 (p : Program) (l : Launch) (e : Env) (s : State) (m : MethodId) (args : Array Value) (below : List Frame) (meth : Method) (c : Code) (dC : Nat → ClassId) (dI : Nat → Nat → Nat) (cyB cyC cyI cyJ cyZ : ClassId) (aB aBl : Nat) (A : Nat → Prop) (out : Int32 × (Nat → Int32)) (g : Int32 → (Nat → Int32) → Int32 → Option (Int32 × (Nat → Int32))) : Prop := ∀ (B_used : Int32) (Bl : Nat → Int32) (x1 : Int32) (H : Heap) (locs : List Loc), g B_used Bl x1 = some out → va_P (dC, dI) vwCl [(aB, .inr (0, [.ref aBl, .int B_used])), (aBl, .inl (cyI, 136, .inl Bl))] H → va_D A [(aB, .inr (0, [.ref aBl, .int B_used])), (aBl, .inl (cyI, 136, .inl Bl))] → va_S A s.heap H locs → ∀ ls : Array Slot, lv_has ls 8 [(0, .ref aB), (1, .int x1)] → W p l e rm_X0_shiftLeft s m args below meth c H locs 0 0 (MQ below (va_Qv (fun (u : Int32 × (Nat → Int32)) => u = out) (Bw (dC, dI) A (fun u => [(aB, .inr (0, [.ref aBl, .int u.1])), (aBl, .inl (cyI, 136, .inl u.2))])) A) args s 0 0 A) (F0 m 0 ls [])
def fb_X0_shiftLeft_32 (n : Nat) (r32 : Int32 → (Nat → Int32) → Int32 → Int32 → Int32 → Int32 → Option (Int32 × (Nat → Int32))) (B_used : Int32) (Bl : Nat → Int32) (x2 : Int32) (x3 : Int32) (x4 : Int32) (x5 : Int32) : Option (Int32 × (Nat → Int32)) :=
  if x5 < 0 then
  (bd (f_X0_dropZeros n  x4 Bl) fun u4 =>
  some (u4, Bl))
  else
  (bd (f_X0_limbOrZero n (x5 - x2) B_used Bl) fun o5 =>
  bd (f_X0_limbOrZero n ((x5 - x2) - (1 : Int32)) B_used Bl) fun o6 =>
  lt_ ((o5 <<< ((32 : Int32).toInt64 &&& 63)) ||| o6) fun y7 =>
  lt_ (((y7.toUInt64 >>> (((32 : Int32) - x3).toInt64.toUInt64 &&& Int64.toUInt64 63)).toInt64).toInt32) fun y8 =>
  gu (gd x5 136) (
  lt_ (x5 + (-1 : Int32)) fun y10 =>
  r32 B_used (upd Bl (x5).toNatClampNeg y8) x2 x3 x4 y10))
set_option maxHeartbeats 4000000 in
set_option maxRecDepth 100000 in
theorem kb_X0_shiftLeft_32 {p : Program} {l : Launch} {e : Env} {s : State} {m : MethodId} {args : Array Value} {below : List Frame} {meth : Method} {c : Code} {dC : Nat → ClassId} {dI : Nat → Nat → Nat} {cyB cyC cyI cyJ cyZ : ClassId} {aB aBl : Nat} {A : Nat → Prop} {out : Int32 × (Nat → Int32)} (CX : cx cX0_shiftLeft none 8 RX0 wsX0_shiftLeft (dC, dI) (TY cyB cyC cyI cyJ cyZ) p s m args meth c) (hA : ∀ q : Nat, s.heap.size ≤ q → A q) (n : Nat) {r32 : Int32 → (Nat → Int32) → Int32 → Int32 → Int32 → Int32 → Option (Int32 × (Nat → Int32))} (hr32 : J_X0_shiftLeft_32 p l e s m args below meth c dC dI cyB cyC cyI cyJ cyZ aB aBl A out r32) : J_X0_shiftLeft_32 p l e s m args below meth c dC dI cyB cyC cyI cyJ cyZ aB aBl A out (fb_X0_shiftLeft_32 n r32) := by
  intro B_used Bl x2 x3 x4 x5 H locs hf hP hD hS ls hl
  obtain ⟨hx, hb, hr, hml, hown, hts, hlocks, hK, hN⟩ := id CX
  unfold fb_X0_shiftLeft_32 at hf
  refine lv_iload hx hb dX0_shiftLeft_32 (lv_at hl 4 rfl) ?_
  refine lv_if_lt (tgt := 82) hx hb dX0_shiftLeft_34 (by decide) (fun hc => ?_) (fun hc => ?_)
  · have hf := (if_pos hc).symm.trans hf
    refine lv_aload_n hx hb dX0_shiftLeft_82 rfl (lv_at hl 0 rfl) ?_
    refine lv_iload hx hb dX0_shiftLeft_83 (lv_at hl 3 rfl) ?_
    refine va_put (D := (dC, dI)) (ci := 0) (v := .int x4) (ty := .int) (C := RX0) (T := TX0) (N := 2) hx hb hts i_X0_shiftLeft_X0 tyX0 tyX0_ok nmX0 hown hK hP hD hS 0 rfl rfl 1 (by decide) (hts (.fieldLink RX0 13 "TokenRow$Big" "used" "I") (List.mem_of_getElem? (i := 1) rfl)) (fun _ h9 => h9) rfl (by decide +kernel) rfl rfl (Nat.le_of_ble_eq_true rfl) dX0_shiftLeft_85 (fun H1 locs hP hD hS => ?_)
    have hP : va_P (dC, dI) vwCl [(aB, .inr (0, [.ref aBl, .int x4])), (aBl, .inl (cyI, 136, .inl Bl))] H1 := hP
    have hD : va_D A [(aB, .inr (0, [.ref aBl, .int x4])), (aBl, .inl (cyI, 136, .inl Bl))] := hD
    refine lv_aload_n hx hb dX0_shiftLeft_88 rfl (lv_at hl 0 rfl) ?_
    obtain ⟨z2, hz2, hf⟩ := bd_ok hf
    have hPc := hP.sub (ws' := [(aB, .inr (0, [.ref aBl, .int x4])), (aBl, .inl (cyI, 136, .inl Bl))]) [0, 1] rfl
    have hDc := hD.sub (ws' := [(aB, .inr (0, [.ref aBl, .int x4])), (aBl, .inl (cyI, 136, .inl Bl))]) [0, 1] (by decide) rfl
    have hFc := va_free (wc := [(aB, .inr (0, [.ref aBl, .int x4])), (aBl, .inl (cyI, 136, .inl Bl))]) hD hS hA [0, 1] rfl
    refine va_callv (va_runV (As := []) (rest := []) ⟨hx, hb, hml, hown, hts⟩ (m_X0_dropZeros l dC dI cyB cyC cyI cyJ cyZ aB aBl  H1.size  x4 Bl n z2 hz2) (cwV 0 hts gX0_shiftLeft_X0_dropZeros rfl rfl rfl (by decide +kernel) ⟨Nat.le_of_ble_eq_true rfl, Nat.le_of_ble_eq_true rfl⟩) (prwV (va_recv hK hP (ci := 0) (q0 := 0) rfl rfl) hPc hK hDc hN) rfl rfl hl.1 rfl (lv_room (Nat.le_of_ble_eq_true rfl)) dX0_shiftLeft_89 ⟨Nat.le_of_ble_eq_true rfl, Nat.le_of_ble_eq_true rfl⟩) hS (fun q _ h => hFc q h) hFc (fun u4 t9 H3 locs ht hvm hw hB hz1 hk1 hS => ?_)
    subst hw
    obtain ⟨hP1, hD1⟩ := hB
    rw [ht] at hP1
    obtain ⟨hP, hD⟩ := va_join (wr := []) (w1 := [(aB, .inr (0, [.ref aBl, .int u4])), (aBl, .inl (cyI, 136, .inl Bl))]) hP hD [0, 1] [] rfl rfl (by decide) (by decide) hk1 hFc hP1 hD1
    have hP := hP.sub (ws' := [(aB, .inr (0, [.ref aBl, .int u4])), (aBl, .inl (cyI, 136, .inl Bl))]) [0, 1] rfl
    have hD := hD.sub (ws' := [(aB, .inr (0, [.ref aBl, .int u4])), (aBl, .inl (cyI, 136, .inl Bl))]) [0, 1] (by decide) rfl
    exact W.vret hx hb hr (fun t ht hW => ⟨⟨(u4, Bl), rfl, Option.some.inj hf, by rw [ht]; exact hP, hD⟩, hS.F ht⟩) hS.2.2 dX0_shiftLeft_92
  · have hf := (if_neg hc).symm.trans hf
    refine lv_aload_n hx hb dX0_shiftLeft_37 rfl (lv_at hl 0 rfl) ?_
    refine lv_iload hx hb dX0_shiftLeft_38 (lv_at hl 4 rfl) ?_
    refine lv_iload_n hx hb dX0_shiftLeft_40 rfl (lv_at hl 1 rfl) ?_
    refine lv_isub hx hb dX0_shiftLeft_41 ?_
    obtain ⟨z5, hz5, hf⟩ := bd_ok hf
    have hPc := hP.sub (ws' := [(aB, .inr (0, [.ref aBl, .int B_used])), (aBl, .inl (cyI, 136, .inl Bl))]) [0, 1] rfl
    refine vp_callSl (va_Run.run (va_runV (As := [.int (x5 - x2)]) (rest := []) ⟨hx, hb, hml, hown, hts⟩ (m_X0_limbOrZero l dC dI cyB cyC cyI cyJ cyZ aB aBl  (x5 - x2) B_used Bl n z5 hz5) (cwV 1 hts gX0_shiftLeft_X0_limbOrZero rfl rfl rfl (by decide +kernel) ⟨Nat.le_of_ble_eq_true rfl, Nat.le_of_ble_eq_true rfl⟩) (proV (va_recv hK hP (ci := 0) (q0 := 0) rfl rfl) hPc hK hN) rfl rfl hl.1 rfl (lv_room (Nat.le_of_ble_eq_true rfl)) dX0_shiftLeft_42 ⟨Nat.le_of_ble_eq_true rfl, Nat.le_of_ble_eq_true rfl⟩)) (fun o5 hr9 => ?_)
    subst hr9
    refine lv_bipush (v := (32 : Int32)) hx hb dX0_shiftLeft_45 (by decide) ?_
    refine lv_lshl (v := o5 <<< ((32 : Int32).toInt64 &&& 63)) hx hb dX0_shiftLeft_47 rfl ?_
    refine lv_aload_n hx hb dX0_shiftLeft_48 rfl (lv_at hl 0 rfl) ?_
    refine lv_iload hx hb dX0_shiftLeft_49 (lv_at hl 4 rfl) ?_
    refine lv_iload_n hx hb dX0_shiftLeft_51 rfl (lv_at hl 1 rfl) ?_
    refine lv_isub hx hb dX0_shiftLeft_52 ?_
    refine lv_iconst (v := (1 : Int32)) hx hb dX0_shiftLeft_53 (by decide) ?_
    refine lv_isub hx hb dX0_shiftLeft_54 ?_
    obtain ⟨z6, hz6, hf⟩ := bd_ok hf
    have hPc := hP.sub (ws' := [(aB, .inr (0, [.ref aBl, .int B_used])), (aBl, .inl (cyI, 136, .inl Bl))]) [0, 1] rfl
    refine vp_callSl (va_Run.run (va_runV (As := [.int ((x5 - x2) - (1 : Int32))]) (rest := [.long (o5 <<< ((32 : Int32).toInt64 &&& 63))]) ⟨hx, hb, hml, hown, hts⟩ (m_X0_limbOrZero l dC dI cyB cyC cyI cyJ cyZ aB aBl  ((x5 - x2) - (1 : Int32)) B_used Bl n z6 hz6) (cwV 1 hts gX0_shiftLeft_X0_limbOrZero rfl rfl rfl (by decide +kernel) ⟨Nat.le_of_ble_eq_true rfl, Nat.le_of_ble_eq_true rfl⟩) (proV (va_recv hK hP (ci := 0) (q0 := 0) rfl rfl) hPc hK hN) rfl rfl hl.1 rfl (lv_room (Nat.le_of_ble_eq_true rfl)) dX0_shiftLeft_55 ⟨Nat.le_of_ble_eq_true rfl, Nat.le_of_ble_eq_true rfl⟩)) (fun o6 hr9 => ?_)
    subst hr9
    refine lv_lor hx hb dX0_shiftLeft_58 ?_
    refine lv_topl (fun y7 ey7 => ?_)
    have hf := lt_ok hf y7 ey7
    refine lv_lstore (lv' := [(6, .long y7), (0, .ref aB), (2, .int x2), (3, .int x3), (4, .int x4), (5, .int x5)]) hx hb dX0_shiftLeft_59 hl (by decide) rfl (fun ls hl => ?_)
    refine lv_aload_n hx hb dX0_shiftLeft_61 rfl (lv_at hl 1 rfl) ?_
    refine va_get (D := (dC, dI)) (ci := 0) (v := .ref aBl) (C := RX0) (T := TX0) (N := 2) hx hb hts i_X0_shiftLeft_X0 hown hK hP 0 rfl rfl 0 (by decide) (hts (.fieldLink RX0 9 "TokenRow$Big" "limbs" "[I") (List.mem_of_getElem? (i := 6) rfl)) (fun _ h9 => h9) rfl dX0_shiftLeft_62 ?_
    refine lv_iload hx hb dX0_shiftLeft_65 (lv_at hl 5 rfl) ?_
    refine lv_lload hx hb dX0_shiftLeft_67 (lv_at hl 0 rfl) ?_
    refine lv_bipush (v := (32 : Int32)) hx hb dX0_shiftLeft_69 (by decide) ?_
    refine lv_iload_n hx hb dX0_shiftLeft_71 rfl (lv_at hl 3 rfl) ?_
    refine lv_isub hx hb dX0_shiftLeft_72 ?_
    refine lv_lushr (v := (y7.toUInt64 >>> (((32 : Int32) - x3).toInt64.toUInt64 &&& Int64.toUInt64 63)).toInt64) hx hb dX0_shiftLeft_73 rfl ?_
    refine lv_l2i (v := ((y7.toUInt64 >>> (((32 : Int32) - x3).toInt64.toUInt64 &&& Int64.toUInt64 63)).toInt64).toInt32) hx hb dX0_shiftLeft_74 rfl ?_
    refine lv_topi (fun y8 ey8 => ?_)
    have hf := lt_ok hf y8 ey8
    obtain ⟨hg, hf⟩ := gu_ok hf
    refine va_iast hx hb hK hP hD hS 1 2 rfl rfl (gd_in hg) dX0_shiftLeft_75 (fun H9 locs hP hD hS => ?_)
    have hP : va_P (dC, dI) vwCl [(aB, .inr (0, [.ref aBl, .int B_used])), (aBl, .inl (cyI, 136, .inl (upd Bl (x5).toNatClampNeg y8)))] H9 := hP
    have hD : va_D A [(aB, .inr (0, [.ref aBl, .int B_used])), (aBl, .inl (cyI, 136, .inl (upd Bl (x5).toNatClampNeg y8)))] := hD
    obtain ⟨y10, ey10⟩ : ∃ y : Int32, y = x5 + (-1 : Int32) := ⟨_, rfl⟩
    have hf := lt_ok hf y10 ey10
    refine lv_iinc (v := y10) (lv' := [(5, .int y10), (6, .long y7), (0, .ref aB), (2, .int x2), (3, .int x3), (4, .int x4)]) hx hb dX0_shiftLeft_76 hl (k := 5) rfl (by rw [ey10]; rfl) (by decide) rfl (fun ls hl => ?_)
    refine lv_goto (tgt := 32) hx hb dX0_shiftLeft_79 (by decide) ?_
    exact hr32 _ _ _ _ _ _ _ _ hf hP hD hS ls (lv_sub hl [2, 3, 4, 5, 0] rfl)
def f_X0_shiftLeft_32 (n : Nat) : Nat → Int32 → (Nat → Int32) → Int32 → Int32 → Int32 → Int32 → Option (Int32 × (Nat → Int32))
  | 0 => fun _ _ _ _ _ _ => none
  | k + 1 => fun B_used Bl x2 x3 x4 x5 => fb_X0_shiftLeft_32 n (f_X0_shiftLeft_32 n k) B_used Bl x2 x3 x4 x5
set_option maxHeartbeats 4000000 in
set_option maxRecDepth 100000 in
theorem k_X0_shiftLeft_32 {p : Program} {l : Launch} {e : Env} {s : State} {m : MethodId} {args : Array Value} {below : List Frame} {meth : Method} {c : Code} {dC : Nat → ClassId} {dI : Nat → Nat → Nat} {cyB cyC cyI cyJ cyZ : ClassId} {aB aBl : Nat} {A : Nat → Prop} {out : Int32 × (Nat → Int32)} (CX : cx cX0_shiftLeft none 8 RX0 wsX0_shiftLeft (dC, dI) (TY cyB cyC cyI cyJ cyZ) p s m args meth c) (hA : ∀ q : Nat, s.heap.size ≤ q → A q) (n : Nat) : ∀ k : Nat, J_X0_shiftLeft_32 p l e s m args below meth c dC dI cyB cyC cyI cyJ cyZ aB aBl A out (f_X0_shiftLeft_32 n k) := by
  intro k
  induction k with
  | zero =>
    intro B_used Bl x2 x3 x4 x5 H locs hf
    exact absurd (show (none : Option (Int32 × (Nat → Int32))) = some out from hf) (by simp)
  | succ k ih =>
    exact kb_X0_shiftLeft_32 CX hA n ih
def f_X0_shiftLeft_0 (n : Nat) (B_used : Int32) (Bl : Nat → Int32) (x1 : Int32) : Option (Int32 × (Nat → Int32)) :=
  gu (gz (32 : Int32)) (
  lt_ (x1 / (32 : Int32)) fun y1 =>
  gu (gz (32 : Int32)) (
  lt_ (x1 - x1 / (32 : Int32) * (32 : Int32)) fun y2 =>
  lt_ (if (136 : Int32) < ((B_used + y1) + (1 : Int32)) then (136 : Int32) else (B_used + y1) + (1 : Int32)) fun y3 =>
  lt_ (y3 - (1 : Int32)) fun y4 =>
  f_X0_shiftLeft_32 n n B_used Bl y1 y2 y3 y4))
set_option maxHeartbeats 4000000 in
set_option maxRecDepth 100000 in
theorem k_X0_shiftLeft_0 {p : Program} {l : Launch} {e : Env} {s : State} {m : MethodId} {args : Array Value} {below : List Frame} {meth : Method} {c : Code} {dC : Nat → ClassId} {dI : Nat → Nat → Nat} {cyB cyC cyI cyJ cyZ : ClassId} {aB aBl : Nat} {A : Nat → Prop} {out : Int32 × (Nat → Int32)} (CX : cx cX0_shiftLeft none 8 RX0 wsX0_shiftLeft (dC, dI) (TY cyB cyC cyI cyJ cyZ) p s m args meth c) (hA : ∀ q : Nat, s.heap.size ≤ q → A q) (n : Nat) : J_X0_shiftLeft_0 p l e s m args below meth c dC dI cyB cyC cyI cyJ cyZ aB aBl A out (f_X0_shiftLeft_0 n) := by
  intro B_used Bl x1 H locs hf hP hD hS ls hl
  obtain ⟨hx, hb, hr, hml, hown, hts, hlocks, hK, hN⟩ := id CX
  unfold f_X0_shiftLeft_0 at hf
  refine lv_iload_n hx hb dX0_shiftLeft_0 rfl (lv_at hl 1 rfl) ?_
  refine lv_bipush (v := (32 : Int32)) hx hb dX0_shiftLeft_1 (by decide) ?_
  obtain ⟨hg, hf⟩ := gu_ok hf
  refine lv_idiv hx hb dX0_shiftLeft_3 (gz_ne hg) ?_
  refine lv_topi (fun y1 ey1 => ?_)
  have hf := lt_ok hf y1 ey1
  refine lv_istore_n (lv' := [(2, .int y1), (0, .ref aB), (1, .int x1)]) hx hb dX0_shiftLeft_4 rfl hl (by decide) rfl (fun ls hl => ?_)
  refine lv_iload_n hx hb dX0_shiftLeft_5 rfl (lv_at hl 2 rfl) ?_
  refine lv_bipush (v := (32 : Int32)) hx hb dX0_shiftLeft_6 (by decide) ?_
  obtain ⟨hg, hf⟩ := gu_ok hf
  refine lv_irem hx hb dX0_shiftLeft_8 (gz_ne hg) ?_
  refine lv_topi (fun y2 ey2 => ?_)
  have hf := lt_ok hf y2 ey2
  refine lv_istore_n (lv' := [(3, .int y2), (2, .int y1), (0, .ref aB), (1, .int x1)]) hx hb dX0_shiftLeft_9 rfl hl (by decide) rfl (fun ls hl => ?_)
  refine lv_aload_n hx hb dX0_shiftLeft_10 rfl (lv_at hl 2 rfl) ?_
  refine va_get (D := (dC, dI)) (ci := 0) (v := .int B_used) (C := RX0) (T := TX0) (N := 2) hx hb hts i_X0_shiftLeft_X0 hown hK hP 0 rfl rfl 1 (by decide) (hts (.fieldLink RX0 13 "TokenRow$Big" "used" "I") (List.mem_of_getElem? (i := 1) rfl)) (fun _ h9 => h9) rfl dX0_shiftLeft_11 ?_
  refine lv_iload_n hx hb dX0_shiftLeft_14 rfl (lv_at hl 1 rfl) ?_
  refine lv_iadd hx hb dX0_shiftLeft_15 ?_
  refine lv_iconst (v := (1 : Int32)) hx hb dX0_shiftLeft_16 (by decide) ?_
  refine lv_iadd hx hb dX0_shiftLeft_17 ?_
  refine lv_sipush (v := (136 : Int32)) hx hb dX0_shiftLeft_18 (by decide) ?_
  refine va_mmin hx hb (hml.trans hl.1.symm) hown (hts (.methodLink RX0 30 Lib.Math.min.name) (List.mem_of_getElem? (i := 2) rfl)) (hts (.static Lib.Math.min.name) (List.mem_of_getElem? (i := 3) rfl)) (hts (.initialized "java/lang/Math") (List.mem_of_getElem? (i := 4) rfl)) (hts (.code Lib.Math.min.name Lib.Math.min.code 2 (some .int)) (List.mem_of_getElem? (i := 5) rfl)) (Nat.le_of_ble_eq_true rfl) (Nat.le_of_ble_eq_true rfl) (Nat.le_of_ble_eq_true rfl) (Nat.le_of_ble_eq_true rfl) dX0_shiftLeft_21 ?_
  refine lv_topi (fun y3 ey3 => ?_)
  have hf := lt_ok hf y3 ey3
  refine lv_istore (lv' := [(4, .int y3), (3, .int y2), (2, .int y1), (0, .ref aB), (1, .int x1)]) hx hb dX0_shiftLeft_24 hl (by decide) rfl (fun ls hl => ?_)
  refine lv_iload hx hb dX0_shiftLeft_26 (lv_at hl 0 rfl) ?_
  refine lv_iconst (v := (1 : Int32)) hx hb dX0_shiftLeft_28 (by decide) ?_
  refine lv_isub hx hb dX0_shiftLeft_29 ?_
  refine lv_topi (fun y4 ey4 => ?_)
  have hf := lt_ok hf y4 ey4
  refine lv_istore (lv' := [(5, .int y4), (4, .int y3), (3, .int y2), (2, .int y1), (0, .ref aB), (1, .int x1)]) hx hb dX0_shiftLeft_30 hl (by decide) rfl (fun ls hl => ?_)
  exact k_X0_shiftLeft_32 CX hA n n _ _ _ _ _ _ _ _ hf hP hD hS ls (lv_sub hl [4, 3, 2, 1, 0] rfl)
def f_X0_shiftLeft (n : Nat) (p1 : Int32) (B_used : Int32) (Bl : Nat → Int32) : Option (Int32 × (Nat → Int32)) := f_X0_shiftLeft_0 n B_used Bl p1
set_option maxHeartbeats 4000000 in
set_option maxRecDepth 100000 in
/-- TokenRow$Big.shiftLeft(I)V -/
theorem m_X0_shiftLeft (l : Launch) (dC : Nat → ClassId) (dI : Nat → Nat → Nat) (cyB cyC cyI cyJ cyZ : ClassId) (aB aBl : Nat) (sz : Nat) (p1 : Int32) (B_used : Int32) (Bl : Nat → Int32) (n : Nat) (out : Int32 × (Nat → Int32)) (hf : f_X0_shiftLeft n p1 B_used Bl = some out) : Met l yX0_shiftLeft wsX0_shiftLeft rm_X0_shiftLeft (Prw (dC, dI) (TY cyB cyC cyI cyJ cyZ) [.ref aB, .int p1] sz [(aB, .inr (0, [.ref aBl, .int B_used])), (aBl, .inl (cyI, 136, .inl Bl))]) (va_Qv (fun (u : Int32 × (Nat → Int32)) => u = out) (Bw (dC, dI) (va_A [(aB, .inr (0, [.ref aBl, .int B_used])), (aBl, .inl (cyI, 136, .inl Bl))] sz) (fun u => [(aB, .inr (0, [.ref aBl, .int u.1])), (aBl, .inl (cyI, 136, .inl u.2))])) (va_A [(aB, .inr (0, [.ref aBl, .int B_used])), (aBl, .inl (cyI, 136, .inl Bl))] sz)) 0 0 (va_A [(aB, .inr (0, [.ref aBl, .int B_used])), (aBl, .inl (cyI, 136, .inl Bl))] sz) := by
  refine Met.ofW (cc := cX0_shiftLeft) (maxL := 8) (ret := none) (by decide) rfl ?_
  intro p e s m args below meth c s₁ B hml hv
  obtain ⟨rfl, hsz, hP, hK, hD0, hN⟩ := hv
  subst hsz
  have hD := hD0.self (sz := s.heap.size)
  have CX : cx cX0_shiftLeft none 8 RX0 wsX0_shiftLeft (dC, dI) (TY cyB cyC cyI cyJ cyZ) p s m ([.ref aB, .int p1] : List Value).toArray meth c := ⟨B.exec, B.bytes, B.returns, hml, findClass_of_methodNamed B.named, atoms_spec (ws := wsX0_shiftLeft) B.pre, B.notSynchronized, hK, hN⟩
  have hl := lv_entry ([.ref aB, .int p1]) (n := 8) (Nat.le_of_ble_eq_true rfl)
  rw [lg_entry_eq]
  exact k_X0_shiftLeft_0 CX (fun q h => Or.inr h) n _ _ _ _ _ hf hP hD va_S.rf _ hl
