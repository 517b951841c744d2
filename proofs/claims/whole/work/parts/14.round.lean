abbrev rm_J6_numberOfLeadingZeros_0f7a4 : Room := { frames := 0, cells := 0, slots := 0, locals := 0 }
def J_J6_numberOfLeadingZeros_0f7a4_73 (p : Program) (l : Launch) (e : Env) (s : State) (m : MethodId) (args : Array Value) (below : List Frame) (meth : Method) (c : Code) (dC : Nat → ClassId) (dI : Nat → Nat → Nat) (cyB cyC cyI cyJ cyZ : ClassId) (out : Int32) (g : Int32 → Int32 → Option (Int32)) : Prop := ∀ (x0 : Int32) (x1 : Int32), g x0 x1 = some out → ∀ ls : Array Slot, lv_has ls 2 [(0, .int x0), (1, .int x1)] → W p l e rm_J6_numberOfLeadingZeros_0f7a4 s m args below meth c s.heap [] 0 0 (MQ below (vp_Si (fun r => r = out)) args s 0 0 (fun _ => False)) (F0 m 73 ls [])
def J_J6_numberOfLeadingZeros_0f7a4_61 (p : Program) (l : Launch) (e : Env) (s : State) (m : MethodId) (args : Array Value) (below : List Frame) (meth : Method) (c : Code) (dC : Nat → ClassId) (dI : Nat → Nat → Nat) (cyB cyC cyI cyJ cyZ : ClassId) (out : Int32) (g : Int32 → Int32 → Option (Int32)) : Prop := ∀ (x0 : Int32) (x1 : Int32), g x0 x1 = some out → ∀ ls : Array Slot, lv_has ls 2 [(0, .int x0), (1, .int x1)] → W p l e rm_J6_numberOfLeadingZeros_0f7a4 s m args below meth c s.heap [] 0 0 (MQ below (vp_Si (fun r => r = out)) args s 0 0 (fun _ => False)) (F0 m 61 ls [])
def J_J6_numberOfLeadingZeros_0f7a4_48 (p : Program) (l : Launch) (e : Env) (s : State) (m : MethodId) (args : Array Value) (below : List Frame) (meth : Method) (c : Code) (dC : Nat → ClassId) (dI : Nat → Nat → Nat) (cyB cyC cyI cyJ cyZ : ClassId) (out : Int32) (g : Int32 → Int32 → Option (Int32)) : Prop := ∀ (x0 : Int32) (x1 : Int32), g x0 x1 = some out → ∀ ls : Array Slot, lv_has ls 2 [(0, .int x0), (1, .int x1)] → W p l e rm_J6_numberOfLeadingZeros_0f7a4 s m args below meth c s.heap [] 0 0 (MQ below (vp_Si (fun r => r = out)) args s 0 0 (fun _ => False)) (F0 m 48 ls [])
def J_J6_numberOfLeadingZeros_0f7a4_33 (p : Program) (l : Launch) (e : Env) (s : State) (m : MethodId) (args : Array Value) (below : List Frame) (meth : Method) (c : Code) (dC : Nat → ClassId) (dI : Nat → Nat → Nat) (cyB cyC cyI cyJ cyZ : ClassId) (out : Int32) (g : Int32 → Int32 → Option (Int32)) : Prop := ∀ (x0 : Int32) (x1 : Int32), g x0 x1 = some out → ∀ ls : Array Slot, lv_has ls 2 [(0, .int x0), (1, .int x1)] → W p l e rm_J6_numberOfLeadingZeros_0f7a4 s m args below meth c s.heap [] 0 0 (MQ below (vp_Si (fun r => r = out)) args s 0 0 (fun _ => False)) (F0 m 33 ls [])
def J_J6_numberOfLeadingZeros_0f7a4_0 (p : Program) (l : Launch) (e : Env) (s : State) (m : MethodId) (args : Array Value) (below : List Frame) (meth : Method) (c : Code) (dC : Nat → ClassId) (dI : Nat → Nat → Nat) (cyB cyC cyI cyJ cyZ : ClassId) (out : Int32) (g : Int32 → Option (Int32)) : Prop := ∀ (x0 : Int32), g x0 = some out → ∀ ls : Array Slot, lv_has ls 2 [(0, .int x0)] → W p l e rm_J6_numberOfLeadingZeros_0f7a4 s m args below meth c s.heap [] 0 0 (MQ below (vp_Si (fun r => r = out)) args s 0 0 (fun _ => False)) (F0 m 0 ls [])
def f_J6_numberOfLeadingZeros_0f7a4_73 (n : Nat) (x0 : Int32) (x1 : Int32) : Option (Int32) :=
  some (x1 - ((x0.toUInt32 >>> ((1 : Int32).toUInt32 &&& Int32.toUInt32 31)).toInt32))
set_option maxHeartbeats 4000000 in
set_option maxRecDepth 100000 in
theorem k_J6_numberOfLeadingZeros_0f7a4_73 {p : Program} {l : Launch} {e : Env} {s : State} {m : MethodId} {args : Array Value} {below : List Frame} {meth : Method} {c : Code} {dC : Nat → ClassId} {dI : Nat → Nat → Nat} {cyB cyC cyI cyJ cyZ : ClassId} {out : Int32} (CX : cx cJ6_numberOfLeadingZeros_0f7a4 (some .int) 2 RJ6 wsJ6_numberOfLeadingZeros_0f7a4 (dC, dI) (TY cyB cyC cyI cyJ cyZ) p s m args meth c) (hP : va_P (dC, dI) vwCl [] s.heap) (n : Nat) : J_J6_numberOfLeadingZeros_0f7a4_73 p l e s m args below meth c dC dI cyB cyC cyI cyJ cyZ out (f_J6_numberOfLeadingZeros_0f7a4_73 n) := by
  intro x0 x1 hf ls hl
  obtain ⟨hx, hb, hr, hml, hown, hts, hlocks, hK, hN⟩ := id CX
  unfold f_J6_numberOfLeadingZeros_0f7a4_73 at hf
  refine lv_iload_n hx hb dJ6_numberOfLeadingZeros_0f7a4_73 rfl (lv_at hl 1 rfl) ?_
  refine lv_iload_n hx hb dJ6_numberOfLeadingZeros_0f7a4_74 rfl (lv_at hl 0 rfl) ?_
  refine lv_iconst (v := (1 : Int32)) hx hb dJ6_numberOfLeadingZeros_0f7a4_75 (by decide) ?_
  refine lv_iushr (v := (x0.toUInt32 >>> ((1 : Int32).toUInt32 &&& Int32.toUInt32 31)).toInt32) hx hb dJ6_numberOfLeadingZeros_0f7a4_76 rfl ?_
  refine lv_isub hx hb dJ6_numberOfLeadingZeros_0f7a4_77 ?_
  exact W.iret (v := x1 - ((x0.toUInt32 >>> ((1 : Int32).toUInt32 &&& Int32.toUInt32 31)).toInt32)) hx hb hr (fun t ht hW => ⟨_, rfl, Option.some.inj hf, ht⟩) (fun _ h => nomatch h) dJ6_numberOfLeadingZeros_0f7a4_78
def f_J6_numberOfLeadingZeros_0f7a4_61 (n : Nat) (x0 : Int32) (x1 : Int32) : Option (Int32) :=
  if x0 < (4 : Int32) then
  (f_J6_numberOfLeadingZeros_0f7a4_73 n x0 x1)
  else
  (lt_ (x1 + (-2 : Int32)) fun y1 =>
  lt_ ((x0.toUInt32 >>> ((2 : Int32).toUInt32 &&& Int32.toUInt32 31)).toInt32) fun y2 =>
  f_J6_numberOfLeadingZeros_0f7a4_73 n y2 y1)
set_option maxHeartbeats 4000000 in
set_option maxRecDepth 100000 in
theorem k_J6_numberOfLeadingZeros_0f7a4_61 {p : Program} {l : Launch} {e : Env} {s : State} {m : MethodId} {args : Array Value} {below : List Frame} {meth : Method} {c : Code} {dC : Nat → ClassId} {dI : Nat → Nat → Nat} {cyB cyC cyI cyJ cyZ : ClassId} {out : Int32} (CX : cx cJ6_numberOfLeadingZeros_0f7a4 (some .int) 2 RJ6 wsJ6_numberOfLeadingZeros_0f7a4 (dC, dI) (TY cyB cyC cyI cyJ cyZ) p s m args meth c) (hP : va_P (dC, dI) vwCl [] s.heap) (n : Nat) : J_J6_numberOfLeadingZeros_0f7a4_61 p l e s m args below meth c dC dI cyB cyC cyI cyJ cyZ out (f_J6_numberOfLeadingZeros_0f7a4_61 n) := by
  intro x0 x1 hf ls hl
  obtain ⟨hx, hb, hr, hml, hown, hts, hlocks, hK, hN⟩ := id CX
  unfold f_J6_numberOfLeadingZeros_0f7a4_61 at hf
  refine lv_iload_n hx hb dJ6_numberOfLeadingZeros_0f7a4_61 rfl (lv_at hl 0 rfl) ?_
  refine lv_iconst (v := (4 : Int32)) hx hb dJ6_numberOfLeadingZeros_0f7a4_62 (by decide) ?_
  refine lv_icmp_lt (tgt := 73) hx hb dJ6_numberOfLeadingZeros_0f7a4_63 (by decide) (fun hc => ?_) (fun hc => ?_)
  · have hf := (if_pos hc).symm.trans hf
    exact k_J6_numberOfLeadingZeros_0f7a4_73 CX hP n _ _ hf ls (lv_sub hl [0, 1] rfl)
  · have hf := (if_neg hc).symm.trans hf
    obtain ⟨y1, ey1⟩ : ∃ y : Int32, y = x1 + (-2 : Int32) := ⟨_, rfl⟩
    have hf := lt_ok hf y1 ey1
    refine lv_iinc (v := y1) (lv' := [(1, .int y1), (0, .int x0)]) hx hb dJ6_numberOfLeadingZeros_0f7a4_66 hl (k := 1) rfl (by rw [ey1]; rfl) (by decide) rfl (fun ls hl => ?_)
    refine lv_iload_n hx hb dJ6_numberOfLeadingZeros_0f7a4_69 rfl (lv_at hl 1 rfl) ?_
    refine lv_iconst (v := (2 : Int32)) hx hb dJ6_numberOfLeadingZeros_0f7a4_70 (by decide) ?_
    refine lv_iushr (v := (x0.toUInt32 >>> ((2 : Int32).toUInt32 &&& Int32.toUInt32 31)).toInt32) hx hb dJ6_numberOfLeadingZeros_0f7a4_71 rfl ?_
    refine lv_topi (fun y2 ey2 => ?_)
    have hf := lt_ok hf y2 ey2
    refine lv_istore_n (lv' := [(0, .int y2), (1, .int y1)]) hx hb dJ6_numberOfLeadingZeros_0f7a4_72 rfl hl (by decide) rfl (fun ls hl => ?_)
    exact k_J6_numberOfLeadingZeros_0f7a4_73 CX hP n _ _ hf ls (lv_sub hl [0, 1] rfl)
def f_J6_numberOfLeadingZeros_0f7a4_48 (n : Nat) (x0 : Int32) (x1 : Int32) : Option (Int32) :=
  if x0 < (16 : Int32) then
  (f_J6_numberOfLeadingZeros_0f7a4_61 n x0 x1)
  else
  (lt_ (x1 + (-4 : Int32)) fun y1 =>
  lt_ ((x0.toUInt32 >>> ((4 : Int32).toUInt32 &&& Int32.toUInt32 31)).toInt32) fun y2 =>
  f_J6_numberOfLeadingZeros_0f7a4_61 n y2 y1)
set_option maxHeartbeats 4000000 in
set_option maxRecDepth 100000 in
theorem k_J6_numberOfLeadingZeros_0f7a4_48 {p : Program} {l : Launch} {e : Env} {s : State} {m : MethodId} {args : Array Value} {below : List Frame} {meth : Method} {c : Code} {dC : Nat → ClassId} {dI : Nat → Nat → Nat} {cyB cyC cyI cyJ cyZ : ClassId} {out : Int32} (CX : cx cJ6_numberOfLeadingZeros_0f7a4 (some .int) 2 RJ6 wsJ6_numberOfLeadingZeros_0f7a4 (dC, dI) (TY cyB cyC cyI cyJ cyZ) p s m args meth c) (hP : va_P (dC, dI) vwCl [] s.heap) (n : Nat) : J_J6_numberOfLeadingZeros_0f7a4_48 p l e s m args below meth c dC dI cyB cyC cyI cyJ cyZ out (f_J6_numberOfLeadingZeros_0f7a4_48 n) := by
  intro x0 x1 hf ls hl
  obtain ⟨hx, hb, hr, hml, hown, hts, hlocks, hK, hN⟩ := id CX
  unfold f_J6_numberOfLeadingZeros_0f7a4_48 at hf
  refine lv_iload_n hx hb dJ6_numberOfLeadingZeros_0f7a4_48 rfl (lv_at hl 0 rfl) ?_
  refine lv_bipush (v := (16 : Int32)) hx hb dJ6_numberOfLeadingZeros_0f7a4_49 (by decide) ?_
  refine lv_icmp_lt (tgt := 61) hx hb dJ6_numberOfLeadingZeros_0f7a4_51 (by decide) (fun hc => ?_) (fun hc => ?_)
  · have hf := (if_pos hc).symm.trans hf
    exact k_J6_numberOfLeadingZeros_0f7a4_61 CX hP n _ _ hf ls (lv_sub hl [0, 1] rfl)
  · have hf := (if_neg hc).symm.trans hf
    obtain ⟨y1, ey1⟩ : ∃ y : Int32, y = x1 + (-4 : Int32) := ⟨_, rfl⟩
    have hf := lt_ok hf y1 ey1
    refine lv_iinc (v := y1) (lv' := [(1, .int y1), (0, .int x0)]) hx hb dJ6_numberOfLeadingZeros_0f7a4_54 hl (k := 1) rfl (by rw [ey1]; rfl) (by decide) rfl (fun ls hl => ?_)
    refine lv_iload_n hx hb dJ6_numberOfLeadingZeros_0f7a4_57 rfl (lv_at hl 1 rfl) ?_
    refine lv_iconst (v := (4 : Int32)) hx hb dJ6_numberOfLeadingZeros_0f7a4_58 (by decide) ?_
    refine lv_iushr (v := (x0.toUInt32 >>> ((4 : Int32).toUInt32 &&& Int32.toUInt32 31)).toInt32) hx hb dJ6_numberOfLeadingZeros_0f7a4_59 rfl ?_
    refine lv_topi (fun y2 ey2 => ?_)
    have hf := lt_ok hf y2 ey2
    refine lv_istore_n (lv' := [(0, .int y2), (1, .int y1)]) hx hb dJ6_numberOfLeadingZeros_0f7a4_60 rfl hl (by decide) rfl (fun ls hl => ?_)
    exact k_J6_numberOfLeadingZeros_0f7a4_61 CX hP n _ _ hf ls (lv_sub hl [0, 1] rfl)
def f_J6_numberOfLeadingZeros_0f7a4_33 (n : Nat) (x0 : Int32) (x1 : Int32) : Option (Int32) :=
  if x0 < (256 : Int32) then
  (f_J6_numberOfLeadingZeros_0f7a4_48 n x0 x1)
  else
  (lt_ (x1 + (-8 : Int32)) fun y1 =>
  lt_ ((x0.toUInt32 >>> ((8 : Int32).toUInt32 &&& Int32.toUInt32 31)).toInt32) fun y2 =>
  f_J6_numberOfLeadingZeros_0f7a4_48 n y2 y1)
set_option maxHeartbeats 4000000 in
set_option maxRecDepth 100000 in
theorem k_J6_numberOfLeadingZeros_0f7a4_33 {p : Program} {l : Launch} {e : Env} {s : State} {m : MethodId} {args : Array Value} {below : List Frame} {meth : Method} {c : Code} {dC : Nat → ClassId} {dI : Nat → Nat → Nat} {cyB cyC cyI cyJ cyZ : ClassId} {out : Int32} (CX : cx cJ6_numberOfLeadingZeros_0f7a4 (some .int) 2 RJ6 wsJ6_numberOfLeadingZeros_0f7a4 (dC, dI) (TY cyB cyC cyI cyJ cyZ) p s m args meth c) (hP : va_P (dC, dI) vwCl [] s.heap) (n : Nat) : J_J6_numberOfLeadingZeros_0f7a4_33 p l e s m args below meth c dC dI cyB cyC cyI cyJ cyZ out (f_J6_numberOfLeadingZeros_0f7a4_33 n) := by
  intro x0 x1 hf ls hl
  obtain ⟨hx, hb, hr, hml, hown, hts, hlocks, hK, hN⟩ := id CX
  unfold f_J6_numberOfLeadingZeros_0f7a4_33 at hf
  refine lv_iload_n hx hb dJ6_numberOfLeadingZeros_0f7a4_33 rfl (lv_at hl 0 rfl) ?_
  refine lv_sipush (v := (256 : Int32)) hx hb dJ6_numberOfLeadingZeros_0f7a4_34 (by decide) ?_
  refine lv_icmp_lt (tgt := 48) hx hb dJ6_numberOfLeadingZeros_0f7a4_37 (by decide) (fun hc => ?_) (fun hc => ?_)
  · have hf := (if_pos hc).symm.trans hf
    exact k_J6_numberOfLeadingZeros_0f7a4_48 CX hP n _ _ hf ls (lv_sub hl [0, 1] rfl)
  · have hf := (if_neg hc).symm.trans hf
    obtain ⟨y1, ey1⟩ : ∃ y : Int32, y = x1 + (-8 : Int32) := ⟨_, rfl⟩
    have hf := lt_ok hf y1 ey1
    refine lv_iinc (v := y1) (lv' := [(1, .int y1), (0, .int x0)]) hx hb dJ6_numberOfLeadingZeros_0f7a4_40 hl (k := 1) rfl (by rw [ey1]; rfl) (by decide) rfl (fun ls hl => ?_)
    refine lv_iload_n hx hb dJ6_numberOfLeadingZeros_0f7a4_43 rfl (lv_at hl 1 rfl) ?_
    refine lv_bipush (v := (8 : Int32)) hx hb dJ6_numberOfLeadingZeros_0f7a4_44 (by decide) ?_
    refine lv_iushr (v := (x0.toUInt32 >>> ((8 : Int32).toUInt32 &&& Int32.toUInt32 31)).toInt32) hx hb dJ6_numberOfLeadingZeros_0f7a4_46 rfl ?_
    refine lv_topi (fun y2 ey2 => ?_)
    have hf := lt_ok hf y2 ey2
    refine lv_istore_n (lv' := [(0, .int y2), (1, .int y1)]) hx hb dJ6_numberOfLeadingZeros_0f7a4_47 rfl hl (by decide) rfl (fun ls hl => ?_)
    exact k_J6_numberOfLeadingZeros_0f7a4_48 CX hP n _ _ hf ls (lv_sub hl [0, 1] rfl)
def f_J6_numberOfLeadingZeros_0f7a4_0 (n : Nat) (x0 : Int32) : Option (Int32) :=
  if 0 < x0 then
  (if x0 < (65536 : Int32) then
  (f_J6_numberOfLeadingZeros_0f7a4_33 n x0 (31 : Int32))
  else
  (lt_ ((31 : Int32) + (-16 : Int32)) fun y1 =>
  lt_ ((x0.toUInt32 >>> ((16 : Int32).toUInt32 &&& Int32.toUInt32 31)).toInt32) fun y2 =>
  f_J6_numberOfLeadingZeros_0f7a4_33 n y2 y1))
  else
  (if x0 = 0 then
  (some (32 : Int32))
  else
  (some (0 : Int32)))
set_option maxHeartbeats 4000000 in
set_option maxRecDepth 100000 in
theorem k_J6_numberOfLeadingZeros_0f7a4_0 {p : Program} {l : Launch} {e : Env} {s : State} {m : MethodId} {args : Array Value} {below : List Frame} {meth : Method} {c : Code} {dC : Nat → ClassId} {dI : Nat → Nat → Nat} {cyB cyC cyI cyJ cyZ : ClassId} {out : Int32} (CX : cx cJ6_numberOfLeadingZeros_0f7a4 (some .int) 2 RJ6 wsJ6_numberOfLeadingZeros_0f7a4 (dC, dI) (TY cyB cyC cyI cyJ cyZ) p s m args meth c) (hP : va_P (dC, dI) vwCl [] s.heap) (n : Nat) : J_J6_numberOfLeadingZeros_0f7a4_0 p l e s m args below meth c dC dI cyB cyC cyI cyJ cyZ out (f_J6_numberOfLeadingZeros_0f7a4_0 n) := by
  intro x0 hf ls hl
  obtain ⟨hx, hb, hr, hml, hown, hts, hlocks, hK, hN⟩ := id CX
  unfold f_J6_numberOfLeadingZeros_0f7a4_0 at hf
  refine lv_iload_n hx hb dJ6_numberOfLeadingZeros_0f7a4_0 rfl (lv_at hl 0 rfl) ?_
  refine lv_if_gt (tgt := 15) hx hb dJ6_numberOfLeadingZeros_0f7a4_1 (by decide) (fun hc => ?_) (fun hc => ?_)
  · have hf := (if_pos hc).symm.trans hf
    refine lv_bipush (v := (31 : Int32)) hx hb dJ6_numberOfLeadingZeros_0f7a4_15 (by decide) ?_
    refine lv_istore_n (lv' := [(1, .int (31 : Int32)), (0, .int x0)]) hx hb dJ6_numberOfLeadingZeros_0f7a4_17 rfl hl (by decide) rfl (fun ls hl => ?_)
    refine lv_iload_n hx hb dJ6_numberOfLeadingZeros_0f7a4_18 rfl (lv_at hl 1 rfl) ?_
    refine lv_ldcw (v := (65536 : Int32)) hx hb hown (hts (.constant RJ6 264 (65536)) (List.mem_of_getElem? (i := 1) rfl)) dJ6_numberOfLeadingZeros_0f7a4_19 ?_
    refine lv_icmp_lt (tgt := 33) hx hb dJ6_numberOfLeadingZeros_0f7a4_22 (by decide) (fun hc => ?_) (fun hc => ?_)
    · have hf := (if_pos hc).symm.trans hf
      exact k_J6_numberOfLeadingZeros_0f7a4_33 CX hP n _ _ hf ls (lv_sub hl [1, 0] rfl)
    · have hf := (if_neg hc).symm.trans hf
      obtain ⟨y1, ey1⟩ : ∃ y : Int32, y = (31 : Int32) + (-16 : Int32) := ⟨_, rfl⟩
      have hf := lt_ok hf y1 ey1
      refine lv_iinc (v := y1) (lv' := [(1, .int y1), (0, .int x0)]) hx hb dJ6_numberOfLeadingZeros_0f7a4_25 hl (k := 0) rfl (by rw [ey1]; rfl) (by decide) rfl (fun ls hl => ?_)
      refine lv_iload_n hx hb dJ6_numberOfLeadingZeros_0f7a4_28 rfl (lv_at hl 1 rfl) ?_
      refine lv_bipush (v := (16 : Int32)) hx hb dJ6_numberOfLeadingZeros_0f7a4_29 (by decide) ?_
      refine lv_iushr (v := (x0.toUInt32 >>> ((16 : Int32).toUInt32 &&& Int32.toUInt32 31)).toInt32) hx hb dJ6_numberOfLeadingZeros_0f7a4_31 rfl ?_
      refine lv_topi (fun y2 ey2 => ?_)
      have hf := lt_ok hf y2 ey2
      refine lv_istore_n (lv' := [(0, .int y2), (1, .int y1)]) hx hb dJ6_numberOfLeadingZeros_0f7a4_32 rfl hl (by decide) rfl (fun ls hl => ?_)
      exact k_J6_numberOfLeadingZeros_0f7a4_33 CX hP n _ _ hf ls (lv_sub hl [0, 1] rfl)
  · have hf := (if_neg hc).symm.trans hf
    refine lv_iload_n hx hb dJ6_numberOfLeadingZeros_0f7a4_4 rfl (lv_at hl 0 rfl) ?_
    refine lv_if_ne (tgt := 13) hx hb dJ6_numberOfLeadingZeros_0f7a4_5 (by decide) (fun hc => ?_) (fun hc => ?_)
    · have hf := (if_neg hc).symm.trans hf
      refine lv_iconst (v := (0 : Int32)) hx hb dJ6_numberOfLeadingZeros_0f7a4_13 (by decide) ?_
      exact W.iret (v := (0 : Int32)) hx hb hr (fun t ht hW => ⟨_, rfl, Option.some.inj hf, ht⟩) (fun _ h => nomatch h) dJ6_numberOfLeadingZeros_0f7a4_14
    · have hf := (if_pos hc).symm.trans hf
      refine lv_bipush (v := (32 : Int32)) hx hb dJ6_numberOfLeadingZeros_0f7a4_8 (by decide) ?_
      refine lv_goto (tgt := 14) hx hb dJ6_numberOfLeadingZeros_0f7a4_10 (by decide) ?_
      exact W.iret (v := (32 : Int32)) hx hb hr (fun t ht hW => ⟨_, rfl, Option.some.inj hf, ht⟩) (fun _ h => nomatch h) dJ6_numberOfLeadingZeros_0f7a4_14
def f_J6_numberOfLeadingZeros_0f7a4 (n : Nat) (p0 : Int32) : Option (Int32) := f_J6_numberOfLeadingZeros_0f7a4_0 n p0
set_option maxHeartbeats 4000000 in
set_option maxRecDepth 100000 in
/-- java/lang/Integer.numberOfLeadingZeros(I)I -/
theorem m_J6_numberOfLeadingZeros_0f7a4 (l : Launch) (dC : Nat → ClassId) (dI : Nat → Nat → Nat) (cyB cyC cyI cyJ cyZ : ClassId) (p0 : Int32) (n : Nat) (out : Int32) (hf : f_J6_numberOfLeadingZeros_0f7a4 n p0 = some out) : Met l yJ6_numberOfLeadingZeros_0f7a4 wsJ6_numberOfLeadingZeros_0f7a4 rm_J6_numberOfLeadingZeros_0f7a4 (Pro (dC, dI) (TY cyB cyC cyI cyJ cyZ) [.int p0] []) (vp_Si (fun r => r = out)) 0 0 (fun _ => False) := by
  refine Met.ofW (cc := cJ6_numberOfLeadingZeros_0f7a4) (maxL := 2) (ret := (some .int)) (by decide) rfl ?_
  intro p e s m args below meth c s₁ B hml hv
  obtain ⟨rfl, hP, hK, hN⟩ := hv
  have CX : cx cJ6_numberOfLeadingZeros_0f7a4 (some .int) 2 RJ6 wsJ6_numberOfLeadingZeros_0f7a4 (dC, dI) (TY cyB cyC cyI cyJ cyZ) p s m ([.int p0] : List Value).toArray meth c := ⟨B.exec, B.bytes, B.returns, hml, findClass_of_methodNamed B.named, atoms_spec (ws := wsJ6_numberOfLeadingZeros_0f7a4) B.pre, B.notSynchronized, hK, hN⟩
  have hl := lv_entry ([.int p0]) (n := 2) (Nat.le_of_ble_eq_true rfl)
  rw [lg_entry_eq]
  exact k_J6_numberOfLeadingZeros_0f7a4_0 CX hP n _ hf _ hl
abbrev rm_X0_bitLength : Room := { frames := 1, cells := 0, slots := 0, locals := 21 }
theorem i_X0_bitLength_X0 : ∀ w ∈ u_ws RX0 TX0 2, w ∈ wsX0_bitLength := fun _ h => (List.mem_cons_of_mem _ (List.mem_append_right _ h))
def J_X0_bitLength_0 (p : Program) (l : Launch) (e : Env) (s : State) (m : MethodId) (args : Array Value) (below : List Frame) (meth : Method) (c : Code) (dC : Nat → ClassId) (dI : Nat → Nat → Nat) (cyB cyC cyI cyJ cyZ : ClassId) (aB aBl : Nat) (B_used : Int32) (Bl : Nat → Int32) (out : Int32) (g : Option (Int32)) : Prop := g = some out → ∀ ls : Array Slot, lv_has ls 1 [(0, .ref aB)] → W p l e rm_X0_bitLength s m args below meth c s.heap [] 0 0 (MQ below (vp_Si (fun r => r = out)) args s 0 0 (fun _ => False)) (F0 m 0 ls [])
def f_X0_bitLength_0 (n : Nat) (B_used : Int32) (Bl : Nat → Int32) : Option (Int32) :=
  if B_used = 0 then
  (some (0 : Int32))
  else
  (gu (gd (B_used - (1 : Int32)) 136) (
  bd (f_J6_numberOfLeadingZeros_0f7a4 n (Bl (B_used - (1 : Int32)).toNatClampNeg) ) fun o1 =>
  some (((32 : Int32) * B_used) - o1)))
set_option maxHeartbeats 4000000 in
set_option maxRecDepth 100000 in
theorem k_X0_bitLength_0 {p : Program} {l : Launch} {e : Env} {s : State} {m : MethodId} {args : Array Value} {below : List Frame} {meth : Method} {c : Code} {dC : Nat → ClassId} {dI : Nat → Nat → Nat} {cyB cyC cyI cyJ cyZ : ClassId} {aB aBl : Nat} {B_used : Int32} {Bl : Nat → Int32} {out : Int32} (CX : cx cX0_bitLength (some .int) 1 RX0 wsX0_bitLength (dC, dI) (TY cyB cyC cyI cyJ cyZ) p s m args meth c) (hP : va_P (dC, dI) vwCl [(aB, .inr (0, [.ref aBl, .int B_used])), (aBl, .inl (cyI, 136, .inl Bl))] s.heap) (n : Nat) : J_X0_bitLength_0 p l e s m args below meth c dC dI cyB cyC cyI cyJ cyZ aB aBl B_used Bl out (f_X0_bitLength_0 n B_used Bl) := by
  intro hf ls hl
  obtain ⟨hx, hb, hr, hml, hown, hts, hlocks, hK, hN⟩ := id CX
  unfold f_X0_bitLength_0 at hf
  refine lv_aload_n hx hb dX0_bitLength_0 rfl (lv_at hl 0 rfl) ?_
  refine va_get (D := (dC, dI)) (ci := 0) (v := .int B_used) (C := RX0) (T := TX0) (N := 2) hx hb hts i_X0_bitLength_X0 hown hK hP 0 rfl rfl 1 (by decide) (hts (.fieldLink RX0 13 "TokenRow$Big" "used" "I") (List.mem_of_getElem? (i := 1) rfl)) (fun _ h9 => h9) rfl dX0_bitLength_1 ?_
  refine lv_if_ne (tgt := 11) hx hb dX0_bitLength_4 (by decide) (fun hc => ?_) (fun hc => ?_)
  · have hf := (if_neg hc).symm.trans hf
    refine lv_bipush (v := (32 : Int32)) hx hb dX0_bitLength_11 (by decide) ?_
    refine lv_aload_n hx hb dX0_bitLength_13 rfl (lv_at hl 0 rfl) ?_
    refine va_get (D := (dC, dI)) (ci := 0) (v := .int B_used) (C := RX0) (T := TX0) (N := 2) hx hb hts i_X0_bitLength_X0 hown hK hP 0 rfl rfl 1 (by decide) (hts (.fieldLink RX0 13 "TokenRow$Big" "used" "I") (List.mem_of_getElem? (i := 1) rfl)) (fun _ h9 => h9) rfl dX0_bitLength_14 ?_
    refine lv_imul hx hb dX0_bitLength_17 ?_
    refine lv_aload_n hx hb dX0_bitLength_18 rfl (lv_at hl 0 rfl) ?_
    refine va_get (D := (dC, dI)) (ci := 0) (v := .ref aBl) (C := RX0) (T := TX0) (N := 2) hx hb hts i_X0_bitLength_X0 hown hK hP 0 rfl rfl 0 (by decide) (hts (.fieldLink RX0 9 "TokenRow$Big" "limbs" "[I") (List.mem_of_getElem? (i := 2) rfl)) (fun _ h9 => h9) rfl dX0_bitLength_19 ?_
    refine lv_aload_n hx hb dX0_bitLength_22 rfl (lv_at hl 0 rfl) ?_
    refine va_get (D := (dC, dI)) (ci := 0) (v := .int B_used) (C := RX0) (T := TX0) (N := 2) hx hb hts i_X0_bitLength_X0 hown hK hP 0 rfl rfl 1 (by decide) (hts (.fieldLink RX0 13 "TokenRow$Big" "used" "I") (List.mem_of_getElem? (i := 1) rfl)) (fun _ h9 => h9) rfl dX0_bitLength_23 ?_
    refine lv_iconst (v := (1 : Int32)) hx hb dX0_bitLength_26 (by decide) ?_
    refine lv_isub hx hb dX0_bitLength_27 ?_
    obtain ⟨hg, hf⟩ := gu_ok hf
    refine va_iald hx hb hK hP 1 2 rfl rfl (gd_in hg) dX0_bitLength_28 ?_
    obtain ⟨z1, hz1, hf⟩ := bd_ok hf
    have hPc := hP.sub (ws' := []) [] rfl
    refine vp_callSi (va_Run.run (va_runS (As := [.int (Bl (B_used - (1 : Int32)).toNatClampNeg)]) (rest := [.int ((32 : Int32) * B_used)]) ⟨hx, hb, hml, hown, hts⟩ (m_J6_numberOfLeadingZeros_0f7a4 l dC dI cyB cyC cyI cyJ cyZ   (Bl (B_used - (1 : Int32)).toNatClampNeg)  n z1 hz1) (va_cwS 1 hts gX0_bitLength_J6_numberOfLeadingZeros_0f7a4 rfl rfl rfl (by decide +kernel) ⟨Nat.le_of_ble_eq_true rfl, Nat.le_of_ble_eq_true rfl⟩) (proS hPc hK hN) rfl rfl hl.1 rfl (lv_room (Nat.le_of_ble_eq_true rfl)) dX0_bitLength_29 ⟨Nat.le_of_ble_eq_true rfl, Nat.le_of_ble_eq_true rfl⟩)) (fun o1 hr9 => ?_)
    subst hr9
    refine lv_isub hx hb dX0_bitLength_32 ?_
    exact W.iret (v := ((32 : Int32) * B_used) - o1) hx hb hr (fun t ht hW => ⟨_, rfl, Option.some.inj hf, ht⟩) (fun _ h => nomatch h) dX0_bitLength_33
  · have hf := (if_pos hc).symm.trans hf
    refine lv_iconst (v := (0 : Int32)) hx hb dX0_bitLength_7 (by decide) ?_
    refine lv_goto (tgt := 33) hx hb dX0_bitLength_8 (by decide) ?_
    exact W.iret (v := (0 : Int32)) hx hb hr (fun t ht hW => ⟨_, rfl, Option.some.inj hf, ht⟩) (fun _ h => nomatch h) dX0_bitLength_33
def f_X0_bitLength (n : Nat) (B_used : Int32) (Bl : Nat → Int32) : Option (Int32) := f_X0_bitLength_0 n B_used Bl 
set_option maxHeartbeats 4000000 in
set_option maxRecDepth 100000 in
/-- TokenRow$Big.bitLength()I -/
theorem m_X0_bitLength (l : Launch) (dC : Nat → ClassId) (dI : Nat → Nat → Nat) (cyB cyC cyI cyJ cyZ : ClassId) (aB aBl : Nat) (B_used : Int32) (Bl : Nat → Int32) (n : Nat) (out : Int32) (hf : f_X0_bitLength n B_used Bl = some out) : Met l yX0_bitLength wsX0_bitLength rm_X0_bitLength (Pro (dC, dI) (TY cyB cyC cyI cyJ cyZ) [.ref aB] [(aB, .inr (0, [.ref aBl, .int B_used])), (aBl, .inl (cyI, 136, .inl Bl))]) (vp_Si (fun r => r = out)) 0 0 (fun _ => False) := by
  refine Met.ofW (cc := cX0_bitLength) (maxL := 1) (ret := (some .int)) (by decide) rfl ?_
  intro p e s m args below meth c s₁ B hml hv
  obtain ⟨rfl, hP, hK, hN⟩ := hv
  have CX : cx cX0_bitLength (some .int) 1 RX0 wsX0_bitLength (dC, dI) (TY cyB cyC cyI cyJ cyZ) p s m ([.ref aB] : List Value).toArray meth c := ⟨B.exec, B.bytes, B.returns, hml, findClass_of_methodNamed B.named, atoms_spec (ws := wsX0_bitLength) B.pre, B.notSynchronized, hK, hN⟩
  have hl := lv_entry ([.ref aB]) (n := 1) (Nat.le_of_ble_eq_true rfl)
  rw [lg_entry_eq]
  exact k_X0_bitLength_0 CX hP n  hf _ hl
abbrev rm_X5_bits : Room := { frames := 0, cells := 0, slots := 0, locals := 0 }
theorem i_X5_bits_X5 : ∀ w ∈ u_ws RX5 TX5 3, w ∈ wsX5_bits := fun _ h => (List.mem_cons_of_mem _ (List.mem_append_right _ h))
def J_X5_bits_0 (p : Program) (l : Launch) (e : Env) (s : State) (m : MethodId) (args : Array Value) (below : List Frame) (meth : Method) (c : Code) (dC : Nat → ClassId) (dI : Nat → Nat → Nat) (cyB cyC cyI cyJ cyZ : ClassId) (aR aB aE : Nat) (R_bits : Int64) (out : Int64) (g : Option (Int64)) : Prop := g = some out → ∀ ls : Array Slot, lv_has ls 1 [(0, .ref aR)] → W p l e rm_X5_bits s m args below meth c s.heap [] 0 0 (MQ below (vp_Sl (fun r => r = out)) args s 0 0 (fun _ => False)) (F0 m 0 ls [])
def f_X5_bits_0 (n : Nat) (R_bits : Int64) : Option (Int64) :=
  some R_bits
set_option maxHeartbeats 4000000 in
set_option maxRecDepth 100000 in
theorem k_X5_bits_0 {p : Program} {l : Launch} {e : Env} {s : State} {m : MethodId} {args : Array Value} {below : List Frame} {meth : Method} {c : Code} {dC : Nat → ClassId} {dI : Nat → Nat → Nat} {cyB cyC cyI cyJ cyZ : ClassId} {aR aB aE : Nat} {R_bits : Int64} {out : Int64} (CX : cx cX5_bits (some .long) 1 RX5 wsX5_bits (dC, dI) (TY cyB cyC cyI cyJ cyZ) p s m args meth c) (hP : va_P (dC, dI) vwCl [(aR, .inr (5, [.ref aB, .ref aE, .long R_bits]))] s.heap) (n : Nat) : J_X5_bits_0 p l e s m args below meth c dC dI cyB cyC cyI cyJ cyZ aR aB aE R_bits out (f_X5_bits_0 n R_bits) := by
  intro hf ls hl
  obtain ⟨hx, hb, hr, hml, hown, hts, hlocks, hK, hN⟩ := id CX
  unfold f_X5_bits_0 at hf
  refine lv_aload_n hx hb dX5_bits_0 rfl (lv_at hl 0 rfl) ?_
  refine va_get (D := (dC, dI)) (ci := 5) (v := .long R_bits) (C := RX5) (T := TX5) (N := 3) hx hb hts i_X5_bits_X5 hown hK hP 0 rfl rfl 2 (by decide) (hts (.fieldLink RX5 19 "TokenRow$Rounding" "bits" "J") (List.mem_of_getElem? (i := 1) rfl)) (fun _ h9 => h9) rfl dX5_bits_1 ?_
  exact W.lret (v := R_bits) hx hb hr (fun t ht hW => ⟨_, rfl, Option.some.inj hf, ht⟩) (fun _ h => nomatch h) dX5_bits_4
def f_X5_bits (n : Nat) (R_bits : Int64) : Option (Int64) := f_X5_bits_0 n R_bits 
set_option maxHeartbeats 4000000 in
set_option maxRecDepth 100000 in
/-- TokenRow$Rounding.bits()J -/
theorem m_X5_bits (l : Launch) (dC : Nat → ClassId) (dI : Nat → Nat → Nat) (cyB cyC cyI cyJ cyZ : ClassId) (aR aB aE : Nat) (R_bits : Int64) (n : Nat) (out : Int64) (hf : f_X5_bits n R_bits = some out) : Met l yX5_bits wsX5_bits rm_X5_bits (Pro (dC, dI) (TY cyB cyC cyI cyJ cyZ) [.ref aR] [(aR, .inr (5, [.ref aB, .ref aE, .long R_bits]))]) (vp_Sl (fun r => r = out)) 0 0 (fun _ => False) := by
  refine Met.ofW (cc := cX5_bits) (maxL := 1) (ret := (some .long)) (by decide) rfl ?_
  intro p e s m args below meth c s₁ B hml hv
  obtain ⟨rfl, hP, hK, hN⟩ := hv
  have CX : cx cX5_bits (some .long) 1 RX5 wsX5_bits (dC, dI) (TY cyB cyC cyI cyJ cyZ) p s m ([.ref aR] : List Value).toArray meth c := ⟨B.exec, B.bytes, B.returns, hml, findClass_of_methodNamed B.named, atoms_spec (ws := wsX5_bits) B.pre, B.notSynchronized, hK, hN⟩
  have hl := lv_entry ([.ref aR]) (n := 1) (Nat.le_of_ble_eq_true rfl)
  rw [lg_entry_eq]
  exact k_X5_bits_0 (aB := aB) (aE := aE) CX hP n  hf _ hl
abbrev rm_X5_scaleByFive : Room := { frames := 2, cells := 0, slots := 0, locals := 47 }
theorem i_X5_scaleByFive_X0 : ∀ w ∈ u_ws RX0 TX0 2, w ∈ wsX5_scaleByFive := fun _ h => (List.mem_cons_of_mem _ (List.mem_append_right _ h))
theorem i_X5_scaleByFive_X5 : ∀ w ∈ u_ws RX5 TX5 3, w ∈ wsX5_scaleByFive := fun _ h => (List.mem_cons_of_mem _ (List.mem_append_left _ (List.mem_append_right _ h)))
def J_X5_scaleByFive_0 (p : Program) (l : Launch) (e : Env) (s : State) (m : MethodId) (args : Array Value) (below : List Frame) (meth : Method) (c : Code) (dC : Nat → ClassId) (dI : Nat → Nat → Nat) (cyB cyC cyI cyJ cyZ : ClassId) (aR aB aE aBl aEl : Nat) (R_bits : Int64) (A : Nat → Prop) (out : Int32 × (Nat → Int32) × Int32 × (Nat → Int32)) (g : Int32 → (Nat → Int32) → Int32 → (Nat → Int32) → Int32 → Option (Int32 × (Nat → Int32) × Int32 × (Nat → Int32))) : Prop := ∀ (B_used : Int32) (Bl : Nat → Int32) (E_used : Int32) (El : Nat → Int32) (x1 : Int32) (H : Heap) (locs : List Loc), g B_used Bl E_used El x1 = some out → va_P (dC, dI) vwCl [(aR, .inr (5, [.ref aB, .ref aE, .long R_bits])), (aB, .inr (0, [.ref aBl, .int B_used])), (aBl, .inl (cyI, 136, .inl Bl)), (aE, .inr (0, [.ref aEl, .int E_used])), (aEl, .inl (cyI, 136, .inl El))] H → va_D A [(aR, .inr (5, [.ref aB, .ref aE, .long R_bits])), (aB, .inr (0, [.ref aBl, .int B_used])), (aBl, .inl (cyI, 136, .inl Bl)), (aE, .inr (0, [.ref aEl, .int E_used])), (aEl, .inl (cyI, 136, .inl El))] → va_S A s.heap H locs → ∀ ls : Array Slot, lv_has ls 2 [(0, .ref aR), (1, .int x1)] → W p l e rm_X5_scaleByFive s m args below meth c H locs 0 0 (MQ below (va_Qv (fun (u : Int32 × (Nat → Int32) × Int32 × (Nat → Int32)) => u = out) (Bw (dC, dI) A (fun u => [(aR, .inr (5, [.ref aB, .ref aE, .long R_bits])), (aB, .inr (0, [.ref aBl, .int u.1])), (aBl, .inl (cyI, 136, .inl u.2.1)), (aE, .inr (0, [.ref aEl, .int u.2.2.1])), (aEl, .inl (cyI, 136, .inl u.2.2.2))])) A) args s 0 0 A) (F0 m 0 ls [])
def f_X5_scaleByFive_0 (n : Nat) (R_bits : Int64) (B_used : Int32) (Bl : Nat → Int32) (E_used : Int32) (El : Nat → Int32) (x1 : Int32) : Option (Int32 × (Nat → Int32) × Int32 × (Nat → Int32)) :=
  bd (f_X0_set n (1 : Int32) E_used El) fun u3 =>
  if x1 < 0 then
  (bd (f_X0_timesPowerOfFive n (-x1) u3.1 u3.2) fun u6 =>
  some (B_used, Bl, u6.1, u6.2))
  else
  (bd (f_X0_timesPowerOfFive n x1 B_used Bl) fun u9 =>
  some (u9.1, u9.2, u3.1, u3.2))
set_option maxHeartbeats 4000000 in
set_option maxRecDepth 100000 in
theorem k_X5_scaleByFive_0 {p : Program} {l : Launch} {e : Env} {s : State} {m : MethodId} {args : Array Value} {below : List Frame} {meth : Method} {c : Code} {dC : Nat → ClassId} {dI : Nat → Nat → Nat} {cyB cyC cyI cyJ cyZ : ClassId} {aR aB aE aBl aEl : Nat} {R_bits : Int64} {A : Nat → Prop} {out : Int32 × (Nat → Int32) × Int32 × (Nat → Int32)} (CX : cx cX5_scaleByFive none 2 RX5 wsX5_scaleByFive (dC, dI) (TY cyB cyC cyI cyJ cyZ) p s m args meth c) (hA : ∀ q : Nat, s.heap.size ≤ q → A q) (n : Nat) : J_X5_scaleByFive_0 p l e s m args below meth c dC dI cyB cyC cyI cyJ cyZ aR aB aE aBl aEl R_bits A out (f_X5_scaleByFive_0 n R_bits) := by
  intro B_used Bl E_used El x1 H locs hf hP hD hS ls hl
  obtain ⟨hx, hb, hr, hml, hown, hts, hlocks, hK, hN⟩ := id CX
  unfold f_X5_scaleByFive_0 at hf
  refine lv_aload_n hx hb dX5_scaleByFive_0 rfl (lv_at hl 0 rfl) ?_
  refine va_get (D := (dC, dI)) (ci := 5) (v := .ref aE) (C := RX5) (T := TX5) (N := 3) hx hb hts i_X5_scaleByFive_X5 hown hK hP 0 rfl rfl 1 (by decide) (hts (.fieldLink RX5 16 "TokenRow$Rounding" "denominator" "LTokenRow$Big;") (List.mem_of_getElem? (i := 1) rfl)) (fun _ h9 => h9) rfl dX5_scaleByFive_1 ?_
  refine lv_iconst (v := (1 : Int32)) hx hb dX5_scaleByFive_4 (by decide) ?_
  obtain ⟨z1, hz1, hf⟩ := bd_ok hf
  have hPc := hP.sub (ws' := [(aE, .inr (0, [.ref aEl, .int E_used])), (aEl, .inl (cyI, 136, .inl El))]) [3, 4] rfl
  have hDc := hD.sub (ws' := [(aE, .inr (0, [.ref aEl, .int E_used])), (aEl, .inl (cyI, 136, .inl El))]) [3, 4] (by decide) rfl
  have hFc := va_free (wc := [(aE, .inr (0, [.ref aEl, .int E_used])), (aEl, .inl (cyI, 136, .inl El))]) hD hS hA [3, 4] rfl
  refine va_callv (va_runV (As := [.int (1 : Int32)]) (rest := []) ⟨hx, hb, hml, hown, hts⟩ (m_X0_set l dC dI cyB cyC cyI cyJ cyZ aE aEl  H.size (1 : Int32) E_used El n z1 hz1) (cwV 1 hts gX5_scaleByFive_X0_set rfl rfl rfl (by decide +kernel) ⟨Nat.le_of_ble_eq_true rfl, Nat.le_of_ble_eq_true rfl⟩) (prwV (va_recv hK hP (ci := 0) (q0 := 3) rfl rfl) hPc hK hDc hN) rfl rfl hl.1 rfl (lv_room (Nat.le_of_ble_eq_true rfl)) dX5_scaleByFive_5 ⟨Nat.le_of_ble_eq_true rfl, Nat.le_of_ble_eq_true rfl⟩) hS (fun q _ h => hFc q h) hFc (fun u3 t9 H2 locs ht hvm hw hB hz1 hk1 hS => ?_)
  subst hw
  obtain ⟨hP1, hD1⟩ := hB
  rw [ht] at hP1
  obtain ⟨hP, hD⟩ := va_join (wr := [(aR, .inr (5, [.ref aB, .ref aE, .long R_bits])), (aB, .inr (0, [.ref aBl, .int B_used])), (aBl, .inl (cyI, 136, .inl Bl))]) (w1 := [(aE, .inr (0, [.ref aEl, .int u3.1])), (aEl, .inl (cyI, 136, .inl u3.2))]) hP hD [3, 4] [0, 1, 2] rfl rfl (by decide) (by decide) hk1 hFc hP1 hD1
  have hP := hP.sub (ws' := [(aR, .inr (5, [.ref aB, .ref aE, .long R_bits])), (aB, .inr (0, [.ref aBl, .int B_used])), (aBl, .inl (cyI, 136, .inl Bl)), (aE, .inr (0, [.ref aEl, .int u3.1])), (aEl, .inl (cyI, 136, .inl u3.2))]) [0, 1, 2, 3, 4] rfl
  have hD := hD.sub (ws' := [(aR, .inr (5, [.ref aB, .ref aE, .long R_bits])), (aB, .inr (0, [.ref aBl, .int B_used])), (aBl, .inl (cyI, 136, .inl Bl)), (aE, .inr (0, [.ref aEl, .int u3.1])), (aEl, .inl (cyI, 136, .inl u3.2))]) [0, 1, 2, 3, 4] (by decide) rfl
  refine lv_iload_n hx hb dX5_scaleByFive_8 rfl (lv_at hl 1 rfl) ?_
  refine lv_if_lt (tgt := 23) hx hb dX5_scaleByFive_9 (by decide) (fun hc => ?_) (fun hc => ?_)
  · have hf := (if_pos hc).symm.trans hf
    refine lv_aload_n hx hb dX5_scaleByFive_23 rfl (lv_at hl 0 rfl) ?_
    refine va_get (D := (dC, dI)) (ci := 5) (v := .ref aE) (C := RX5) (T := TX5) (N := 3) hx hb hts i_X5_scaleByFive_X5 hown hK hP 0 rfl rfl 1 (by decide) (hts (.fieldLink RX5 16 "TokenRow$Rounding" "denominator" "LTokenRow$Big;") (List.mem_of_getElem? (i := 1) rfl)) (fun _ h9 => h9) rfl dX5_scaleByFive_24 ?_
    refine lv_iload_n hx hb dX5_scaleByFive_27 rfl (lv_at hl 1 rfl) ?_
    refine lv_ineg hx hb dX5_scaleByFive_28 ?_
    obtain ⟨z4, hz4, hf⟩ := bd_ok hf
    have hPc := hP.sub (ws' := [(aE, .inr (0, [.ref aEl, .int u3.1])), (aEl, .inl (cyI, 136, .inl u3.2))]) [3, 4] rfl
    have hDc := hD.sub (ws' := [(aE, .inr (0, [.ref aEl, .int u3.1])), (aEl, .inl (cyI, 136, .inl u3.2))]) [3, 4] (by decide) rfl
    have hFc := va_free (wc := [(aE, .inr (0, [.ref aEl, .int u3.1])), (aEl, .inl (cyI, 136, .inl u3.2))]) hD hS hA [3, 4] rfl
    refine va_callv (va_runV (As := [.int (-x1)]) (rest := []) ⟨hx, hb, hml, hown, hts⟩ (m_X0_timesPowerOfFive l dC dI cyB cyC cyI cyJ cyZ aE aEl  H2.size (-x1) u3.1 u3.2 n z4 hz4) (cwV 1 hts gX5_scaleByFive_X0_timesPowerOfFive rfl rfl rfl (by decide +kernel) ⟨Nat.le_of_ble_eq_true rfl, Nat.le_of_ble_eq_true rfl⟩) (prwV (va_recv hK hP (ci := 0) (q0 := 3) rfl rfl) hPc hK hDc hN) rfl rfl hl.1 rfl (lv_room (Nat.le_of_ble_eq_true rfl)) dX5_scaleByFive_29 ⟨Nat.le_of_ble_eq_true rfl, Nat.le_of_ble_eq_true rfl⟩) hS (fun q _ h => hFc q h) hFc (fun u6 t9 H5 locs ht hvm hw hB hz1 hk1 hS => ?_)
    subst hw
    obtain ⟨hP1, hD1⟩ := hB
    rw [ht] at hP1
    obtain ⟨hP, hD⟩ := va_join (wr := [(aR, .inr (5, [.ref aB, .ref aE, .long R_bits])), (aB, .inr (0, [.ref aBl, .int B_used])), (aBl, .inl (cyI, 136, .inl Bl))]) (w1 := [(aE, .inr (0, [.ref aEl, .int u6.1])), (aEl, .inl (cyI, 136, .inl u6.2))]) hP hD [3, 4] [0, 1, 2] rfl rfl (by decide) (by decide) hk1 hFc hP1 hD1
    have hP := hP.sub (ws' := [(aR, .inr (5, [.ref aB, .ref aE, .long R_bits])), (aB, .inr (0, [.ref aBl, .int B_used])), (aBl, .inl (cyI, 136, .inl Bl)), (aE, .inr (0, [.ref aEl, .int u6.1])), (aEl, .inl (cyI, 136, .inl u6.2))]) [0, 1, 2, 3, 4] rfl
    have hD := hD.sub (ws' := [(aR, .inr (5, [.ref aB, .ref aE, .long R_bits])), (aB, .inr (0, [.ref aBl, .int B_used])), (aBl, .inl (cyI, 136, .inl Bl)), (aE, .inr (0, [.ref aEl, .int u6.1])), (aEl, .inl (cyI, 136, .inl u6.2))]) [0, 1, 2, 3, 4] (by decide) rfl
    exact W.vret hx hb hr (fun t ht hW => ⟨⟨(B_used, Bl, u6.1, u6.2), rfl, Option.some.inj hf, by rw [ht]; exact hP, hD⟩, hS.F ht⟩) hS.2.2 dX5_scaleByFive_32
  · have hf := (if_neg hc).symm.trans hf
    refine lv_aload_n hx hb dX5_scaleByFive_12 rfl (lv_at hl 0 rfl) ?_
    refine va_get (D := (dC, dI)) (ci := 5) (v := .ref aB) (C := RX5) (T := TX5) (N := 3) hx hb hts i_X5_scaleByFive_X5 hown hK hP 0 rfl rfl 0 (by decide) (hts (.fieldLink RX5 7 "TokenRow$Rounding" "numerator" "LTokenRow$Big;") (List.mem_of_getElem? (i := 2) rfl)) (fun _ h9 => h9) rfl dX5_scaleByFive_13 ?_
    refine lv_iload_n hx hb dX5_scaleByFive_16 rfl (lv_at hl 1 rfl) ?_
    obtain ⟨z7, hz7, hf⟩ := bd_ok hf
    have hPc := hP.sub (ws' := [(aB, .inr (0, [.ref aBl, .int B_used])), (aBl, .inl (cyI, 136, .inl Bl))]) [1, 2] rfl
    have hDc := hD.sub (ws' := [(aB, .inr (0, [.ref aBl, .int B_used])), (aBl, .inl (cyI, 136, .inl Bl))]) [1, 2] (by decide) rfl
    have hFc := va_free (wc := [(aB, .inr (0, [.ref aBl, .int B_used])), (aBl, .inl (cyI, 136, .inl Bl))]) hD hS hA [1, 2] rfl
    refine va_callv (va_runV (As := [.int x1]) (rest := []) ⟨hx, hb, hml, hown, hts⟩ (m_X0_timesPowerOfFive l dC dI cyB cyC cyI cyJ cyZ aB aBl  H2.size x1 B_used Bl n z7 hz7) (cwV 1 hts gX5_scaleByFive_X0_timesPowerOfFive rfl rfl rfl (by decide +kernel) ⟨Nat.le_of_ble_eq_true rfl, Nat.le_of_ble_eq_true rfl⟩) (prwV (va_recv hK hP (ci := 0) (q0 := 1) rfl rfl) hPc hK hDc hN) rfl rfl hl.1 rfl (lv_room (Nat.le_of_ble_eq_true rfl)) dX5_scaleByFive_17 ⟨Nat.le_of_ble_eq_true rfl, Nat.le_of_ble_eq_true rfl⟩) hS (fun q _ h => hFc q h) hFc (fun u9 t9 H8 locs ht hvm hw hB hz1 hk1 hS => ?_)
    subst hw
    obtain ⟨hP1, hD1⟩ := hB
    rw [ht] at hP1
    obtain ⟨hP, hD⟩ := va_join (wr := [(aR, .inr (5, [.ref aB, .ref aE, .long R_bits])), (aE, .inr (0, [.ref aEl, .int u3.1])), (aEl, .inl (cyI, 136, .inl u3.2))]) (w1 := [(aB, .inr (0, [.ref aBl, .int u9.1])), (aBl, .inl (cyI, 136, .inl u9.2))]) hP hD [1, 2] [0, 3, 4] rfl rfl (by decide) (by decide) hk1 hFc hP1 hD1
    have hP := hP.sub (ws' := [(aR, .inr (5, [.ref aB, .ref aE, .long R_bits])), (aB, .inr (0, [.ref aBl, .int u9.1])), (aBl, .inl (cyI, 136, .inl u9.2)), (aE, .inr (0, [.ref aEl, .int u3.1])), (aEl, .inl (cyI, 136, .inl u3.2))]) [0, 3, 4, 1, 2] rfl
    have hD := hD.sub (ws' := [(aR, .inr (5, [.ref aB, .ref aE, .long R_bits])), (aB, .inr (0, [.ref aBl, .int u9.1])), (aBl, .inl (cyI, 136, .inl u9.2)), (aE, .inr (0, [.ref aEl, .int u3.1])), (aEl, .inl (cyI, 136, .inl u3.2))]) [0, 3, 4, 1, 2] (by decide) rfl
    refine lv_goto (tgt := 32) hx hb dX5_scaleByFive_20 (by decide) ?_
    exact W.vret hx hb hr (fun t ht hW => ⟨⟨(u9.1, u9.2, u3.1, u3.2), rfl, Option.some.inj hf, by rw [ht]; exact hP, hD⟩, hS.F ht⟩) hS.2.2 dX5_scaleByFive_32
def f_X5_scaleByFive (n : Nat) (p1 : Int32) (R_bits : Int64) (B_used : Int32) (Bl : Nat → Int32) (E_used : Int32) (El : Nat → Int32) : Option (Int32 × (Nat → Int32) × Int32 × (Nat → Int32)) := f_X5_scaleByFive_0 n R_bits B_used Bl E_used El p1
set_option maxHeartbeats 4000000 in
set_option maxRecDepth 100000 in
/-- TokenRow$Rounding.scaleByFive(I)V -/
theorem m_X5_scaleByFive (l : Launch) (dC : Nat → ClassId) (dI : Nat → Nat → Nat) (cyB cyC cyI cyJ cyZ : ClassId) (aR aB aE aBl aEl : Nat) (sz : Nat) (p1 : Int32) (R_bits : Int64) (B_used : Int32) (Bl : Nat → Int32) (E_used : Int32) (El : Nat → Int32) (n : Nat) (out : Int32 × (Nat → Int32) × Int32 × (Nat → Int32)) (hf : f_X5_scaleByFive n p1 R_bits B_used Bl E_used El = some out) : Met l yX5_scaleByFive wsX5_scaleByFive rm_X5_scaleByFive (Prw (dC, dI) (TY cyB cyC cyI cyJ cyZ) [.ref aR, .int p1] sz [(aR, .inr (5, [.ref aB, .ref aE, .long R_bits])), (aB, .inr (0, [.ref aBl, .int B_used])), (aBl, .inl (cyI, 136, .inl Bl)), (aE, .inr (0, [.ref aEl, .int E_used])), (aEl, .inl (cyI, 136, .inl El))]) (va_Qv (fun (u : Int32 × (Nat → Int32) × Int32 × (Nat → Int32)) => u = out) (Bw (dC, dI) (va_A [(aR, .inr (5, [.ref aB, .ref aE, .long R_bits])), (aB, .inr (0, [.ref aBl, .int B_used])), (aBl, .inl (cyI, 136, .inl Bl)), (aE, .inr (0, [.ref aEl, .int E_used])), (aEl, .inl (cyI, 136, .inl El))] sz) (fun u => [(aR, .inr (5, [.ref aB, .ref aE, .long R_bits])), (aB, .inr (0, [.ref aBl, .int u.1])), (aBl, .inl (cyI, 136, .inl u.2.1)), (aE, .inr (0, [.ref aEl, .int u.2.2.1])), (aEl, .inl (cyI, 136, .inl u.2.2.2))])) (va_A [(aR, .inr (5, [.ref aB, .ref aE, .long R_bits])), (aB, .inr (0, [.ref aBl, .int B_used])), (aBl, .inl (cyI, 136, .inl Bl)), (aE, .inr (0, [.ref aEl, .int E_used])), (aEl, .inl (cyI, 136, .inl El))] sz)) 0 0 (va_A [(aR, .inr (5, [.ref aB, .ref aE, .long R_bits])), (aB, .inr (0, [.ref aBl, .int B_used])), (aBl, .inl (cyI, 136, .inl Bl)), (aE, .inr (0, [.ref aEl, .int E_used])), (aEl, .inl (cyI, 136, .inl El))] sz) := by
  refine Met.ofW (cc := cX5_scaleByFive) (maxL := 2) (ret := none) (by decide) rfl ?_
  intro p e s m args below meth c s₁ B hml hv
  obtain ⟨rfl, hsz, hP, hK, hD0, hN⟩ := hv
  subst hsz
  have hD := hD0.self (sz := s.heap.size)
  have CX : cx cX5_scaleByFive none 2 RX5 wsX5_scaleByFive (dC, dI) (TY cyB cyC cyI cyJ cyZ) p s m ([.ref aR, .int p1] : List Value).toArray meth c := ⟨B.exec, B.bytes, B.returns, hml, findClass_of_methodNamed B.named, atoms_spec (ws := wsX5_scaleByFive) B.pre, B.notSynchronized, hK, hN⟩
  have hl := lv_entry ([.ref aR, .int p1]) (n := 2) (Nat.le_of_ble_eq_true rfl)
  rw [lg_entry_eq]
  exact k_X5_scaleByFive_0 CX (fun q h => Or.inr h) n _ _ _ _ _ _ _ hf hP hD va_S.rf _ hl
abbrev rm_X5_align : Room := { frames := 2, cells := 0, slots := 0, locals := 48 }
theorem i_X5_align_X0 : ∀ w ∈ u_ws RX0 TX0 2, w ∈ wsX5_align := fun _ h => (List.mem_cons_of_mem _ (List.mem_append_right _ h))
theorem i_X5_align_X5 : ∀ w ∈ u_ws RX5 TX5 3, w ∈ wsX5_align := fun _ h => (List.mem_cons_of_mem _ (List.mem_append_left _ (List.mem_append_right _ h)))
def J_X5_align_0 (p : Program) (l : Launch) (e : Env) (s : State) (m : MethodId) (args : Array Value) (below : List Frame) (meth : Method) (c : Code) (dC : Nat → ClassId) (dI : Nat → Nat → Nat) (cyB cyC cyI cyJ cyZ : ClassId) (aR aB aE aBl aEl : Nat) (R_bits : Int64) (A : Nat → Prop) (out : Int32 × Int32 × (Nat → Int32) × Int32 × (Nat → Int32)) (g : Int32 → (Nat → Int32) → Int32 → (Nat → Int32) → Option (Int32 × Int32 × (Nat → Int32) × Int32 × (Nat → Int32))) : Prop := ∀ (B_used : Int32) (Bl : Nat → Int32) (E_used : Int32) (El : Nat → Int32) (H : Heap) (locs : List Loc), g B_used Bl E_used El = some out → va_P (dC, dI) vwCl [(aR, .inr (5, [.ref aB, .ref aE, .long R_bits])), (aB, .inr (0, [.ref aBl, .int B_used])), (aBl, .inl (cyI, 136, .inl Bl)), (aE, .inr (0, [.ref aEl, .int E_used])), (aEl, .inl (cyI, 136, .inl El))] H → va_D A [(aR, .inr (5, [.ref aB, .ref aE, .long R_bits])), (aB, .inr (0, [.ref aBl, .int B_used])), (aBl, .inl (cyI, 136, .inl Bl)), (aE, .inr (0, [.ref aEl, .int E_used])), (aEl, .inl (cyI, 136, .inl El))] → va_S A s.heap H locs → ∀ ls : Array Slot, lv_has ls 2 [(0, .ref aR)] → W p l e rm_X5_align s m args below meth c H locs 0 0 (MQ below (va_Qi (fun (r : Int32) (u : Int32 × (Nat → Int32) × Int32 × (Nat → Int32)) => (r, u) = out) (Bw (dC, dI) A (fun u => [(aR, .inr (5, [.ref aB, .ref aE, .long R_bits])), (aB, .inr (0, [.ref aBl, .int u.1])), (aBl, .inl (cyI, 136, .inl u.2.1)), (aE, .inr (0, [.ref aEl, .int u.2.2.1])), (aEl, .inl (cyI, 136, .inl u.2.2.2))])) A) args s 0 0 A) (F0 m 0 ls [])
def f_X5_align_0 (n : Nat) (R_bits : Int64) (B_used : Int32) (Bl : Nat → Int32) (E_used : Int32) (El : Nat → Int32) : Option (Int32 × Int32 × (Nat → Int32) × Int32 × (Nat → Int32)) :=
  bd (f_X0_bitLength n  E_used El) fun o1 =>
  bd (f_X0_bitLength n  B_used Bl) fun o2 =>
  lt_ (o1 - o2) fun y3 =>
  bd (f_X0_shiftLeft n (if y3 < (0 : Int32) then (0 : Int32) else y3) B_used Bl) fun u6 =>
  bd (f_X0_shiftLeft n (if -y3 < (0 : Int32) then (0 : Int32) else -y3) E_used El) fun u9 =>
  bd (f_X0_compareWith n  u6.1 u6.2 u9.1 u9.2) fun o10 =>
  if 0 ≤ o10 then
  (some (y3, u6.1, u6.2, u9.1, u9.2))
  else
  (bd (f_X0_shiftLeft n (1 : Int32) u6.1 u6.2) fun u13 =>
  lt_ (y3 + (1 : Int32)) fun y14 =>
  some (y14, u13.1, u13.2, u9.1, u9.2))
set_option maxHeartbeats 4000000 in
set_option maxRecDepth 100000 in
theorem k_X5_align_0 {p : Program} {l : Launch} {e : Env} {s : State} {m : MethodId} {args : Array Value} {below : List Frame} {meth : Method} {c : Code} {dC : Nat → ClassId} {dI : Nat → Nat → Nat} {cyB cyC cyI cyJ cyZ : ClassId} {aR aB aE aBl aEl : Nat} {R_bits : Int64} {A : Nat → Prop} {out : Int32 × Int32 × (Nat → Int32) × Int32 × (Nat → Int32)} (CX : cx cX5_align (some .int) 2 RX5 wsX5_align (dC, dI) (TY cyB cyC cyI cyJ cyZ) p s m args meth c) (hA : ∀ q : Nat, s.heap.size ≤ q → A q) (n : Nat) : J_X5_align_0 p l e s m args below meth c dC dI cyB cyC cyI cyJ cyZ aR aB aE aBl aEl R_bits A out (f_X5_align_0 n R_bits) := by
  intro B_used Bl E_used El H locs hf hP hD hS ls hl
  obtain ⟨hx, hb, hr, hml, hown, hts, hlocks, hK, hN⟩ := id CX
  unfold f_X5_align_0 at hf
  refine lv_aload_n hx hb dX5_align_0 rfl (lv_at hl 0 rfl) ?_
  refine va_get (D := (dC, dI)) (ci := 5) (v := .ref aE) (C := RX5) (T := TX5) (N := 3) hx hb hts i_X5_align_X5 hown hK hP 0 rfl rfl 1 (by decide) (hts (.fieldLink RX5 16 "TokenRow$Rounding" "denominator" "LTokenRow$Big;") (List.mem_of_getElem? (i := 1) rfl)) (fun _ h9 => h9) rfl dX5_align_1 ?_
  obtain ⟨z1, hz1, hf⟩ := bd_ok hf
  have hPc := hP.sub (ws' := [(aE, .inr (0, [.ref aEl, .int E_used])), (aEl, .inl (cyI, 136, .inl El))]) [3, 4] rfl
  refine vp_callSi (va_Run.run (va_runV (As := []) (rest := []) ⟨hx, hb, hml, hown, hts⟩ (m_X0_bitLength l dC dI cyB cyC cyI cyJ cyZ aE aEl   E_used El n z1 hz1) (cwV 0 hts gX5_align_X0_bitLength rfl rfl rfl (by decide +kernel) ⟨Nat.le_of_ble_eq_true rfl, Nat.le_of_ble_eq_true rfl⟩) (proV (va_recv hK hP (ci := 0) (q0 := 3) rfl rfl) hPc hK hN) rfl rfl hl.1 rfl (lv_room (Nat.le_of_ble_eq_true rfl)) dX5_align_4 ⟨Nat.le_of_ble_eq_true rfl, Nat.le_of_ble_eq_true rfl⟩)) (fun o1 hr9 => ?_)
  subst hr9
  refine lv_aload_n hx hb dX5_align_7 rfl (lv_at hl 0 rfl) ?_
  refine va_get (D := (dC, dI)) (ci := 5) (v := .ref aB) (C := RX5) (T := TX5) (N := 3) hx hb hts i_X5_align_X5 hown hK hP 0 rfl rfl 0 (by decide) (hts (.fieldLink RX5 7 "TokenRow$Rounding" "numerator" "LTokenRow$Big;") (List.mem_of_getElem? (i := 2) rfl)) (fun _ h9 => h9) rfl dX5_align_8 ?_
  obtain ⟨z2, hz2, hf⟩ := bd_ok hf
  have hPc := hP.sub (ws' := [(aB, .inr (0, [.ref aBl, .int B_used])), (aBl, .inl (cyI, 136, .inl Bl))]) [1, 2] rfl
  refine vp_callSi (va_Run.run (va_runV (As := []) (rest := [.int o1]) ⟨hx, hb, hml, hown, hts⟩ (m_X0_bitLength l dC dI cyB cyC cyI cyJ cyZ aB aBl   B_used Bl n z2 hz2) (cwV 0 hts gX5_align_X0_bitLength rfl rfl rfl (by decide +kernel) ⟨Nat.le_of_ble_eq_true rfl, Nat.le_of_ble_eq_true rfl⟩) (proV (va_recv hK hP (ci := 0) (q0 := 1) rfl rfl) hPc hK hN) rfl rfl hl.1 rfl (lv_room (Nat.le_of_ble_eq_true rfl)) dX5_align_11 ⟨Nat.le_of_ble_eq_true rfl, Nat.le_of_ble_eq_true rfl⟩)) (fun o2 hr9 => ?_)
  subst hr9
  refine lv_isub hx hb dX5_align_14 ?_
  refine lv_topi (fun y3 ey3 => ?_)
  have hf := lt_ok hf y3 ey3
  refine lv_istore_n (lv' := [(1, .int y3), (0, .ref aR)]) hx hb dX5_align_15 rfl hl (by decide) rfl (fun ls hl => ?_)
  refine lv_aload_n hx hb dX5_align_16 rfl (lv_at hl 1 rfl) ?_
  refine va_get (D := (dC, dI)) (ci := 5) (v := .ref aB) (C := RX5) (T := TX5) (N := 3) hx hb hts i_X5_align_X5 hown hK hP 0 rfl rfl 0 (by decide) (hts (.fieldLink RX5 7 "TokenRow$Rounding" "numerator" "LTokenRow$Big;") (List.mem_of_getElem? (i := 2) rfl)) (fun _ h9 => h9) rfl dX5_align_17 ?_
  refine lv_iload_n hx hb dX5_align_20 rfl (lv_at hl 0 rfl) ?_
  refine lv_iconst (v := (0 : Int32)) hx hb dX5_align_21 (by decide) ?_
  refine va_mmax hx hb (hml.trans hl.1.symm) hown (hts (.methodLink RX5 38 Lib.Math.max.name) (List.mem_of_getElem? (i := 3) rfl)) (hts (.static Lib.Math.max.name) (List.mem_of_getElem? (i := 4) rfl)) (hts (.initialized "java/lang/Math") (List.mem_of_getElem? (i := 5) rfl)) (hts (.code Lib.Math.max.name Lib.Math.max.code 2 (some .int)) (List.mem_of_getElem? (i := 6) rfl)) (Nat.le_of_ble_eq_true rfl) (Nat.le_of_ble_eq_true rfl) (Nat.le_of_ble_eq_true rfl) (Nat.le_of_ble_eq_true rfl) dX5_align_22 ?_
  obtain ⟨z4, hz4, hf⟩ := bd_ok hf
  have hPc := hP.sub (ws' := [(aB, .inr (0, [.ref aBl, .int B_used])), (aBl, .inl (cyI, 136, .inl Bl))]) [1, 2] rfl
  have hDc := hD.sub (ws' := [(aB, .inr (0, [.ref aBl, .int B_used])), (aBl, .inl (cyI, 136, .inl Bl))]) [1, 2] (by decide) rfl
  have hFc := va_free (wc := [(aB, .inr (0, [.ref aBl, .int B_used])), (aBl, .inl (cyI, 136, .inl Bl))]) hD hS hA [1, 2] rfl
  refine va_callv (va_runV (As := [.int (if y3 < (0 : Int32) then (0 : Int32) else y3)]) (rest := []) ⟨hx, hb, hml, hown, hts⟩ (m_X0_shiftLeft l dC dI cyB cyC cyI cyJ cyZ aB aBl  H.size (if y3 < (0 : Int32) then (0 : Int32) else y3) B_used Bl n z4 hz4) (cwV 1 hts gX5_align_X0_shiftLeft rfl rfl rfl (by decide +kernel) ⟨Nat.le_of_ble_eq_true rfl, Nat.le_of_ble_eq_true rfl⟩) (prwV (va_recv hK hP (ci := 0) (q0 := 1) rfl rfl) hPc hK hDc hN) rfl rfl hl.1 rfl (lv_room (Nat.le_of_ble_eq_true rfl)) dX5_align_25 ⟨Nat.le_of_ble_eq_true rfl, Nat.le_of_ble_eq_true rfl⟩) hS (fun q _ h => hFc q h) hFc (fun u6 t9 H5 locs ht hvm hw hB hz1 hk1 hS => ?_)
  subst hw
  obtain ⟨hP1, hD1⟩ := hB
  rw [ht] at hP1
  obtain ⟨hP, hD⟩ := va_join (wr := [(aR, .inr (5, [.ref aB, .ref aE, .long R_bits])), (aE, .inr (0, [.ref aEl, .int E_used])), (aEl, .inl (cyI, 136, .inl El))]) (w1 := [(aB, .inr (0, [.ref aBl, .int u6.1])), (aBl, .inl (cyI, 136, .inl u6.2))]) hP hD [1, 2] [0, 3, 4] rfl rfl (by decide) (by decide) hk1 hFc hP1 hD1
  have hP := hP.sub (ws' := [(aR, .inr (5, [.ref aB, .ref aE, .long R_bits])), (aB, .inr (0, [.ref aBl, .int u6.1])), (aBl, .inl (cyI, 136, .inl u6.2)), (aE, .inr (0, [.ref aEl, .int E_used])), (aEl, .inl (cyI, 136, .inl El))]) [0, 3, 4, 1, 2] rfl
  have hD := hD.sub (ws' := [(aR, .inr (5, [.ref aB, .ref aE, .long R_bits])), (aB, .inr (0, [.ref aBl, .int u6.1])), (aBl, .inl (cyI, 136, .inl u6.2)), (aE, .inr (0, [.ref aEl, .int E_used])), (aEl, .inl (cyI, 136, .inl El))]) [0, 3, 4, 1, 2] (by decide) rfl
  refine lv_aload_n hx hb dX5_align_28 rfl (lv_at hl 1 rfl) ?_
  refine va_get (D := (dC, dI)) (ci := 5) (v := .ref aE) (C := RX5) (T := TX5) (N := 3) hx hb hts i_X5_align_X5 hown hK hP 0 rfl rfl 1 (by decide) (hts (.fieldLink RX5 16 "TokenRow$Rounding" "denominator" "LTokenRow$Big;") (List.mem_of_getElem? (i := 1) rfl)) (fun _ h9 => h9) rfl dX5_align_29 ?_
  refine lv_iload_n hx hb dX5_align_32 rfl (lv_at hl 0 rfl) ?_
  refine lv_ineg hx hb dX5_align_33 ?_
  refine lv_iconst (v := (0 : Int32)) hx hb dX5_align_34 (by decide) ?_
  refine va_mmax hx hb (hml.trans hl.1.symm) hown (hts (.methodLink RX5 38 Lib.Math.max.name) (List.mem_of_getElem? (i := 3) rfl)) (hts (.static Lib.Math.max.name) (List.mem_of_getElem? (i := 4) rfl)) (hts (.initialized "java/lang/Math") (List.mem_of_getElem? (i := 5) rfl)) (hts (.code Lib.Math.max.name Lib.Math.max.code 2 (some .int)) (List.mem_of_getElem? (i := 6) rfl)) (Nat.le_of_ble_eq_true rfl) (Nat.le_of_ble_eq_true rfl) (Nat.le_of_ble_eq_true rfl) (Nat.le_of_ble_eq_true rfl) dX5_align_35 ?_
  obtain ⟨z7, hz7, hf⟩ := bd_ok hf
  have hPc := hP.sub (ws' := [(aE, .inr (0, [.ref aEl, .int E_used])), (aEl, .inl (cyI, 136, .inl El))]) [3, 4] rfl
  have hDc := hD.sub (ws' := [(aE, .inr (0, [.ref aEl, .int E_used])), (aEl, .inl (cyI, 136, .inl El))]) [3, 4] (by decide) rfl
  have hFc := va_free (wc := [(aE, .inr (0, [.ref aEl, .int E_used])), (aEl, .inl (cyI, 136, .inl El))]) hD hS hA [3, 4] rfl
  refine va_callv (va_runV (As := [.int (if -y3 < (0 : Int32) then (0 : Int32) else -y3)]) (rest := []) ⟨hx, hb, hml, hown, hts⟩ (m_X0_shiftLeft l dC dI cyB cyC cyI cyJ cyZ aE aEl  H5.size (if -y3 < (0 : Int32) then (0 : Int32) else -y3) E_used El n z7 hz7) (cwV 1 hts gX5_align_X0_shiftLeft rfl rfl rfl (by decide +kernel) ⟨Nat.le_of_ble_eq_true rfl, Nat.le_of_ble_eq_true rfl⟩) (prwV (va_recv hK hP (ci := 0) (q0 := 3) rfl rfl) hPc hK hDc hN) rfl rfl hl.1 rfl (lv_room (Nat.le_of_ble_eq_true rfl)) dX5_align_38 ⟨Nat.le_of_ble_eq_true rfl, Nat.le_of_ble_eq_true rfl⟩) hS (fun q _ h => hFc q h) hFc (fun u9 t9 H8 locs ht hvm hw hB hz1 hk1 hS => ?_)
  subst hw
  obtain ⟨hP1, hD1⟩ := hB
  rw [ht] at hP1
  obtain ⟨hP, hD⟩ := va_join (wr := [(aR, .inr (5, [.ref aB, .ref aE, .long R_bits])), (aB, .inr (0, [.ref aBl, .int u6.1])), (aBl, .inl (cyI, 136, .inl u6.2))]) (w1 := [(aE, .inr (0, [.ref aEl, .int u9.1])), (aEl, .inl (cyI, 136, .inl u9.2))]) hP hD [3, 4] [0, 1, 2] rfl rfl (by decide) (by decide) hk1 hFc hP1 hD1
  have hP := hP.sub (ws' := [(aR, .inr (5, [.ref aB, .ref aE, .long R_bits])), (aB, .inr (0, [.ref aBl, .int u6.1])), (aBl, .inl (cyI, 136, .inl u6.2)), (aE, .inr (0, [.ref aEl, .int u9.1])), (aEl, .inl (cyI, 136, .inl u9.2))]) [0, 1, 2, 3, 4] rfl
  have hD := hD.sub (ws' := [(aR, .inr (5, [.ref aB, .ref aE, .long R_bits])), (aB, .inr (0, [.ref aBl, .int u6.1])), (aBl, .inl (cyI, 136, .inl u6.2)), (aE, .inr (0, [.ref aEl, .int u9.1])), (aEl, .inl (cyI, 136, .inl u9.2))]) [0, 1, 2, 3, 4] (by decide) rfl
  refine lv_aload_n hx hb dX5_align_41 rfl (lv_at hl 1 rfl) ?_
  refine va_get (D := (dC, dI)) (ci := 5) (v := .ref aB) (C := RX5) (T := TX5) (N := 3) hx hb hts i_X5_align_X5 hown hK hP 0 rfl rfl 0 (by decide) (hts (.fieldLink RX5 7 "TokenRow$Rounding" "numerator" "LTokenRow$Big;") (List.mem_of_getElem? (i := 2) rfl)) (fun _ h9 => h9) rfl dX5_align_42 ?_
  refine lv_aload_n hx hb dX5_align_45 rfl (lv_at hl 1 rfl) ?_
  refine va_get (D := (dC, dI)) (ci := 5) (v := .ref aE) (C := RX5) (T := TX5) (N := 3) hx hb hts i_X5_align_X5 hown hK hP 0 rfl rfl 1 (by decide) (hts (.fieldLink RX5 16 "TokenRow$Rounding" "denominator" "LTokenRow$Big;") (List.mem_of_getElem? (i := 1) rfl)) (fun _ h9 => h9) rfl dX5_align_46 ?_
  obtain ⟨z10, hz10, hf⟩ := bd_ok hf
  have hPc := hP.sub (ws' := [(aB, .inr (0, [.ref aBl, .int u6.1])), (aBl, .inl (cyI, 136, .inl u6.2)), (aE, .inr (0, [.ref aEl, .int u9.1])), (aEl, .inl (cyI, 136, .inl u9.2))]) [1, 2, 3, 4] rfl
  refine vp_callSi (va_Run.run (va_runV (As := [.ref aE]) (rest := []) ⟨hx, hb, hml, hown, hts⟩ (m_X0_compareWith l dC dI cyB cyC cyI cyJ cyZ aB aBl aE aEl   u6.1 u6.2 u9.1 u9.2 n z10 hz10) (cwV 1 hts gX5_align_X0_compareWith rfl rfl rfl (by decide +kernel) ⟨Nat.le_of_ble_eq_true rfl, Nat.le_of_ble_eq_true rfl⟩) (proV (va_recv hK hP (ci := 0) (q0 := 1) rfl rfl) hPc hK hN) rfl rfl hl.1 rfl (lv_room (Nat.le_of_ble_eq_true rfl)) dX5_align_49 ⟨Nat.le_of_ble_eq_true rfl, Nat.le_of_ble_eq_true rfl⟩)) (fun o10 hr9 => ?_)
  subst hr9
  refine lv_if_ge (tgt := 66) hx hb dX5_align_52 (by decide) (fun hc => ?_) (fun hc => ?_)
  · have hf := (if_pos hc).symm.trans hf
    refine lv_iload_n hx hb dX5_align_66 rfl (lv_at hl 0 rfl) ?_
    exact W.iret (v := y3) hx hb hr (fun t ht hW => ⟨⟨_, (u6.1, u6.2, u9.1, u9.2), rfl, Option.some.inj hf, by rw [ht]; exact hP, hD⟩, hS.F ht⟩) hS.2.2 dX5_align_67
  · have hf := (if_neg hc).symm.trans hf
    refine lv_aload_n hx hb dX5_align_55 rfl (lv_at hl 1 rfl) ?_
    refine va_get (D := (dC, dI)) (ci := 5) (v := .ref aB) (C := RX5) (T := TX5) (N := 3) hx hb hts i_X5_align_X5 hown hK hP 0 rfl rfl 0 (by decide) (hts (.fieldLink RX5 7 "TokenRow$Rounding" "numerator" "LTokenRow$Big;") (List.mem_of_getElem? (i := 2) rfl)) (fun _ h9 => h9) rfl dX5_align_56 ?_
    refine lv_iconst (v := (1 : Int32)) hx hb dX5_align_59 (by decide) ?_
    obtain ⟨z11, hz11, hf⟩ := bd_ok hf
    have hPc := hP.sub (ws' := [(aB, .inr (0, [.ref aBl, .int u6.1])), (aBl, .inl (cyI, 136, .inl u6.2))]) [1, 2] rfl
    have hDc := hD.sub (ws' := [(aB, .inr (0, [.ref aBl, .int u6.1])), (aBl, .inl (cyI, 136, .inl u6.2))]) [1, 2] (by decide) rfl
    have hFc := va_free (wc := [(aB, .inr (0, [.ref aBl, .int u6.1])), (aBl, .inl (cyI, 136, .inl u6.2))]) hD hS hA [1, 2] rfl
    refine va_callv (va_runV (As := [.int (1 : Int32)]) (rest := []) ⟨hx, hb, hml, hown, hts⟩ (m_X0_shiftLeft l dC dI cyB cyC cyI cyJ cyZ aB aBl  H8.size (1 : Int32) u6.1 u6.2 n z11 hz11) (cwV 1 hts gX5_align_X0_shiftLeft rfl rfl rfl (by decide +kernel) ⟨Nat.le_of_ble_eq_true rfl, Nat.le_of_ble_eq_true rfl⟩) (prwV (va_recv hK hP (ci := 0) (q0 := 1) rfl rfl) hPc hK hDc hN) rfl rfl hl.1 rfl (lv_room (Nat.le_of_ble_eq_true rfl)) dX5_align_60 ⟨Nat.le_of_ble_eq_true rfl, Nat.le_of_ble_eq_true rfl⟩) hS (fun q _ h => hFc q h) hFc (fun u13 t9 H12 locs ht hvm hw hB hz1 hk1 hS => ?_)
    subst hw
    obtain ⟨hP1, hD1⟩ := hB
    rw [ht] at hP1
    obtain ⟨hP, hD⟩ := va_join (wr := [(aR, .inr (5, [.ref aB, .ref aE, .long R_bits])), (aE, .inr (0, [.ref aEl, .int u9.1])), (aEl, .inl (cyI, 136, .inl u9.2))]) (w1 := [(aB, .inr (0, [.ref aBl, .int u13.1])), (aBl, .inl (cyI, 136, .inl u13.2))]) hP hD [1, 2] [0, 3, 4] rfl rfl (by decide) (by decide) hk1 hFc hP1 hD1
    have hP := hP.sub (ws' := [(aR, .inr (5, [.ref aB, .ref aE, .long R_bits])), (aB, .inr (0, [.ref aBl, .int u13.1])), (aBl, .inl (cyI, 136, .inl u13.2)), (aE, .inr (0, [.ref aEl, .int u9.1])), (aEl, .inl (cyI, 136, .inl u9.2))]) [0, 3, 4, 1, 2] rfl
    have hD := hD.sub (ws' := [(aR, .inr (5, [.ref aB, .ref aE, .long R_bits])), (aB, .inr (0, [.ref aBl, .int u13.1])), (aBl, .inl (cyI, 136, .inl u13.2)), (aE, .inr (0, [.ref aEl, .int u9.1])), (aEl, .inl (cyI, 136, .inl u9.2))]) [0, 3, 4, 1, 2] (by decide) rfl
    obtain ⟨y14, ey14⟩ : ∃ y : Int32, y = y3 + (1 : Int32) := ⟨_, rfl⟩
    have hf := lt_ok hf y14 ey14
    refine lv_iinc (v := y14) (lv' := [(1, .int y14), (0, .ref aR)]) hx hb dX5_align_63 hl (k := 0) rfl (by rw [ey14]; rfl) (by decide) rfl (fun ls hl => ?_)
    refine lv_iload_n hx hb dX5_align_66 rfl (lv_at hl 0 rfl) ?_
    exact W.iret (v := y14) hx hb hr (fun t ht hW => ⟨⟨_, (u13.1, u13.2, u9.1, u9.2), rfl, Option.some.inj hf, by rw [ht]; exact hP, hD⟩, hS.F ht⟩) hS.2.2 dX5_align_67
def f_X5_align (n : Nat) (R_bits : Int64) (B_used : Int32) (Bl : Nat → Int32) (E_used : Int32) (El : Nat → Int32) : Option (Int32 × Int32 × (Nat → Int32) × Int32 × (Nat → Int32)) := f_X5_align_0 n R_bits B_used Bl E_used El 
set_option maxHeartbeats 4000000 in
set_option maxRecDepth 100000 in
/-- TokenRow$Rounding.align()I -/
theorem m_X5_align (l : Launch) (dC : Nat → ClassId) (dI : Nat → Nat → Nat) (cyB cyC cyI cyJ cyZ : ClassId) (aR aB aE aBl aEl : Nat) (sz : Nat) (R_bits : Int64) (B_used : Int32) (Bl : Nat → Int32) (E_used : Int32) (El : Nat → Int32) (n : Nat) (out : Int32 × Int32 × (Nat → Int32) × Int32 × (Nat → Int32)) (hf : f_X5_align n R_bits B_used Bl E_used El = some out) : Met l yX5_align wsX5_align rm_X5_align (Prw (dC, dI) (TY cyB cyC cyI cyJ cyZ) [.ref aR] sz [(aR, .inr (5, [.ref aB, .ref aE, .long R_bits])), (aB, .inr (0, [.ref aBl, .int B_used])), (aBl, .inl (cyI, 136, .inl Bl)), (aE, .inr (0, [.ref aEl, .int E_used])), (aEl, .inl (cyI, 136, .inl El))]) (va_Qi (fun (r : Int32) (u : Int32 × (Nat → Int32) × Int32 × (Nat → Int32)) => (r, u) = out) (Bw (dC, dI) (va_A [(aR, .inr (5, [.ref aB, .ref aE, .long R_bits])), (aB, .inr (0, [.ref aBl, .int B_used])), (aBl, .inl (cyI, 136, .inl Bl)), (aE, .inr (0, [.ref aEl, .int E_used])), (aEl, .inl (cyI, 136, .inl El))] sz) (fun u => [(aR, .inr (5, [.ref aB, .ref aE, .long R_bits])), (aB, .inr (0, [.ref aBl, .int u.1])), (aBl, .inl (cyI, 136, .inl u.2.1)), (aE, .inr (0, [.ref aEl, .int u.2.2.1])), (aEl, .inl (cyI, 136, .inl u.2.2.2))])) (va_A [(aR, .inr (5, [.ref aB, .ref aE, .long R_bits])), (aB, .inr (0, [.ref aBl, .int B_used])), (aBl, .inl (cyI, 136, .inl Bl)), (aE, .inr (0, [.ref aEl, .int E_used])), (aEl, .inl (cyI, 136, .inl El))] sz)) 0 0 (va_A [(aR, .inr (5, [.ref aB, .ref aE, .long R_bits])), (aB, .inr (0, [.ref aBl, .int B_used])), (aBl, .inl (cyI, 136, .inl Bl)), (aE, .inr (0, [.ref aEl, .int E_used])), (aEl, .inl (cyI, 136, .inl El))] sz) := by
  refine Met.ofW (cc := cX5_align) (maxL := 2) (ret := (some .int)) (by decide) rfl ?_
  intro p e s m args below meth c s₁ B hml hv
  obtain ⟨rfl, hsz, hP, hK, hD0, hN⟩ := hv
  subst hsz
  have hD := hD0.self (sz := s.heap.size)
  have CX : cx cX5_align (some .int) 2 RX5 wsX5_align (dC, dI) (TY cyB cyC cyI cyJ cyZ) p s m ([.ref aR] : List Value).toArray meth c := ⟨B.exec, B.bytes, B.returns, hml, findClass_of_methodNamed B.named, atoms_spec (ws := wsX5_align) B.pre, B.notSynchronized, hK, hN⟩
  have hl := lv_entry ([.ref aR]) (n := 2) (Nat.le_of_ble_eq_true rfl)
  rw [lg_entry_eq]
  exact k_X5_align_0 CX (fun q h => Or.inr h) n _ _ _ _ _ _ hf hP hD va_S.rf _ hl
abbrev rm_X5_divide : Room := { frames := 2, cells := 0, slots := 0, locals := 46 }
theorem i_X5_divide_X0 : ∀ w ∈ u_ws RX0 TX0 2, w ∈ wsX5_divide := fun _ h => (List.mem_cons_of_mem _ (List.mem_append_right _ h))
theorem i_X5_divide_X5 : ∀ w ∈ u_ws RX5 TX5 3, w ∈ wsX5_divide := fun _ h => (List.mem_cons_of_mem _ (List.mem_append_left _ (List.mem_append_right _ h)))
def J_X5_divide_5 (p : Program) (l : Launch) (e : Env) (s : State) (m : MethodId) (args : Array Value) (below : List Frame) (meth : Method) (c : Code) (dC : Nat → ClassId) (dI : Nat → Nat → Nat) (cyB cyC cyI cyJ cyZ : ClassId) (aR aB aE aBl aEl : Nat) (R_bits : Int64) (E_used : Int32) (El : Nat → Int32) (A : Nat → Prop) (out : Int64 × Int32 × (Nat → Int32)) (g : Int32 → (Nat → Int32) → Int32 → Int64 → Int32 → Option (Int64 × Int32 × (Nat → Int32))) : Prop := ∀ (B_used : Int32) (Bl : Nat → Int32) (x1 : Int32) (x2 : Int64) (x4 : Int32) (H : Heap) (locs : List Loc), g B_used Bl x1 x2 x4 = some out → va_P (dC, dI) vwCl [(aR, .inr (5, [.ref aB, .ref aE, .long R_bits])), (aB, .inr (0, [.ref aBl, .int B_used])), (aBl, .inl (cyI, 136, .inl Bl)), (aE, .inr (0, [.ref aEl, .int E_used])), (aEl, .inl (cyI, 136, .inl El))] H → va_D A [(aR, .inr (5, [.ref aB, .ref aE, .long R_bits])), (aB, .inr (0, [.ref aBl, .int B_used])), (aBl, .inl (cyI, 136, .inl Bl)), (aE, .inr (0, [.ref aEl, .int E_used])), (aEl, .inl (cyI, 136, .inl El))] → va_S A s.heap H locs → ∀ ls : Array Slot, lv_has ls 6 [(0, .ref aR), (1, .int x1), (2, .long x2), (4, .int x4)] → W p l e rm_X5_divide s m args below meth c H locs 0 0 (MQ below (va_Ql (fun (r : Int64) (u : Int32 × (Nat → Int32)) => (r, u) = out) (Bw (dC, dI) A (fun u => [(aR, .inr (5, [.ref aB, .ref aE, .long R_bits])), (aB, .inr (0, [.ref aBl, .int u.1])), (aBl, .inl (cyI, 136, .inl u.2)), (aE, .inr (0, [.ref aEl, .int E_used])), (aEl, .inl (cyI, 136, .inl El))])) A) args s 0 0 A) (F0 m 5 ls [])
def J_X5_divide_99 (p : Program) (l : Launch) (e : Env) (s : State) (m : MethodId) (args : Array Value) (below : List Frame) (meth : Method) (c : Code) (dC : Nat → ClassId) (dI : Nat → Nat → Nat) (cyB cyC cyI cyJ cyZ : ClassId) (aR aB aE aBl aEl : Nat) (R_bits : Int64) (E_used : Int32) (El : Nat → Int32) (A : Nat → Prop) (out : Int64 × Int32 × (Nat → Int32)) (g : Int32 → (Nat → Int32) → Int64 → Int32 → Option (Int64 × Int32 × (Nat → Int32))) : Prop := ∀ (B_used : Int32) (Bl : Nat → Int32) (x2 : Int64) (t0 : Int32) (H : Heap) (locs : List Loc), g B_used Bl x2 t0 = some out → va_P (dC, dI) vwCl [(aR, .inr (5, [.ref aB, .ref aE, .long R_bits])), (aB, .inr (0, [.ref aBl, .int B_used])), (aBl, .inl (cyI, 136, .inl Bl)), (aE, .inr (0, [.ref aEl, .int E_used])), (aEl, .inl (cyI, 136, .inl El))] H → va_D A [(aR, .inr (5, [.ref aB, .ref aE, .long R_bits])), (aB, .inr (0, [.ref aBl, .int B_used])), (aBl, .inl (cyI, 136, .inl Bl)), (aE, .inr (0, [.ref aEl, .int E_used])), (aEl, .inl (cyI, 136, .inl El))] → va_S A s.heap H locs → ∀ ls : Array Slot, lv_has ls 6 [(2, .long x2)] → W p l e rm_X5_divide s m args below meth c H locs 0 0 (MQ below (va_Ql (fun (r : Int64) (u : Int32 × (Nat → Int32)) => (r, u) = out) (Bw (dC, dI) A (fun u => [(aR, .inr (5, [.ref aB, .ref aE, .long R_bits])), (aB, .inr (0, [.ref aBl, .int u.1])), (aBl, .inl (cyI, 136, .inl u.2)), (aE, .inr (0, [.ref aEl, .int E_used])), (aEl, .inl (cyI, 136, .inl El))])) A) args s 0 0 A) (F0 m 99 ls [.int t0])
def J_X5_divide_94 (p : Program) (l : Launch) (e : Env) (s : State) (m : MethodId) (args : Array Value) (below : List Frame) (meth : Method) (c : Code) (dC : Nat → ClassId) (dI : Nat → Nat → Nat) (cyB cyC cyI cyJ cyZ : ClassId) (aR aB aE aBl aEl : Nat) (R_bits : Int64) (E_used : Int32) (El : Nat → Int32) (A : Nat → Prop) (out : Int64 × Int32 × (Nat → Int32)) (g : Int32 → (Nat → Int32) → Int64 → Option (Int64 × Int32 × (Nat → Int32))) : Prop := ∀ (B_used : Int32) (Bl : Nat → Int32) (x2 : Int64) (H : Heap) (locs : List Loc), g B_used Bl x2 = some out → va_P (dC, dI) vwCl [(aR, .inr (5, [.ref aB, .ref aE, .long R_bits])), (aB, .inr (0, [.ref aBl, .int B_used])), (aBl, .inl (cyI, 136, .inl Bl)), (aE, .inr (0, [.ref aEl, .int E_used])), (aEl, .inl (cyI, 136, .inl El))] H → va_D A [(aR, .inr (5, [.ref aB, .ref aE, .long R_bits])), (aB, .inr (0, [.ref aBl, .int B_used])), (aBl, .inl (cyI, 136, .inl Bl)), (aE, .inr (0, [.ref aEl, .int E_used])), (aEl, .inl (cyI, 136, .inl El))] → va_S A s.heap H locs → ∀ ls : Array Slot, lv_has ls 6 [(2, .long x2)] → W p l e rm_X5_divide s m args below meth c H locs 0 0 (MQ below (va_Ql (fun (r : Int64) (u : Int32 × (Nat → Int32)) => (r, u) = out) (Bw (dC, dI) A (fun u => [(aR, .inr (5, [.ref aB, .ref aE, .long R_bits])), (aB, .inr (0, [.ref aBl, .int u.1])), (aBl, .inl (cyI, 136, .inl u.2)), (aE, .inr (0, [.ref aEl, .int E_used])), (aEl, .inl (cyI, 136, .inl El))])) A) args s 0 0 A) (F0 m 94 ls [])
def J_X5_divide_98 (p : Program) (l : Launch) (e : Env) (s : State) (m : MethodId) (args : Array Value) (below : List Frame) (meth : Method) (c : Code) (dC : Nat → ClassId) (dI : Nat → Nat → Nat) (cyB cyC cyI cyJ cyZ : ClassId) (aR aB aE aBl aEl : Nat) (R_bits : Int64) (E_used : Int32) (El : Nat → Int32) (A : Nat → Prop) (out : Int64 × Int32 × (Nat → Int32)) (g : Int32 → (Nat → Int32) → Int64 → Option (Int64 × Int32 × (Nat → Int32))) : Prop := ∀ (B_used : Int32) (Bl : Nat → Int32) (x2 : Int64) (H : Heap) (locs : List Loc), g B_used Bl x2 = some out → va_P (dC, dI) vwCl [(aR, .inr (5, [.ref aB, .ref aE, .long R_bits])), (aB, .inr (0, [.ref aBl, .int B_used])), (aBl, .inl (cyI, 136, .inl Bl)), (aE, .inr (0, [.ref aEl, .int E_used])), (aEl, .inl (cyI, 136, .inl El))] H → va_D A [(aR, .inr (5, [.ref aB, .ref aE, .long R_bits])), (aB, .inr (0, [.ref aBl, .int B_used])), (aBl, .inl (cyI, 136, .inl Bl)), (aE, .inr (0, [.ref aEl, .int E_used])), (aEl, .inl (cyI, 136, .inl El))] → va_S A s.heap H locs → ∀ ls : Array Slot, lv_has ls 6 [(2, .long x2)] → W p l e rm_X5_divide s m args below meth c H locs 0 0 (MQ below (va_Ql (fun (r : Int64) (u : Int32 × (Nat → Int32)) => (r, u) = out) (Bw (dC, dI) A (fun u => [(aR, .inr (5, [.ref aB, .ref aE, .long R_bits])), (aB, .inr (0, [.ref aBl, .int u.1])), (aBl, .inl (cyI, 136, .inl u.2)), (aE, .inr (0, [.ref aEl, .int E_used])), (aEl, .inl (cyI, 136, .inl El))])) A) args s 0 0 A) (F0 m 98 ls [])
def J_X5_divide_46 (p : Program) (l : Launch) (e : Env) (s : State) (m : MethodId) (args : Array Value) (below : List Frame) (meth : Method) (c : Code) (dC : Nat → ClassId) (dI : Nat → Nat → Nat) (cyB cyC cyI cyJ cyZ : ClassId) (aR aB aE aBl aEl : Nat) (R_bits : Int64) (E_used : Int32) (El : Nat → Int32) (A : Nat → Prop) (out : Int64 × Int32 × (Nat → Int32)) (g : Int32 → (Nat → Int32) → Int32 → Int64 → Int32 → Option (Int64 × Int32 × (Nat → Int32))) : Prop := ∀ (B_used : Int32) (Bl : Nat → Int32) (x1 : Int32) (x2 : Int64) (x4 : Int32) (H : Heap) (locs : List Loc), g B_used Bl x1 x2 x4 = some out → va_P (dC, dI) vwCl [(aR, .inr (5, [.ref aB, .ref aE, .long R_bits])), (aB, .inr (0, [.ref aBl, .int B_used])), (aBl, .inl (cyI, 136, .inl Bl)), (aE, .inr (0, [.ref aEl, .int E_used])), (aEl, .inl (cyI, 136, .inl El))] H → va_D A [(aR, .inr (5, [.ref aB, .ref aE, .long R_bits])), (aB, .inr (0, [.ref aBl, .int B_used])), (aBl, .inl (cyI, 136, .inl Bl)), (aE, .inr (0, [.ref aEl, .int E_used])), (aEl, .inl (cyI, 136, .inl El))] → va_S A s.heap H locs → ∀ ls : Array Slot, lv_has ls 6 [(0, .ref aR), (1, .int x1), (2, .long x2), (4, .int x4)] → W p l e rm_X5_divide s m args below meth c H locs 0 0 (MQ below (va_Ql (fun (r : Int64) (u : Int32 × (Nat → Int32)) => (r, u) = out) (Bw (dC, dI) A (fun u => [(aR, .inr (5, [.ref aB, .ref aE, .long R_bits])), (aB, .inr (0, [.ref aBl, .int u.1])), (aBl, .inl (cyI, 136, .inl u.2)), (aE, .inr (0, [.ref aEl, .int E_used])), (aEl, .inl (cyI, 136, .inl El))])) A) args s 0 0 A) (F0 m 46 ls [])
def J_X5_divide_0 (p : Program) (l : Launch) (e : Env) (s : State) (m : MethodId) (args : Array Value) (below : List Frame) (meth : Method) (c : Code) (dC : Nat → ClassId) (dI : Nat → Nat → Nat) (cyB cyC cyI cyJ cyZ : ClassId) (aR aB aE aBl aEl : Nat) (R_bits : Int64) (E_used : Int32) (El : Nat → Int32) (A : Nat → Prop) (out : Int64 × Int32 × (Nat → Int32)) (g : Int32 → (Nat → Int32) → Int32 → Option (Int64 × Int32 × (Nat → Int32))) : Prop := ∀ (B_used : Int32) (Bl : Nat → Int32) (x1 : Int32) (H : Heap) (locs : List Loc), g B_used Bl x1 = some out → va_P (dC, dI) vwCl [(aR, .inr (5, [.ref aB, .ref aE, .long R_bits])), (aB, .inr (0, [.ref aBl, .int B_used])), (aBl, .inl (cyI, 136, .inl Bl)), (aE, .inr (0, [.ref aEl, .int E_used])), (aEl, .inl (cyI, 136, .inl El))] H → va_D A [(aR, .inr (5, [.ref aB, .ref aE, .long R_bits])), (aB, .inr (0, [.ref aBl, .int B_used])), (aBl, .inl (cyI, 136, .inl Bl)), (aE, .inr (0, [.ref aEl, .int E_used])), (aEl, .inl (cyI, 136, .inl El))] → va_S A s.heap H locs → ∀ ls : Array Slot, lv_has ls 6 [(0, .ref aR), (1, .int x1)] → W p l e rm_X5_divide s m args below meth c H locs 0 0 (MQ below (va_Ql (fun (r : Int64) (u : Int32 × (Nat → Int32)) => (r, u) = out) (Bw (dC, dI) A (fun u => [(aR, .inr (5, [.ref aB, .ref aE, .long R_bits])), (aB, .inr (0, [.ref aBl, .int u.1])), (aBl, .inl (cyI, 136, .inl u.2)), (aE, .inr (0, [.ref aEl, .int E_used])), (aEl, .inl (cyI, 136, .inl El))])) A) args s 0 0 A) (F0 m 0 ls [])
def f_X5_divide_99 (n : Nat) (R_bits : Int64) (E_used : Int32) (El : Nat → Int32) (B_used : Int32) (Bl : Nat → Int32) (x2 : Int64) (t0 : Int32) : Option (Int64 × Int32 × (Nat → Int32)) :=
  if t0 = 0 then
  (some (x2, B_used, Bl))
  else
  (some (x2 + (1 : Int64), B_used, Bl))
set_option maxHeartbeats 4000000 in
set_option maxRecDepth 100000 in
theorem k_X5_divide_99 {p : Program} {l : Launch} {e : Env} {s : State} {m : MethodId} {args : Array Value} {below : List Frame} {meth : Method} {c : Code} {dC : Nat → ClassId} {dI : Nat → Nat → Nat} {cyB cyC cyI cyJ cyZ : ClassId} {aR aB aE aBl aEl : Nat} {R_bits : Int64} {E_used : Int32} {El : Nat → Int32} {A : Nat → Prop} {out : Int64 × Int32 × (Nat → Int32)} (CX : cx cX5_divide (some .long) 6 RX5 wsX5_divide (dC, dI) (TY cyB cyC cyI cyJ cyZ) p s m args meth c) (hA : ∀ q : Nat, s.heap.size ≤ q → A q) (n : Nat) : J_X5_divide_99 p l e s m args below meth c dC dI cyB cyC cyI cyJ cyZ aR aB aE aBl aEl R_bits E_used El A out (f_X5_divide_99 n R_bits E_used El) := by
  intro B_used Bl x2 t0 H locs hf hP hD hS ls hl
  obtain ⟨hx, hb, hr, hml, hown, hts, hlocks, hK, hN⟩ := id CX
  unfold f_X5_divide_99 at hf
  refine lv_istore (lv' := [(5, .int t0), (2, .long x2)]) hx hb dX5_divide_99 hl (by decide) rfl (fun ls hl => ?_)
  refine lv_iload hx hb dX5_divide_101 (lv_at hl 0 rfl) ?_
  refine lv_if_eq (tgt := 112) hx hb dX5_divide_103 (by decide) (fun hc => ?_) (fun hc => ?_)
  · have hf := (if_pos hc).symm.trans hf
    refine lv_lload_n hx hb dX5_divide_112 rfl (lv_at hl 1 rfl) ?_
    exact W.lret (v := x2) hx hb hr (fun t ht hW => ⟨⟨_, (B_used, Bl), rfl, Option.some.inj hf, by rw [ht]; exact hP, hD⟩, hS.F ht⟩) hS.2.2 dX5_divide_113
  · have hf := (if_neg hc).symm.trans hf
    refine lv_lload_n hx hb dX5_divide_106 rfl (lv_at hl 1 rfl) ?_
    refine lv_lconst (v := (1 : Int64)) hx hb dX5_divide_107 (by decide) ?_
    refine lv_ladd hx hb dX5_divide_108 ?_
    refine lv_goto (tgt := 113) hx hb dX5_divide_109 (by decide) ?_
    exact W.lret (v := x2 + (1 : Int64)) hx hb hr (fun t ht hW => ⟨⟨_, (B_used, Bl), rfl, Option.some.inj hf, by rw [ht]; exact hP, hD⟩, hS.F ht⟩) hS.2.2 dX5_divide_113
def f_X5_divide_94 (n : Nat) (R_bits : Int64) (E_used : Int32) (El : Nat → Int32) (B_used : Int32) (Bl : Nat → Int32) (x2 : Int64) : Option (Int64 × Int32 × (Nat → Int32)) :=
  f_X5_divide_99 n R_bits E_used El B_used Bl x2 (1 : Int32)
set_option maxHeartbeats 4000000 in
set_option maxRecDepth 100000 in
theorem k_X5_divide_94 {p : Program} {l : Launch} {e : Env} {s : State} {m : MethodId} {args : Array Value} {below : List Frame} {meth : Method} {c : Code} {dC : Nat → ClassId} {dI : Nat → Nat → Nat} {cyB cyC cyI cyJ cyZ : ClassId} {aR aB aE aBl aEl : Nat} {R_bits : Int64} {E_used : Int32} {El : Nat → Int32} {A : Nat → Prop} {out : Int64 × Int32 × (Nat → Int32)} (CX : cx cX5_divide (some .long) 6 RX5 wsX5_divide (dC, dI) (TY cyB cyC cyI cyJ cyZ) p s m args meth c) (hA : ∀ q : Nat, s.heap.size ≤ q → A q) (n : Nat) : J_X5_divide_94 p l e s m args below meth c dC dI cyB cyC cyI cyJ cyZ aR aB aE aBl aEl R_bits E_used El A out (f_X5_divide_94 n R_bits E_used El) := by
  intro B_used Bl x2 H locs hf hP hD hS ls hl
  obtain ⟨hx, hb, hr, hml, hown, hts, hlocks, hK, hN⟩ := id CX
  unfold f_X5_divide_94 at hf
  refine lv_iconst (v := (1 : Int32)) hx hb dX5_divide_94 (by decide) ?_
  refine lv_goto (tgt := 99) hx hb dX5_divide_95 (by decide) ?_
  exact k_X5_divide_99 CX hA n _ _ _ _ _ _ hf hP hD hS ls (lv_sub hl [0] rfl)
def f_X5_divide_98 (n : Nat) (R_bits : Int64) (E_used : Int32) (El : Nat → Int32) (B_used : Int32) (Bl : Nat → Int32) (x2 : Int64) : Option (Int64 × Int32 × (Nat → Int32)) :=
  f_X5_divide_99 n R_bits E_used El B_used Bl x2 (0 : Int32)
set_option maxHeartbeats 4000000 in
set_option maxRecDepth 100000 in
theorem k_X5_divide_98 {p : Program} {l : Launch} {e : Env} {s : State} {m : MethodId} {args : Array Value} {below : List Frame} {meth : Method} {c : Code} {dC : Nat → ClassId} {dI : Nat → Nat → Nat} {cyB cyC cyI cyJ cyZ : ClassId} {aR aB aE aBl aEl : Nat} {R_bits : Int64} {E_used : Int32} {El : Nat → Int32} {A : Nat → Prop} {out : Int64 × Int32 × (Nat → Int32)} (CX : cx cX5_divide (some .long) 6 RX5 wsX5_divide (dC, dI) (TY cyB cyC cyI cyJ cyZ) p s m args meth c) (hA : ∀ q : Nat, s.heap.size ≤ q → A q) (n : Nat) : J_X5_divide_98 p l e s m args below meth c dC dI cyB cyC cyI cyJ cyZ aR aB aE aBl aEl R_bits E_used El A out (f_X5_divide_98 n R_bits E_used El) := by
  intro B_used Bl x2 H locs hf hP hD hS ls hl
  obtain ⟨hx, hb, hr, hml, hown, hts, hlocks, hK, hN⟩ := id CX
  unfold f_X5_divide_98 at hf
  refine lv_iconst (v := (0 : Int32)) hx hb dX5_divide_98 (by decide) ?_
  exact k_X5_divide_99 CX hA n _ _ _ _ _ _ hf hP hD hS ls (lv_sub hl [0] rfl)
def f_X5_divide_46 (n : Nat) (r5 : Int32 → (Nat → Int32) → Int32 → Int64 → Int32 → Option (Int64 × Int32 × (Nat → Int32))) (R_bits : Int64) (E_used : Int32) (El : Nat → Int32) (B_used : Int32) (Bl : Nat → Int32) (x1 : Int32) (x2 : Int64) (x4 : Int32) : Option (Int64 × Int32 × (Nat → Int32)) :=
  bd (f_X0_timesPlus n (2 : Int32) (0 : Int32) B_used Bl) fun u3 =>
  lt_ (x4 + (1 : Int32)) fun y4 =>
  r5 u3.1 u3.2 x1 x2 y4
set_option maxHeartbeats 4000000 in
set_option maxRecDepth 100000 in
theorem k_X5_divide_46 {p : Program} {l : Launch} {e : Env} {s : State} {m : MethodId} {args : Array Value} {below : List Frame} {meth : Method} {c : Code} {dC : Nat → ClassId} {dI : Nat → Nat → Nat} {cyB cyC cyI cyJ cyZ : ClassId} {aR aB aE aBl aEl : Nat} {R_bits : Int64} {E_used : Int32} {El : Nat → Int32} {A : Nat → Prop} {out : Int64 × Int32 × (Nat → Int32)} (CX : cx cX5_divide (some .long) 6 RX5 wsX5_divide (dC, dI) (TY cyB cyC cyI cyJ cyZ) p s m args meth c) (hA : ∀ q : Nat, s.heap.size ≤ q → A q) (n : Nat) {r5 : Int32 → (Nat → Int32) → Int32 → Int64 → Int32 → Option (Int64 × Int32 × (Nat → Int32))} (hr5 : J_X5_divide_5 p l e s m args below meth c dC dI cyB cyC cyI cyJ cyZ aR aB aE aBl aEl R_bits E_used El A out r5) : J_X5_divide_46 p l e s m args below meth c dC dI cyB cyC cyI cyJ cyZ aR aB aE aBl aEl R_bits E_used El A out (f_X5_divide_46 n r5 R_bits E_used El) := by
  intro B_used Bl x1 x2 x4 H locs hf hP hD hS ls hl
  obtain ⟨hx, hb, hr, hml, hown, hts, hlocks, hK, hN⟩ := id CX
  unfold f_X5_divide_46 at hf
  refine lv_aload_n hx hb dX5_divide_46 rfl (lv_at hl 0 rfl) ?_
  refine va_get (D := (dC, dI)) (ci := 5) (v := .ref aB) (C := RX5) (T := TX5) (N := 3) hx hb hts i_X5_divide_X5 hown hK hP 0 rfl rfl 0 (by decide) (hts (.fieldLink RX5 7 "TokenRow$Rounding" "numerator" "LTokenRow$Big;") (List.mem_of_getElem? (i := 2) rfl)) (fun _ h9 => h9) rfl dX5_divide_47 ?_
  refine lv_iconst (v := (2 : Int32)) hx hb dX5_divide_50 (by decide) ?_
  refine lv_iconst (v := (0 : Int32)) hx hb dX5_divide_51 (by decide) ?_
  obtain ⟨z1, hz1, hf⟩ := bd_ok hf
  have hPc := hP.sub (ws' := [(aB, .inr (0, [.ref aBl, .int B_used])), (aBl, .inl (cyI, 136, .inl Bl))]) [1, 2] rfl
  have hDc := hD.sub (ws' := [(aB, .inr (0, [.ref aBl, .int B_used])), (aBl, .inl (cyI, 136, .inl Bl))]) [1, 2] (by decide) rfl
  have hFc := va_free (wc := [(aB, .inr (0, [.ref aBl, .int B_used])), (aBl, .inl (cyI, 136, .inl Bl))]) hD hS hA [1, 2] rfl
  refine va_callv (va_runV (As := [.int (2 : Int32), .int (0 : Int32)]) (rest := []) ⟨hx, hb, hml, hown, hts⟩ (m_X0_timesPlus l dC dI cyB cyC cyI cyJ cyZ aB aBl  H.size (2 : Int32) (0 : Int32) B_used Bl n z1 hz1) (cwV 2 hts gX5_divide_X0_timesPlus rfl rfl rfl (by decide +kernel) ⟨Nat.le_of_ble_eq_true rfl, Nat.le_of_ble_eq_true rfl⟩) (prwV (va_recv hK hP (ci := 0) (q0 := 1) rfl rfl) hPc hK hDc hN) rfl rfl hl.1 rfl (lv_room (Nat.le_of_ble_eq_true rfl)) dX5_divide_52 ⟨Nat.le_of_ble_eq_true rfl, Nat.le_of_ble_eq_true rfl⟩) hS (fun q _ h => hFc q h) hFc (fun u3 t9 H2 locs ht hvm hw hB hz1 hk1 hS => ?_)
  subst hw
  obtain ⟨hP1, hD1⟩ := hB
  rw [ht] at hP1
  obtain ⟨hP, hD⟩ := va_join (wr := [(aR, .inr (5, [.ref aB, .ref aE, .long R_bits])), (aE, .inr (0, [.ref aEl, .int E_used])), (aEl, .inl (cyI, 136, .inl El))]) (w1 := [(aB, .inr (0, [.ref aBl, .int u3.1])), (aBl, .inl (cyI, 136, .inl u3.2))]) hP hD [1, 2] [0, 3, 4] rfl rfl (by decide) (by decide) hk1 hFc hP1 hD1
  have hP := hP.sub (ws' := [(aR, .inr (5, [.ref aB, .ref aE, .long R_bits])), (aB, .inr (0, [.ref aBl, .int u3.1])), (aBl, .inl (cyI, 136, .inl u3.2)), (aE, .inr (0, [.ref aEl, .int E_used])), (aEl, .inl (cyI, 136, .inl El))]) [0, 3, 4, 1, 2] rfl
  have hD := hD.sub (ws' := [(aR, .inr (5, [.ref aB, .ref aE, .long R_bits])), (aB, .inr (0, [.ref aBl, .int u3.1])), (aBl, .inl (cyI, 136, .inl u3.2)), (aE, .inr (0, [.ref aEl, .int E_used])), (aEl, .inl (cyI, 136, .inl El))]) [0, 3, 4, 1, 2] (by decide) rfl
  obtain ⟨y4, ey4⟩ : ∃ y : Int32, y = x4 + (1 : Int32) := ⟨_, rfl⟩
  have hf := lt_ok hf y4 ey4
  refine lv_iinc (v := y4) (lv' := [(4, .int y4), (0, .ref aR), (1, .int x1), (2, .long x2)]) hx hb dX5_divide_55 hl (k := 3) rfl (by rw [ey4]; rfl) (by decide) rfl (fun ls hl => ?_)
  refine lv_goto (tgt := 5) hx hb dX5_divide_58 (by decide) ?_
  exact hr5 _ _ _ _ _ _ _ hf hP hD hS ls (lv_sub hl [1, 2, 3, 0] rfl)
def fb_X5_divide_5 (n : Nat) (r5 : Int32 → (Nat → Int32) → Int32 → Int64 → Int32 → Option (Int64 × Int32 × (Nat → Int32))) (R_bits : Int64) (E_used : Int32) (El : Nat → Int32) (B_used : Int32) (Bl : Nat → Int32) (x1 : Int32) (x2 : Int64) (x4 : Int32) : Option (Int64 × Int32 × (Nat → Int32)) :=
  if x1 ≤ x4 then
  (bd (f_X0_compareWith n  B_used Bl E_used El) fun o1 =>
  if 0 < o1 then
  (f_X5_divide_94 n R_bits E_used El B_used Bl x2)
  else
  (if o1 = 0 then
  (gu (gzl (2 : Int64)) (
  if (lg_cmp (x2 - x2 / (2 : Int64) * (2 : Int64)) (1 : Int64)) = 0 then
  (f_X5_divide_94 n R_bits E_used El B_used Bl x2)
  else
  (f_X5_divide_98 n R_bits E_used El B_used Bl x2)))
  else
  (f_X5_divide_98 n R_bits E_used El B_used Bl x2)))
  else
  (lt_ (x2 * (2 : Int64)) fun y2 =>
  bd (f_X0_compareWith n  B_used Bl E_used El) fun o3 =>
  if o3 < 0 then
  (f_X5_divide_46 n r5 R_bits E_used El B_used Bl x1 y2 x4)
  else
  (bd (f_X0_subtract n  B_used Bl E_used El) fun u6 =>
  lt_ (y2 + (1 : Int64)) fun y7 =>
  f_X5_divide_46 n r5 R_bits E_used El u6.1 u6.2 x1 y7 x4))
set_option maxHeartbeats 4000000 in
set_option maxRecDepth 100000 in
theorem kb_X5_divide_5 {p : Program} {l : Launch} {e : Env} {s : State} {m : MethodId} {args : Array Value} {below : List Frame} {meth : Method} {c : Code} {dC : Nat → ClassId} {dI : Nat → Nat → Nat} {cyB cyC cyI cyJ cyZ : ClassId} {aR aB aE aBl aEl : Nat} {R_bits : Int64} {E_used : Int32} {El : Nat → Int32} {A : Nat → Prop} {out : Int64 × Int32 × (Nat → Int32)} (CX : cx cX5_divide (some .long) 6 RX5 wsX5_divide (dC, dI) (TY cyB cyC cyI cyJ cyZ) p s m args meth c) (hA : ∀ q : Nat, s.heap.size ≤ q → A q) (n : Nat) {r5 : Int32 → (Nat → Int32) → Int32 → Int64 → Int32 → Option (Int64 × Int32 × (Nat → Int32))} (hr5 : J_X5_divide_5 p l e s m args below meth c dC dI cyB cyC cyI cyJ cyZ aR aB aE aBl aEl R_bits E_used El A out r5) : J_X5_divide_5 p l e s m args below meth c dC dI cyB cyC cyI cyJ cyZ aR aB aE aBl aEl R_bits E_used El A out (fb_X5_divide_5 n r5 R_bits E_used El) := by
  intro B_used Bl x1 x2 x4 H locs hf hP hD hS ls hl
  obtain ⟨hx, hb, hr, hml, hown, hts, hlocks, hK, hN⟩ := id CX
  unfold fb_X5_divide_5 at hf
  refine lv_iload hx hb dX5_divide_5 (lv_at hl 3 rfl) ?_
  refine lv_iload_n hx hb dX5_divide_7 rfl (lv_at hl 1 rfl) ?_
  refine lv_icmp_ge (tgt := 61) hx hb dX5_divide_8 (by decide) (fun hc => ?_) (fun hc => ?_)
  · have hf := (if_pos hc).symm.trans hf
    refine lv_aload_n hx hb dX5_divide_61 rfl (lv_at hl 0 rfl) ?_
    refine va_get (D := (dC, dI)) (ci := 5) (v := .ref aB) (C := RX5) (T := TX5) (N := 3) hx hb hts i_X5_divide_X5 hown hK hP 0 rfl rfl 0 (by decide) (hts (.fieldLink RX5 7 "TokenRow$Rounding" "numerator" "LTokenRow$Big;") (List.mem_of_getElem? (i := 2) rfl)) (fun _ h9 => h9) rfl dX5_divide_62 ?_
    refine lv_aload_n hx hb dX5_divide_65 rfl (lv_at hl 0 rfl) ?_
    refine va_get (D := (dC, dI)) (ci := 5) (v := .ref aE) (C := RX5) (T := TX5) (N := 3) hx hb hts i_X5_divide_X5 hown hK hP 0 rfl rfl 1 (by decide) (hts (.fieldLink RX5 16 "TokenRow$Rounding" "denominator" "LTokenRow$Big;") (List.mem_of_getElem? (i := 3) rfl)) (fun _ h9 => h9) rfl dX5_divide_66 ?_
    obtain ⟨z1, hz1, hf⟩ := bd_ok hf
    have hPc := hP.sub (ws' := [(aB, .inr (0, [.ref aBl, .int B_used])), (aBl, .inl (cyI, 136, .inl Bl)), (aE, .inr (0, [.ref aEl, .int E_used])), (aEl, .inl (cyI, 136, .inl El))]) [1, 2, 3, 4] rfl
    refine vp_callSi (va_Run.run (va_runV (As := [.ref aE]) (rest := []) ⟨hx, hb, hml, hown, hts⟩ (m_X0_compareWith l dC dI cyB cyC cyI cyJ cyZ aB aBl aE aEl   B_used Bl E_used El n z1 hz1) (cwV 1 hts gX5_divide_X0_compareWith rfl rfl rfl (by decide +kernel) ⟨Nat.le_of_ble_eq_true rfl, Nat.le_of_ble_eq_true rfl⟩) (proV (va_recv hK hP (ci := 0) (q0 := 1) rfl rfl) hPc hK hN) rfl rfl hl.1 rfl (lv_room (Nat.le_of_ble_eq_true rfl)) dX5_divide_69 ⟨Nat.le_of_ble_eq_true rfl, Nat.le_of_ble_eq_true rfl⟩)) (fun o1 hr9 => ?_)
    subst hr9
    refine lv_istore (lv' := [(4, .int o1), (0, .ref aR), (1, .int x1), (2, .long x2)]) hx hb dX5_divide_72 hl (by decide) rfl (fun ls hl => ?_)
    refine lv_iload hx hb dX5_divide_74 (lv_at hl 0 rfl) ?_
    refine lv_if_gt (tgt := 94) hx hb dX5_divide_76 (by decide) (fun hc => ?_) (fun hc => ?_)
    · have hf := (if_pos hc).symm.trans hf
      exact k_X5_divide_94 CX hA n _ _ _ _ _ hf hP hD hS ls (lv_sub hl [3] rfl)
    · have hf := (if_neg hc).symm.trans hf
      refine lv_iload hx hb dX5_divide_79 (lv_at hl 0 rfl) ?_
      refine lv_if_ne (tgt := 98) hx hb dX5_divide_81 (by decide) (fun hc => ?_) (fun hc => ?_)
      · have hf := (if_neg hc).symm.trans hf
        exact k_X5_divide_98 CX hA n _ _ _ _ _ hf hP hD hS ls (lv_sub hl [3] rfl)
      · have hf := (if_pos hc).symm.trans hf
        refine lv_lload_n hx hb dX5_divide_84 rfl (lv_at hl 3 rfl) ?_
        refine lv_ldc2 (v := (2 : Int64)) hx hb hown (hts (.constantLong RX5 58 (2)) (List.mem_of_getElem? (i := 1) rfl)) dX5_divide_85 ?_
        obtain ⟨hg, hf⟩ := gu_ok hf
        refine lv_lrem hx hb dX5_divide_88 (gzl_ne hg) ?_
        refine lv_lconst (v := (1 : Int64)) hx hb dX5_divide_89 (by decide) ?_
        refine W.lcmp hx hb dX5_divide_90 ?_
        refine lv_if_ne (tgt := 98) hx hb dX5_divide_91 (by decide) (fun hc => ?_) (fun hc => ?_)
        · have hf := (if_neg hc).symm.trans hf
          exact k_X5_divide_98 CX hA n _ _ _ _ _ hf hP hD hS ls (lv_sub hl [3] rfl)
        · have hf := (if_pos hc).symm.trans hf
          exact k_X5_divide_94 CX hA n _ _ _ _ _ hf hP hD hS ls (lv_sub hl [3] rfl)
  · have hf := (if_neg hc).symm.trans hf
    refine lv_lload_n hx hb dX5_divide_11 rfl (lv_at hl 2 rfl) ?_
    refine lv_ldc2 (v := (2 : Int64)) hx hb hown (hts (.constantLong RX5 58 (2)) (List.mem_of_getElem? (i := 1) rfl)) dX5_divide_12 ?_
    refine lv_lmul hx hb dX5_divide_15 ?_
    refine lv_topl (fun y2 ey2 => ?_)
    have hf := lt_ok hf y2 ey2
    refine lv_lstore_n (lv' := [(2, .long y2), (0, .ref aR), (1, .int x1), (4, .int x4)]) hx hb dX5_divide_16 rfl hl (by decide) rfl (fun ls hl => ?_)
    refine lv_aload_n hx hb dX5_divide_17 rfl (lv_at hl 1 rfl) ?_
    refine va_get (D := (dC, dI)) (ci := 5) (v := .ref aB) (C := RX5) (T := TX5) (N := 3) hx hb hts i_X5_divide_X5 hown hK hP 0 rfl rfl 0 (by decide) (hts (.fieldLink RX5 7 "TokenRow$Rounding" "numerator" "LTokenRow$Big;") (List.mem_of_getElem? (i := 2) rfl)) (fun _ h9 => h9) rfl dX5_divide_18 ?_
    refine lv_aload_n hx hb dX5_divide_21 rfl (lv_at hl 1 rfl) ?_
    refine va_get (D := (dC, dI)) (ci := 5) (v := .ref aE) (C := RX5) (T := TX5) (N := 3) hx hb hts i_X5_divide_X5 hown hK hP 0 rfl rfl 1 (by decide) (hts (.fieldLink RX5 16 "TokenRow$Rounding" "denominator" "LTokenRow$Big;") (List.mem_of_getElem? (i := 3) rfl)) (fun _ h9 => h9) rfl dX5_divide_22 ?_
    obtain ⟨z3, hz3, hf⟩ := bd_ok hf
    have hPc := hP.sub (ws' := [(aB, .inr (0, [.ref aBl, .int B_used])), (aBl, .inl (cyI, 136, .inl Bl)), (aE, .inr (0, [.ref aEl, .int E_used])), (aEl, .inl (cyI, 136, .inl El))]) [1, 2, 3, 4] rfl
    refine vp_callSi (va_Run.run (va_runV (As := [.ref aE]) (rest := []) ⟨hx, hb, hml, hown, hts⟩ (m_X0_compareWith l dC dI cyB cyC cyI cyJ cyZ aB aBl aE aEl   B_used Bl E_used El n z3 hz3) (cwV 1 hts gX5_divide_X0_compareWith rfl rfl rfl (by decide +kernel) ⟨Nat.le_of_ble_eq_true rfl, Nat.le_of_ble_eq_true rfl⟩) (proV (va_recv hK hP (ci := 0) (q0 := 1) rfl rfl) hPc hK hN) rfl rfl hl.1 rfl (lv_room (Nat.le_of_ble_eq_true rfl)) dX5_divide_25 ⟨Nat.le_of_ble_eq_true rfl, Nat.le_of_ble_eq_true rfl⟩)) (fun o3 hr9 => ?_)
    subst hr9
    refine lv_if_lt (tgt := 46) hx hb dX5_divide_28 (by decide) (fun hc => ?_) (fun hc => ?_)
    · have hf := (if_pos hc).symm.trans hf
      exact k_X5_divide_46 CX hA n hr5 _ _ _ _ _ _ _ hf hP hD hS ls (lv_sub hl [1, 2, 0, 3] rfl)
    · have hf := (if_neg hc).symm.trans hf
      refine lv_aload_n hx hb dX5_divide_31 rfl (lv_at hl 1 rfl) ?_
      refine va_get (D := (dC, dI)) (ci := 5) (v := .ref aB) (C := RX5) (T := TX5) (N := 3) hx hb hts i_X5_divide_X5 hown hK hP 0 rfl rfl 0 (by decide) (hts (.fieldLink RX5 7 "TokenRow$Rounding" "numerator" "LTokenRow$Big;") (List.mem_of_getElem? (i := 2) rfl)) (fun _ h9 => h9) rfl dX5_divide_32 ?_
      refine lv_aload_n hx hb dX5_divide_35 rfl (lv_at hl 1 rfl) ?_
      refine va_get (D := (dC, dI)) (ci := 5) (v := .ref aE) (C := RX5) (T := TX5) (N := 3) hx hb hts i_X5_divide_X5 hown hK hP 0 rfl rfl 1 (by decide) (hts (.fieldLink RX5 16 "TokenRow$Rounding" "denominator" "LTokenRow$Big;") (List.mem_of_getElem? (i := 3) rfl)) (fun _ h9 => h9) rfl dX5_divide_36 ?_
      obtain ⟨z4, hz4, hf⟩ := bd_ok hf
      have hPc := hP.sub (ws' := [(aB, .inr (0, [.ref aBl, .int B_used])), (aBl, .inl (cyI, 136, .inl Bl)), (aE, .inr (0, [.ref aEl, .int E_used])), (aEl, .inl (cyI, 136, .inl El))]) [1, 2, 3, 4] rfl
      have hDc := hD.sub (ws' := [(aB, .inr (0, [.ref aBl, .int B_used])), (aBl, .inl (cyI, 136, .inl Bl)), (aE, .inr (0, [.ref aEl, .int E_used])), (aEl, .inl (cyI, 136, .inl El))]) [1, 2, 3, 4] (by decide) rfl
      have hFc := va_free (wc := [(aB, .inr (0, [.ref aBl, .int B_used])), (aBl, .inl (cyI, 136, .inl Bl)), (aE, .inr (0, [.ref aEl, .int E_used])), (aEl, .inl (cyI, 136, .inl El))]) hD hS hA [1, 2, 3, 4] rfl
      refine va_callv (va_runV (As := [.ref aE]) (rest := []) ⟨hx, hb, hml, hown, hts⟩ (m_X0_subtract l dC dI cyB cyC cyI cyJ cyZ aB aBl aE aEl  H.size  B_used Bl E_used El n z4 hz4) (cwV 1 hts gX5_divide_X0_subtract rfl rfl rfl (by decide +kernel) ⟨Nat.le_of_ble_eq_true rfl, Nat.le_of_ble_eq_true rfl⟩) (prwV (va_recv hK hP (ci := 0) (q0 := 1) rfl rfl) hPc hK hDc hN) rfl rfl hl.1 rfl (lv_room (Nat.le_of_ble_eq_true rfl)) dX5_divide_39 ⟨Nat.le_of_ble_eq_true rfl, Nat.le_of_ble_eq_true rfl⟩) hS (fun q _ h => hFc q h) hFc (fun u6 t9 H5 locs ht hvm hw hB hz1 hk1 hS => ?_)
      subst hw
      obtain ⟨hP1, hD1⟩ := hB
      rw [ht] at hP1
      obtain ⟨hP, hD⟩ := va_join (wr := [(aR, .inr (5, [.ref aB, .ref aE, .long R_bits]))]) (w1 := [(aB, .inr (0, [.ref aBl, .int u6.1])), (aBl, .inl (cyI, 136, .inl u6.2)), (aE, .inr (0, [.ref aEl, .int E_used])), (aEl, .inl (cyI, 136, .inl El))]) hP hD [1, 2, 3, 4] [0] rfl rfl (by decide) (by decide) hk1 hFc hP1 hD1
      have hP := hP.sub (ws' := [(aR, .inr (5, [.ref aB, .ref aE, .long R_bits])), (aB, .inr (0, [.ref aBl, .int u6.1])), (aBl, .inl (cyI, 136, .inl u6.2)), (aE, .inr (0, [.ref aEl, .int E_used])), (aEl, .inl (cyI, 136, .inl El))]) [0, 1, 2, 3, 4] rfl
      have hD := hD.sub (ws' := [(aR, .inr (5, [.ref aB, .ref aE, .long R_bits])), (aB, .inr (0, [.ref aBl, .int u6.1])), (aBl, .inl (cyI, 136, .inl u6.2)), (aE, .inr (0, [.ref aEl, .int E_used])), (aEl, .inl (cyI, 136, .inl El))]) [0, 1, 2, 3, 4] (by decide) rfl
      refine lv_lload_n hx hb dX5_divide_42 rfl (lv_at hl 0 rfl) ?_
      refine lv_lconst (v := (1 : Int64)) hx hb dX5_divide_43 (by decide) ?_
      refine lv_ladd hx hb dX5_divide_44 ?_
      refine lv_topl (fun y7 ey7 => ?_)
      have hf := lt_ok hf y7 ey7
      refine lv_lstore_n (lv' := [(2, .long y7), (0, .ref aR), (1, .int x1), (4, .int x4)]) hx hb dX5_divide_45 rfl hl (by decide) rfl (fun ls hl => ?_)
      exact k_X5_divide_46 CX hA n hr5 _ _ _ _ _ _ _ hf hP hD hS ls (lv_sub hl [1, 2, 0, 3] rfl)
def f_X5_divide_5 (n : Nat) (R_bits : Int64) (E_used : Int32) (El : Nat → Int32) : Nat → Int32 → (Nat → Int32) → Int32 → Int64 → Int32 → Option (Int64 × Int32 × (Nat → Int32))
  | 0 => fun _ _ _ _ _ => none
  | k + 1 => fun B_used Bl x1 x2 x4 => fb_X5_divide_5 n (f_X5_divide_5 n R_bits E_used El k) R_bits E_used El B_used Bl x1 x2 x4
set_option maxHeartbeats 4000000 in
set_option maxRecDepth 100000 in
theorem k_X5_divide_5 {p : Program} {l : Launch} {e : Env} {s : State} {m : MethodId} {args : Array Value} {below : List Frame} {meth : Method} {c : Code} {dC : Nat → ClassId} {dI : Nat → Nat → Nat} {cyB cyC cyI cyJ cyZ : ClassId} {aR aB aE aBl aEl : Nat} {R_bits : Int64} {E_used : Int32} {El : Nat → Int32} {A : Nat → Prop} {out : Int64 × Int32 × (Nat → Int32)} (CX : cx cX5_divide (some .long) 6 RX5 wsX5_divide (dC, dI) (TY cyB cyC cyI cyJ cyZ) p s m args meth c) (hA : ∀ q : Nat, s.heap.size ≤ q → A q) (n : Nat) : ∀ k : Nat, J_X5_divide_5 p l e s m args below meth c dC dI cyB cyC cyI cyJ cyZ aR aB aE aBl aEl R_bits E_used El A out (f_X5_divide_5 n R_bits E_used El k) := by
  intro k
  induction k with
  | zero =>
    intro B_used Bl x1 x2 x4 H locs hf
    exact absurd (show (none : Option (Int64 × Int32 × (Nat → Int32))) = some out from hf) (by simp)
  | succ k ih =>
    exact kb_X5_divide_5 CX hA n ih
def f_X5_divide_0 (n : Nat) (R_bits : Int64) (E_used : Int32) (El : Nat → Int32) (B_used : Int32) (Bl : Nat → Int32) (x1 : Int32) : Option (Int64 × Int32 × (Nat → Int32)) :=
  f_X5_divide_5 n R_bits E_used El n B_used Bl x1 (0 : Int64) (0 : Int32)
set_option maxHeartbeats 4000000 in
set_option maxRecDepth 100000 in
theorem k_X5_divide_0 {p : Program} {l : Launch} {e : Env} {s : State} {m : MethodId} {args : Array Value} {below : List Frame} {meth : Method} {c : Code} {dC : Nat → ClassId} {dI : Nat → Nat → Nat} {cyB cyC cyI cyJ cyZ : ClassId} {aR aB aE aBl aEl : Nat} {R_bits : Int64} {E_used : Int32} {El : Nat → Int32} {A : Nat → Prop} {out : Int64 × Int32 × (Nat → Int32)} (CX : cx cX5_divide (some .long) 6 RX5 wsX5_divide (dC, dI) (TY cyB cyC cyI cyJ cyZ) p s m args meth c) (hA : ∀ q : Nat, s.heap.size ≤ q → A q) (n : Nat) : J_X5_divide_0 p l e s m args below meth c dC dI cyB cyC cyI cyJ cyZ aR aB aE aBl aEl R_bits E_used El A out (f_X5_divide_0 n R_bits E_used El) := by
  intro B_used Bl x1 H locs hf hP hD hS ls hl
  obtain ⟨hx, hb, hr, hml, hown, hts, hlocks, hK, hN⟩ := id CX
  unfold f_X5_divide_0 at hf
  refine lv_lconst (v := (0 : Int64)) hx hb dX5_divide_0 (by decide) ?_
  refine lv_lstore_n (lv' := [(2, .long (0 : Int64)), (0, .ref aR), (1, .int x1)]) hx hb dX5_divide_1 rfl hl (by decide) rfl (fun ls hl => ?_)
  refine lv_iconst (v := (0 : Int32)) hx hb dX5_divide_2 (by decide) ?_
  refine lv_istore (lv' := [(4, .int (0 : Int32)), (2, .long (0 : Int64)), (0, .ref aR), (1, .int x1)]) hx hb dX5_divide_3 hl (by decide) rfl (fun ls hl => ?_)
  exact k_X5_divide_5 CX hA n n _ _ _ _ _ _ _ hf hP hD hS ls (lv_sub hl [2, 3, 1, 0] rfl)
def f_X5_divide (n : Nat) (p1 : Int32) (R_bits : Int64) (B_used : Int32) (Bl : Nat → Int32) (E_used : Int32) (El : Nat → Int32) : Option (Int64 × Int32 × (Nat → Int32)) := f_X5_divide_0 n R_bits E_used El B_used Bl p1
set_option maxHeartbeats 4000000 in
set_option maxRecDepth 100000 in
/-- TokenRow$Rounding.divide(I)J -/
theorem m_X5_divide (l : Launch) (dC : Nat → ClassId) (dI : Nat → Nat → Nat) (cyB cyC cyI cyJ cyZ : ClassId) (aR aB aE aBl aEl : Nat) (sz : Nat) (p1 : Int32) (R_bits : Int64) (B_used : Int32) (Bl : Nat → Int32) (E_used : Int32) (El : Nat → Int32) (n : Nat) (out : Int64 × Int32 × (Nat → Int32)) (hf : f_X5_divide n p1 R_bits B_used Bl E_used El = some out) : Met l yX5_divide wsX5_divide rm_X5_divide (Prw (dC, dI) (TY cyB cyC cyI cyJ cyZ) [.ref aR, .int p1] sz [(aR, .inr (5, [.ref aB, .ref aE, .long R_bits])), (aB, .inr (0, [.ref aBl, .int B_used])), (aBl, .inl (cyI, 136, .inl Bl)), (aE, .inr (0, [.ref aEl, .int E_used])), (aEl, .inl (cyI, 136, .inl El))]) (va_Ql (fun (r : Int64) (u : Int32 × (Nat → Int32)) => (r, u) = out) (Bw (dC, dI) (va_A [(aR, .inr (5, [.ref aB, .ref aE, .long R_bits])), (aB, .inr (0, [.ref aBl, .int B_used])), (aBl, .inl (cyI, 136, .inl Bl)), (aE, .inr (0, [.ref aEl, .int E_used])), (aEl, .inl (cyI, 136, .inl El))] sz) (fun u => [(aR, .inr (5, [.ref aB, .ref aE, .long R_bits])), (aB, .inr (0, [.ref aBl, .int u.1])), (aBl, .inl (cyI, 136, .inl u.2)), (aE, .inr (0, [.ref aEl, .int E_used])), (aEl, .inl (cyI, 136, .inl El))])) (va_A [(aR, .inr (5, [.ref aB, .ref aE, .long R_bits])), (aB, .inr (0, [.ref aBl, .int B_used])), (aBl, .inl (cyI, 136, .inl Bl)), (aE, .inr (0, [.ref aEl, .int E_used])), (aEl, .inl (cyI, 136, .inl El))] sz)) 0 0 (va_A [(aR, .inr (5, [.ref aB, .ref aE, .long R_bits])), (aB, .inr (0, [.ref aBl, .int B_used])), (aBl, .inl (cyI, 136, .inl Bl)), (aE, .inr (0, [.ref aEl, .int E_used])), (aEl, .inl (cyI, 136, .inl El))] sz) := by
  refine Met.ofW (cc := cX5_divide) (maxL := 6) (ret := (some .long)) (by decide) rfl ?_
  intro p e s m args below meth c s₁ B hml hv
  obtain ⟨rfl, hsz, hP, hK, hD0, hN⟩ := hv
  subst hsz
  have hD := hD0.self (sz := s.heap.size)
  have CX : cx cX5_divide (some .long) 6 RX5 wsX5_divide (dC, dI) (TY cyB cyC cyI cyJ cyZ) p s m ([.ref aR, .int p1] : List Value).toArray meth c := ⟨B.exec, B.bytes, B.returns, hml, findClass_of_methodNamed B.named, atoms_spec (ws := wsX5_divide) B.pre, B.notSynchronized, hK, hN⟩
  have hl := lv_entry ([.ref aR, .int p1]) (n := 6) (Nat.le_of_ble_eq_true rfl)
  rw [lg_entry_eq]
  exact k_X5_divide_0 CX (fun q h => Or.inr h) n _ _ _ _ _ hf hP hD va_S.rf _ hl
abbrev rm_X5_round : Room := { frames := 3, cells := 0, slots := 0, locals := 71 }
theorem i_X5_round_X0 : ∀ w ∈ u_ws RX0 TX0 2, w ∈ wsX5_round := fun _ h => (List.mem_cons_of_mem _ (List.mem_append_right _ h))
theorem i_X5_round_X5 : ∀ w ∈ u_ws RX5 TX5 3, w ∈ wsX5_round := fun _ h => (List.mem_cons_of_mem _ (List.mem_append_left _ (List.mem_append_right _ h)))
def J_X5_round_41 (p : Program) (l : Launch) (e : Env) (s : State) (m : MethodId) (args : Array Value) (below : List Frame) (meth : Method) (c : Code) (dC : Nat → ClassId) (dI : Nat → Nat → Nat) (cyB cyC cyI cyJ cyZ : ClassId) (aR aB aE aBl aEl : Nat) (A : Nat → Prop) (out : Int32 × Int64 × Int32 × (Nat → Int32) × Int32 × (Nat → Int32)) (g : Int64 → Int32 → (Nat → Int32) → Int32 → (Nat → Int32) → Int32 → Int32 → Int32 → Option (Int32 × Int64 × Int32 × (Nat → Int32) × Int32 × (Nat → Int32))) : Prop := ∀ (R_bits : Int64) (B_used : Int32) (Bl : Nat → Int32) (E_used : Int32) (El : Nat → Int32) (x1 : Int32) (x3 : Int32) (t0 : Int32) (H : Heap) (locs : List Loc), g R_bits B_used Bl E_used El x1 x3 t0 = some out → va_P (dC, dI) vwCl [(aR, .inr (5, [.ref aB, .ref aE, .long R_bits])), (aB, .inr (0, [.ref aBl, .int B_used])), (aBl, .inl (cyI, 136, .inl Bl)), (aE, .inr (0, [.ref aEl, .int E_used])), (aEl, .inl (cyI, 136, .inl El))] H → va_D A [(aR, .inr (5, [.ref aB, .ref aE, .long R_bits])), (aB, .inr (0, [.ref aBl, .int B_used])), (aBl, .inl (cyI, 136, .inl Bl)), (aE, .inr (0, [.ref aEl, .int E_used])), (aEl, .inl (cyI, 136, .inl El))] → va_S A s.heap H locs → ∀ ls : Array Slot, lv_has ls 8 [(0, .ref aR), (1, .int x1), (3, .int x3)] → W p l e rm_X5_round s m args below meth c H locs 0 0 (MQ below (va_Qi (fun (r : Int32) (u : Int64 × Int32 × (Nat → Int32) × Int32 × (Nat → Int32)) => (r, u) = out) (Bw (dC, dI) A (fun u => [(aR, .inr (5, [.ref aB, .ref aE, .long u.1])), (aB, .inr (0, [.ref aBl, .int u.2.1])), (aBl, .inl (cyI, 136, .inl u.2.2.1)), (aE, .inr (0, [.ref aEl, .int u.2.2.2.1])), (aEl, .inl (cyI, 136, .inl u.2.2.2.2))])) A) args s 0 0 A) (F0 m 41 ls [.int t0])
def J_X5_round_28 (p : Program) (l : Launch) (e : Env) (s : State) (m : MethodId) (args : Array Value) (below : List Frame) (meth : Method) (c : Code) (dC : Nat → ClassId) (dI : Nat → Nat → Nat) (cyB cyC cyI cyJ cyZ : ClassId) (aR aB aE aBl aEl : Nat) (A : Nat → Prop) (out : Int32 × Int64 × Int32 × (Nat → Int32) × Int32 × (Nat → Int32)) (g : Int64 → Int32 → (Nat → Int32) → Int32 → (Nat → Int32) → Int32 → Int32 → Int32 → Option (Int32 × Int64 × Int32 × (Nat → Int32) × Int32 × (Nat → Int32))) : Prop := ∀ (R_bits : Int64) (B_used : Int32) (Bl : Nat → Int32) (E_used : Int32) (El : Nat → Int32) (x1 : Int32) (x2 : Int32) (t0 : Int32) (H : Heap) (locs : List Loc), g R_bits B_used Bl E_used El x1 x2 t0 = some out → va_P (dC, dI) vwCl [(aR, .inr (5, [.ref aB, .ref aE, .long R_bits])), (aB, .inr (0, [.ref aBl, .int B_used])), (aBl, .inl (cyI, 136, .inl Bl)), (aE, .inr (0, [.ref aEl, .int E_used])), (aEl, .inl (cyI, 136, .inl El))] H → va_D A [(aR, .inr (5, [.ref aB, .ref aE, .long R_bits])), (aB, .inr (0, [.ref aBl, .int B_used])), (aBl, .inl (cyI, 136, .inl Bl)), (aE, .inr (0, [.ref aEl, .int E_used])), (aEl, .inl (cyI, 136, .inl El))] → va_S A s.heap H locs → ∀ ls : Array Slot, lv_has ls 8 [(0, .ref aR), (1, .int x1), (2, .int x2)] → W p l e rm_X5_round s m args below meth c H locs 0 0 (MQ below (va_Qi (fun (r : Int32) (u : Int64 × Int32 × (Nat → Int32) × Int32 × (Nat → Int32)) => (r, u) = out) (Bw (dC, dI) A (fun u => [(aR, .inr (5, [.ref aB, .ref aE, .long u.1])), (aB, .inr (0, [.ref aBl, .int u.2.1])), (aBl, .inl (cyI, 136, .inl u.2.2.1)), (aE, .inr (0, [.ref aEl, .int u.2.2.2.1])), (aEl, .inl (cyI, 136, .inl u.2.2.2.2))])) A) args s 0 0 A) (F0 m 28 ls [.int t0])
def J_X5_round_0 (p : Program) (l : Launch) (e : Env) (s : State) (m : MethodId) (args : Array Value) (below : List Frame) (meth : Method) (c : Code) (dC : Nat → ClassId) (dI : Nat → Nat → Nat) (cyB cyC cyI cyJ cyZ : ClassId) (aR aB aE aBl aEl : Nat) (A : Nat → Prop) (out : Int32 × Int64 × Int32 × (Nat → Int32) × Int32 × (Nat → Int32)) (g : Int64 → Int32 → (Nat → Int32) → Int32 → (Nat → Int32) → Int32 → Int32 → Option (Int32 × Int64 × Int32 × (Nat → Int32) × Int32 × (Nat → Int32))) : Prop := ∀ (R_bits : Int64) (B_used : Int32) (Bl : Nat → Int32) (E_used : Int32) (El : Nat → Int32) (x1 : Int32) (x2 : Int32) (H : Heap) (locs : List Loc), g R_bits B_used Bl E_used El x1 x2 = some out → va_P (dC, dI) vwCl [(aR, .inr (5, [.ref aB, .ref aE, .long R_bits])), (aB, .inr (0, [.ref aBl, .int B_used])), (aBl, .inl (cyI, 136, .inl Bl)), (aE, .inr (0, [.ref aEl, .int E_used])), (aEl, .inl (cyI, 136, .inl El))] H → va_D A [(aR, .inr (5, [.ref aB, .ref aE, .long R_bits])), (aB, .inr (0, [.ref aBl, .int B_used])), (aBl, .inl (cyI, 136, .inl Bl)), (aE, .inr (0, [.ref aEl, .int E_used])), (aEl, .inl (cyI, 136, .inl El))] → va_S A s.heap H locs → ∀ ls : Array Slot, lv_has ls 8 [(0, .ref aR), (1, .int x1), (2, .int x2)] → W p l e rm_X5_round s m args below meth c H locs 0 0 (MQ below (va_Qi (fun (r : Int32) (u : Int64 × Int32 × (Nat → Int32) × Int32 × (Nat → Int32)) => (r, u) = out) (Bw (dC, dI) A (fun u => [(aR, .inr (5, [.ref aB, .ref aE, .long u.1])), (aB, .inr (0, [.ref aBl, .int u.2.1])), (aBl, .inl (cyI, 136, .inl u.2.2.1)), (aE, .inr (0, [.ref aEl, .int u.2.2.2.1])), (aEl, .inl (cyI, 136, .inl u.2.2.2.2))])) A) args s 0 0 A) (F0 m 0 ls [])
def f_X5_round_41 (n : Nat) (R_bits : Int64) (B_used : Int32) (Bl : Nat → Int32) (E_used : Int32) (El : Nat → Int32) (x1 : Int32) (x3 : Int32) (t0 : Int32) : Option (Int32 × Int64 × Int32 × (Nat → Int32) × Int32 × (Nat → Int32)) :=
  lt_ ((1 : Int32) - t0) fun y1 =>
  bd (f_X5_align n  R_bits B_used Bl E_used El) fun qu4 =>
  lt_ qu4.1 fun r5 => lt_ qu4.2 fun u4 =>
  lt_ (x1 - r5) fun y6 =>
  lt_ (x3 - (if t0 - y6 < (0 : Int32) then (0 : Int32) else t0 - y6)) fun y7 =>
  if y1 < y6 then
  (some ((0 : Int32), R_bits, u4.1, u4.2.1, u4.2.2.1, u4.2.2.2))
  else
  (if 0 ≤ y7 then
  (bd (f_X5_divide n y7 R_bits u4.1 u4.2.1 u4.2.2.1 u4.2.2.2) fun qu10 =>
  lt_ qu10.1 fun r11 => lt_ qu10.2 fun u10 =>
  lt_ (r11 + (((if y6 - t0 < (0 : Int32) then (0 : Int32) else y6 - t0).toInt64) <<< ((x3 - (1 : Int32)).toInt64 &&& 63))) fun y12 =>
  if (lg_cmp y12 (0 : Int64)) = 0 then
  (some ((0 : Int32), y12, u10.1, u10.2, u4.2.2.1, u4.2.2.2))
  else
  (if 0 ≤ (lg_cmp (y12 >>> ((x3 - (1 : Int32)).toInt64 &&& 63)) (((y1 - t0) + (2 : Int32)).toInt64)) then
  (some ((0 : Int32), y12, u10.1, u10.2, u4.2.2.1, u4.2.2.2))
  else
  (some ((1 : Int32), y12, u10.1, u10.2, u4.2.2.1, u4.2.2.2))))
  else
  (some ((0 : Int32), R_bits, u4.1, u4.2.1, u4.2.2.1, u4.2.2.2)))
set_option maxHeartbeats 4000000 in
set_option maxRecDepth 100000 in
theorem k_X5_round_41 {p : Program} {l : Launch} {e : Env} {s : State} {m : MethodId} {args : Array Value} {below : List Frame} {meth : Method} {c : Code} {dC : Nat → ClassId} {dI : Nat → Nat → Nat} {cyB cyC cyI cyJ cyZ : ClassId} {aR aB aE aBl aEl : Nat} {A : Nat → Prop} {out : Int32 × Int64 × Int32 × (Nat → Int32) × Int32 × (Nat → Int32)} (CX : cx cX5_round (some .boolean) 8 RX5 wsX5_round (dC, dI) (TY cyB cyC cyI cyJ cyZ) p s m args meth c) (hA : ∀ q : Nat, s.heap.size ≤ q → A q) (n : Nat) : J_X5_round_41 p l e s m args below meth c dC dI cyB cyC cyI cyJ cyZ aR aB aE aBl aEl A out (f_X5_round_41 n) := by
  intro R_bits B_used Bl E_used El x1 x3 t0 H locs hf hP hD hS ls hl
  obtain ⟨hx, hb, hr, hml, hown, hts, hlocks, hK, hN⟩ := id CX
  unfold f_X5_round_41 at hf
  refine lv_istore (lv' := [(4, .int t0), (0, .ref aR), (1, .int x1), (3, .int x3)]) hx hb dX5_round_41 hl (by decide) rfl (fun ls hl => ?_)
  refine lv_iconst (v := (1 : Int32)) hx hb dX5_round_43 (by decide) ?_
  refine lv_iload hx hb dX5_round_44 (lv_at hl 0 rfl) ?_
  refine lv_isub hx hb dX5_round_46 ?_
  refine lv_topi (fun y1 ey1 => ?_)
  have hf := lt_ok hf y1 ey1
  refine lv_istore (lv' := [(5, .int y1), (4, .int t0), (0, .ref aR), (1, .int x1), (3, .int x3)]) hx hb dX5_round_47 hl (by decide) rfl (fun ls hl => ?_)
  refine lv_iload_n hx hb dX5_round_49 rfl (lv_at hl 3 rfl) ?_
  refine lv_aload_n hx hb dX5_round_50 rfl (lv_at hl 2 rfl) ?_
  obtain ⟨z2, hz2, hf⟩ := bd_ok hf
  have hPc := hP.sub (ws' := [(aR, .inr (5, [.ref aB, .ref aE, .long R_bits])), (aB, .inr (0, [.ref aBl, .int B_used])), (aBl, .inl (cyI, 136, .inl Bl)), (aE, .inr (0, [.ref aEl, .int E_used])), (aEl, .inl (cyI, 136, .inl El))]) [0, 1, 2, 3, 4] rfl
  have hDc := hD.sub (ws' := [(aR, .inr (5, [.ref aB, .ref aE, .long R_bits])), (aB, .inr (0, [.ref aBl, .int B_used])), (aBl, .inl (cyI, 136, .inl Bl)), (aE, .inr (0, [.ref aEl, .int E_used])), (aEl, .inl (cyI, 136, .inl El))]) [0, 1, 2, 3, 4] (by decide) rfl
  have hFc := va_free (wc := [(aR, .inr (5, [.ref aB, .ref aE, .long R_bits])), (aB, .inr (0, [.ref aBl, .int B_used])), (aBl, .inl (cyI, 136, .inl Bl)), (aE, .inr (0, [.ref aEl, .int E_used])), (aEl, .inl (cyI, 136, .inl El))]) hD hS hA [0, 1, 2, 3, 4] rfl
  refine va_calli (va_runV (As := []) (rest := [.int x1]) ⟨hx, hb, hml, hown, hts⟩ (m_X5_align l dC dI cyB cyC cyI cyJ cyZ aR aB aE aBl aEl  H.size  R_bits B_used Bl E_used El n z2 hz2) (cwV 0 hts gX5_round_X5_align rfl rfl rfl (by decide +kernel) ⟨Nat.le_of_ble_eq_true rfl, Nat.le_of_ble_eq_true rfl⟩) (prwV (va_recv hK hP (ci := 5) (q0 := 0) rfl rfl) hPc hK hDc hN) rfl rfl hl.1 rfl (lv_room (Nat.le_of_ble_eq_true rfl)) dX5_round_51 ⟨Nat.le_of_ble_eq_true rfl, Nat.le_of_ble_eq_true rfl⟩) hS (fun q _ h => hFc q h) hFc (fun r5 u4 t9 H3 locs ht hvm hw hB hz1 hk1 hS => ?_)
  subst hw
  obtain ⟨hP1, hD1⟩ := hB
  rw [ht] at hP1
  have hf := lt_ok hf r5 rfl
  have hf := lt_ok hf u4 rfl
  obtain ⟨hP, hD⟩ := va_join (wr := []) (w1 := [(aR, .inr (5, [.ref aB, .ref aE, .long R_bits])), (aB, .inr (0, [.ref aBl, .int u4.1])), (aBl, .inl (cyI, 136, .inl u4.2.1)), (aE, .inr (0, [.ref aEl, .int u4.2.2.1])), (aEl, .inl (cyI, 136, .inl u4.2.2.2))]) hP hD [0, 1, 2, 3, 4] [] rfl rfl (by decide) (by decide) hk1 hFc hP1 hD1
  have hP := hP.sub (ws' := [(aR, .inr (5, [.ref aB, .ref aE, .long R_bits])), (aB, .inr (0, [.ref aBl, .int u4.1])), (aBl, .inl (cyI, 136, .inl u4.2.1)), (aE, .inr (0, [.ref aEl, .int u4.2.2.1])), (aEl, .inl (cyI, 136, .inl u4.2.2.2))]) [0, 1, 2, 3, 4] rfl
  have hD := hD.sub (ws' := [(aR, .inr (5, [.ref aB, .ref aE, .long R_bits])), (aB, .inr (0, [.ref aBl, .int u4.1])), (aBl, .inl (cyI, 136, .inl u4.2.1)), (aE, .inr (0, [.ref aEl, .int u4.2.2.1])), (aEl, .inl (cyI, 136, .inl u4.2.2.2))]) [0, 1, 2, 3, 4] (by decide) rfl
  refine lv_isub hx hb dX5_round_54 ?_
  refine lv_topi (fun y6 ey6 => ?_)
  have hf := lt_ok hf y6 ey6
  refine lv_istore (lv' := [(6, .int y6), (5, .int y1), (4, .int t0), (0, .ref aR), (1, .int x1), (3, .int x3)]) hx hb dX5_round_55 hl (by decide) rfl (fun ls hl => ?_)
  refine lv_iload_n hx hb dX5_round_57 rfl (lv_at hl 5 rfl) ?_
  refine lv_iload hx hb dX5_round_58 (lv_at hl 2 rfl) ?_
  refine lv_iload hx hb dX5_round_60 (lv_at hl 0 rfl) ?_
  refine lv_isub hx hb dX5_round_62 ?_
  refine lv_iconst (v := (0 : Int32)) hx hb dX5_round_63 (by decide) ?_
  refine va_mmax hx hb (hml.trans hl.1.symm) hown (hts (.methodLink RX5 38 Lib.Math.max.name) (List.mem_of_getElem? (i := 3) rfl)) (hts (.static Lib.Math.max.name) (List.mem_of_getElem? (i := 4) rfl)) (hts (.initialized "java/lang/Math") (List.mem_of_getElem? (i := 5) rfl)) (hts (.code Lib.Math.max.name Lib.Math.max.code 2 (some .int)) (List.mem_of_getElem? (i := 6) rfl)) (Nat.le_of_ble_eq_true rfl) (Nat.le_of_ble_eq_true rfl) (Nat.le_of_ble_eq_true rfl) (Nat.le_of_ble_eq_true rfl) dX5_round_64 ?_
  refine lv_isub hx hb dX5_round_67 ?_
  refine lv_topi (fun y7 ey7 => ?_)
  have hf := lt_ok hf y7 ey7
  refine lv_istore (lv' := [(7, .int y7), (6, .int y6), (5, .int y1), (4, .int t0), (0, .ref aR), (1, .int x1), (3, .int x3)]) hx hb dX5_round_68 hl (by decide) rfl (fun ls hl => ?_)
  refine lv_iload hx hb dX5_round_70 (lv_at hl 1 rfl) ?_
  refine lv_iload hx hb dX5_round_72 (lv_at hl 2 rfl) ?_
  refine lv_icmp_gt (tgt := 82) hx hb dX5_round_74 (by decide) (fun hc => ?_) (fun hc => ?_)
  · have hf := (if_pos hc).symm.trans hf
    refine lv_iconst (v := (0 : Int32)) hx hb dX5_round_82 (by decide) ?_
    exact W.zret (v := (0 : Int32)) (ty := .boolean) hx hb hr rfl (fun t ht hW => ⟨⟨_, (R_bits, u4.1, u4.2.1, u4.2.2.1, u4.2.2.2), rfl, Option.some.inj hf, by rw [ht]; exact hP, hD⟩, hS.F ht⟩) hS.2.2 dX5_round_83
  · have hf := (if_neg hc).symm.trans hf
    refine lv_iload hx hb dX5_round_77 (lv_at hl 0 rfl) ?_
    refine lv_if_ge (tgt := 84) hx hb dX5_round_79 (by decide) (fun hc => ?_) (fun hc => ?_)
    · have hf := (if_pos hc).symm.trans hf
      refine lv_aload_n hx hb dX5_round_84 rfl (lv_at hl 4 rfl) ?_
      refine lv_aload_n hx hb dX5_round_85 rfl (lv_at hl 4 rfl) ?_
      refine lv_iload hx hb dX5_round_86 (lv_at hl 0 rfl) ?_
      obtain ⟨z8, hz8, hf⟩ := bd_ok hf
      have hPc := hP.sub (ws' := [(aR, .inr (5, [.ref aB, .ref aE, .long R_bits])), (aB, .inr (0, [.ref aBl, .int u4.1])), (aBl, .inl (cyI, 136, .inl u4.2.1)), (aE, .inr (0, [.ref aEl, .int u4.2.2.1])), (aEl, .inl (cyI, 136, .inl u4.2.2.2))]) [0, 1, 2, 3, 4] rfl
      have hDc := hD.sub (ws' := [(aR, .inr (5, [.ref aB, .ref aE, .long R_bits])), (aB, .inr (0, [.ref aBl, .int u4.1])), (aBl, .inl (cyI, 136, .inl u4.2.1)), (aE, .inr (0, [.ref aEl, .int u4.2.2.1])), (aEl, .inl (cyI, 136, .inl u4.2.2.2))]) [0, 1, 2, 3, 4] (by decide) rfl
      have hFc := va_free (wc := [(aR, .inr (5, [.ref aB, .ref aE, .long R_bits])), (aB, .inr (0, [.ref aBl, .int u4.1])), (aBl, .inl (cyI, 136, .inl u4.2.1)), (aE, .inr (0, [.ref aEl, .int u4.2.2.1])), (aEl, .inl (cyI, 136, .inl u4.2.2.2))]) hD hS hA [0, 1, 2, 3, 4] rfl
      refine va_calll (va_runV (As := [.int y7]) (rest := [.ref aR]) ⟨hx, hb, hml, hown, hts⟩ (m_X5_divide l dC dI cyB cyC cyI cyJ cyZ aR aB aE aBl aEl  H3.size y7 R_bits u4.1 u4.2.1 u4.2.2.1 u4.2.2.2 n z8 hz8) (cwV 1 hts gX5_round_X5_divide rfl rfl rfl (by decide +kernel) ⟨Nat.le_of_ble_eq_true rfl, Nat.le_of_ble_eq_true rfl⟩) (prwV (va_recv hK hP (ci := 5) (q0 := 0) rfl rfl) hPc hK hDc hN) rfl rfl hl.1 rfl (lv_room (Nat.le_of_ble_eq_true rfl)) dX5_round_88 ⟨Nat.le_of_ble_eq_true rfl, Nat.le_of_ble_eq_true rfl⟩) hS (fun q _ h => hFc q h) hFc (fun r11 u10 t9 H9 locs ht hvm hw hB hz1 hk1 hS => ?_)
      subst hw
      obtain ⟨hP1, hD1⟩ := hB
      rw [ht] at hP1
      have hf := lt_ok hf r11 rfl
      have hf := lt_ok hf u10 rfl
      obtain ⟨hP, hD⟩ := va_join (wr := []) (w1 := [(aR, .inr (5, [.ref aB, .ref aE, .long R_bits])), (aB, .inr (0, [.ref aBl, .int u10.1])), (aBl, .inl (cyI, 136, .inl u10.2)), (aE, .inr (0, [.ref aEl, .int u4.2.2.1])), (aEl, .inl (cyI, 136, .inl u4.2.2.2))]) hP hD [0, 1, 2, 3, 4] [] rfl rfl (by decide) (by decide) hk1 hFc hP1 hD1
      have hP := hP.sub (ws' := [(aR, .inr (5, [.ref aB, .ref aE, .long R_bits])), (aB, .inr (0, [.ref aBl, .int u10.1])), (aBl, .inl (cyI, 136, .inl u10.2)), (aE, .inr (0, [.ref aEl, .int u4.2.2.1])), (aEl, .inl (cyI, 136, .inl u4.2.2.2))]) [0, 1, 2, 3, 4] rfl
      have hD := hD.sub (ws' := [(aR, .inr (5, [.ref aB, .ref aE, .long R_bits])), (aB, .inr (0, [.ref aBl, .int u10.1])), (aBl, .inl (cyI, 136, .inl u10.2)), (aE, .inr (0, [.ref aEl, .int u4.2.2.1])), (aEl, .inl (cyI, 136, .inl u4.2.2.2))]) [0, 1, 2, 3, 4] (by decide) rfl
      refine lv_iload hx hb dX5_round_91 (lv_at hl 1 rfl) ?_
      refine lv_iload hx hb dX5_round_93 (lv_at hl 3 rfl) ?_
      refine lv_isub hx hb dX5_round_95 ?_
      refine lv_iconst (v := (0 : Int32)) hx hb dX5_round_96 (by decide) ?_
      refine va_mmax hx hb (hml.trans hl.1.symm) hown (hts (.methodLink RX5 38 Lib.Math.max.name) (List.mem_of_getElem? (i := 3) rfl)) (hts (.static Lib.Math.max.name) (List.mem_of_getElem? (i := 4) rfl)) (hts (.initialized "java/lang/Math") (List.mem_of_getElem? (i := 5) rfl)) (hts (.code Lib.Math.max.name Lib.Math.max.code 2 (some .int)) (List.mem_of_getElem? (i := 6) rfl)) (Nat.le_of_ble_eq_true rfl) (Nat.le_of_ble_eq_true rfl) (Nat.le_of_ble_eq_true rfl) (Nat.le_of_ble_eq_true rfl) dX5_round_97 ?_
      refine lv_i2l (v := (if y6 - t0 < (0 : Int32) then (0 : Int32) else y6 - t0).toInt64) hx hb dX5_round_100 rfl ?_
      refine lv_iload_n hx hb dX5_round_101 rfl (lv_at hl 6 rfl) ?_
      refine lv_iconst (v := (1 : Int32)) hx hb dX5_round_102 (by decide) ?_
      refine lv_isub hx hb dX5_round_103 ?_
      refine lv_lshl (v := ((if y6 - t0 < (0 : Int32) then (0 : Int32) else y6 - t0).toInt64) <<< ((x3 - (1 : Int32)).toInt64 &&& 63)) hx hb dX5_round_104 rfl ?_
      refine lv_ladd hx hb dX5_round_105 ?_
      refine lv_topl (fun y12 ey12 => ?_)
      have hf := lt_ok hf y12 ey12
      refine va_put (D := (dC, dI)) (ci := 5) (v := .long y12) (ty := .long) (C := RX5) (T := TX5) (N := 3) hx hb hts i_X5_round_X5 tyX5 tyX5_ok nmX5 hown hK hP hD hS 0 rfl rfl 2 (by decide) (hts (.fieldLink RX5 19 "TokenRow$Rounding" "bits" "J") (List.mem_of_getElem? (i := 1) rfl)) (fun _ h9 => h9) rfl (by decide +kernel) rfl rfl (Nat.le_of_ble_eq_true rfl) dX5_round_106 (fun H13 locs hP hD hS => ?_)
      have hP : va_P (dC, dI) vwCl [(aR, .inr (5, [.ref aB, .ref aE, .long y12])), (aB, .inr (0, [.ref aBl, .int u10.1])), (aBl, .inl (cyI, 136, .inl u10.2)), (aE, .inr (0, [.ref aEl, .int u4.2.2.1])), (aEl, .inl (cyI, 136, .inl u4.2.2.2))] H13 := hP
      have hD : va_D A [(aR, .inr (5, [.ref aB, .ref aE, .long y12])), (aB, .inr (0, [.ref aBl, .int u10.1])), (aBl, .inl (cyI, 136, .inl u10.2)), (aE, .inr (0, [.ref aEl, .int u4.2.2.1])), (aEl, .inl (cyI, 136, .inl u4.2.2.2))] := hD
      refine lv_aload_n hx hb dX5_round_109 rfl (lv_at hl 4 rfl) ?_
      refine va_get (D := (dC, dI)) (ci := 5) (v := .long y12) (C := RX5) (T := TX5) (N := 3) hx hb hts i_X5_round_X5 hown hK hP 0 rfl rfl 2 (by decide) (hts (.fieldLink RX5 19 "TokenRow$Rounding" "bits" "J") (List.mem_of_getElem? (i := 1) rfl)) (fun _ h9 => h9) rfl dX5_round_110 ?_
      refine lv_lconst (v := (0 : Int64)) hx hb dX5_round_113 (by decide) ?_
      refine W.lcmp hx hb dX5_round_114 ?_
      refine lv_if_eq (tgt := 142) hx hb dX5_round_115 (by decide) (fun hc => ?_) (fun hc => ?_)
      · have hf := (if_pos hc).symm.trans hf
        refine lv_iconst (v := (0 : Int32)) hx hb dX5_round_142 (by decide) ?_
        exact W.zret (v := (0 : Int32)) (ty := .boolean) hx hb hr rfl (fun t ht hW => ⟨⟨_, (y12, u10.1, u10.2, u4.2.2.1, u4.2.2.2), rfl, Option.some.inj hf, by rw [ht]; exact hP, hD⟩, hS.F ht⟩) hS.2.2 dX5_round_143
      · have hf := (if_neg hc).symm.trans hf
        refine lv_aload_n hx hb dX5_round_118 rfl (lv_at hl 4 rfl) ?_
        refine va_get (D := (dC, dI)) (ci := 5) (v := .long y12) (C := RX5) (T := TX5) (N := 3) hx hb hts i_X5_round_X5 hown hK hP 0 rfl rfl 2 (by decide) (hts (.fieldLink RX5 19 "TokenRow$Rounding" "bits" "J") (List.mem_of_getElem? (i := 1) rfl)) (fun _ h9 => h9) rfl dX5_round_119 ?_
        refine lv_iload_n hx hb dX5_round_122 rfl (lv_at hl 6 rfl) ?_
        refine lv_iconst (v := (1 : Int32)) hx hb dX5_round_123 (by decide) ?_
        refine lv_isub hx hb dX5_round_124 ?_
        refine lv_lshr (v := y12 >>> ((x3 - (1 : Int32)).toInt64 &&& 63)) hx hb dX5_round_125 rfl ?_
        refine lv_iload hx hb dX5_round_126 (lv_at hl 2 rfl) ?_
        refine lv_iload hx hb dX5_round_128 (lv_at hl 3 rfl) ?_
        refine lv_isub hx hb dX5_round_130 ?_
        refine lv_iconst (v := (2 : Int32)) hx hb dX5_round_131 (by decide) ?_
        refine lv_iadd hx hb dX5_round_132 ?_
        refine lv_i2l (v := ((y1 - t0) + (2 : Int32)).toInt64) hx hb dX5_round_133 rfl ?_
        refine W.lcmp hx hb dX5_round_134 ?_
        refine lv_if_ge (tgt := 142) hx hb dX5_round_135 (by decide) (fun hc => ?_) (fun hc => ?_)
        · have hf := (if_pos hc).symm.trans hf
          refine lv_iconst (v := (0 : Int32)) hx hb dX5_round_142 (by decide) ?_
          exact W.zret (v := (0 : Int32)) (ty := .boolean) hx hb hr rfl (fun t ht hW => ⟨⟨_, (y12, u10.1, u10.2, u4.2.2.1, u4.2.2.2), rfl, Option.some.inj hf, by rw [ht]; exact hP, hD⟩, hS.F ht⟩) hS.2.2 dX5_round_143
        · have hf := (if_neg hc).symm.trans hf
          refine lv_iconst (v := (1 : Int32)) hx hb dX5_round_138 (by decide) ?_
          refine lv_goto (tgt := 143) hx hb dX5_round_139 (by decide) ?_
          exact W.zret (v := (1 : Int32)) (ty := .boolean) hx hb hr rfl (fun t ht hW => ⟨⟨_, (y12, u10.1, u10.2, u4.2.2.1, u4.2.2.2), rfl, Option.some.inj hf, by rw [ht]; exact hP, hD⟩, hS.F ht⟩) hS.2.2 dX5_round_143
    · have hf := (if_neg hc).symm.trans hf
      refine lv_iconst (v := (0 : Int32)) hx hb dX5_round_82 (by decide) ?_
      exact W.zret (v := (0 : Int32)) (ty := .boolean) hx hb hr rfl (fun t ht hW => ⟨⟨_, (R_bits, u4.1, u4.2.1, u4.2.2.1, u4.2.2.2), rfl, Option.some.inj hf, by rw [ht]; exact hP, hD⟩, hS.F ht⟩) hS.2.2 dX5_round_83
def f_X5_round_28 (n : Nat) (R_bits : Int64) (B_used : Int32) (Bl : Nat → Int32) (E_used : Int32) (El : Nat → Int32) (x1 : Int32) (x2 : Int32) (t0 : Int32) : Option (Int32 × Int64 × Int32 × (Nat → Int32) × Int32 × (Nat → Int32)) :=
  if x2 = 0 then
  (f_X5_round_41 n R_bits B_used Bl E_used El x1 t0 (-1022 : Int32))
  else
  (f_X5_round_41 n R_bits B_used Bl E_used El x1 t0 (-126 : Int32))
set_option maxHeartbeats 4000000 in
set_option maxRecDepth 100000 in
theorem k_X5_round_28 {p : Program} {l : Launch} {e : Env} {s : State} {m : MethodId} {args : Array Value} {below : List Frame} {meth : Method} {c : Code} {dC : Nat → ClassId} {dI : Nat → Nat → Nat} {cyB cyC cyI cyJ cyZ : ClassId} {aR aB aE aBl aEl : Nat} {A : Nat → Prop} {out : Int32 × Int64 × Int32 × (Nat → Int32) × Int32 × (Nat → Int32)} (CX : cx cX5_round (some .boolean) 8 RX5 wsX5_round (dC, dI) (TY cyB cyC cyI cyJ cyZ) p s m args meth c) (hA : ∀ q : Nat, s.heap.size ≤ q → A q) (n : Nat) : J_X5_round_28 p l e s m args below meth c dC dI cyB cyC cyI cyJ cyZ aR aB aE aBl aEl A out (f_X5_round_28 n) := by
  intro R_bits B_used Bl E_used El x1 x2 t0 H locs hf hP hD hS ls hl
  obtain ⟨hx, hb, hr, hml, hown, hts, hlocks, hK, hN⟩ := id CX
  unfold f_X5_round_28 at hf
  refine lv_istore_n (lv' := [(3, .int t0), (0, .ref aR), (1, .int x1), (2, .int x2)]) hx hb dX5_round_28 rfl hl (by decide) rfl (fun ls hl => ?_)
  refine lv_iload_n hx hb dX5_round_29 rfl (lv_at hl 3 rfl) ?_
  refine lv_if_eq (tgt := 38) hx hb dX5_round_30 (by decide) (fun hc => ?_) (fun hc => ?_)
  · have hf := (if_pos hc).symm.trans hf
    refine lv_sipush (v := (-1022 : Int32)) hx hb dX5_round_38 (by decide) ?_
    exact k_X5_round_41 CX hA n _ _ _ _ _ _ _ _ _ _ hf hP hD hS ls (lv_sub hl [1, 2, 0] rfl)
  · have hf := (if_neg hc).symm.trans hf
    refine lv_bipush (v := (-126 : Int32)) hx hb dX5_round_33 (by decide) ?_
    refine lv_goto (tgt := 41) hx hb dX5_round_35 (by decide) ?_
    exact k_X5_round_41 CX hA n _ _ _ _ _ _ _ _ _ _ hf hP hD hS ls (lv_sub hl [1, 2, 0] rfl)
def f_X5_round_0 (n : Nat) (R_bits : Int64) (B_used : Int32) (Bl : Nat → Int32) (E_used : Int32) (El : Nat → Int32) (x1 : Int32) (x2 : Int32) : Option (Int32 × Int64 × Int32 × (Nat → Int32) × Int32 × (Nat → Int32)) :=
  bd (f_X0_isZero n  B_used) fun o2 =>
  if o2 = 0 then
  (if x2 = 0 then
  (f_X5_round_28 n (0 : Int64) B_used Bl E_used El x1 x2 (53 : Int32))
  else
  (f_X5_round_28 n (0 : Int64) B_used Bl E_used El x1 x2 (24 : Int32)))
  else
  (some ((1 : Int32), (0 : Int64), B_used, Bl, E_used, El))
set_option maxHeartbeats 4000000 in
set_option maxRecDepth 100000 in
theorem k_X5_round_0 {p : Program} {l : Launch} {e : Env} {s : State} {m : MethodId} {args : Array Value} {below : List Frame} {meth : Method} {c : Code} {dC : Nat → ClassId} {dI : Nat → Nat → Nat} {cyB cyC cyI cyJ cyZ : ClassId} {aR aB aE aBl aEl : Nat} {A : Nat → Prop} {out : Int32 × Int64 × Int32 × (Nat → Int32) × Int32 × (Nat → Int32)} (CX : cx cX5_round (some .boolean) 8 RX5 wsX5_round (dC, dI) (TY cyB cyC cyI cyJ cyZ) p s m args meth c) (hA : ∀ q : Nat, s.heap.size ≤ q → A q) (n : Nat) : J_X5_round_0 p l e s m args below meth c dC dI cyB cyC cyI cyJ cyZ aR aB aE aBl aEl A out (f_X5_round_0 n) := by
  intro R_bits B_used Bl E_used El x1 x2 H locs hf hP hD hS ls hl
  obtain ⟨hx, hb, hr, hml, hown, hts, hlocks, hK, hN⟩ := id CX
  unfold f_X5_round_0 at hf
  refine lv_aload_n hx hb dX5_round_0 rfl (lv_at hl 0 rfl) ?_
  refine lv_lconst (v := (0 : Int64)) hx hb dX5_round_1 (by decide) ?_
  refine va_put (D := (dC, dI)) (ci := 5) (v := .long (0 : Int64)) (ty := .long) (C := RX5) (T := TX5) (N := 3) hx hb hts i_X5_round_X5 tyX5 tyX5_ok nmX5 hown hK hP hD hS 0 rfl rfl 2 (by decide) (hts (.fieldLink RX5 19 "TokenRow$Rounding" "bits" "J") (List.mem_of_getElem? (i := 1) rfl)) (fun _ h9 => h9) rfl (by decide +kernel) rfl rfl (Nat.le_of_ble_eq_true rfl) dX5_round_2 (fun H1 locs hP hD hS => ?_)
  have hP : va_P (dC, dI) vwCl [(aR, .inr (5, [.ref aB, .ref aE, .long (0 : Int64)])), (aB, .inr (0, [.ref aBl, .int B_used])), (aBl, .inl (cyI, 136, .inl Bl)), (aE, .inr (0, [.ref aEl, .int E_used])), (aEl, .inl (cyI, 136, .inl El))] H1 := hP
  have hD : va_D A [(aR, .inr (5, [.ref aB, .ref aE, .long (0 : Int64)])), (aB, .inr (0, [.ref aBl, .int B_used])), (aBl, .inl (cyI, 136, .inl Bl)), (aE, .inr (0, [.ref aEl, .int E_used])), (aEl, .inl (cyI, 136, .inl El))] := hD
  refine lv_aload_n hx hb dX5_round_5 rfl (lv_at hl 0 rfl) ?_
  refine va_get (D := (dC, dI)) (ci := 5) (v := .ref aB) (C := RX5) (T := TX5) (N := 3) hx hb hts i_X5_round_X5 hown hK hP 0 rfl rfl 0 (by decide) (hts (.fieldLink RX5 7 "TokenRow$Rounding" "numerator" "LTokenRow$Big;") (List.mem_of_getElem? (i := 2) rfl)) (fun _ h9 => h9) rfl dX5_round_6 ?_
  obtain ⟨z2, hz2, hf⟩ := bd_ok hf
  have hPc := hP.sub (ws' := [(aB, .inr (0, [.ref aBl, .int B_used]))]) [1] rfl
  refine vp_callSi (va_Run.run (va_runV (As := []) (rest := []) ⟨hx, hb, hml, hown, hts⟩ (m_X0_isZero l dC dI cyB cyC cyI cyJ cyZ aB aBl   B_used n z2 hz2) (cwV 0 hts gX5_round_X0_isZero rfl rfl rfl (by decide +kernel) ⟨Nat.le_of_ble_eq_true rfl, Nat.le_of_ble_eq_true rfl⟩) (proV (va_recv hK hP (ci := 0) (q0 := 1) rfl rfl) hPc hK hN) rfl rfl hl.1 rfl (lv_room (Nat.le_of_ble_eq_true rfl)) dX5_round_9 ⟨Nat.le_of_ble_eq_true rfl, Nat.le_of_ble_eq_true rfl⟩)) (fun o2 hr9 => ?_)
  subst hr9
  refine lv_if_eq (tgt := 17) hx hb dX5_round_12 (by decide) (fun hc => ?_) (fun hc => ?_)
  · have hf := (if_pos hc).symm.trans hf
    refine lv_iload_n hx hb dX5_round_17 rfl (lv_at hl 2 rfl) ?_
    refine lv_if_eq (tgt := 26) hx hb dX5_round_18 (by decide) (fun hc => ?_) (fun hc => ?_)
    · have hf := (if_pos hc).symm.trans hf
      refine lv_bipush (v := (53 : Int32)) hx hb dX5_round_26 (by decide) ?_
      exact k_X5_round_28 CX hA n _ _ _ _ _ _ _ _ _ _ hf hP hD hS ls (lv_sub hl [0, 1, 2] rfl)
    · have hf := (if_neg hc).symm.trans hf
      refine lv_bipush (v := (24 : Int32)) hx hb dX5_round_21 (by decide) ?_
      refine lv_goto (tgt := 28) hx hb dX5_round_23 (by decide) ?_
      exact k_X5_round_28 CX hA n _ _ _ _ _ _ _ _ _ _ hf hP hD hS ls (lv_sub hl [0, 1, 2] rfl)
  · have hf := (if_neg hc).symm.trans hf
    refine lv_iconst (v := (1 : Int32)) hx hb dX5_round_15 (by decide) ?_
    exact W.zret (v := (1 : Int32)) (ty := .boolean) hx hb hr rfl (fun t ht hW => ⟨⟨_, ((0 : Int64), B_used, Bl, E_used, El), rfl, Option.some.inj hf, by rw [ht]; exact hP, hD⟩, hS.F ht⟩) hS.2.2 dX5_round_16
def f_X5_round (n : Nat) (p1 : Int32) (p2 : Int32) (R_bits : Int64) (B_used : Int32) (Bl : Nat → Int32) (E_used : Int32) (El : Nat → Int32) : Option (Int32 × Int64 × Int32 × (Nat → Int32) × Int32 × (Nat → Int32)) := f_X5_round_0 n R_bits B_used Bl E_used El p1 p2
set_option maxHeartbeats 4000000 in
set_option maxRecDepth 100000 in
/-- TokenRow$Rounding.round(IZ)Z -/
theorem m_X5_round (l : Launch) (dC : Nat → ClassId) (dI : Nat → Nat → Nat) (cyB cyC cyI cyJ cyZ : ClassId) (aR aB aE aBl aEl : Nat) (sz : Nat) (p1 : Int32) (p2 : Int32) (R_bits : Int64) (B_used : Int32) (Bl : Nat → Int32) (E_used : Int32) (El : Nat → Int32) (n : Nat) (out : Int32 × Int64 × Int32 × (Nat → Int32) × Int32 × (Nat → Int32)) (hf : f_X5_round n p1 p2 R_bits B_used Bl E_used El = some out) : Met l yX5_round wsX5_round rm_X5_round (Prw (dC, dI) (TY cyB cyC cyI cyJ cyZ) [.ref aR, .int p1, .int p2] sz [(aR, .inr (5, [.ref aB, .ref aE, .long R_bits])), (aB, .inr (0, [.ref aBl, .int B_used])), (aBl, .inl (cyI, 136, .inl Bl)), (aE, .inr (0, [.ref aEl, .int E_used])), (aEl, .inl (cyI, 136, .inl El))]) (va_Qi (fun (r : Int32) (u : Int64 × Int32 × (Nat → Int32) × Int32 × (Nat → Int32)) => (r, u) = out) (Bw (dC, dI) (va_A [(aR, .inr (5, [.ref aB, .ref aE, .long R_bits])), (aB, .inr (0, [.ref aBl, .int B_used])), (aBl, .inl (cyI, 136, .inl Bl)), (aE, .inr (0, [.ref aEl, .int E_used])), (aEl, .inl (cyI, 136, .inl El))] sz) (fun u => [(aR, .inr (5, [.ref aB, .ref aE, .long u.1])), (aB, .inr (0, [.ref aBl, .int u.2.1])), (aBl, .inl (cyI, 136, .inl u.2.2.1)), (aE, .inr (0, [.ref aEl, .int u.2.2.2.1])), (aEl, .inl (cyI, 136, .inl u.2.2.2.2))])) (va_A [(aR, .inr (5, [.ref aB, .ref aE, .long R_bits])), (aB, .inr (0, [.ref aBl, .int B_used])), (aBl, .inl (cyI, 136, .inl Bl)), (aE, .inr (0, [.ref aEl, .int E_used])), (aEl, .inl (cyI, 136, .inl El))] sz)) 0 0 (va_A [(aR, .inr (5, [.ref aB, .ref aE, .long R_bits])), (aB, .inr (0, [.ref aBl, .int B_used])), (aBl, .inl (cyI, 136, .inl Bl)), (aE, .inr (0, [.ref aEl, .int E_used])), (aEl, .inl (cyI, 136, .inl El))] sz) := by
  refine Met.ofW (cc := cX5_round) (maxL := 8) (ret := (some .boolean)) (by decide) rfl ?_
  intro p e s m args below meth c s₁ B hml hv
  obtain ⟨rfl, hsz, hP, hK, hD0, hN⟩ := hv
  subst hsz
  have hD := hD0.self (sz := s.heap.size)
  have CX : cx cX5_round (some .boolean) 8 RX5 wsX5_round (dC, dI) (TY cyB cyC cyI cyJ cyZ) p s m ([.ref aR, .int p1, .int p2] : List Value).toArray meth c := ⟨B.exec, B.bytes, B.returns, hml, findClass_of_methodNamed B.named, atoms_spec (ws := wsX5_round) B.pre, B.notSynchronized, hK, hN⟩
  have hl := lv_entry ([.ref aR, .int p1, .int p2]) (n := 8) (Nat.le_of_ble_eq_true rfl)
  rw [lg_entry_eq]
  exact k_X5_round_0 CX (fun q h => Or.inr h) n _ _ _ _ _ _ _ _ _ hf hP hD va_S.rf _ hl
