abbrev rm_X6_put : Room := { frames := 0, cells := 0, slots := 0, locals := 0 }
theorem i_X6_put_X6 : ∀ w ∈ u_ws RX6 TX6 3, w ∈ wsX6_put := fun _ h => (List.mem_cons_of_mem _ (List.mem_append_right _ h))
def J_X6_put_0 (p : Program) (l : Launch) (e : Env) (s : State) (m : MethodId) (args : Array Value) (below : List Frame) (meth : Method) (c : Code) (dC : Nat → ClassId) (dI : Nat → Nat → Nat) (cyB cyC cyI cyJ cyZ : ClassId) (aS aSc : Nat) (S_count : Int32) (S_cutShort : Int32) (A : Nat → Prop) (out : (Nat → Int32)) (g : (Nat → Int32) → Int32 → Int32 → Option ((Nat → Int32))) : Prop := ∀ (Sc : Nat → Int32) (x1 : Int32) (x2 : Int32) (H : Heap) (locs : List Loc), g Sc x1 x2 = some out → va_P (dC, dI) vwCl [(aS, .inr (6, [.ref aSc, .int S_count, .int S_cutShort])), (aSc, .inl (cyC, 81920, .inl Sc))] H → va_D A [(aS, .inr (6, [.ref aSc, .int S_count, .int S_cutShort])), (aSc, .inl (cyC, 81920, .inl Sc))] → va_S A s.heap H locs → ∀ ls : Array Slot, lv_has ls 3 [(0, .ref aS), (1, .int x1), (2, .int x2)] → W p l e rm_X6_put s m args below meth c H locs 0 0 (MQ below (va_Qv (fun (u : (Nat → Int32)) => u = out) (Bw (dC, dI) A (fun u => [(aS, .inr (6, [.ref aSc, .int S_count, .int S_cutShort])), (aSc, .inl (cyC, 81920, .inl u))])) A) args s 0 0 A) (F0 m 0 ls [])
def f_X6_put_0 (n : Nat) (S_count : Int32) (S_cutShort : Int32) (Sc : Nat → Int32) (x1 : Int32) (x2 : Int32) : Option ((Nat → Int32)) :=
  if x1 < 0 then
  (some Sc)
  else
  (if S_count ≤ x1 then
  (some Sc)
  else
  (lt_ ((x2.toUInt32 % 65536).toInt32) fun y1 =>
  gu (gd x1 81920) (
  some (upd Sc (x1).toNatClampNeg (vp_nar .char y1)))))
set_option maxHeartbeats 4000000 in
set_option maxRecDepth 100000 in
theorem k_X6_put_0 {p : Program} {l : Launch} {e : Env} {s : State} {m : MethodId} {args : Array Value} {below : List Frame} {meth : Method} {c : Code} {dC : Nat → ClassId} {dI : Nat → Nat → Nat} {cyB cyC cyI cyJ cyZ : ClassId} {aS aSc : Nat} {S_count : Int32} {S_cutShort : Int32} {A : Nat → Prop} {out : (Nat → Int32)} (CX : cx cX6_put none 3 RX6 wsX6_put (dC, dI) (TY cyB cyC cyI cyJ cyZ) p s m args meth c) (hA : ∀ q : Nat, s.heap.size ≤ q → A q) (n : Nat) : J_X6_put_0 p l e s m args below meth c dC dI cyB cyC cyI cyJ cyZ aS aSc S_count S_cutShort A out (f_X6_put_0 n S_count S_cutShort) := by
  intro Sc x1 x2 H locs hf hP hD hS ls hl
  obtain ⟨hx, hb, hr, hml, hown, hts, hlocks, hK, hN⟩ := id CX
  unfold f_X6_put_0 at hf
  refine lv_iload_n hx hb dX6_put_0 rfl (lv_at hl 1 rfl) ?_
  refine lv_if_lt (tgt := 20) hx hb dX6_put_1 (by decide) (fun hc => ?_) (fun hc => ?_)
  · have hf := (if_pos hc).symm.trans hf
    exact W.vret hx hb hr (fun t ht hW => ⟨⟨Sc, rfl, Option.some.inj hf, by rw [ht]; exact hP, hD⟩, hS.F ht⟩) hS.2.2 dX6_put_20
  · have hf := (if_neg hc).symm.trans hf
    refine lv_iload_n hx hb dX6_put_4 rfl (lv_at hl 1 rfl) ?_
    refine lv_aload_n hx hb dX6_put_5 rfl (lv_at hl 0 rfl) ?_
    refine va_get (D := (dC, dI)) (ci := 6) (v := .int S_count) (C := RX6) (T := TX6) (N := 3) hx hb hts i_X6_put_X6 hown hK hP 0 rfl rfl 1 (by decide) (hts (.fieldLink RX6 16 "TokenRow$Source" "count" "I") (List.mem_of_getElem? (i := 1) rfl)) (fun _ h9 => h9) rfl dX6_put_6 ?_
    refine lv_icmp_ge (tgt := 20) hx hb dX6_put_9 (by decide) (fun hc => ?_) (fun hc => ?_)
    · have hf := (if_pos hc).symm.trans hf
      exact W.vret hx hb hr (fun t ht hW => ⟨⟨Sc, rfl, Option.some.inj hf, by rw [ht]; exact hP, hD⟩, hS.F ht⟩) hS.2.2 dX6_put_20
    · have hf := (if_neg hc).symm.trans hf
      refine lv_aload_n hx hb dX6_put_12 rfl (lv_at hl 0 rfl) ?_
      refine va_get (D := (dC, dI)) (ci := 6) (v := .ref aSc) (C := RX6) (T := TX6) (N := 3) hx hb hts i_X6_put_X6 hown hK hP 0 rfl rfl 0 (by decide) (hts (.fieldLink RX6 10 "TokenRow$Source" "characters" "[C") (List.mem_of_getElem? (i := 2) rfl)) (fun _ h9 => h9) rfl dX6_put_13 ?_
      refine lv_iload_n hx hb dX6_put_16 rfl (lv_at hl 1 rfl) ?_
      refine lv_iload_n hx hb dX6_put_17 rfl (lv_at hl 2 rfl) ?_
      refine lv_i2c (v := (x2.toUInt32 % 65536).toInt32) hx hb dX6_put_18 rfl ?_
      refine lv_topi (fun y1 ey1 => ?_)
      have hf := lt_ok hf y1 ey1
      obtain ⟨hg, hf⟩ := gu_ok hf
      refine va_cast hx hb hK hP hD hS 1 1 rfl rfl (gd_in hg) dX6_put_19 (fun H2 locs hP hD hS => ?_)
      have hP : va_P (dC, dI) vwCl [(aS, .inr (6, [.ref aSc, .int S_count, .int S_cutShort])), (aSc, .inl (cyC, 81920, .inl (upd Sc (x1).toNatClampNeg (vp_nar .char y1))))] H2 := hP
      have hD : va_D A [(aS, .inr (6, [.ref aSc, .int S_count, .int S_cutShort])), (aSc, .inl (cyC, 81920, .inl (upd Sc (x1).toNatClampNeg (vp_nar .char y1))))] := hD
      exact W.vret hx hb hr (fun t ht hW => ⟨⟨(upd Sc (x1).toNatClampNeg (vp_nar .char y1)), rfl, Option.some.inj hf, by rw [ht]; exact hP, hD⟩, hS.F ht⟩) hS.2.2 dX6_put_20
def f_X6_put (n : Nat) (p1 : Int32) (p2 : Int32) (S_count : Int32) (S_cutShort : Int32) (Sc : Nat → Int32) : Option ((Nat → Int32)) := f_X6_put_0 n S_count S_cutShort Sc p1 p2
set_option maxHeartbeats 4000000 in
set_option maxRecDepth 100000 in
/-- TokenRow$Source.put(II)V -/
theorem m_X6_put (l : Launch) (dC : Nat → ClassId) (dI : Nat → Nat → Nat) (cyB cyC cyI cyJ cyZ : ClassId) (aS aSc : Nat) (sz : Nat) (p1 : Int32) (p2 : Int32) (S_count : Int32) (S_cutShort : Int32) (Sc : Nat → Int32) (n : Nat) (out : (Nat → Int32)) (hf : f_X6_put n p1 p2 S_count S_cutShort Sc = some out) : Met l yX6_put wsX6_put rm_X6_put (Prw (dC, dI) (TY cyB cyC cyI cyJ cyZ) [.ref aS, .int p1, .int p2] sz [(aS, .inr (6, [.ref aSc, .int S_count, .int S_cutShort])), (aSc, .inl (cyC, 81920, .inl Sc))]) (va_Qv (fun (u : (Nat → Int32)) => u = out) (Bw (dC, dI) (va_A [(aS, .inr (6, [.ref aSc, .int S_count, .int S_cutShort])), (aSc, .inl (cyC, 81920, .inl Sc))] sz) (fun u => [(aS, .inr (6, [.ref aSc, .int S_count, .int S_cutShort])), (aSc, .inl (cyC, 81920, .inl u))])) (va_A [(aS, .inr (6, [.ref aSc, .int S_count, .int S_cutShort])), (aSc, .inl (cyC, 81920, .inl Sc))] sz)) 0 0 (va_A [(aS, .inr (6, [.ref aSc, .int S_count, .int S_cutShort])), (aSc, .inl (cyC, 81920, .inl Sc))] sz) := by
  refine Met.ofW (cc := cX6_put) (maxL := 3) (ret := none) (by decide) rfl ?_
  intro p e s m args below meth c s₁ B hml hv
  obtain ⟨rfl, hsz, hP, hK, hD0, hN⟩ := hv
  subst hsz
  have hD := hD0.self (sz := s.heap.size)
  have CX : cx cX6_put none 3 RX6 wsX6_put (dC, dI) (TY cyB cyC cyI cyJ cyZ) p s m ([.ref aS, .int p1, .int p2] : List Value).toArray meth c := ⟨B.exec, B.bytes, B.returns, hml, findClass_of_methodNamed B.named, atoms_spec (ws := wsX6_put) B.pre, B.notSynchronized, hK, hN⟩
  have hl := lv_entry ([.ref aS, .int p1, .int p2]) (n := 3) (Nat.le_of_ble_eq_true rfl)
  rw [lg_entry_eq]
  exact k_X6_put_0 CX (fun q h => Or.inr h) n _ _ _ _ _ hf hP hD va_S.rf _ hl
abbrev rm_X6_add : Room := { frames := 0, cells := 0, slots := 0, locals := 0 }
theorem i_X6_add_X6 : ∀ w ∈ u_ws RX6 TX6 3, w ∈ wsX6_add := fun _ h => (List.mem_cons_of_mem _ (List.mem_append_right _ h))
def J_X6_add_0 (p : Program) (l : Launch) (e : Env) (s : State) (m : MethodId) (args : Array Value) (below : List Frame) (meth : Method) (c : Code) (dC : Nat → ClassId) (dI : Nat → Nat → Nat) (cyB cyC cyI cyJ cyZ : ClassId) (aS aSc : Nat) (S_cutShort : Int32) (A : Nat → Prop) (out : Int32 × (Nat → Int32)) (g : Int32 → (Nat → Int32) → Int32 → Option (Int32 × (Nat → Int32))) : Prop := ∀ (S_count : Int32) (Sc : Nat → Int32) (x1 : Int32) (H : Heap) (locs : List Loc), g S_count Sc x1 = some out → va_P (dC, dI) vwCl [(aS, .inr (6, [.ref aSc, .int S_count, .int S_cutShort])), (aSc, .inl (cyC, 81920, .inl Sc))] H → va_D A [(aS, .inr (6, [.ref aSc, .int S_count, .int S_cutShort])), (aSc, .inl (cyC, 81920, .inl Sc))] → va_S A s.heap H locs → ∀ ls : Array Slot, lv_has ls 2 [(0, .ref aS), (1, .int x1)] → W p l e rm_X6_add s m args below meth c H locs 0 0 (MQ below (va_Qv (fun (u : Int32 × (Nat → Int32)) => u = out) (Bw (dC, dI) A (fun u => [(aS, .inr (6, [.ref aSc, .int u.1, .int S_cutShort])), (aSc, .inl (cyC, 81920, .inl u.2))])) A) args s 0 0 A) (F0 m 0 ls [])
def f_X6_add_0 (n : Nat) (S_cutShort : Int32) (S_count : Int32) (Sc : Nat → Int32) (x1 : Int32) : Option (Int32 × (Nat → Int32)) :=
  if (81920 : Int32) ≤ S_count then
  (some (S_count, Sc))
  else
  (lt_ ((x1.toUInt32 % 65536).toInt32) fun y1 =>
  gu (gd S_count 81920) (
  lt_ (S_count + (1 : Int32)) fun y3 =>
  some (y3, (upd Sc (S_count).toNatClampNeg (vp_nar .char y1)))))
set_option maxHeartbeats 4000000 in
set_option maxRecDepth 100000 in
theorem k_X6_add_0 {p : Program} {l : Launch} {e : Env} {s : State} {m : MethodId} {args : Array Value} {below : List Frame} {meth : Method} {c : Code} {dC : Nat → ClassId} {dI : Nat → Nat → Nat} {cyB cyC cyI cyJ cyZ : ClassId} {aS aSc : Nat} {S_cutShort : Int32} {A : Nat → Prop} {out : Int32 × (Nat → Int32)} (CX : cx cX6_add none 2 RX6 wsX6_add (dC, dI) (TY cyB cyC cyI cyJ cyZ) p s m args meth c) (hA : ∀ q : Nat, s.heap.size ≤ q → A q) (n : Nat) : J_X6_add_0 p l e s m args below meth c dC dI cyB cyC cyI cyJ cyZ aS aSc S_cutShort A out (f_X6_add_0 n S_cutShort) := by
  intro S_count Sc x1 H locs hf hP hD hS ls hl
  obtain ⟨hx, hb, hr, hml, hown, hts, hlocks, hK, hN⟩ := id CX
  unfold f_X6_add_0 at hf
  refine lv_aload_n hx hb dX6_add_0 rfl (lv_at hl 0 rfl) ?_
  refine va_get (D := (dC, dI)) (ci := 6) (v := .int S_count) (C := RX6) (T := TX6) (N := 3) hx hb hts i_X6_add_X6 hown hK hP 0 rfl rfl 1 (by decide) (hts (.fieldLink RX6 16 "TokenRow$Source" "count" "I") (List.mem_of_getElem? (i := 1) rfl)) (fun _ h9 => h9) rfl dX6_add_1 ?_
  refine lv_aload_n hx hb dX6_add_4 rfl (lv_at hl 0 rfl) ?_
  refine va_get (D := (dC, dI)) (ci := 6) (v := .ref aSc) (C := RX6) (T := TX6) (N := 3) hx hb hts i_X6_add_X6 hown hK hP 0 rfl rfl 0 (by decide) (hts (.fieldLink RX6 10 "TokenRow$Source" "characters" "[C") (List.mem_of_getElem? (i := 2) rfl)) (fun _ h9 => h9) rfl dX6_add_5 ?_
  refine va_alen (v := (81920 : Int32)) hx hb hK hP 1 1 rfl rfl rfl dX6_add_8 ?_
  refine lv_icmp_ge (tgt := 33) hx hb dX6_add_9 (by decide) (fun hc => ?_) (fun hc => ?_)
  · have hf := (if_pos hc).symm.trans hf
    exact W.vret hx hb hr (fun t ht hW => ⟨⟨(S_count, Sc), rfl, Option.some.inj hf, by rw [ht]; exact hP, hD⟩, hS.F ht⟩) hS.2.2 dX6_add_33
  · have hf := (if_neg hc).symm.trans hf
    refine lv_aload_n hx hb dX6_add_12 rfl (lv_at hl 0 rfl) ?_
    refine va_get (D := (dC, dI)) (ci := 6) (v := .ref aSc) (C := RX6) (T := TX6) (N := 3) hx hb hts i_X6_add_X6 hown hK hP 0 rfl rfl 0 (by decide) (hts (.fieldLink RX6 10 "TokenRow$Source" "characters" "[C") (List.mem_of_getElem? (i := 2) rfl)) (fun _ h9 => h9) rfl dX6_add_13 ?_
    refine lv_aload_n hx hb dX6_add_16 rfl (lv_at hl 0 rfl) ?_
    refine va_get (D := (dC, dI)) (ci := 6) (v := .int S_count) (C := RX6) (T := TX6) (N := 3) hx hb hts i_X6_add_X6 hown hK hP 0 rfl rfl 1 (by decide) (hts (.fieldLink RX6 16 "TokenRow$Source" "count" "I") (List.mem_of_getElem? (i := 1) rfl)) (fun _ h9 => h9) rfl dX6_add_17 ?_
    refine lv_iload_n hx hb dX6_add_20 rfl (lv_at hl 1 rfl) ?_
    refine lv_i2c (v := (x1.toUInt32 % 65536).toInt32) hx hb dX6_add_21 rfl ?_
    refine lv_topi (fun y1 ey1 => ?_)
    have hf := lt_ok hf y1 ey1
    obtain ⟨hg, hf⟩ := gu_ok hf
    refine va_cast hx hb hK hP hD hS 1 1 rfl rfl (gd_in hg) dX6_add_22 (fun H2 locs hP hD hS => ?_)
    have hP : va_P (dC, dI) vwCl [(aS, .inr (6, [.ref aSc, .int S_count, .int S_cutShort])), (aSc, .inl (cyC, 81920, .inl (upd Sc (S_count).toNatClampNeg (vp_nar .char y1))))] H2 := hP
    have hD : va_D A [(aS, .inr (6, [.ref aSc, .int S_count, .int S_cutShort])), (aSc, .inl (cyC, 81920, .inl (upd Sc (S_count).toNatClampNeg (vp_nar .char y1))))] := hD
    refine lv_aload_n hx hb dX6_add_23 rfl (lv_at hl 0 rfl) ?_
    refine lv_dup hx hb dX6_add_24 rfl ?_
    refine va_get (D := (dC, dI)) (ci := 6) (v := .int S_count) (C := RX6) (T := TX6) (N := 3) hx hb hts i_X6_add_X6 hown hK hP 0 rfl rfl 1 (by decide) (hts (.fieldLink RX6 16 "TokenRow$Source" "count" "I") (List.mem_of_getElem? (i := 1) rfl)) (fun _ h9 => h9) rfl dX6_add_25 ?_
    refine lv_iconst (v := (1 : Int32)) hx hb dX6_add_28 (by decide) ?_
    refine lv_iadd hx hb dX6_add_29 ?_
    refine lv_topi (fun y3 ey3 => ?_)
    have hf := lt_ok hf y3 ey3
    refine va_put (D := (dC, dI)) (ci := 6) (v := .int y3) (ty := .int) (C := RX6) (T := TX6) (N := 3) hx hb hts i_X6_add_X6 tyX6 tyX6_ok nmX6 hown hK hP hD hS 0 rfl rfl 1 (by decide) (hts (.fieldLink RX6 16 "TokenRow$Source" "count" "I") (List.mem_of_getElem? (i := 1) rfl)) (fun _ h9 => h9) rfl (by decide +kernel) rfl rfl (Nat.le_of_ble_eq_true rfl) dX6_add_30 (fun H4 locs hP hD hS => ?_)
    have hP : va_P (dC, dI) vwCl [(aS, .inr (6, [.ref aSc, .int y3, .int S_cutShort])), (aSc, .inl (cyC, 81920, .inl (upd Sc (S_count).toNatClampNeg (vp_nar .char y1))))] H4 := hP
    have hD : va_D A [(aS, .inr (6, [.ref aSc, .int y3, .int S_cutShort])), (aSc, .inl (cyC, 81920, .inl (upd Sc (S_count).toNatClampNeg (vp_nar .char y1))))] := hD
    exact W.vret hx hb hr (fun t ht hW => ⟨⟨(y3, (upd Sc (S_count).toNatClampNeg (vp_nar .char y1))), rfl, Option.some.inj hf, by rw [ht]; exact hP, hD⟩, hS.F ht⟩) hS.2.2 dX6_add_33
def f_X6_add (n : Nat) (p1 : Int32) (S_count : Int32) (S_cutShort : Int32) (Sc : Nat → Int32) : Option (Int32 × (Nat → Int32)) := f_X6_add_0 n S_cutShort S_count Sc p1
set_option maxHeartbeats 4000000 in
set_option maxRecDepth 100000 in
/-- TokenRow$Source.add(I)V -/
theorem m_X6_add (l : Launch) (dC : Nat → ClassId) (dI : Nat → Nat → Nat) (cyB cyC cyI cyJ cyZ : ClassId) (aS aSc : Nat) (sz : Nat) (p1 : Int32) (S_count : Int32) (S_cutShort : Int32) (Sc : Nat → Int32) (n : Nat) (out : Int32 × (Nat → Int32)) (hf : f_X6_add n p1 S_count S_cutShort Sc = some out) : Met l yX6_add wsX6_add rm_X6_add (Prw (dC, dI) (TY cyB cyC cyI cyJ cyZ) [.ref aS, .int p1] sz [(aS, .inr (6, [.ref aSc, .int S_count, .int S_cutShort])), (aSc, .inl (cyC, 81920, .inl Sc))]) (va_Qv (fun (u : Int32 × (Nat → Int32)) => u = out) (Bw (dC, dI) (va_A [(aS, .inr (6, [.ref aSc, .int S_count, .int S_cutShort])), (aSc, .inl (cyC, 81920, .inl Sc))] sz) (fun u => [(aS, .inr (6, [.ref aSc, .int u.1, .int S_cutShort])), (aSc, .inl (cyC, 81920, .inl u.2))])) (va_A [(aS, .inr (6, [.ref aSc, .int S_count, .int S_cutShort])), (aSc, .inl (cyC, 81920, .inl Sc))] sz)) 0 0 (va_A [(aS, .inr (6, [.ref aSc, .int S_count, .int S_cutShort])), (aSc, .inl (cyC, 81920, .inl Sc))] sz) := by
  refine Met.ofW (cc := cX6_add) (maxL := 2) (ret := none) (by decide) rfl ?_
  intro p e s m args below meth c s₁ B hml hv
  obtain ⟨rfl, hsz, hP, hK, hD0, hN⟩ := hv
  subst hsz
  have hD := hD0.self (sz := s.heap.size)
  have CX : cx cX6_add none 2 RX6 wsX6_add (dC, dI) (TY cyB cyC cyI cyJ cyZ) p s m ([.ref aS, .int p1] : List Value).toArray meth c := ⟨B.exec, B.bytes, B.returns, hml, findClass_of_methodNamed B.named, atoms_spec (ws := wsX6_add) B.pre, B.notSynchronized, hK, hN⟩
  have hl := lv_entry ([.ref aS, .int p1]) (n := 2) (Nat.le_of_ble_eq_true rfl)
  rw [lg_entry_eq]
  exact k_X6_add_0 CX (fun q h => Or.inr h) n _ _ _ _ _ hf hP hD va_S.rf _ hl
abbrev rm_X6_addEscape : Room := { frames := 1, cells := 0, slots := 0, locals := 21 }
theorem i_X6_addEscape_X6 : ∀ w ∈ u_ws RX6 TX6 3, w ∈ wsX6_addEscape := fun _ h => (List.mem_cons_of_mem _ (List.mem_append_right _ h))
def J_X6_addEscape_3 (p : Program) (l : Launch) (e : Env) (s : State) (m : MethodId) (args : Array Value) (below : List Frame) (meth : Method) (c : Code) (dC : Nat → ClassId) (dI : Nat → Nat → Nat) (cyB cyC cyI cyJ cyZ : ClassId) (aS aSc aY : Nat) (Y : Nat → Int32) (A : Nat → Prop) (out : Int32 × Int32 × Int32 × (Nat → Int32)) (g : Int32 → Int32 → (Nat → Int32) → Int32 → Int32 → Option (Int32 × Int32 × Int32 × (Nat → Int32))) : Prop := ∀ (S_count : Int32) (S_cutShort : Int32) (Sc : Nat → Int32) (x2 : Int32) (x4 : Int32) (H : Heap) (locs : List Loc), g S_count S_cutShort Sc x2 x4 = some out → va_P (dC, dI) vwCl [(aS, .inr (6, [.ref aSc, .int S_count, .int S_cutShort])), (aSc, .inl (cyC, 81920, .inl Sc)), (aY, .inl (cyB, 81920, .inl Y))] H → va_D A [(aS, .inr (6, [.ref aSc, .int S_count, .int S_cutShort])), (aSc, .inl (cyC, 81920, .inl Sc)), (aY, .inl (cyB, 81920, .inl Y))] → va_S A s.heap H locs → ∀ ls : Array Slot, lv_has ls 8 [(0, .ref aS), (1, .ref aY), (2, .int x2), (4, .int x4)] → W p l e rm_X6_addEscape s m args below meth c H locs 0 0 (MQ below (va_Qi (fun (r : Int32) (u : Int32 × Int32 × (Nat → Int32)) => (r, u) = out) (Bw (dC, dI) A (fun u => [(aS, .inr (6, [.ref aSc, .int u.1, .int u.2.1])), (aSc, .inl (cyC, 81920, .inl u.2.2)), (aY, .inl (cyB, 81920, .inl Y))])) A) args s 0 0 A) (F0 m 3 ls [])
def J_X6_addEscape_33 (p : Program) (l : Launch) (e : Env) (s : State) (m : MethodId) (args : Array Value) (below : List Frame) (meth : Method) (c : Code) (dC : Nat → ClassId) (dI : Nat → Nat → Nat) (cyB cyC cyI cyJ cyZ : ClassId) (aS aSc aY : Nat) (Y : Nat → Int32) (A : Nat → Prop) (out : Int32 × Int32 × Int32 × (Nat → Int32)) (g : Int32 → Int32 → (Nat → Int32) → Int32 → Int32 → Int32 → Int32 → Option (Int32 × Int32 × Int32 × (Nat → Int32))) : Prop := ∀ (S_count : Int32) (S_cutShort : Int32) (Sc : Nat → Int32) (x2 : Int32) (x4 : Int32) (x5 : Int32) (x6 : Int32) (H : Heap) (locs : List Loc), g S_count S_cutShort Sc x2 x4 x5 x6 = some out → va_P (dC, dI) vwCl [(aS, .inr (6, [.ref aSc, .int S_count, .int S_cutShort])), (aSc, .inl (cyC, 81920, .inl Sc)), (aY, .inl (cyB, 81920, .inl Y))] H → va_D A [(aS, .inr (6, [.ref aSc, .int S_count, .int S_cutShort])), (aSc, .inl (cyC, 81920, .inl Sc)), (aY, .inl (cyB, 81920, .inl Y))] → va_S A s.heap H locs → ∀ ls : Array Slot, lv_has ls 8 [(0, .ref aS), (1, .ref aY), (2, .int x2), (4, .int x4), (5, .int x5), (6, .int x6)] → W p l e rm_X6_addEscape s m args below meth c H locs 0 0 (MQ below (va_Qi (fun (r : Int32) (u : Int32 × Int32 × (Nat → Int32)) => (r, u) = out) (Bw (dC, dI) A (fun u => [(aS, .inr (6, [.ref aSc, .int u.1, .int u.2.1])), (aSc, .inl (cyC, 81920, .inl u.2.2)), (aY, .inl (cyB, 81920, .inl Y))])) A) args s 0 0 A) (F0 m 33 ls [])
def J_X6_addEscape_58 (p : Program) (l : Launch) (e : Env) (s : State) (m : MethodId) (args : Array Value) (below : List Frame) (meth : Method) (c : Code) (dC : Nat → ClassId) (dI : Nat → Nat → Nat) (cyB cyC cyI cyJ cyZ : ClassId) (aS aSc aY : Nat) (Y : Nat → Int32) (A : Nat → Prop) (out : Int32 × Int32 × Int32 × (Nat → Int32)) (g : Int32 → Int32 → (Nat → Int32) → Int32 → Int32 → Int32 → Int32 → Int32 → Option (Int32 × Int32 × Int32 × (Nat → Int32))) : Prop := ∀ (S_count : Int32) (S_cutShort : Int32) (Sc : Nat → Int32) (x2 : Int32) (x4 : Int32) (x5 : Int32) (x6 : Int32) (t0 : Int32) (H : Heap) (locs : List Loc), g S_count S_cutShort Sc x2 x4 x5 x6 t0 = some out → va_P (dC, dI) vwCl [(aS, .inr (6, [.ref aSc, .int S_count, .int S_cutShort])), (aSc, .inl (cyC, 81920, .inl Sc)), (aY, .inl (cyB, 81920, .inl Y))] H → va_D A [(aS, .inr (6, [.ref aSc, .int S_count, .int S_cutShort])), (aSc, .inl (cyC, 81920, .inl Sc)), (aY, .inl (cyB, 81920, .inl Y))] → va_S A s.heap H locs → ∀ ls : Array Slot, lv_has ls 8 [(0, .ref aS), (1, .ref aY), (2, .int x2), (4, .int x4), (5, .int x5), (6, .int x6)] → W p l e rm_X6_addEscape s m args below meth c H locs 0 0 (MQ below (va_Qi (fun (r : Int32) (u : Int32 × Int32 × (Nat → Int32)) => (r, u) = out) (Bw (dC, dI) A (fun u => [(aS, .inr (6, [.ref aSc, .int u.1, .int u.2.1])), (aSc, .inl (cyC, 81920, .inl u.2.2)), (aY, .inl (cyB, 81920, .inl Y))])) A) args s 0 0 A) (F0 m 58 ls [.int t0])
def J_X6_addEscape_24 (p : Program) (l : Launch) (e : Env) (s : State) (m : MethodId) (args : Array Value) (below : List Frame) (meth : Method) (c : Code) (dC : Nat → ClassId) (dI : Nat → Nat → Nat) (cyB cyC cyI cyJ cyZ : ClassId) (aS aSc aY : Nat) (Y : Nat → Int32) (A : Nat → Prop) (out : Int32 × Int32 × Int32 × (Nat → Int32)) (g : Int32 → Int32 → (Nat → Int32) → Int32 → Int32 → Option (Int32 × Int32 × Int32 × (Nat → Int32))) : Prop := ∀ (S_count : Int32) (S_cutShort : Int32) (Sc : Nat → Int32) (x2 : Int32) (x4 : Int32) (H : Heap) (locs : List Loc), g S_count S_cutShort Sc x2 x4 = some out → va_P (dC, dI) vwCl [(aS, .inr (6, [.ref aSc, .int S_count, .int S_cutShort])), (aSc, .inl (cyC, 81920, .inl Sc)), (aY, .inl (cyB, 81920, .inl Y))] H → va_D A [(aS, .inr (6, [.ref aSc, .int S_count, .int S_cutShort])), (aSc, .inl (cyC, 81920, .inl Sc)), (aY, .inl (cyB, 81920, .inl Y))] → va_S A s.heap H locs → ∀ ls : Array Slot, lv_has ls 8 [(0, .ref aS), (1, .ref aY), (2, .int x2), (4, .int x4)] → W p l e rm_X6_addEscape s m args below meth c H locs 0 0 (MQ below (va_Qi (fun (r : Int32) (u : Int32 × Int32 × (Nat → Int32)) => (r, u) = out) (Bw (dC, dI) A (fun u => [(aS, .inr (6, [.ref aSc, .int u.1, .int u.2.1])), (aSc, .inl (cyC, 81920, .inl u.2.2)), (aY, .inl (cyB, 81920, .inl Y))])) A) args s 0 0 A) (F0 m 24 ls [])
def J_X6_addEscape_0 (p : Program) (l : Launch) (e : Env) (s : State) (m : MethodId) (args : Array Value) (below : List Frame) (meth : Method) (c : Code) (dC : Nat → ClassId) (dI : Nat → Nat → Nat) (cyB cyC cyI cyJ cyZ : ClassId) (aS aSc aY : Nat) (Y : Nat → Int32) (A : Nat → Prop) (out : Int32 × Int32 × Int32 × (Nat → Int32)) (g : Int32 → Int32 → (Nat → Int32) → Int32 → Int32 → Option (Int32 × Int32 × Int32 × (Nat → Int32))) : Prop := ∀ (S_count : Int32) (S_cutShort : Int32) (Sc : Nat → Int32) (x2 : Int32) (x3 : Int32) (H : Heap) (locs : List Loc), g S_count S_cutShort Sc x2 x3 = some out → va_P (dC, dI) vwCl [(aS, .inr (6, [.ref aSc, .int S_count, .int S_cutShort])), (aSc, .inl (cyC, 81920, .inl Sc)), (aY, .inl (cyB, 81920, .inl Y))] H → va_D A [(aS, .inr (6, [.ref aSc, .int S_count, .int S_cutShort])), (aSc, .inl (cyC, 81920, .inl Sc)), (aY, .inl (cyB, 81920, .inl Y))] → va_S A s.heap H locs → ∀ ls : Array Slot, lv_has ls 8 [(0, .ref aS), (1, .ref aY), (2, .int x2), (3, .int x3)] → W p l e rm_X6_addEscape s m args below meth c H locs 0 0 (MQ below (va_Qi (fun (r : Int32) (u : Int32 × Int32 × (Nat → Int32)) => (r, u) = out) (Bw (dC, dI) A (fun u => [(aS, .inr (6, [.ref aSc, .int u.1, .int u.2.1])), (aSc, .inl (cyC, 81920, .inl u.2.2)), (aY, .inl (cyB, 81920, .inl Y))])) A) args s 0 0 A) (F0 m 0 ls [])
def f_X6_addEscape_58 (n : Nat) (r33 : Int32 → Int32 → (Nat → Int32) → Int32 → Int32 → Int32 → Int32 → Option (Int32 × Int32 × Int32 × (Nat → Int32))) (Y : Nat → Int32) (S_count : Int32) (S_cutShort : Int32) (Sc : Nat → Int32) (x2 : Int32) (x4 : Int32) (x5 : Int32) (x6 : Int32) (t0 : Int32) : Option (Int32 × Int32 × Int32 × (Nat → Int32)) :=
  if t0 = (16 : Int32) then
  (some (x2, S_count, (1 : Int32), Sc))
  else
  (lt_ ((x6 * (16 : Int32)) + t0) fun y1 =>
  lt_ (x4 + (1 : Int32)) fun y2 =>
  r33 S_count S_cutShort Sc x2 y2 x5 y1)
set_option maxHeartbeats 4000000 in
set_option maxRecDepth 100000 in
theorem k_X6_addEscape_58 {p : Program} {l : Launch} {e : Env} {s : State} {m : MethodId} {args : Array Value} {below : List Frame} {meth : Method} {c : Code} {dC : Nat → ClassId} {dI : Nat → Nat → Nat} {cyB cyC cyI cyJ cyZ : ClassId} {aS aSc aY : Nat} {Y : Nat → Int32} {A : Nat → Prop} {out : Int32 × Int32 × Int32 × (Nat → Int32)} (CX : cx cX6_addEscape (some .int) 8 RX6 wsX6_addEscape (dC, dI) (TY cyB cyC cyI cyJ cyZ) p s m args meth c) (hA : ∀ q : Nat, s.heap.size ≤ q → A q) (n : Nat) {r33 : Int32 → Int32 → (Nat → Int32) → Int32 → Int32 → Int32 → Int32 → Option (Int32 × Int32 × Int32 × (Nat → Int32))} (hr33 : J_X6_addEscape_33 p l e s m args below meth c dC dI cyB cyC cyI cyJ cyZ aS aSc aY Y A out r33) : J_X6_addEscape_58 p l e s m args below meth c dC dI cyB cyC cyI cyJ cyZ aS aSc aY Y A out (f_X6_addEscape_58 n r33 Y) := by
  intro S_count S_cutShort Sc x2 x4 x5 x6 t0 H locs hf hP hD hS ls hl
  obtain ⟨hx, hb, hr, hml, hown, hts, hlocks, hK, hN⟩ := id CX
  unfold f_X6_addEscape_58 at hf
  refine lv_istore (lv' := [(7, .int t0), (0, .ref aS), (1, .ref aY), (2, .int x2), (4, .int x4), (5, .int x5), (6, .int x6)]) hx hb dX6_addEscape_58 hl (by decide) rfl (fun ls hl => ?_)
  refine lv_iload hx hb dX6_addEscape_60 (lv_at hl 0 rfl) ?_
  refine lv_bipush (v := (16 : Int32)) hx hb dX6_addEscape_62 (by decide) ?_
  refine lv_icmp_ne (tgt := 74) hx hb dX6_addEscape_64 (by decide) (fun hc => ?_) (fun hc => ?_)
  · have hf := (if_neg hc).symm.trans hf
    refine lv_iload hx hb dX6_addEscape_74 (lv_at hl 6 rfl) ?_
    refine lv_bipush (v := (16 : Int32)) hx hb dX6_addEscape_76 (by decide) ?_
    refine lv_imul hx hb dX6_addEscape_78 ?_
    refine lv_iload hx hb dX6_addEscape_79 (lv_at hl 0 rfl) ?_
    refine lv_iadd hx hb dX6_addEscape_81 ?_
    refine lv_topi (fun y1 ey1 => ?_)
    have hf := lt_ok hf y1 ey1
    refine lv_istore (lv' := [(6, .int y1), (7, .int t0), (0, .ref aS), (1, .ref aY), (2, .int x2), (4, .int x4), (5, .int x5)]) hx hb dX6_addEscape_82 hl (by decide) rfl (fun ls hl => ?_)
    obtain ⟨y2, ey2⟩ : ∃ y : Int32, y = x4 + (1 : Int32) := ⟨_, rfl⟩
    have hf := lt_ok hf y2 ey2
    refine lv_iinc (v := y2) (lv' := [(4, .int y2), (6, .int y1), (7, .int t0), (0, .ref aS), (1, .ref aY), (2, .int x2), (5, .int x5)]) hx hb dX6_addEscape_84 hl (k := 5) rfl (by rw [ey2]; rfl) (by decide) rfl (fun ls hl => ?_)
    refine lv_goto (tgt := 33) hx hb dX6_addEscape_87 (by decide) ?_
    exact hr33 _ _ _ _ _ _ _ _ _ hf hP hD hS ls (lv_sub hl [3, 4, 5, 0, 6, 1] rfl)
  · have hf := (if_pos hc).symm.trans hf
    refine lv_aload_n hx hb dX6_addEscape_67 rfl (lv_at hl 1 rfl) ?_
    refine lv_iconst (v := (1 : Int32)) hx hb dX6_addEscape_68 (by decide) ?_
    refine va_put (D := (dC, dI)) (ci := 6) (v := .int (1 : Int32)) (ty := .boolean) (C := RX6) (T := TX6) (N := 3) hx hb hts i_X6_addEscape_X6 tyX6 tyX6_ok nmX6 hown hK hP hD hS 0 rfl rfl 2 (by decide) (hts (.fieldLink RX6 20 "TokenRow$Source" "cutShort" "Z") (List.mem_of_getElem? (i := 1) rfl)) (fun _ h9 => h9) rfl (by decide +kernel) rfl (by decide) (Nat.le_of_ble_eq_true rfl) dX6_addEscape_69 (fun H3 locs hP hD hS => ?_)
    have hP : va_P (dC, dI) vwCl [(aS, .inr (6, [.ref aSc, .int S_count, .int (1 : Int32)])), (aSc, .inl (cyC, 81920, .inl Sc)), (aY, .inl (cyB, 81920, .inl Y))] H3 := hP
    have hD : va_D A [(aS, .inr (6, [.ref aSc, .int S_count, .int (1 : Int32)])), (aSc, .inl (cyC, 81920, .inl Sc)), (aY, .inl (cyB, 81920, .inl Y))] := hD
    refine lv_iload_n hx hb dX6_addEscape_72 rfl (lv_at hl 3 rfl) ?_
    exact W.iret (v := x2) hx hb hr (fun t ht hW => ⟨⟨_, (S_count, (1 : Int32), Sc), rfl, Option.some.inj hf, by rw [ht]; exact hP, hD⟩, hS.F ht⟩) hS.2.2 dX6_addEscape_73
def fb_X6_addEscape_33 (n : Nat) (r33 : Int32 → Int32 → (Nat → Int32) → Int32 → Int32 → Int32 → Int32 → Option (Int32 × Int32 × Int32 × (Nat → Int32))) (Y : Nat → Int32) (S_count : Int32) (S_cutShort : Int32) (Sc : Nat → Int32) (x2 : Int32) (x4 : Int32) (x5 : Int32) (x6 : Int32) : Option (Int32 × Int32 × Int32 × (Nat → Int32)) :=
  if x5 ≤ x4 then
  (bd (f_X6_add n x6 S_count S_cutShort Sc) fun u3 =>
  some (x5, u3.1, S_cutShort, u3.2))
  else
  (if x2 ≤ x4 then
  (f_X6_addEscape_58 n r33 Y S_count S_cutShort Sc x2 x4 x5 x6 (16 : Int32))
  else
  (gu (gd x4 81920) (
  bd (f_X9_digitOf n (Y (x4).toNatClampNeg) ) fun o4 =>
  f_X6_addEscape_58 n r33 Y S_count S_cutShort Sc x2 x4 x5 x6 o4)))
set_option maxHeartbeats 4000000 in
set_option maxRecDepth 100000 in
theorem kb_X6_addEscape_33 {p : Program} {l : Launch} {e : Env} {s : State} {m : MethodId} {args : Array Value} {below : List Frame} {meth : Method} {c : Code} {dC : Nat → ClassId} {dI : Nat → Nat → Nat} {cyB cyC cyI cyJ cyZ : ClassId} {aS aSc aY : Nat} {Y : Nat → Int32} {A : Nat → Prop} {out : Int32 × Int32 × Int32 × (Nat → Int32)} (CX : cx cX6_addEscape (some .int) 8 RX6 wsX6_addEscape (dC, dI) (TY cyB cyC cyI cyJ cyZ) p s m args meth c) (hA : ∀ q : Nat, s.heap.size ≤ q → A q) (n : Nat) {r33 : Int32 → Int32 → (Nat → Int32) → Int32 → Int32 → Int32 → Int32 → Option (Int32 × Int32 × Int32 × (Nat → Int32))} (hr33 : J_X6_addEscape_33 p l e s m args below meth c dC dI cyB cyC cyI cyJ cyZ aS aSc aY Y A out r33) : J_X6_addEscape_33 p l e s m args below meth c dC dI cyB cyC cyI cyJ cyZ aS aSc aY Y A out (fb_X6_addEscape_33 n r33 Y) := by
  intro S_count S_cutShort Sc x2 x4 x5 x6 H locs hf hP hD hS ls hl
  obtain ⟨hx, hb, hr, hml, hown, hts, hlocks, hK, hN⟩ := id CX
  unfold fb_X6_addEscape_33 at hf
  refine lv_iload hx hb dX6_addEscape_33 (lv_at hl 3 rfl) ?_
  refine lv_iload hx hb dX6_addEscape_35 (lv_at hl 4 rfl) ?_
  refine lv_icmp_ge (tgt := 90) hx hb dX6_addEscape_37 (by decide) (fun hc => ?_) (fun hc => ?_)
  · have hf := (if_pos hc).symm.trans hf
    refine lv_aload_n hx hb dX6_addEscape_90 rfl (lv_at hl 0 rfl) ?_
    refine lv_iload hx hb dX6_addEscape_91 (lv_at hl 5 rfl) ?_
    obtain ⟨z1, hz1, hf⟩ := bd_ok hf
    have hPc := hP.sub (ws' := [(aS, .inr (6, [.ref aSc, .int S_count, .int S_cutShort])), (aSc, .inl (cyC, 81920, .inl Sc))]) [0, 1] rfl
    have hDc := hD.sub (ws' := [(aS, .inr (6, [.ref aSc, .int S_count, .int S_cutShort])), (aSc, .inl (cyC, 81920, .inl Sc))]) [0, 1] (by decide) rfl
    have hFc := va_free (wc := [(aS, .inr (6, [.ref aSc, .int S_count, .int S_cutShort])), (aSc, .inl (cyC, 81920, .inl Sc))]) hD hS hA [0, 1] rfl
    refine va_callv (va_runV (As := [.int x6]) (rest := []) ⟨hx, hb, hml, hown, hts⟩ (m_X6_add l dC dI cyB cyC cyI cyJ cyZ aS aSc  H.size x6 S_count S_cutShort Sc n z1 hz1) (cwV 1 hts gX6_addEscape_X6_add rfl rfl rfl (by decide +kernel) ⟨Nat.le_of_ble_eq_true rfl, Nat.le_of_ble_eq_true rfl⟩) (prwV (va_recv hK hP (ci := 6) (q0 := 0) rfl rfl) hPc hK hDc hN) rfl rfl hl.1 rfl (lv_room (Nat.le_of_ble_eq_true rfl)) dX6_addEscape_93 ⟨Nat.le_of_ble_eq_true rfl, Nat.le_of_ble_eq_true rfl⟩) hS (fun q _ h => hFc q h) hFc (fun u3 t9 H2 locs ht hvm hw hB hz1 hk1 hS => ?_)
    subst hw
    obtain ⟨hP1, hD1⟩ := hB
    rw [ht] at hP1
    obtain ⟨hP, hD⟩ := va_join (wr := [(aY, .inl (cyB, 81920, .inl Y))]) (w1 := [(aS, .inr (6, [.ref aSc, .int u3.1, .int S_cutShort])), (aSc, .inl (cyC, 81920, .inl u3.2))]) hP hD [0, 1] [2] rfl rfl (by decide) (by decide) hk1 hFc hP1 hD1
    have hP := hP.sub (ws' := [(aS, .inr (6, [.ref aSc, .int u3.1, .int S_cutShort])), (aSc, .inl (cyC, 81920, .inl u3.2)), (aY, .inl (cyB, 81920, .inl Y))]) [1, 2, 0] rfl
    have hD := hD.sub (ws' := [(aS, .inr (6, [.ref aSc, .int u3.1, .int S_cutShort])), (aSc, .inl (cyC, 81920, .inl u3.2)), (aY, .inl (cyB, 81920, .inl Y))]) [1, 2, 0] (by decide) rfl
    refine lv_iload hx hb dX6_addEscape_96 (lv_at hl 4 rfl) ?_
    exact W.iret (v := x5) hx hb hr (fun t ht hW => ⟨⟨_, (u3.1, S_cutShort, u3.2), rfl, Option.some.inj hf, by rw [ht]; exact hP, hD⟩, hS.F ht⟩) hS.2.2 dX6_addEscape_98
  · have hf := (if_neg hc).symm.trans hf
    refine lv_iload hx hb dX6_addEscape_40 (lv_at hl 3 rfl) ?_
    refine lv_iload_n hx hb dX6_addEscape_42 rfl (lv_at hl 2 rfl) ?_
    refine lv_icmp_ge (tgt := 56) hx hb dX6_addEscape_43 (by decide) (fun hc => ?_) (fun hc => ?_)
    · have hf := (if_pos hc).symm.trans hf
      refine lv_bipush (v := (16 : Int32)) hx hb dX6_addEscape_56 (by decide) ?_
      exact k_X6_addEscape_58 CX hA n hr33 _ _ _ _ _ _ _ _ _ _ hf hP hD hS ls (lv_sub hl [0, 1, 2, 3, 4, 5] rfl)
    · have hf := (if_neg hc).symm.trans hf
      refine lv_aload_n hx hb dX6_addEscape_46 rfl (lv_at hl 1 rfl) ?_
      refine lv_iload hx hb dX6_addEscape_47 (lv_at hl 3 rfl) ?_
      obtain ⟨hg, hf⟩ := gu_ok hf
      refine va_bald hx hb hK hP 2 0 rfl rfl (gd_in hg) dX6_addEscape_49 ?_
      obtain ⟨z4, hz4, hf⟩ := bd_ok hf
      have hPc := hP.sub (ws' := []) [] rfl
      refine vp_callSi (va_Run.run (va_runSN (As := [.int (Y (x4).toNatClampNeg)]) (rest := []) ⟨hx, hb, hml, hown, hts⟩ (m_X9_digitOf l dC dI cyB cyC cyI cyJ cyZ   (Y (x4).toNatClampNeg)  n z4 hz4) ⟨va_cnB 1 hts ggX6_addEscape_X9_digitOf rfl rfl rfl (hN (.methodLinkNest RX6 32 yX9_digitOf RX9) (List.mem_of_getElem? (i := 6) rfl)) (hts (.initialized RX9) (List.mem_of_getElem? (i := 3) rfl)) (by decide +kernel) ⟨Nat.le_of_ble_eq_true rfl, Nat.le_of_ble_eq_true rfl⟩, (hts (.static yX9_digitOf) (List.mem_of_getElem? (i := 2) rfl)), trivial⟩ (proS hPc hK hN) rfl rfl hl.1 rfl (lv_room (Nat.le_of_ble_eq_true rfl)) dX6_addEscape_50 ⟨Nat.le_of_ble_eq_true rfl, Nat.le_of_ble_eq_true rfl⟩)) (fun o4 hr9 => ?_)
      subst hr9
      refine lv_goto (tgt := 58) hx hb dX6_addEscape_53 (by decide) ?_
      exact k_X6_addEscape_58 CX hA n hr33 _ _ _ _ _ _ _ _ _ _ hf hP hD hS ls (lv_sub hl [0, 1, 2, 3, 4, 5] rfl)
def f_X6_addEscape_33 (n : Nat) (Y : Nat → Int32) : Nat → Int32 → Int32 → (Nat → Int32) → Int32 → Int32 → Int32 → Int32 → Option (Int32 × Int32 × Int32 × (Nat → Int32))
  | 0 => fun _ _ _ _ _ _ _ => none
  | k + 1 => fun S_count S_cutShort Sc x2 x4 x5 x6 => fb_X6_addEscape_33 n (f_X6_addEscape_33 n Y k) Y S_count S_cutShort Sc x2 x4 x5 x6
set_option maxHeartbeats 4000000 in
set_option maxRecDepth 100000 in
theorem k_X6_addEscape_33 {p : Program} {l : Launch} {e : Env} {s : State} {m : MethodId} {args : Array Value} {below : List Frame} {meth : Method} {c : Code} {dC : Nat → ClassId} {dI : Nat → Nat → Nat} {cyB cyC cyI cyJ cyZ : ClassId} {aS aSc aY : Nat} {Y : Nat → Int32} {A : Nat → Prop} {out : Int32 × Int32 × Int32 × (Nat → Int32)} (CX : cx cX6_addEscape (some .int) 8 RX6 wsX6_addEscape (dC, dI) (TY cyB cyC cyI cyJ cyZ) p s m args meth c) (hA : ∀ q : Nat, s.heap.size ≤ q → A q) (n : Nat) : ∀ k : Nat, J_X6_addEscape_33 p l e s m args below meth c dC dI cyB cyC cyI cyJ cyZ aS aSc aY Y A out (f_X6_addEscape_33 n Y k) := by
  intro k
  induction k with
  | zero =>
    intro S_count S_cutShort Sc x2 x4 x5 x6 H locs hf
    exact absurd (show (none : Option (Int32 × Int32 × Int32 × (Nat → Int32))) = some out from hf) (by simp)
  | succ k ih =>
    exact kb_X6_addEscape_33 CX hA n ih
def f_X6_addEscape_24 (n : Nat) (Y : Nat → Int32) (S_count : Int32) (S_cutShort : Int32) (Sc : Nat → Int32) (x2 : Int32) (x4 : Int32) : Option (Int32 × Int32 × Int32 × (Nat → Int32)) :=
  lt_ (x4 + (4 : Int32)) fun y1 =>
  f_X6_addEscape_33 n Y n S_count S_cutShort Sc x2 x4 y1 (0 : Int32)
set_option maxHeartbeats 4000000 in
set_option maxRecDepth 100000 in
theorem k_X6_addEscape_24 {p : Program} {l : Launch} {e : Env} {s : State} {m : MethodId} {args : Array Value} {below : List Frame} {meth : Method} {c : Code} {dC : Nat → ClassId} {dI : Nat → Nat → Nat} {cyB cyC cyI cyJ cyZ : ClassId} {aS aSc aY : Nat} {Y : Nat → Int32} {A : Nat → Prop} {out : Int32 × Int32 × Int32 × (Nat → Int32)} (CX : cx cX6_addEscape (some .int) 8 RX6 wsX6_addEscape (dC, dI) (TY cyB cyC cyI cyJ cyZ) p s m args meth c) (hA : ∀ q : Nat, s.heap.size ≤ q → A q) (n : Nat) : J_X6_addEscape_24 p l e s m args below meth c dC dI cyB cyC cyI cyJ cyZ aS aSc aY Y A out (f_X6_addEscape_24 n Y) := by
  intro S_count S_cutShort Sc x2 x4 H locs hf hP hD hS ls hl
  obtain ⟨hx, hb, hr, hml, hown, hts, hlocks, hK, hN⟩ := id CX
  unfold f_X6_addEscape_24 at hf
  refine lv_iload hx hb dX6_addEscape_24 (lv_at hl 3 rfl) ?_
  refine lv_iconst (v := (4 : Int32)) hx hb dX6_addEscape_26 (by decide) ?_
  refine lv_iadd hx hb dX6_addEscape_27 ?_
  refine lv_topi (fun y1 ey1 => ?_)
  have hf := lt_ok hf y1 ey1
  refine lv_istore (lv' := [(5, .int y1), (0, .ref aS), (1, .ref aY), (2, .int x2), (4, .int x4)]) hx hb dX6_addEscape_28 hl (by decide) rfl (fun ls hl => ?_)
  refine lv_iconst (v := (0 : Int32)) hx hb dX6_addEscape_30 (by decide) ?_
  refine lv_istore (lv' := [(6, .int (0 : Int32)), (5, .int y1), (0, .ref aS), (1, .ref aY), (2, .int x2), (4, .int x4)]) hx hb dX6_addEscape_31 hl (by decide) rfl (fun ls hl => ?_)
  exact k_X6_addEscape_33 CX hA n n _ _ _ _ _ _ _ _ _ hf hP hD hS ls (lv_sub hl [2, 3, 4, 5, 1, 0] rfl)
def fb_X6_addEscape_3 (n : Nat) (r3 : Int32 → Int32 → (Nat → Int32) → Int32 → Int32 → Option (Int32 × Int32 × Int32 × (Nat → Int32))) (Y : Nat → Int32) (S_count : Int32) (S_cutShort : Int32) (Sc : Nat → Int32) (x2 : Int32) (x4 : Int32) : Option (Int32 × Int32 × Int32 × (Nat → Int32)) :=
  if x2 ≤ x4 then
  (f_X6_addEscape_24 n Y S_count S_cutShort Sc x2 x4)
  else
  (gu (gd x4 81920) (
  if (Y (x4).toNatClampNeg) = (117 : Int32) then
  (lt_ (x4 + (1 : Int32)) fun y1 =>
  r3 S_count S_cutShort Sc x2 y1)
  else
  (f_X6_addEscape_24 n Y S_count S_cutShort Sc x2 x4)))
set_option maxHeartbeats 4000000 in
set_option maxRecDepth 100000 in
theorem kb_X6_addEscape_3 {p : Program} {l : Launch} {e : Env} {s : State} {m : MethodId} {args : Array Value} {below : List Frame} {meth : Method} {c : Code} {dC : Nat → ClassId} {dI : Nat → Nat → Nat} {cyB cyC cyI cyJ cyZ : ClassId} {aS aSc aY : Nat} {Y : Nat → Int32} {A : Nat → Prop} {out : Int32 × Int32 × Int32 × (Nat → Int32)} (CX : cx cX6_addEscape (some .int) 8 RX6 wsX6_addEscape (dC, dI) (TY cyB cyC cyI cyJ cyZ) p s m args meth c) (hA : ∀ q : Nat, s.heap.size ≤ q → A q) (n : Nat) {r3 : Int32 → Int32 → (Nat → Int32) → Int32 → Int32 → Option (Int32 × Int32 × Int32 × (Nat → Int32))} (hr3 : J_X6_addEscape_3 p l e s m args below meth c dC dI cyB cyC cyI cyJ cyZ aS aSc aY Y A out r3) : J_X6_addEscape_3 p l e s m args below meth c dC dI cyB cyC cyI cyJ cyZ aS aSc aY Y A out (fb_X6_addEscape_3 n r3 Y) := by
  intro S_count S_cutShort Sc x2 x4 H locs hf hP hD hS ls hl
  obtain ⟨hx, hb, hr, hml, hown, hts, hlocks, hK, hN⟩ := id CX
  unfold fb_X6_addEscape_3 at hf
  refine lv_iload hx hb dX6_addEscape_3 (lv_at hl 3 rfl) ?_
  refine lv_iload_n hx hb dX6_addEscape_5 rfl (lv_at hl 2 rfl) ?_
  refine lv_icmp_ge (tgt := 24) hx hb dX6_addEscape_6 (by decide) (fun hc => ?_) (fun hc => ?_)
  · have hf := (if_pos hc).symm.trans hf
    exact k_X6_addEscape_24 CX hA n _ _ _ _ _ _ _ hf hP hD hS ls (lv_sub hl [0, 1, 2, 3] rfl)
  · have hf := (if_neg hc).symm.trans hf
    refine lv_aload_n hx hb dX6_addEscape_9 rfl (lv_at hl 1 rfl) ?_
    refine lv_iload hx hb dX6_addEscape_10 (lv_at hl 3 rfl) ?_
    obtain ⟨hg, hf⟩ := gu_ok hf
    refine va_bald hx hb hK hP 2 0 rfl rfl (gd_in hg) dX6_addEscape_12 ?_
    refine lv_bipush (v := (117 : Int32)) hx hb dX6_addEscape_13 (by decide) ?_
    refine lv_icmp_ne (tgt := 24) hx hb dX6_addEscape_15 (by decide) (fun hc => ?_) (fun hc => ?_)
    · have hf := (if_neg hc).symm.trans hf
      exact k_X6_addEscape_24 CX hA n _ _ _ _ _ _ _ hf hP hD hS ls (lv_sub hl [0, 1, 2, 3] rfl)
    · have hf := (if_pos hc).symm.trans hf
      obtain ⟨y1, ey1⟩ : ∃ y : Int32, y = x4 + (1 : Int32) := ⟨_, rfl⟩
      have hf := lt_ok hf y1 ey1
      refine lv_iinc (v := y1) (lv' := [(4, .int y1), (0, .ref aS), (1, .ref aY), (2, .int x2)]) hx hb dX6_addEscape_18 hl (k := 3) rfl (by rw [ey1]; rfl) (by decide) rfl (fun ls hl => ?_)
      refine lv_goto (tgt := 3) hx hb dX6_addEscape_21 (by decide) ?_
      exact hr3 _ _ _ _ _ _ _ hf hP hD hS ls (lv_sub hl [1, 2, 3, 0] rfl)
def f_X6_addEscape_3 (n : Nat) (Y : Nat → Int32) : Nat → Int32 → Int32 → (Nat → Int32) → Int32 → Int32 → Option (Int32 × Int32 × Int32 × (Nat → Int32))
  | 0 => fun _ _ _ _ _ => none
  | k + 1 => fun S_count S_cutShort Sc x2 x4 => fb_X6_addEscape_3 n (f_X6_addEscape_3 n Y k) Y S_count S_cutShort Sc x2 x4
set_option maxHeartbeats 4000000 in
set_option maxRecDepth 100000 in
theorem k_X6_addEscape_3 {p : Program} {l : Launch} {e : Env} {s : State} {m : MethodId} {args : Array Value} {below : List Frame} {meth : Method} {c : Code} {dC : Nat → ClassId} {dI : Nat → Nat → Nat} {cyB cyC cyI cyJ cyZ : ClassId} {aS aSc aY : Nat} {Y : Nat → Int32} {A : Nat → Prop} {out : Int32 × Int32 × Int32 × (Nat → Int32)} (CX : cx cX6_addEscape (some .int) 8 RX6 wsX6_addEscape (dC, dI) (TY cyB cyC cyI cyJ cyZ) p s m args meth c) (hA : ∀ q : Nat, s.heap.size ≤ q → A q) (n : Nat) : ∀ k : Nat, J_X6_addEscape_3 p l e s m args below meth c dC dI cyB cyC cyI cyJ cyZ aS aSc aY Y A out (f_X6_addEscape_3 n Y k) := by
  intro k
  induction k with
  | zero =>
    intro S_count S_cutShort Sc x2 x4 H locs hf
    exact absurd (show (none : Option (Int32 × Int32 × Int32 × (Nat → Int32))) = some out from hf) (by simp)
  | succ k ih =>
    exact kb_X6_addEscape_3 CX hA n ih
def f_X6_addEscape_0 (n : Nat) (Y : Nat → Int32) (S_count : Int32) (S_cutShort : Int32) (Sc : Nat → Int32) (x2 : Int32) (x3 : Int32) : Option (Int32 × Int32 × Int32 × (Nat → Int32)) :=
  f_X6_addEscape_3 n Y n S_count S_cutShort Sc x2 x3
set_option maxHeartbeats 4000000 in
set_option maxRecDepth 100000 in
theorem k_X6_addEscape_0 {p : Program} {l : Launch} {e : Env} {s : State} {m : MethodId} {args : Array Value} {below : List Frame} {meth : Method} {c : Code} {dC : Nat → ClassId} {dI : Nat → Nat → Nat} {cyB cyC cyI cyJ cyZ : ClassId} {aS aSc aY : Nat} {Y : Nat → Int32} {A : Nat → Prop} {out : Int32 × Int32 × Int32 × (Nat → Int32)} (CX : cx cX6_addEscape (some .int) 8 RX6 wsX6_addEscape (dC, dI) (TY cyB cyC cyI cyJ cyZ) p s m args meth c) (hA : ∀ q : Nat, s.heap.size ≤ q → A q) (n : Nat) : J_X6_addEscape_0 p l e s m args below meth c dC dI cyB cyC cyI cyJ cyZ aS aSc aY Y A out (f_X6_addEscape_0 n Y) := by
  intro S_count S_cutShort Sc x2 x3 H locs hf hP hD hS ls hl
  obtain ⟨hx, hb, hr, hml, hown, hts, hlocks, hK, hN⟩ := id CX
  unfold f_X6_addEscape_0 at hf
  refine lv_iload_n hx hb dX6_addEscape_0 rfl (lv_at hl 3 rfl) ?_
  refine lv_istore (lv' := [(4, .int x3), (0, .ref aS), (1, .ref aY), (2, .int x2), (3, .int x3)]) hx hb dX6_addEscape_1 hl (by decide) rfl (fun ls hl => ?_)
  exact k_X6_addEscape_3 CX hA n n _ _ _ _ _ _ _ hf hP hD hS ls (lv_sub hl [1, 2, 3, 0] rfl)
def f_X6_addEscape (n : Nat) (p2 : Int32) (p3 : Int32) (S_count : Int32) (S_cutShort : Int32) (Sc : Nat → Int32) (Y : Nat → Int32) : Option (Int32 × Int32 × Int32 × (Nat → Int32)) := f_X6_addEscape_0 n Y S_count S_cutShort Sc p2 p3
set_option maxHeartbeats 4000000 in
set_option maxRecDepth 100000 in
/-- TokenRow$Source.addEscape([BII)I -/
theorem m_X6_addEscape (l : Launch) (dC : Nat → ClassId) (dI : Nat → Nat → Nat) (cyB cyC cyI cyJ cyZ : ClassId) (aS aSc aY : Nat) (sz : Nat) (p2 : Int32) (p3 : Int32) (S_count : Int32) (S_cutShort : Int32) (Sc : Nat → Int32) (Y : Nat → Int32) (n : Nat) (out : Int32 × Int32 × Int32 × (Nat → Int32)) (hf : f_X6_addEscape n p2 p3 S_count S_cutShort Sc Y = some out) : Met l yX6_addEscape wsX6_addEscape rm_X6_addEscape (Prw (dC, dI) (TY cyB cyC cyI cyJ cyZ) [.ref aS, .ref aY, .int p2, .int p3] sz [(aS, .inr (6, [.ref aSc, .int S_count, .int S_cutShort])), (aSc, .inl (cyC, 81920, .inl Sc)), (aY, .inl (cyB, 81920, .inl Y))]) (va_Qi (fun (r : Int32) (u : Int32 × Int32 × (Nat → Int32)) => (r, u) = out) (Bw (dC, dI) (va_A [(aS, .inr (6, [.ref aSc, .int S_count, .int S_cutShort])), (aSc, .inl (cyC, 81920, .inl Sc)), (aY, .inl (cyB, 81920, .inl Y))] sz) (fun u => [(aS, .inr (6, [.ref aSc, .int u.1, .int u.2.1])), (aSc, .inl (cyC, 81920, .inl u.2.2)), (aY, .inl (cyB, 81920, .inl Y))])) (va_A [(aS, .inr (6, [.ref aSc, .int S_count, .int S_cutShort])), (aSc, .inl (cyC, 81920, .inl Sc)), (aY, .inl (cyB, 81920, .inl Y))] sz)) 0 0 (va_A [(aS, .inr (6, [.ref aSc, .int S_count, .int S_cutShort])), (aSc, .inl (cyC, 81920, .inl Sc)), (aY, .inl (cyB, 81920, .inl Y))] sz) := by
  refine Met.ofW (cc := cX6_addEscape) (maxL := 8) (ret := (some .int)) (by decide) rfl ?_
  intro p e s m args below meth c s₁ B hml hv
  obtain ⟨rfl, hsz, hP, hK, hD0, hN⟩ := hv
  subst hsz
  have hD := hD0.self (sz := s.heap.size)
  have CX : cx cX6_addEscape (some .int) 8 RX6 wsX6_addEscape (dC, dI) (TY cyB cyC cyI cyJ cyZ) p s m ([.ref aS, .ref aY, .int p2, .int p3] : List Value).toArray meth c := ⟨B.exec, B.bytes, B.returns, hml, findClass_of_methodNamed B.named, atoms_spec (ws := wsX6_addEscape) B.pre, B.notSynchronized, hK, hN⟩
  have hl := lv_entry ([.ref aS, .ref aY, .int p2, .int p3]) (n := 8) (Nat.le_of_ble_eq_true rfl)
  rw [lg_entry_eq]
  exact k_X6_addEscape_0 CX (fun q h => Or.inr h) n _ _ _ _ _ _ _ hf hP hD va_S.rf _ hl
abbrev rm_X6_fill : Room := { frames := 2, cells := 0, slots := 0, locals := 48 }
theorem i_X6_fill_X6 : ∀ w ∈ u_ws RX6 TX6 3, w ∈ wsX6_fill := fun _ h => (List.mem_cons_of_mem _ (List.mem_append_right _ h))
def J_X6_fill_15 (p : Program) (l : Launch) (e : Env) (s : State) (m : MethodId) (args : Array Value) (below : List Frame) (meth : Method) (c : Code) (dC : Nat → ClassId) (dI : Nat → Nat → Nat) (cyB cyC cyI cyJ cyZ : ClassId) (aS aSc aY : Nat) (Y : Nat → Int32) (A : Nat → Prop) (out : Int32 × Int32 × (Nat → Int32)) (g : Int32 → Int32 → (Nat → Int32) → Int32 → Int32 → Int32 → Option (Int32 × Int32 × (Nat → Int32))) : Prop := ∀ (S_count : Int32) (S_cutShort : Int32) (Sc : Nat → Int32) (x2 : Int32) (x3 : Int32) (x4 : Int32) (H : Heap) (locs : List Loc), g S_count S_cutShort Sc x2 x3 x4 = some out → va_P (dC, dI) vwCl [(aS, .inr (6, [.ref aSc, .int S_count, .int S_cutShort])), (aSc, .inl (cyC, 81920, .inl Sc)), (aY, .inl (cyB, 81920, .inl Y))] H → va_D A [(aS, .inr (6, [.ref aSc, .int S_count, .int S_cutShort])), (aSc, .inl (cyC, 81920, .inl Sc)), (aY, .inl (cyB, 81920, .inl Y))] → va_S A s.heap H locs → ∀ ls : Array Slot, lv_has ls 5 [(0, .ref aS), (1, .ref aY), (2, .int x2), (3, .int x3), (4, .int x4)] → W p l e rm_X6_fill s m args below meth c H locs 0 0 (MQ below (va_Qv (fun (u : Int32 × Int32 × (Nat → Int32)) => u = out) (Bw (dC, dI) A (fun u => [(aS, .inr (6, [.ref aSc, .int u.1, .int u.2.1])), (aSc, .inl (cyC, 81920, .inl u.2.2)), (aY, .inl (cyB, 81920, .inl Y))])) A) args s 0 0 A) (F0 m 15 ls [])
def J_X6_fill_95 (p : Program) (l : Launch) (e : Env) (s : State) (m : MethodId) (args : Array Value) (below : List Frame) (meth : Method) (c : Code) (dC : Nat → ClassId) (dI : Nat → Nat → Nat) (cyB cyC cyI cyJ cyZ : ClassId) (aS aSc aY : Nat) (Y : Nat → Int32) (A : Nat → Prop) (out : Int32 × Int32 × (Nat → Int32)) (g : Int32 → Int32 → (Nat → Int32) → Int32 → Int32 → Int32 → Option (Int32 × Int32 × (Nat → Int32))) : Prop := ∀ (S_count : Int32) (S_cutShort : Int32) (Sc : Nat → Int32) (x2 : Int32) (x4 : Int32) (t0 : Int32) (H : Heap) (locs : List Loc), g S_count S_cutShort Sc x2 x4 t0 = some out → va_P (dC, dI) vwCl [(aS, .inr (6, [.ref aSc, .int S_count, .int S_cutShort])), (aSc, .inl (cyC, 81920, .inl Sc)), (aY, .inl (cyB, 81920, .inl Y))] H → va_D A [(aS, .inr (6, [.ref aSc, .int S_count, .int S_cutShort])), (aSc, .inl (cyC, 81920, .inl Sc)), (aY, .inl (cyB, 81920, .inl Y))] → va_S A s.heap H locs → ∀ ls : Array Slot, lv_has ls 5 [(0, .ref aS), (1, .ref aY), (2, .int x2), (4, .int x4)] → W p l e rm_X6_fill s m args below meth c H locs 0 0 (MQ below (va_Qv (fun (u : Int32 × Int32 × (Nat → Int32)) => u = out) (Bw (dC, dI) A (fun u => [(aS, .inr (6, [.ref aSc, .int u.1, .int u.2.1])), (aSc, .inl (cyC, 81920, .inl u.2.2)), (aY, .inl (cyB, 81920, .inl Y))])) A) args s 0 0 A) (F0 m 95 ls [.int t0])
def J_X6_fill_79 (p : Program) (l : Launch) (e : Env) (s : State) (m : MethodId) (args : Array Value) (below : List Frame) (meth : Method) (c : Code) (dC : Nat → ClassId) (dI : Nat → Nat → Nat) (cyB cyC cyI cyJ cyZ : ClassId) (aS aSc aY : Nat) (Y : Nat → Int32) (A : Nat → Prop) (out : Int32 × Int32 × (Nat → Int32)) (g : Int32 → Int32 → (Nat → Int32) → Int32 → Int32 → Int32 → Option (Int32 × Int32 × (Nat → Int32))) : Prop := ∀ (S_count : Int32) (S_cutShort : Int32) (Sc : Nat → Int32) (x2 : Int32) (x3 : Int32) (x4 : Int32) (H : Heap) (locs : List Loc), g S_count S_cutShort Sc x2 x3 x4 = some out → va_P (dC, dI) vwCl [(aS, .inr (6, [.ref aSc, .int S_count, .int S_cutShort])), (aSc, .inl (cyC, 81920, .inl Sc)), (aY, .inl (cyB, 81920, .inl Y))] H → va_D A [(aS, .inr (6, [.ref aSc, .int S_count, .int S_cutShort])), (aSc, .inl (cyC, 81920, .inl Sc)), (aY, .inl (cyB, 81920, .inl Y))] → va_S A s.heap H locs → ∀ ls : Array Slot, lv_has ls 5 [(0, .ref aS), (1, .ref aY), (2, .int x2), (3, .int x3), (4, .int x4)] → W p l e rm_X6_fill s m args below meth c H locs 0 0 (MQ below (va_Qv (fun (u : Int32 × Int32 × (Nat → Int32)) => u = out) (Bw (dC, dI) A (fun u => [(aS, .inr (6, [.ref aSc, .int u.1, .int u.2.1])), (aSc, .inl (cyC, 81920, .inl u.2.2)), (aY, .inl (cyB, 81920, .inl Y))])) A) args s 0 0 A) (F0 m 79 ls [])
def J_X6_fill_0 (p : Program) (l : Launch) (e : Env) (s : State) (m : MethodId) (args : Array Value) (below : List Frame) (meth : Method) (c : Code) (dC : Nat → ClassId) (dI : Nat → Nat → Nat) (cyB cyC cyI cyJ cyZ : ClassId) (aS aSc aY : Nat) (Y : Nat → Int32) (A : Nat → Prop) (out : Int32 × Int32 × (Nat → Int32)) (g : Int32 → Int32 → (Nat → Int32) → Int32 → Option (Int32 × Int32 × (Nat → Int32))) : Prop := ∀ (S_count : Int32) (S_cutShort : Int32) (Sc : Nat → Int32) (x2 : Int32) (H : Heap) (locs : List Loc), g S_count S_cutShort Sc x2 = some out → va_P (dC, dI) vwCl [(aS, .inr (6, [.ref aSc, .int S_count, .int S_cutShort])), (aSc, .inl (cyC, 81920, .inl Sc)), (aY, .inl (cyB, 81920, .inl Y))] H → va_D A [(aS, .inr (6, [.ref aSc, .int S_count, .int S_cutShort])), (aSc, .inl (cyC, 81920, .inl Sc)), (aY, .inl (cyB, 81920, .inl Y))] → va_S A s.heap H locs → ∀ ls : Array Slot, lv_has ls 5 [(0, .ref aS), (1, .ref aY), (2, .int x2)] → W p l e rm_X6_fill s m args below meth c H locs 0 0 (MQ below (va_Qv (fun (u : Int32 × Int32 × (Nat → Int32)) => u = out) (Bw (dC, dI) A (fun u => [(aS, .inr (6, [.ref aSc, .int u.1, .int u.2.1])), (aSc, .inl (cyC, 81920, .inl u.2.2)), (aY, .inl (cyB, 81920, .inl Y))])) A) args s 0 0 A) (F0 m 0 ls [])
def f_X6_fill_95 (n : Nat) (r15 : Int32 → Int32 → (Nat → Int32) → Int32 → Int32 → Int32 → Option (Int32 × Int32 × (Nat → Int32))) (Y : Nat → Int32) (S_count : Int32) (S_cutShort : Int32) (Sc : Nat → Int32) (x2 : Int32) (x4 : Int32) (t0 : Int32) : Option (Int32 × Int32 × (Nat → Int32)) :=
  gu (gd x4 81920) (
  bd (f_X6_add n (Y (x4).toNatClampNeg) S_count S_cutShort Sc) fun u3 =>
  lt_ (x4 + (1 : Int32)) fun y4 =>
  r15 u3.1 S_cutShort u3.2 x2 t0 y4)
set_option maxHeartbeats 4000000 in
set_option maxRecDepth 100000 in
theorem k_X6_fill_95 {p : Program} {l : Launch} {e : Env} {s : State} {m : MethodId} {args : Array Value} {below : List Frame} {meth : Method} {c : Code} {dC : Nat → ClassId} {dI : Nat → Nat → Nat} {cyB cyC cyI cyJ cyZ : ClassId} {aS aSc aY : Nat} {Y : Nat → Int32} {A : Nat → Prop} {out : Int32 × Int32 × (Nat → Int32)} (CX : cx cX6_fill none 5 RX6 wsX6_fill (dC, dI) (TY cyB cyC cyI cyJ cyZ) p s m args meth c) (hA : ∀ q : Nat, s.heap.size ≤ q → A q) (n : Nat) {r15 : Int32 → Int32 → (Nat → Int32) → Int32 → Int32 → Int32 → Option (Int32 × Int32 × (Nat → Int32))} (hr15 : J_X6_fill_15 p l e s m args below meth c dC dI cyB cyC cyI cyJ cyZ aS aSc aY Y A out r15) : J_X6_fill_95 p l e s m args below meth c dC dI cyB cyC cyI cyJ cyZ aS aSc aY Y A out (f_X6_fill_95 n r15 Y) := by
  intro S_count S_cutShort Sc x2 x4 t0 H locs hf hP hD hS ls hl
  obtain ⟨hx, hb, hr, hml, hown, hts, hlocks, hK, hN⟩ := id CX
  unfold f_X6_fill_95 at hf
  refine lv_istore_n (lv' := [(3, .int t0), (0, .ref aS), (1, .ref aY), (2, .int x2), (4, .int x4)]) hx hb dX6_fill_95 rfl hl (by decide) rfl (fun ls hl => ?_)
  refine lv_aload_n hx hb dX6_fill_96 rfl (lv_at hl 1 rfl) ?_
  refine lv_aload_n hx hb dX6_fill_97 rfl (lv_at hl 2 rfl) ?_
  refine lv_iload hx hb dX6_fill_98 (lv_at hl 4 rfl) ?_
  obtain ⟨hg, hf⟩ := gu_ok hf
  refine va_bald hx hb hK hP 2 0 rfl rfl (gd_in hg) dX6_fill_100 ?_
  obtain ⟨z1, hz1, hf⟩ := bd_ok hf
  have hPc := hP.sub (ws' := [(aS, .inr (6, [.ref aSc, .int S_count, .int S_cutShort])), (aSc, .inl (cyC, 81920, .inl Sc))]) [0, 1] rfl
  have hDc := hD.sub (ws' := [(aS, .inr (6, [.ref aSc, .int S_count, .int S_cutShort])), (aSc, .inl (cyC, 81920, .inl Sc))]) [0, 1] (by decide) rfl
  have hFc := va_free (wc := [(aS, .inr (6, [.ref aSc, .int S_count, .int S_cutShort])), (aSc, .inl (cyC, 81920, .inl Sc))]) hD hS hA [0, 1] rfl
  refine va_callv (va_runV (As := [.int (Y (x4).toNatClampNeg)]) (rest := []) ⟨hx, hb, hml, hown, hts⟩ (m_X6_add l dC dI cyB cyC cyI cyJ cyZ aS aSc  H.size (Y (x4).toNatClampNeg) S_count S_cutShort Sc n z1 hz1) (cwV 1 hts gX6_fill_X6_add rfl rfl rfl (by decide +kernel) ⟨Nat.le_of_ble_eq_true rfl, Nat.le_of_ble_eq_true rfl⟩) (prwV (va_recv hK hP (ci := 6) (q0 := 0) rfl rfl) hPc hK hDc hN) rfl rfl hl.1 rfl (lv_room (Nat.le_of_ble_eq_true rfl)) dX6_fill_101 ⟨Nat.le_of_ble_eq_true rfl, Nat.le_of_ble_eq_true rfl⟩) hS (fun q _ h => hFc q h) hFc (fun u3 t9 H2 locs ht hvm hw hB hz1 hk1 hS => ?_)
  subst hw
  obtain ⟨hP1, hD1⟩ := hB
  rw [ht] at hP1
  obtain ⟨hP, hD⟩ := va_join (wr := [(aY, .inl (cyB, 81920, .inl Y))]) (w1 := [(aS, .inr (6, [.ref aSc, .int u3.1, .int S_cutShort])), (aSc, .inl (cyC, 81920, .inl u3.2))]) hP hD [0, 1] [2] rfl rfl (by decide) (by decide) hk1 hFc hP1 hD1
  have hP := hP.sub (ws' := [(aS, .inr (6, [.ref aSc, .int u3.1, .int S_cutShort])), (aSc, .inl (cyC, 81920, .inl u3.2)), (aY, .inl (cyB, 81920, .inl Y))]) [1, 2, 0] rfl
  have hD := hD.sub (ws' := [(aS, .inr (6, [.ref aSc, .int u3.1, .int S_cutShort])), (aSc, .inl (cyC, 81920, .inl u3.2)), (aY, .inl (cyB, 81920, .inl Y))]) [1, 2, 0] (by decide) rfl
  obtain ⟨y4, ey4⟩ : ∃ y : Int32, y = x4 + (1 : Int32) := ⟨_, rfl⟩
  have hf := lt_ok hf y4 ey4
  refine lv_iinc (v := y4) (lv' := [(4, .int y4), (3, .int t0), (0, .ref aS), (1, .ref aY), (2, .int x2)]) hx hb dX6_fill_104 hl (k := 4) rfl (by rw [ey4]; rfl) (by decide) rfl (fun ls hl => ?_)
  refine lv_goto (tgt := 15) hx hb dX6_fill_107 (by decide) ?_
  exact hr15 _ _ _ _ _ _ _ _ hf hP hD hS ls (lv_sub hl [2, 3, 4, 1, 0] rfl)
def f_X6_fill_79 (n : Nat) (r15 : Int32 → Int32 → (Nat → Int32) → Int32 → Int32 → Int32 → Option (Int32 × Int32 × (Nat → Int32))) (Y : Nat → Int32) (S_count : Int32) (S_cutShort : Int32) (Sc : Nat → Int32) (x2 : Int32) (x3 : Int32) (x4 : Int32) : Option (Int32 × Int32 × (Nat → Int32)) :=
  gu (gd x4 81920) (
  if (Y (x4).toNatClampNeg) = (92 : Int32) then
  (f_X6_fill_95 n r15 Y S_count S_cutShort Sc x2 x4 (x3 + (1 : Int32)))
  else
  (f_X6_fill_95 n r15 Y S_count S_cutShort Sc x2 x4 (0 : Int32)))
set_option maxHeartbeats 4000000 in
set_option maxRecDepth 100000 in
theorem k_X6_fill_79 {p : Program} {l : Launch} {e : Env} {s : State} {m : MethodId} {args : Array Value} {below : List Frame} {meth : Method} {c : Code} {dC : Nat → ClassId} {dI : Nat → Nat → Nat} {cyB cyC cyI cyJ cyZ : ClassId} {aS aSc aY : Nat} {Y : Nat → Int32} {A : Nat → Prop} {out : Int32 × Int32 × (Nat → Int32)} (CX : cx cX6_fill none 5 RX6 wsX6_fill (dC, dI) (TY cyB cyC cyI cyJ cyZ) p s m args meth c) (hA : ∀ q : Nat, s.heap.size ≤ q → A q) (n : Nat) {r15 : Int32 → Int32 → (Nat → Int32) → Int32 → Int32 → Int32 → Option (Int32 × Int32 × (Nat → Int32))} (hr15 : J_X6_fill_15 p l e s m args below meth c dC dI cyB cyC cyI cyJ cyZ aS aSc aY Y A out r15) : J_X6_fill_79 p l e s m args below meth c dC dI cyB cyC cyI cyJ cyZ aS aSc aY Y A out (f_X6_fill_79 n r15 Y) := by
  intro S_count S_cutShort Sc x2 x3 x4 H locs hf hP hD hS ls hl
  obtain ⟨hx, hb, hr, hml, hown, hts, hlocks, hK, hN⟩ := id CX
  unfold f_X6_fill_79 at hf
  refine lv_aload_n hx hb dX6_fill_79 rfl (lv_at hl 1 rfl) ?_
  refine lv_iload hx hb dX6_fill_80 (lv_at hl 4 rfl) ?_
  obtain ⟨hg, hf⟩ := gu_ok hf
  refine va_bald hx hb hK hP 2 0 rfl rfl (gd_in hg) dX6_fill_82 ?_
  refine lv_bipush (v := (92 : Int32)) hx hb dX6_fill_83 (by decide) ?_
  refine lv_icmp_ne (tgt := 94) hx hb dX6_fill_85 (by decide) (fun hc => ?_) (fun hc => ?_)
  · have hf := (if_neg hc).symm.trans hf
    refine lv_iconst (v := (0 : Int32)) hx hb dX6_fill_94 (by decide) ?_
    exact k_X6_fill_95 CX hA n hr15 _ _ _ _ _ _ _ _ hf hP hD hS ls (lv_sub hl [0, 1, 2, 4] rfl)
  · have hf := (if_pos hc).symm.trans hf
    refine lv_iload_n hx hb dX6_fill_88 rfl (lv_at hl 3 rfl) ?_
    refine lv_iconst (v := (1 : Int32)) hx hb dX6_fill_89 (by decide) ?_
    refine lv_iadd hx hb dX6_fill_90 ?_
    refine lv_goto (tgt := 95) hx hb dX6_fill_91 (by decide) ?_
    exact k_X6_fill_95 CX hA n hr15 _ _ _ _ _ _ _ _ hf hP hD hS ls (lv_sub hl [0, 1, 2, 4] rfl)
def fb_X6_fill_15 (n : Nat) (r15 : Int32 → Int32 → (Nat → Int32) → Int32 → Int32 → Int32 → Option (Int32 × Int32 × (Nat → Int32))) (Y : Nat → Int32) (S_count : Int32) (S_cutShort : Int32) (Sc : Nat → Int32) (x2 : Int32) (x3 : Int32) (x4 : Int32) : Option (Int32 × Int32 × (Nat → Int32)) :=
  if x2 ≤ x4 then
  (some (S_count, S_cutShort, Sc))
  else
  (if S_cutShort = 0 then
  (gu (gd x4 81920) (
  if (Y (x4).toNatClampNeg) = (92 : Int32) then
  (gu (gz (2 : Int32)) (
  if (x3 - x3 / (2 : Int32) * (2 : Int32)) = 0 then
  (if x2 ≤ (x4 + (1 : Int32)) then
  (f_X6_fill_79 n r15 Y S_count S_cutShort Sc x2 x3 x4)
  else
  (gu (gd (x4 + (1 : Int32)) 81920) (
  if (Y (x4 + (1 : Int32)).toNatClampNeg) = (117 : Int32) then
  (bd (f_X6_addEscape n x2 (x4 + (1 : Int32)) S_count S_cutShort Sc Y) fun qu3 =>
  lt_ qu3.1 fun r4 => lt_ qu3.2 fun u3 =>
  r15 u3.1 u3.2.1 u3.2.2 x2 (0 : Int32) r4)
  else
  (f_X6_fill_79 n r15 Y S_count S_cutShort Sc x2 x3 x4))))
  else
  (f_X6_fill_79 n r15 Y S_count S_cutShort Sc x2 x3 x4)))
  else
  (f_X6_fill_79 n r15 Y S_count S_cutShort Sc x2 x3 x4)))
  else
  (some (S_count, S_cutShort, Sc)))
set_option maxHeartbeats 4000000 in
set_option maxRecDepth 100000 in
theorem kb_X6_fill_15 {p : Program} {l : Launch} {e : Env} {s : State} {m : MethodId} {args : Array Value} {below : List Frame} {meth : Method} {c : Code} {dC : Nat → ClassId} {dI : Nat → Nat → Nat} {cyB cyC cyI cyJ cyZ : ClassId} {aS aSc aY : Nat} {Y : Nat → Int32} {A : Nat → Prop} {out : Int32 × Int32 × (Nat → Int32)} (CX : cx cX6_fill none 5 RX6 wsX6_fill (dC, dI) (TY cyB cyC cyI cyJ cyZ) p s m args meth c) (hA : ∀ q : Nat, s.heap.size ≤ q → A q) (n : Nat) {r15 : Int32 → Int32 → (Nat → Int32) → Int32 → Int32 → Int32 → Option (Int32 × Int32 × (Nat → Int32))} (hr15 : J_X6_fill_15 p l e s m args below meth c dC dI cyB cyC cyI cyJ cyZ aS aSc aY Y A out r15) : J_X6_fill_15 p l e s m args below meth c dC dI cyB cyC cyI cyJ cyZ aS aSc aY Y A out (fb_X6_fill_15 n r15 Y) := by
  intro S_count S_cutShort Sc x2 x3 x4 H locs hf hP hD hS ls hl
  obtain ⟨hx, hb, hr, hml, hown, hts, hlocks, hK, hN⟩ := id CX
  unfold fb_X6_fill_15 at hf
  refine lv_iload hx hb dX6_fill_15 (lv_at hl 4 rfl) ?_
  refine lv_iload_n hx hb dX6_fill_17 rfl (lv_at hl 2 rfl) ?_
  refine lv_icmp_ge (tgt := 110) hx hb dX6_fill_18 (by decide) (fun hc => ?_) (fun hc => ?_)
  · have hf := (if_pos hc).symm.trans hf
    exact W.vret hx hb hr (fun t ht hW => ⟨⟨(S_count, S_cutShort, Sc), rfl, Option.some.inj hf, by rw [ht]; exact hP, hD⟩, hS.F ht⟩) hS.2.2 dX6_fill_110
  · have hf := (if_neg hc).symm.trans hf
    refine lv_aload_n hx hb dX6_fill_21 rfl (lv_at hl 0 rfl) ?_
    refine va_get (D := (dC, dI)) (ci := 6) (v := .int S_cutShort) (C := RX6) (T := TX6) (N := 3) hx hb hts i_X6_fill_X6 hown hK hP 0 rfl rfl 2 (by decide) (hts (.fieldLink RX6 20 "TokenRow$Source" "cutShort" "Z") (List.mem_of_getElem? (i := 2) rfl)) (fun _ h9 => h9) rfl dX6_fill_22 ?_
    refine lv_if_ne (tgt := 110) hx hb dX6_fill_25 (by decide) (fun hc => ?_) (fun hc => ?_)
    · have hf := (if_neg hc).symm.trans hf
      exact W.vret hx hb hr (fun t ht hW => ⟨⟨(S_count, S_cutShort, Sc), rfl, Option.some.inj hf, by rw [ht]; exact hP, hD⟩, hS.F ht⟩) hS.2.2 dX6_fill_110
    · have hf := (if_pos hc).symm.trans hf
      refine lv_aload_n hx hb dX6_fill_28 rfl (lv_at hl 1 rfl) ?_
      refine lv_iload hx hb dX6_fill_29 (lv_at hl 4 rfl) ?_
      obtain ⟨hg, hf⟩ := gu_ok hf
      refine va_bald hx hb hK hP 2 0 rfl rfl (gd_in hg) dX6_fill_31 ?_
      refine lv_bipush (v := (92 : Int32)) hx hb dX6_fill_32 (by decide) ?_
      refine lv_icmp_ne (tgt := 79) hx hb dX6_fill_34 (by decide) (fun hc => ?_) (fun hc => ?_)
      · have hf := (if_neg hc).symm.trans hf
        exact k_X6_fill_79 CX hA n hr15 _ _ _ _ _ _ _ _ hf hP hD hS ls (lv_sub hl [0, 1, 2, 3, 4] rfl)
      · have hf := (if_pos hc).symm.trans hf
        refine lv_iload_n hx hb dX6_fill_37 rfl (lv_at hl 3 rfl) ?_
        refine lv_iconst (v := (2 : Int32)) hx hb dX6_fill_38 (by decide) ?_
        obtain ⟨hg, hf⟩ := gu_ok hf
        refine lv_irem hx hb dX6_fill_39 (gz_ne hg) ?_
        refine lv_if_ne (tgt := 79) hx hb dX6_fill_40 (by decide) (fun hc => ?_) (fun hc => ?_)
        · have hf := (if_neg hc).symm.trans hf
          exact k_X6_fill_79 CX hA n hr15 _ _ _ _ _ _ _ _ hf hP hD hS ls (lv_sub hl [0, 1, 2, 3, 4] rfl)
        · have hf := (if_pos hc).symm.trans hf
          refine lv_iload hx hb dX6_fill_43 (lv_at hl 4 rfl) ?_
          refine lv_iconst (v := (1 : Int32)) hx hb dX6_fill_45 (by decide) ?_
          refine lv_iadd hx hb dX6_fill_46 ?_
          refine lv_iload_n hx hb dX6_fill_47 rfl (lv_at hl 2 rfl) ?_
          refine lv_icmp_ge (tgt := 79) hx hb dX6_fill_48 (by decide) (fun hc => ?_) (fun hc => ?_)
          · have hf := (if_pos hc).symm.trans hf
            exact k_X6_fill_79 CX hA n hr15 _ _ _ _ _ _ _ _ hf hP hD hS ls (lv_sub hl [0, 1, 2, 3, 4] rfl)
          · have hf := (if_neg hc).symm.trans hf
            refine lv_aload_n hx hb dX6_fill_51 rfl (lv_at hl 1 rfl) ?_
            refine lv_iload hx hb dX6_fill_52 (lv_at hl 4 rfl) ?_
            refine lv_iconst (v := (1 : Int32)) hx hb dX6_fill_54 (by decide) ?_
            refine lv_iadd hx hb dX6_fill_55 ?_
            obtain ⟨hg, hf⟩ := gu_ok hf
            refine va_bald hx hb hK hP 2 0 rfl rfl (gd_in hg) dX6_fill_56 ?_
            refine lv_bipush (v := (117 : Int32)) hx hb dX6_fill_57 (by decide) ?_
            refine lv_icmp_ne (tgt := 79) hx hb dX6_fill_59 (by decide) (fun hc => ?_) (fun hc => ?_)
            · have hf := (if_neg hc).symm.trans hf
              exact k_X6_fill_79 CX hA n hr15 _ _ _ _ _ _ _ _ hf hP hD hS ls (lv_sub hl [0, 1, 2, 3, 4] rfl)
            · have hf := (if_pos hc).symm.trans hf
              refine lv_aload_n hx hb dX6_fill_62 rfl (lv_at hl 0 rfl) ?_
              refine lv_aload_n hx hb dX6_fill_63 rfl (lv_at hl 1 rfl) ?_
              refine lv_iload_n hx hb dX6_fill_64 rfl (lv_at hl 2 rfl) ?_
              refine lv_iload hx hb dX6_fill_65 (lv_at hl 4 rfl) ?_
              refine lv_iconst (v := (1 : Int32)) hx hb dX6_fill_67 (by decide) ?_
              refine lv_iadd hx hb dX6_fill_68 ?_
              obtain ⟨z1, hz1, hf⟩ := bd_ok hf
              have hPc := hP.sub (ws' := [(aS, .inr (6, [.ref aSc, .int S_count, .int S_cutShort])), (aSc, .inl (cyC, 81920, .inl Sc)), (aY, .inl (cyB, 81920, .inl Y))]) [0, 1, 2] rfl
              have hDc := hD.sub (ws' := [(aS, .inr (6, [.ref aSc, .int S_count, .int S_cutShort])), (aSc, .inl (cyC, 81920, .inl Sc)), (aY, .inl (cyB, 81920, .inl Y))]) [0, 1, 2] (by decide) rfl
              have hFc := va_free (wc := [(aS, .inr (6, [.ref aSc, .int S_count, .int S_cutShort])), (aSc, .inl (cyC, 81920, .inl Sc)), (aY, .inl (cyB, 81920, .inl Y))]) hD hS hA [0, 1, 2] rfl
              refine va_calli (va_runV (As := [.ref aY, .int x2, .int (x4 + (1 : Int32))]) (rest := []) ⟨hx, hb, hml, hown, hts⟩ (m_X6_addEscape l dC dI cyB cyC cyI cyJ cyZ aS aSc aY  H.size x2 (x4 + (1 : Int32)) S_count S_cutShort Sc Y n z1 hz1) (cwV 3 hts gX6_fill_X6_addEscape rfl rfl rfl (by decide +kernel) ⟨Nat.le_of_ble_eq_true rfl, Nat.le_of_ble_eq_true rfl⟩) (prwV (va_recv hK hP (ci := 6) (q0 := 0) rfl rfl) hPc hK hDc hN) rfl rfl hl.1 rfl (lv_room (Nat.le_of_ble_eq_true rfl)) dX6_fill_69 ⟨Nat.le_of_ble_eq_true rfl, Nat.le_of_ble_eq_true rfl⟩) hS (fun q _ h => hFc q h) hFc (fun r4 u3 t9 H2 locs ht hvm hw hB hz1 hk1 hS => ?_)
              subst hw
              obtain ⟨hP1, hD1⟩ := hB
              rw [ht] at hP1
              have hf := lt_ok hf r4 rfl
              have hf := lt_ok hf u3 rfl
              obtain ⟨hP, hD⟩ := va_join (wr := []) (w1 := [(aS, .inr (6, [.ref aSc, .int u3.1, .int u3.2.1])), (aSc, .inl (cyC, 81920, .inl u3.2.2)), (aY, .inl (cyB, 81920, .inl Y))]) hP hD [0, 1, 2] [] rfl rfl (by decide) (by decide) hk1 hFc hP1 hD1
              have hP := hP.sub (ws' := [(aS, .inr (6, [.ref aSc, .int u3.1, .int u3.2.1])), (aSc, .inl (cyC, 81920, .inl u3.2.2)), (aY, .inl (cyB, 81920, .inl Y))]) [0, 1, 2] rfl
              have hD := hD.sub (ws' := [(aS, .inr (6, [.ref aSc, .int u3.1, .int u3.2.1])), (aSc, .inl (cyC, 81920, .inl u3.2.2)), (aY, .inl (cyB, 81920, .inl Y))]) [0, 1, 2] (by decide) rfl
              refine lv_istore (lv' := [(4, .int r4), (0, .ref aS), (1, .ref aY), (2, .int x2), (3, .int x3)]) hx hb dX6_fill_72 hl (by decide) rfl (fun ls hl => ?_)
              refine lv_iconst (v := (0 : Int32)) hx hb dX6_fill_74 (by decide) ?_
              refine lv_istore_n (lv' := [(3, .int (0 : Int32)), (4, .int r4), (0, .ref aS), (1, .ref aY), (2, .int x2)]) hx hb dX6_fill_75 rfl hl (by decide) rfl (fun ls hl => ?_)
              refine lv_goto (tgt := 15) hx hb dX6_fill_76 (by decide) ?_
              exact hr15 _ _ _ _ _ _ _ _ hf hP hD hS ls (lv_sub hl [2, 3, 4, 0, 1] rfl)
def f_X6_fill_15 (n : Nat) (Y : Nat → Int32) : Nat → Int32 → Int32 → (Nat → Int32) → Int32 → Int32 → Int32 → Option (Int32 × Int32 × (Nat → Int32))
  | 0 => fun _ _ _ _ _ _ => none
  | k + 1 => fun S_count S_cutShort Sc x2 x3 x4 => fb_X6_fill_15 n (f_X6_fill_15 n Y k) Y S_count S_cutShort Sc x2 x3 x4
set_option maxHeartbeats 4000000 in
set_option maxRecDepth 100000 in
theorem k_X6_fill_15 {p : Program} {l : Launch} {e : Env} {s : State} {m : MethodId} {args : Array Value} {below : List Frame} {meth : Method} {c : Code} {dC : Nat → ClassId} {dI : Nat → Nat → Nat} {cyB cyC cyI cyJ cyZ : ClassId} {aS aSc aY : Nat} {Y : Nat → Int32} {A : Nat → Prop} {out : Int32 × Int32 × (Nat → Int32)} (CX : cx cX6_fill none 5 RX6 wsX6_fill (dC, dI) (TY cyB cyC cyI cyJ cyZ) p s m args meth c) (hA : ∀ q : Nat, s.heap.size ≤ q → A q) (n : Nat) : ∀ k : Nat, J_X6_fill_15 p l e s m args below meth c dC dI cyB cyC cyI cyJ cyZ aS aSc aY Y A out (f_X6_fill_15 n Y k) := by
  intro k
  induction k with
  | zero =>
    intro S_count S_cutShort Sc x2 x3 x4 H locs hf
    exact absurd (show (none : Option (Int32 × Int32 × (Nat → Int32))) = some out from hf) (by simp)
  | succ k ih =>
    exact kb_X6_fill_15 CX hA n ih
def f_X6_fill_0 (n : Nat) (Y : Nat → Int32) (S_count : Int32) (S_cutShort : Int32) (Sc : Nat → Int32) (x2 : Int32) : Option (Int32 × Int32 × (Nat → Int32)) :=
  f_X6_fill_15 n Y n (0 : Int32) (0 : Int32) Sc x2 (0 : Int32) (0 : Int32)
set_option maxHeartbeats 4000000 in
set_option maxRecDepth 100000 in
theorem k_X6_fill_0 {p : Program} {l : Launch} {e : Env} {s : State} {m : MethodId} {args : Array Value} {below : List Frame} {meth : Method} {c : Code} {dC : Nat → ClassId} {dI : Nat → Nat → Nat} {cyB cyC cyI cyJ cyZ : ClassId} {aS aSc aY : Nat} {Y : Nat → Int32} {A : Nat → Prop} {out : Int32 × Int32 × (Nat → Int32)} (CX : cx cX6_fill none 5 RX6 wsX6_fill (dC, dI) (TY cyB cyC cyI cyJ cyZ) p s m args meth c) (hA : ∀ q : Nat, s.heap.size ≤ q → A q) (n : Nat) : J_X6_fill_0 p l e s m args below meth c dC dI cyB cyC cyI cyJ cyZ aS aSc aY Y A out (f_X6_fill_0 n Y) := by
  intro S_count S_cutShort Sc x2 H locs hf hP hD hS ls hl
  obtain ⟨hx, hb, hr, hml, hown, hts, hlocks, hK, hN⟩ := id CX
  unfold f_X6_fill_0 at hf
  refine lv_aload_n hx hb dX6_fill_0 rfl (lv_at hl 0 rfl) ?_
  refine lv_iconst (v := (0 : Int32)) hx hb dX6_fill_1 (by decide) ?_
  refine va_put (D := (dC, dI)) (ci := 6) (v := .int (0 : Int32)) (ty := .int) (C := RX6) (T := TX6) (N := 3) hx hb hts i_X6_fill_X6 tyX6 tyX6_ok nmX6 hown hK hP hD hS 0 rfl rfl 1 (by decide) (hts (.fieldLink RX6 16 "TokenRow$Source" "count" "I") (List.mem_of_getElem? (i := 1) rfl)) (fun _ h9 => h9) rfl (by decide +kernel) rfl rfl (Nat.le_of_ble_eq_true rfl) dX6_fill_2 (fun H1 locs hP hD hS => ?_)
  have hP : va_P (dC, dI) vwCl [(aS, .inr (6, [.ref aSc, .int (0 : Int32), .int S_cutShort])), (aSc, .inl (cyC, 81920, .inl Sc)), (aY, .inl (cyB, 81920, .inl Y))] H1 := hP
  have hD : va_D A [(aS, .inr (6, [.ref aSc, .int (0 : Int32), .int S_cutShort])), (aSc, .inl (cyC, 81920, .inl Sc)), (aY, .inl (cyB, 81920, .inl Y))] := hD
  refine lv_aload_n hx hb dX6_fill_5 rfl (lv_at hl 0 rfl) ?_
  refine lv_iconst (v := (0 : Int32)) hx hb dX6_fill_6 (by decide) ?_
  refine va_put (D := (dC, dI)) (ci := 6) (v := .int (0 : Int32)) (ty := .boolean) (C := RX6) (T := TX6) (N := 3) hx hb hts i_X6_fill_X6 tyX6 tyX6_ok nmX6 hown hK hP hD hS 0 rfl rfl 2 (by decide) (hts (.fieldLink RX6 20 "TokenRow$Source" "cutShort" "Z") (List.mem_of_getElem? (i := 2) rfl)) (fun _ h9 => h9) rfl (by decide +kernel) rfl (by decide) (Nat.le_of_ble_eq_true rfl) dX6_fill_7 (fun H2 locs hP hD hS => ?_)
  have hP : va_P (dC, dI) vwCl [(aS, .inr (6, [.ref aSc, .int (0 : Int32), .int (0 : Int32)])), (aSc, .inl (cyC, 81920, .inl Sc)), (aY, .inl (cyB, 81920, .inl Y))] H2 := hP
  have hD : va_D A [(aS, .inr (6, [.ref aSc, .int (0 : Int32), .int (0 : Int32)])), (aSc, .inl (cyC, 81920, .inl Sc)), (aY, .inl (cyB, 81920, .inl Y))] := hD
  refine lv_iconst (v := (0 : Int32)) hx hb dX6_fill_10 (by decide) ?_
  refine lv_istore_n (lv' := [(3, .int (0 : Int32)), (0, .ref aS), (1, .ref aY), (2, .int x2)]) hx hb dX6_fill_11 rfl hl (by decide) rfl (fun ls hl => ?_)
  refine lv_iconst (v := (0 : Int32)) hx hb dX6_fill_12 (by decide) ?_
  refine lv_istore (lv' := [(4, .int (0 : Int32)), (3, .int (0 : Int32)), (0, .ref aS), (1, .ref aY), (2, .int x2)]) hx hb dX6_fill_13 hl (by decide) rfl (fun ls hl => ?_)
  exact k_X6_fill_15 CX hA n n _ _ _ _ _ _ _ _ hf hP hD hS ls (lv_sub hl [2, 3, 4, 1, 0] rfl)
def f_X6_fill (n : Nat) (p2 : Int32) (S_count : Int32) (S_cutShort : Int32) (Sc : Nat → Int32) (Y : Nat → Int32) : Option (Int32 × Int32 × (Nat → Int32)) := f_X6_fill_0 n Y S_count S_cutShort Sc p2
set_option maxHeartbeats 4000000 in
set_option maxRecDepth 100000 in
/-- TokenRow$Source.fill([BI)V -/
theorem m_X6_fill (l : Launch) (dC : Nat → ClassId) (dI : Nat → Nat → Nat) (cyB cyC cyI cyJ cyZ : ClassId) (aS aSc aY : Nat) (sz : Nat) (p2 : Int32) (S_count : Int32) (S_cutShort : Int32) (Sc : Nat → Int32) (Y : Nat → Int32) (n : Nat) (out : Int32 × Int32 × (Nat → Int32)) (hf : f_X6_fill n p2 S_count S_cutShort Sc Y = some out) : Met l yX6_fill wsX6_fill rm_X6_fill (Prw (dC, dI) (TY cyB cyC cyI cyJ cyZ) [.ref aS, .ref aY, .int p2] sz [(aS, .inr (6, [.ref aSc, .int S_count, .int S_cutShort])), (aSc, .inl (cyC, 81920, .inl Sc)), (aY, .inl (cyB, 81920, .inl Y))]) (va_Qv (fun (u : Int32 × Int32 × (Nat → Int32)) => u = out) (Bw (dC, dI) (va_A [(aS, .inr (6, [.ref aSc, .int S_count, .int S_cutShort])), (aSc, .inl (cyC, 81920, .inl Sc)), (aY, .inl (cyB, 81920, .inl Y))] sz) (fun u => [(aS, .inr (6, [.ref aSc, .int u.1, .int u.2.1])), (aSc, .inl (cyC, 81920, .inl u.2.2)), (aY, .inl (cyB, 81920, .inl Y))])) (va_A [(aS, .inr (6, [.ref aSc, .int S_count, .int S_cutShort])), (aSc, .inl (cyC, 81920, .inl Sc)), (aY, .inl (cyB, 81920, .inl Y))] sz)) 0 0 (va_A [(aS, .inr (6, [.ref aSc, .int S_count, .int S_cutShort])), (aSc, .inl (cyC, 81920, .inl Sc)), (aY, .inl (cyB, 81920, .inl Y))] sz) := by
  refine Met.ofW (cc := cX6_fill) (maxL := 5) (ret := none) (by decide) rfl ?_
  intro p e s m args below meth c s₁ B hml hv
  obtain ⟨rfl, hsz, hP, hK, hD0, hN⟩ := hv
  subst hsz
  have hD := hD0.self (sz := s.heap.size)
  have CX : cx cX6_fill none 5 RX6 wsX6_fill (dC, dI) (TY cyB cyC cyI cyJ cyZ) p s m ([.ref aS, .ref aY, .int p2] : List Value).toArray meth c := ⟨B.exec, B.bytes, B.returns, hml, findClass_of_methodNamed B.named, atoms_spec (ws := wsX6_fill) B.pre, B.notSynchronized, hK, hN⟩
  have hl := lv_entry ([.ref aS, .ref aY, .int p2]) (n := 5) (Nat.le_of_ble_eq_true rfl)
  rw [lg_entry_eq]
  exact k_X6_fill_0 CX (fun q h => Or.inr h) n _ _ _ _ _ _ hf hP hD va_S.rf _ hl
abbrev rm_X1_set : Room := { frames := 0, cells := 0, slots := 0, locals := 0 }
theorem i_X1_set_X1 : ∀ w ∈ u_ws RX1 TX1 4, w ∈ wsX1_set := fun _ h => (List.mem_cons_of_mem _ (List.mem_append_right _ h))
def J_X1_set_0 (p : Program) (l : Launch) (e : Env) (s : State) (m : MethodId) (args : Array Value) (below : List Frame) (meth : Method) (c : Code) (dC : Nat → ClassId) (dI : Nat → Nat → Nat) (cyB cyC cyI cyJ cyZ : ClassId) (aF : Nat) (A : Nat → Prop) (out : Int32 × Int64 × Int32 × Int32) (g : Int32 → Int64 → Int32 → Int32 → Int32 → Int64 → Int32 → Int32 → Option (Int32 × Int64 × Int32 × Int32)) : Prop := ∀ (F_kind : Int32) (F_says : Int64) (F_start : Int32) (F_behind : Int32) (x1 : Int32) (x2 : Int64) (x4 : Int32) (x5 : Int32) (H : Heap) (locs : List Loc), g F_kind F_says F_start F_behind x1 x2 x4 x5 = some out → va_P (dC, dI) vwCl [(aF, .inr (1, [.int F_kind, .long F_says, .int F_start, .int F_behind]))] H → va_D A [(aF, .inr (1, [.int F_kind, .long F_says, .int F_start, .int F_behind]))] → va_S A s.heap H locs → ∀ ls : Array Slot, lv_has ls 6 [(0, .ref aF), (1, .int x1), (2, .long x2), (4, .int x4), (5, .int x5)] → W p l e rm_X1_set s m args below meth c H locs 0 0 (MQ below (va_Qv (fun (u : Int32 × Int64 × Int32 × Int32) => u = out) (Bw (dC, dI) A (fun u => [(aF, .inr (1, [.int u.1, .long u.2.1, .int u.2.2.1, .int u.2.2.2]))])) A) args s 0 0 A) (F0 m 0 ls [])
def f_X1_set_0 (n : Nat) (F_kind : Int32) (F_says : Int64) (F_start : Int32) (F_behind : Int32) (x1 : Int32) (x2 : Int64) (x4 : Int32) (x5 : Int32) : Option (Int32 × Int64 × Int32 × Int32) :=
  some (x1, x2, x4, x5)
set_option maxHeartbeats 4000000 in
set_option maxRecDepth 100000 in
theorem k_X1_set_0 {p : Program} {l : Launch} {e : Env} {s : State} {m : MethodId} {args : Array Value} {below : List Frame} {meth : Method} {c : Code} {dC : Nat → ClassId} {dI : Nat → Nat → Nat} {cyB cyC cyI cyJ cyZ : ClassId} {aF : Nat} {A : Nat → Prop} {out : Int32 × Int64 × Int32 × Int32} (CX : cx cX1_set none 6 RX1 wsX1_set (dC, dI) (TY cyB cyC cyI cyJ cyZ) p s m args meth c) (hA : ∀ q : Nat, s.heap.size ≤ q → A q) (n : Nat) : J_X1_set_0 p l e s m args below meth c dC dI cyB cyC cyI cyJ cyZ aF A out (f_X1_set_0 n) := by
  intro F_kind F_says F_start F_behind x1 x2 x4 x5 H locs hf hP hD hS ls hl
  obtain ⟨hx, hb, hr, hml, hown, hts, hlocks, hK, hN⟩ := id CX
  unfold f_X1_set_0 at hf
  refine lv_aload_n hx hb dX1_set_0 rfl (lv_at hl 0 rfl) ?_
  refine lv_iload_n hx hb dX1_set_1 rfl (lv_at hl 1 rfl) ?_
  refine va_put (D := (dC, dI)) (ci := 1) (v := .int x1) (ty := .int) (C := RX1) (T := TX1) (N := 4) hx hb hts i_X1_set_X1 tyX1 tyX1_ok nmX1 hown hK hP hD hS 0 rfl rfl 0 (by decide) (hts (.fieldLink RX1 7 "TokenRow$Found" "kind" "I") (List.mem_of_getElem? (i := 1) rfl)) (fun _ h9 => h9) rfl (by decide +kernel) rfl rfl (Nat.le_of_ble_eq_true rfl) dX1_set_2 (fun H1 locs hP hD hS => ?_)
  have hP : va_P (dC, dI) vwCl [(aF, .inr (1, [.int x1, .long F_says, .int F_start, .int F_behind]))] H1 := hP
  have hD : va_D A [(aF, .inr (1, [.int x1, .long F_says, .int F_start, .int F_behind]))] := hD
  refine lv_aload_n hx hb dX1_set_5 rfl (lv_at hl 0 rfl) ?_
  refine lv_lload_n hx hb dX1_set_6 rfl (lv_at hl 2 rfl) ?_
  refine va_put (D := (dC, dI)) (ci := 1) (v := .long x2) (ty := .long) (C := RX1) (T := TX1) (N := 4) hx hb hts i_X1_set_X1 tyX1 tyX1_ok nmX1 hown hK hP hD hS 0 rfl rfl 1 (by decide) (hts (.fieldLink RX1 13 "TokenRow$Found" "says" "J") (List.mem_of_getElem? (i := 2) rfl)) (fun _ h9 => h9) rfl (by decide +kernel) rfl rfl (Nat.le_of_ble_eq_true rfl) dX1_set_7 (fun H2 locs hP hD hS => ?_)
  have hP : va_P (dC, dI) vwCl [(aF, .inr (1, [.int x1, .long x2, .int F_start, .int F_behind]))] H2 := hP
  have hD : va_D A [(aF, .inr (1, [.int x1, .long x2, .int F_start, .int F_behind]))] := hD
  refine lv_aload_n hx hb dX1_set_10 rfl (lv_at hl 0 rfl) ?_
  refine lv_iload hx hb dX1_set_11 (lv_at hl 3 rfl) ?_
  refine va_put (D := (dC, dI)) (ci := 1) (v := .int x4) (ty := .int) (C := RX1) (T := TX1) (N := 4) hx hb hts i_X1_set_X1 tyX1 tyX1_ok nmX1 hown hK hP hD hS 0 rfl rfl 2 (by decide) (hts (.fieldLink RX1 17 "TokenRow$Found" "start" "I") (List.mem_of_getElem? (i := 3) rfl)) (fun _ h9 => h9) rfl (by decide +kernel) rfl rfl (Nat.le_of_ble_eq_true rfl) dX1_set_13 (fun H3 locs hP hD hS => ?_)
  have hP : va_P (dC, dI) vwCl [(aF, .inr (1, [.int x1, .long x2, .int x4, .int F_behind]))] H3 := hP
  have hD : va_D A [(aF, .inr (1, [.int x1, .long x2, .int x4, .int F_behind]))] := hD
  refine lv_aload_n hx hb dX1_set_16 rfl (lv_at hl 0 rfl) ?_
  refine lv_iload hx hb dX1_set_17 (lv_at hl 4 rfl) ?_
  refine va_put (D := (dC, dI)) (ci := 1) (v := .int x5) (ty := .int) (C := RX1) (T := TX1) (N := 4) hx hb hts i_X1_set_X1 tyX1 tyX1_ok nmX1 hown hK hP hD hS 0 rfl rfl 3 (by decide) (hts (.fieldLink RX1 20 "TokenRow$Found" "behind" "I") (List.mem_of_getElem? (i := 4) rfl)) (fun _ h9 => h9) rfl (by decide +kernel) rfl rfl (Nat.le_of_ble_eq_true rfl) dX1_set_19 (fun H4 locs hP hD hS => ?_)
  have hP : va_P (dC, dI) vwCl [(aF, .inr (1, [.int x1, .long x2, .int x4, .int x5]))] H4 := hP
  have hD : va_D A [(aF, .inr (1, [.int x1, .long x2, .int x4, .int x5]))] := hD
  exact W.vret hx hb hr (fun t ht hW => ⟨⟨(x1, x2, x4, x5), rfl, Option.some.inj hf, by rw [ht]; exact hP, hD⟩, hS.F ht⟩) hS.2.2 dX1_set_22
def f_X1_set (n : Nat) (p1 : Int32) (p2 : Int64) (p4 : Int32) (p5 : Int32) (F_kind : Int32) (F_says : Int64) (F_start : Int32) (F_behind : Int32) : Option (Int32 × Int64 × Int32 × Int32) := f_X1_set_0 n F_kind F_says F_start F_behind p1 p2 p4 p5
set_option maxHeartbeats 4000000 in
set_option maxRecDepth 100000 in
/-- TokenRow$Found.set(IJII)V -/
theorem m_X1_set (l : Launch) (dC : Nat → ClassId) (dI : Nat → Nat → Nat) (cyB cyC cyI cyJ cyZ : ClassId) (aF : Nat) (sz : Nat) (p1 : Int32) (p2 : Int64) (p4 : Int32) (p5 : Int32) (F_kind : Int32) (F_says : Int64) (F_start : Int32) (F_behind : Int32) (n : Nat) (out : Int32 × Int64 × Int32 × Int32) (hf : f_X1_set n p1 p2 p4 p5 F_kind F_says F_start F_behind = some out) : Met l yX1_set wsX1_set rm_X1_set (Prw (dC, dI) (TY cyB cyC cyI cyJ cyZ) [.ref aF, .int p1, .long p2, .int p4, .int p5] sz [(aF, .inr (1, [.int F_kind, .long F_says, .int F_start, .int F_behind]))]) (va_Qv (fun (u : Int32 × Int64 × Int32 × Int32) => u = out) (Bw (dC, dI) (va_A [(aF, .inr (1, [.int F_kind, .long F_says, .int F_start, .int F_behind]))] sz) (fun u => [(aF, .inr (1, [.int u.1, .long u.2.1, .int u.2.2.1, .int u.2.2.2]))])) (va_A [(aF, .inr (1, [.int F_kind, .long F_says, .int F_start, .int F_behind]))] sz)) 0 0 (va_A [(aF, .inr (1, [.int F_kind, .long F_says, .int F_start, .int F_behind]))] sz) := by
  refine Met.ofW (cc := cX1_set) (maxL := 6) (ret := none) (by decide) rfl ?_
  intro p e s m args below meth c s₁ B hml hv
  obtain ⟨rfl, hsz, hP, hK, hD0, hN⟩ := hv
  subst hsz
  have hD := hD0.self (sz := s.heap.size)
  have CX : cx cX1_set none 6 RX1 wsX1_set (dC, dI) (TY cyB cyC cyI cyJ cyZ) p s m ([.ref aF, .int p1, .long p2, .int p4, .int p5] : List Value).toArray meth c := ⟨B.exec, B.bytes, B.returns, hml, findClass_of_methodNamed B.named, atoms_spec (ws := wsX1_set) B.pre, B.notSynchronized, hK, hN⟩
  have hl := lv_entry ([.ref aF, .int p1, .long p2, .int p4, .int p5]) (n := 6) (Nat.le_of_ble_eq_true rfl)
  rw [lg_entry_eq]
  exact k_X1_set_0 CX (fun q h => Or.inr h) n _ _ _ _ _ _ _ _ _ _ hf hP hD va_S.rf _ hl
abbrev rm_X8_clear : Room := { frames := 0, cells := 0, slots := 0, locals := 0 }
theorem i_X8_clear_X8 : ∀ w ∈ u_ws RX8 TX8 5, w ∈ wsX8_clear := fun _ h => (List.mem_cons_of_mem _ (List.mem_append_right _ h))
def J_X8_clear_0 (p : Program) (l : Launch) (e : Env) (s : State) (m : MethodId) (args : Array Value) (below : List Frame) (meth : Method) (c : Code) (dC : Nat → ClassId) (dI : Nat → Nat → Nat) (cyB cyC cyI cyJ cyZ : ClassId) (aT aTk aTj aTs aTt : Nat) (A : Nat → Prop) (out : Int32) (g : Int32 → Option (Int32)) : Prop := ∀ (T_count : Int32) (H : Heap) (locs : List Loc), g T_count = some out → va_P (dC, dI) vwCl [(aT, .inr (8, [.ref aTk, .ref aTj, .ref aTs, .ref aTt, .int T_count]))] H → va_D A [(aT, .inr (8, [.ref aTk, .ref aTj, .ref aTs, .ref aTt, .int T_count]))] → va_S A s.heap H locs → ∀ ls : Array Slot, lv_has ls 1 [(0, .ref aT)] → W p l e rm_X8_clear s m args below meth c H locs 0 0 (MQ below (va_Qv (fun (u : Int32) => u = out) (Bw (dC, dI) A (fun u => [(aT, .inr (8, [.ref aTk, .ref aTj, .ref aTs, .ref aTt, .int u]))])) A) args s 0 0 A) (F0 m 0 ls [])
def f_X8_clear_0 (n : Nat) (T_count : Int32) : Option (Int32) :=
  some (0 : Int32)
set_option maxHeartbeats 4000000 in
set_option maxRecDepth 100000 in
theorem k_X8_clear_0 {p : Program} {l : Launch} {e : Env} {s : State} {m : MethodId} {args : Array Value} {below : List Frame} {meth : Method} {c : Code} {dC : Nat → ClassId} {dI : Nat → Nat → Nat} {cyB cyC cyI cyJ cyZ : ClassId} {aT aTk aTj aTs aTt : Nat} {A : Nat → Prop} {out : Int32} (CX : cx cX8_clear none 1 RX8 wsX8_clear (dC, dI) (TY cyB cyC cyI cyJ cyZ) p s m args meth c) (hA : ∀ q : Nat, s.heap.size ≤ q → A q) (n : Nat) : J_X8_clear_0 p l e s m args below meth c dC dI cyB cyC cyI cyJ cyZ aT aTk aTj aTs aTt A out (f_X8_clear_0 n) := by
  intro T_count H locs hf hP hD hS ls hl
  obtain ⟨hx, hb, hr, hml, hown, hts, hlocks, hK, hN⟩ := id CX
  unfold f_X8_clear_0 at hf
  refine lv_aload_n hx hb dX8_clear_0 rfl (lv_at hl 0 rfl) ?_
  refine lv_iconst (v := (0 : Int32)) hx hb dX8_clear_1 (by decide) ?_
  refine va_put (D := (dC, dI)) (ci := 8) (v := .int (0 : Int32)) (ty := .int) (C := RX8) (T := TX8) (N := 5) hx hb hts i_X8_clear_X8 tyX8 tyX8_ok nmX8 hown hK hP hD hS 0 rfl rfl 4 (by decide) (hts (.fieldLink RX8 26 "TokenRow$Store" "count" "I") (List.mem_of_getElem? (i := 1) rfl)) (fun _ h9 => h9) rfl (by decide +kernel) rfl rfl (Nat.le_of_ble_eq_true rfl) dX8_clear_2 (fun H1 locs hP hD hS => ?_)
  have hP : va_P (dC, dI) vwCl [(aT, .inr (8, [.ref aTk, .ref aTj, .ref aTs, .ref aTt, .int (0 : Int32)]))] H1 := hP
  have hD : va_D A [(aT, .inr (8, [.ref aTk, .ref aTj, .ref aTs, .ref aTt, .int (0 : Int32)]))] := hD
  exact W.vret hx hb hr (fun t ht hW => ⟨⟨(0 : Int32), rfl, Option.some.inj hf, by rw [ht]; exact hP, hD⟩, hS.F ht⟩) hS.2.2 dX8_clear_5
def f_X8_clear (n : Nat) (T_count : Int32) : Option (Int32) := f_X8_clear_0 n T_count 
set_option maxHeartbeats 4000000 in
set_option maxRecDepth 100000 in
/-- TokenRow$Store.clear()V -/
theorem m_X8_clear (l : Launch) (dC : Nat → ClassId) (dI : Nat → Nat → Nat) (cyB cyC cyI cyJ cyZ : ClassId) (aT aTk aTj aTs aTt : Nat) (sz : Nat) (T_count : Int32) (n : Nat) (out : Int32) (hf : f_X8_clear n T_count = some out) : Met l yX8_clear wsX8_clear rm_X8_clear (Prw (dC, dI) (TY cyB cyC cyI cyJ cyZ) [.ref aT] sz [(aT, .inr (8, [.ref aTk, .ref aTj, .ref aTs, .ref aTt, .int T_count]))]) (va_Qv (fun (u : Int32) => u = out) (Bw (dC, dI) (va_A [(aT, .inr (8, [.ref aTk, .ref aTj, .ref aTs, .ref aTt, .int T_count]))] sz) (fun u => [(aT, .inr (8, [.ref aTk, .ref aTj, .ref aTs, .ref aTt, .int u]))])) (va_A [(aT, .inr (8, [.ref aTk, .ref aTj, .ref aTs, .ref aTt, .int T_count]))] sz)) 0 0 (va_A [(aT, .inr (8, [.ref aTk, .ref aTj, .ref aTs, .ref aTt, .int T_count]))] sz) := by
  refine Met.ofW (cc := cX8_clear) (maxL := 1) (ret := none) (by decide) rfl ?_
  intro p e s m args below meth c s₁ B hml hv
  obtain ⟨rfl, hsz, hP, hK, hD0, hN⟩ := hv
  subst hsz
  have hD := hD0.self (sz := s.heap.size)
  have CX : cx cX8_clear none 1 RX8 wsX8_clear (dC, dI) (TY cyB cyC cyI cyJ cyZ) p s m ([.ref aT] : List Value).toArray meth c := ⟨B.exec, B.bytes, B.returns, hml, findClass_of_methodNamed B.named, atoms_spec (ws := wsX8_clear) B.pre, B.notSynchronized, hK, hN⟩
  have hl := lv_entry ([.ref aT]) (n := 1) (Nat.le_of_ble_eq_true rfl)
  rw [lg_entry_eq]
  exact k_X8_clear_0 (aTk := aTk) (aTj := aTj) (aTs := aTs) (aTt := aTt) CX (fun q h => Or.inr h) n _ _ _ hf hP hD va_S.rf _ hl
abbrev rm_X8_count : Room := { frames := 0, cells := 0, slots := 0, locals := 0 }
theorem i_X8_count_X8 : ∀ w ∈ u_ws RX8 TX8 5, w ∈ wsX8_count := fun _ h => (List.mem_cons_of_mem _ (List.mem_append_right _ h))
def J_X8_count_0 (p : Program) (l : Launch) (e : Env) (s : State) (m : MethodId) (args : Array Value) (below : List Frame) (meth : Method) (c : Code) (dC : Nat → ClassId) (dI : Nat → Nat → Nat) (cyB cyC cyI cyJ cyZ : ClassId) (aT aTk aTj aTs aTt : Nat) (T_count : Int32) (out : Int32) (g : Option (Int32)) : Prop := g = some out → ∀ ls : Array Slot, lv_has ls 1 [(0, .ref aT)] → W p l e rm_X8_count s m args below meth c s.heap [] 0 0 (MQ below (vp_Si (fun r => r = out)) args s 0 0 (fun _ => False)) (F0 m 0 ls [])
def f_X8_count_0 (n : Nat) (T_count : Int32) : Option (Int32) :=
  some T_count
set_option maxHeartbeats 4000000 in
set_option maxRecDepth 100000 in
theorem k_X8_count_0 {p : Program} {l : Launch} {e : Env} {s : State} {m : MethodId} {args : Array Value} {below : List Frame} {meth : Method} {c : Code} {dC : Nat → ClassId} {dI : Nat → Nat → Nat} {cyB cyC cyI cyJ cyZ : ClassId} {aT aTk aTj aTs aTt : Nat} {T_count : Int32} {out : Int32} (CX : cx cX8_count (some .int) 1 RX8 wsX8_count (dC, dI) (TY cyB cyC cyI cyJ cyZ) p s m args meth c) (hP : va_P (dC, dI) vwCl [(aT, .inr (8, [.ref aTk, .ref aTj, .ref aTs, .ref aTt, .int T_count]))] s.heap) (n : Nat) : J_X8_count_0 p l e s m args below meth c dC dI cyB cyC cyI cyJ cyZ aT aTk aTj aTs aTt T_count out (f_X8_count_0 n T_count) := by
  intro hf ls hl
  obtain ⟨hx, hb, hr, hml, hown, hts, hlocks, hK, hN⟩ := id CX
  unfold f_X8_count_0 at hf
  refine lv_aload_n hx hb dX8_count_0 rfl (lv_at hl 0 rfl) ?_
  refine va_get (D := (dC, dI)) (ci := 8) (v := .int T_count) (C := RX8) (T := TX8) (N := 5) hx hb hts i_X8_count_X8 hown hK hP 0 rfl rfl 4 (by decide) (hts (.fieldLink RX8 26 "TokenRow$Store" "count" "I") (List.mem_of_getElem? (i := 1) rfl)) (fun _ h9 => h9) rfl dX8_count_1 ?_
  exact W.iret (v := T_count) hx hb hr (fun t ht hW => ⟨_, rfl, Option.some.inj hf, ht⟩) (fun _ h => nomatch h) dX8_count_4
def f_X8_count (n : Nat) (T_count : Int32) : Option (Int32) := f_X8_count_0 n T_count 
set_option maxHeartbeats 4000000 in
set_option maxRecDepth 100000 in
/-- TokenRow$Store.count()I -/
theorem m_X8_count (l : Launch) (dC : Nat → ClassId) (dI : Nat → Nat → Nat) (cyB cyC cyI cyJ cyZ : ClassId) (aT aTk aTj aTs aTt : Nat) (T_count : Int32) (n : Nat) (out : Int32) (hf : f_X8_count n T_count = some out) : Met l yX8_count wsX8_count rm_X8_count (Pro (dC, dI) (TY cyB cyC cyI cyJ cyZ) [.ref aT] [(aT, .inr (8, [.ref aTk, .ref aTj, .ref aTs, .ref aTt, .int T_count]))]) (vp_Si (fun r => r = out)) 0 0 (fun _ => False) := by
  refine Met.ofW (cc := cX8_count) (maxL := 1) (ret := (some .int)) (by decide) rfl ?_
  intro p e s m args below meth c s₁ B hml hv
  obtain ⟨rfl, hP, hK, hN⟩ := hv
  have CX : cx cX8_count (some .int) 1 RX8 wsX8_count (dC, dI) (TY cyB cyC cyI cyJ cyZ) p s m ([.ref aT] : List Value).toArray meth c := ⟨B.exec, B.bytes, B.returns, hml, findClass_of_methodNamed B.named, atoms_spec (ws := wsX8_count) B.pre, B.notSynchronized, hK, hN⟩
  have hl := lv_entry ([.ref aT]) (n := 1) (Nat.le_of_ble_eq_true rfl)
  rw [lg_entry_eq]
  exact k_X8_count_0 (aTk := aTk) (aTj := aTj) (aTs := aTs) (aTt := aTt) CX hP n  hf _ hl
abbrev rm_X8_add : Room := { frames := 0, cells := 0, slots := 0, locals := 0 }
theorem i_X8_add_X1 : ∀ w ∈ u_ws RX1 TX1 4, w ∈ wsX8_add := fun _ h => (List.mem_cons_of_mem _ (List.mem_append_right _ h))
theorem i_X8_add_X8 : ∀ w ∈ u_ws RX8 TX8 5, w ∈ wsX8_add := fun _ h => (List.mem_cons_of_mem _ (List.mem_append_left _ (List.mem_append_right _ h)))
def J_X8_add_59 (p : Program) (l : Launch) (e : Env) (s : State) (m : MethodId) (args : Array Value) (below : List Frame) (meth : Method) (c : Code) (dC : Nat → ClassId) (dI : Nat → Nat → Nat) (cyB cyC cyI cyJ cyZ : ClassId) (aT aTk aTj aTs aTt aF : Nat) (F_kind : Int32) (F_says : Int64) (F_start : Int32) (F_behind : Int32) (A : Nat → Prop) (out : Int32 × (Nat → Int32) × (Nat → Int32) × (Nat → Int64) × (Nat → Int32)) (g : Int32 → (Nat → Int32) → (Nat → Int32) → (Nat → Int64) → (Nat → Int32) → Option (Int32 × (Nat → Int32) × (Nat → Int32) × (Nat → Int64) × (Nat → Int32))) : Prop := ∀ (T_count : Int32) (Tk : Nat → Int32) (Tj : Nat → Int32) (Ts : Nat → Int64) (Tt : Nat → Int32) (H : Heap) (locs : List Loc), g T_count Tk Tj Ts Tt = some out → va_P (dC, dI) vwCl [(aT, .inr (8, [.ref aTk, .ref aTj, .ref aTs, .ref aTt, .int T_count])), (aTk, .inl (cyI, 8192, .inl Tk)), (aTj, .inl (cyZ, 8192, .inl Tj)), (aTs, .inl (cyJ, 8192, .inr (.inl Ts))), (aTt, .inl (cyI, 8192, .inl Tt)), (aF, .inr (1, [.int F_kind, .long F_says, .int F_start, .int F_behind]))] H → va_D A [(aT, .inr (8, [.ref aTk, .ref aTj, .ref aTs, .ref aTt, .int T_count])), (aTk, .inl (cyI, 8192, .inl Tk)), (aTj, .inl (cyZ, 8192, .inl Tj)), (aTs, .inl (cyJ, 8192, .inr (.inl Ts))), (aTt, .inl (cyI, 8192, .inl Tt)), (aF, .inr (1, [.int F_kind, .long F_says, .int F_start, .int F_behind]))] → va_S A s.heap H locs → ∀ ls : Array Slot, lv_has ls 3 [(0, .ref aT)] → W p l e rm_X8_add s m args below meth c H locs 0 0 (MQ below (va_Qv (fun (u : Int32 × (Nat → Int32) × (Nat → Int32) × (Nat → Int64) × (Nat → Int32)) => u = out) (Bw (dC, dI) A (fun u => [(aT, .inr (8, [.ref aTk, .ref aTj, .ref aTs, .ref aTt, .int u.1])), (aTk, .inl (cyI, 8192, .inl u.2.1)), (aTj, .inl (cyZ, 8192, .inl u.2.2.1)), (aTs, .inl (cyJ, 8192, .inr (.inl u.2.2.2.1))), (aTt, .inl (cyI, 8192, .inl u.2.2.2.2)), (aF, .inr (1, [.int F_kind, .long F_says, .int F_start, .int F_behind]))])) A) args s 0 0 A) (F0 m 59 ls [])
def J_X8_add_0 (p : Program) (l : Launch) (e : Env) (s : State) (m : MethodId) (args : Array Value) (below : List Frame) (meth : Method) (c : Code) (dC : Nat → ClassId) (dI : Nat → Nat → Nat) (cyB cyC cyI cyJ cyZ : ClassId) (aT aTk aTj aTs aTt aF : Nat) (F_kind : Int32) (F_says : Int64) (F_start : Int32) (F_behind : Int32) (A : Nat → Prop) (out : Int32 × (Nat → Int32) × (Nat → Int32) × (Nat → Int64) × (Nat → Int32)) (g : Int32 → (Nat → Int32) → (Nat → Int32) → (Nat → Int64) → (Nat → Int32) → Int32 → Option (Int32 × (Nat → Int32) × (Nat → Int32) × (Nat → Int64) × (Nat → Int32))) : Prop := ∀ (T_count : Int32) (Tk : Nat → Int32) (Tj : Nat → Int32) (Ts : Nat → Int64) (Tt : Nat → Int32) (x2 : Int32) (H : Heap) (locs : List Loc), g T_count Tk Tj Ts Tt x2 = some out → va_P (dC, dI) vwCl [(aT, .inr (8, [.ref aTk, .ref aTj, .ref aTs, .ref aTt, .int T_count])), (aTk, .inl (cyI, 8192, .inl Tk)), (aTj, .inl (cyZ, 8192, .inl Tj)), (aTs, .inl (cyJ, 8192, .inr (.inl Ts))), (aTt, .inl (cyI, 8192, .inl Tt)), (aF, .inr (1, [.int F_kind, .long F_says, .int F_start, .int F_behind]))] H → va_D A [(aT, .inr (8, [.ref aTk, .ref aTj, .ref aTs, .ref aTt, .int T_count])), (aTk, .inl (cyI, 8192, .inl Tk)), (aTj, .inl (cyZ, 8192, .inl Tj)), (aTs, .inl (cyJ, 8192, .inr (.inl Ts))), (aTt, .inl (cyI, 8192, .inl Tt)), (aF, .inr (1, [.int F_kind, .long F_says, .int F_start, .int F_behind]))] → va_S A s.heap H locs → ∀ ls : Array Slot, lv_has ls 3 [(0, .ref aT), (1, .ref aF), (2, .int x2)] → W p l e rm_X8_add s m args below meth c H locs 0 0 (MQ below (va_Qv (fun (u : Int32 × (Nat → Int32) × (Nat → Int32) × (Nat → Int64) × (Nat → Int32)) => u = out) (Bw (dC, dI) A (fun u => [(aT, .inr (8, [.ref aTk, .ref aTj, .ref aTs, .ref aTt, .int u.1])), (aTk, .inl (cyI, 8192, .inl u.2.1)), (aTj, .inl (cyZ, 8192, .inl u.2.2.1)), (aTs, .inl (cyJ, 8192, .inr (.inl u.2.2.2.1))), (aTt, .inl (cyI, 8192, .inl u.2.2.2.2)), (aF, .inr (1, [.int F_kind, .long F_says, .int F_start, .int F_behind]))])) A) args s 0 0 A) (F0 m 0 ls [])
def f_X8_add_59 (n : Nat) (F_kind : Int32) (F_says : Int64) (F_start : Int32) (F_behind : Int32) (T_count : Int32) (Tk : Nat → Int32) (Tj : Nat → Int32) (Ts : Nat → Int64) (Tt : Nat → Int32) : Option (Int32 × (Nat → Int32) × (Nat → Int32) × (Nat → Int64) × (Nat → Int32)) :=
  lt_ (T_count + (1 : Int32)) fun y1 =>
  some (y1, Tk, Tj, Ts, Tt)
set_option maxHeartbeats 4000000 in
set_option maxRecDepth 100000 in
theorem k_X8_add_59 {p : Program} {l : Launch} {e : Env} {s : State} {m : MethodId} {args : Array Value} {below : List Frame} {meth : Method} {c : Code} {dC : Nat → ClassId} {dI : Nat → Nat → Nat} {cyB cyC cyI cyJ cyZ : ClassId} {aT aTk aTj aTs aTt aF : Nat} {F_kind : Int32} {F_says : Int64} {F_start : Int32} {F_behind : Int32} {A : Nat → Prop} {out : Int32 × (Nat → Int32) × (Nat → Int32) × (Nat → Int64) × (Nat → Int32)} (CX : cx cX8_add none 3 RX8 wsX8_add (dC, dI) (TY cyB cyC cyI cyJ cyZ) p s m args meth c) (hA : ∀ q : Nat, s.heap.size ≤ q → A q) (n : Nat) : J_X8_add_59 p l e s m args below meth c dC dI cyB cyC cyI cyJ cyZ aT aTk aTj aTs aTt aF F_kind F_says F_start F_behind A out (f_X8_add_59 n F_kind F_says F_start F_behind) := by
  intro T_count Tk Tj Ts Tt H locs hf hP hD hS ls hl
  obtain ⟨hx, hb, hr, hml, hown, hts, hlocks, hK, hN⟩ := id CX
  unfold f_X8_add_59 at hf
  refine lv_aload_n hx hb dX8_add_59 rfl (lv_at hl 0 rfl) ?_
  refine lv_dup hx hb dX8_add_60 rfl ?_
  refine va_get (D := (dC, dI)) (ci := 8) (v := .int T_count) (C := RX8) (T := TX8) (N := 5) hx hb hts i_X8_add_X8 hown hK hP 0 rfl rfl 4 (by decide) (hts (.fieldLink RX8 26 "TokenRow$Store" "count" "I") (List.mem_of_getElem? (i := 1) rfl)) (fun _ h9 => h9) rfl dX8_add_61 ?_
  refine lv_iconst (v := (1 : Int32)) hx hb dX8_add_64 (by decide) ?_
  refine lv_iadd hx hb dX8_add_65 ?_
  refine lv_topi (fun y1 ey1 => ?_)
  have hf := lt_ok hf y1 ey1
  refine va_put (D := (dC, dI)) (ci := 8) (v := .int y1) (ty := .int) (C := RX8) (T := TX8) (N := 5) hx hb hts i_X8_add_X8 tyX8 tyX8_ok nmX8 hown hK hP hD hS 0 rfl rfl 4 (by decide) (hts (.fieldLink RX8 26 "TokenRow$Store" "count" "I") (List.mem_of_getElem? (i := 1) rfl)) (fun _ h9 => h9) rfl (by decide +kernel) rfl rfl (Nat.le_of_ble_eq_true rfl) dX8_add_66 (fun H2 locs hP hD hS => ?_)
  have hP : va_P (dC, dI) vwCl [(aT, .inr (8, [.ref aTk, .ref aTj, .ref aTs, .ref aTt, .int y1])), (aTk, .inl (cyI, 8192, .inl Tk)), (aTj, .inl (cyZ, 8192, .inl Tj)), (aTs, .inl (cyJ, 8192, .inr (.inl Ts))), (aTt, .inl (cyI, 8192, .inl Tt)), (aF, .inr (1, [.int F_kind, .long F_says, .int F_start, .int F_behind]))] H2 := hP
  have hD : va_D A [(aT, .inr (8, [.ref aTk, .ref aTj, .ref aTs, .ref aTt, .int y1])), (aTk, .inl (cyI, 8192, .inl Tk)), (aTj, .inl (cyZ, 8192, .inl Tj)), (aTs, .inl (cyJ, 8192, .inr (.inl Ts))), (aTt, .inl (cyI, 8192, .inl Tt)), (aF, .inr (1, [.int F_kind, .long F_says, .int F_start, .int F_behind]))] := hD
  exact W.vret hx hb hr (fun t ht hW => ⟨⟨(y1, Tk, Tj, Ts, Tt), rfl, Option.some.inj hf, by rw [ht]; exact hP, hD⟩, hS.F ht⟩) hS.2.2 dX8_add_69
def f_X8_add_0 (n : Nat) (F_kind : Int32) (F_says : Int64) (F_start : Int32) (F_behind : Int32) (T_count : Int32) (Tk : Nat → Int32) (Tj : Nat → Int32) (Ts : Nat → Int64) (Tt : Nat → Int32) (x2 : Int32) : Option (Int32 × (Nat → Int32) × (Nat → Int32) × (Nat → Int64) × (Nat → Int32)) :=
  if (8192 : Int32) ≤ T_count then
  (f_X8_add_59 n F_kind F_says F_start F_behind T_count Tk Tj Ts Tt)
  else
  (gu (gd T_count 8192) (
  gu (gd T_count 8192) (
  gu (gd T_count 8192) (
  gu (gd T_count 8192) (
  f_X8_add_59 n F_kind F_says F_start F_behind T_count (upd Tk (T_count).toNatClampNeg F_kind) (upd Tj (T_count).toNatClampNeg (vp_nar .boolean x2)) (vp_updL Ts (T_count).toNatClampNeg F_says) (upd Tt (T_count).toNatClampNeg F_start))))))
set_option maxHeartbeats 4000000 in
set_option maxRecDepth 100000 in
theorem k_X8_add_0 {p : Program} {l : Launch} {e : Env} {s : State} {m : MethodId} {args : Array Value} {below : List Frame} {meth : Method} {c : Code} {dC : Nat → ClassId} {dI : Nat → Nat → Nat} {cyB cyC cyI cyJ cyZ : ClassId} {aT aTk aTj aTs aTt aF : Nat} {F_kind : Int32} {F_says : Int64} {F_start : Int32} {F_behind : Int32} {A : Nat → Prop} {out : Int32 × (Nat → Int32) × (Nat → Int32) × (Nat → Int64) × (Nat → Int32)} (CX : cx cX8_add none 3 RX8 wsX8_add (dC, dI) (TY cyB cyC cyI cyJ cyZ) p s m args meth c) (hA : ∀ q : Nat, s.heap.size ≤ q → A q) (n : Nat) : J_X8_add_0 p l e s m args below meth c dC dI cyB cyC cyI cyJ cyZ aT aTk aTj aTs aTt aF F_kind F_says F_start F_behind A out (f_X8_add_0 n F_kind F_says F_start F_behind) := by
  intro T_count Tk Tj Ts Tt x2 H locs hf hP hD hS ls hl
  obtain ⟨hx, hb, hr, hml, hown, hts, hlocks, hK, hN⟩ := id CX
  unfold f_X8_add_0 at hf
  refine lv_aload_n hx hb dX8_add_0 rfl (lv_at hl 0 rfl) ?_
  refine va_get (D := (dC, dI)) (ci := 8) (v := .int T_count) (C := RX8) (T := TX8) (N := 5) hx hb hts i_X8_add_X8 hown hK hP 0 rfl rfl 4 (by decide) (hts (.fieldLink RX8 26 "TokenRow$Store" "count" "I") (List.mem_of_getElem? (i := 1) rfl)) (fun _ h9 => h9) rfl dX8_add_1 ?_
  refine lv_sipush (v := (8192 : Int32)) hx hb dX8_add_4 (by decide) ?_
  refine lv_icmp_ge (tgt := 59) hx hb dX8_add_7 (by decide) (fun hc => ?_) (fun hc => ?_)
  · have hf := (if_pos hc).symm.trans hf
    exact k_X8_add_59 CX hA n _ _ _ _ _ _ _ hf hP hD hS ls (lv_sub hl [0] rfl)
  · have hf := (if_neg hc).symm.trans hf
    refine lv_aload_n hx hb dX8_add_10 rfl (lv_at hl 0 rfl) ?_
    refine va_get (D := (dC, dI)) (ci := 8) (v := .ref aTk) (C := RX8) (T := TX8) (N := 5) hx hb hts i_X8_add_X8 hown hK hP 0 rfl rfl 0 (by decide) (hts (.fieldLink RX8 9 "TokenRow$Store" "kinds" "[I") (List.mem_of_getElem? (i := 2) rfl)) (fun _ h9 => h9) rfl dX8_add_11 ?_
    refine lv_aload_n hx hb dX8_add_14 rfl (lv_at hl 0 rfl) ?_
    refine va_get (D := (dC, dI)) (ci := 8) (v := .int T_count) (C := RX8) (T := TX8) (N := 5) hx hb hts i_X8_add_X8 hown hK hP 0 rfl rfl 4 (by decide) (hts (.fieldLink RX8 26 "TokenRow$Store" "count" "I") (List.mem_of_getElem? (i := 1) rfl)) (fun _ h9 => h9) rfl dX8_add_15 ?_
    refine lv_aload_n hx hb dX8_add_18 rfl (lv_at hl 1 rfl) ?_
    refine va_getN (D := (dC, dI)) (ci := 1) (v := .int F_kind) (C := RX1) (T := TX1) (N := 4) hx hb hts i_X8_add_X1 hown hK hP 5 rfl rfl 0 (by decide) (va_Nw.use rfl (hN (.fieldLinkNest RX8 30 "TokenRow$Found" "kind" "I" RX9) (List.mem_of_getElem? (i := 13) rfl))) (fun _ h9 => h9) rfl dX8_add_19 ?_
    obtain ⟨hg, hf⟩ := gu_ok hf
    refine va_iast hx hb hK hP hD hS 1 2 rfl rfl (gd_in hg) dX8_add_22 (fun H1 locs hP hD hS => ?_)
    have hP : va_P (dC, dI) vwCl [(aT, .inr (8, [.ref aTk, .ref aTj, .ref aTs, .ref aTt, .int T_count])), (aTk, .inl (cyI, 8192, .inl (upd Tk (T_count).toNatClampNeg F_kind))), (aTj, .inl (cyZ, 8192, .inl Tj)), (aTs, .inl (cyJ, 8192, .inr (.inl Ts))), (aTt, .inl (cyI, 8192, .inl Tt)), (aF, .inr (1, [.int F_kind, .long F_says, .int F_start, .int F_behind]))] H1 := hP
    have hD : va_D A [(aT, .inr (8, [.ref aTk, .ref aTj, .ref aTs, .ref aTt, .int T_count])), (aTk, .inl (cyI, 8192, .inl (upd Tk (T_count).toNatClampNeg F_kind))), (aTj, .inl (cyZ, 8192, .inl Tj)), (aTs, .inl (cyJ, 8192, .inr (.inl Ts))), (aTt, .inl (cyI, 8192, .inl Tt)), (aF, .inr (1, [.int F_kind, .long F_says, .int F_start, .int F_behind]))] := hD
    refine lv_aload_n hx hb dX8_add_23 rfl (lv_at hl 0 rfl) ?_
    refine va_get (D := (dC, dI)) (ci := 8) (v := .ref aTj) (C := RX8) (T := TX8) (N := 5) hx hb hts i_X8_add_X8 hown hK hP 0 rfl rfl 1 (by decide) (hts (.fieldLink RX8 15 "TokenRow$Store" "joined" "[Z") (List.mem_of_getElem? (i := 3) rfl)) (fun _ h9 => h9) rfl dX8_add_24 ?_
    refine lv_aload_n hx hb dX8_add_27 rfl (lv_at hl 0 rfl) ?_
    refine va_get (D := (dC, dI)) (ci := 8) (v := .int T_count) (C := RX8) (T := TX8) (N := 5) hx hb hts i_X8_add_X8 hown hK hP 0 rfl rfl 4 (by decide) (hts (.fieldLink RX8 26 "TokenRow$Store" "count" "I") (List.mem_of_getElem? (i := 1) rfl)) (fun _ h9 => h9) rfl dX8_add_28 ?_
    refine lv_iload_n hx hb dX8_add_31 rfl (lv_at hl 2 rfl) ?_
    obtain ⟨hg, hf⟩ := gu_ok hf
    refine va_zast hx hb hK hP hD hS 2 4 rfl rfl (gd_in hg) dX8_add_32 (fun H2 locs hP hD hS => ?_)
    have hP : va_P (dC, dI) vwCl [(aT, .inr (8, [.ref aTk, .ref aTj, .ref aTs, .ref aTt, .int T_count])), (aTk, .inl (cyI, 8192, .inl (upd Tk (T_count).toNatClampNeg F_kind))), (aTj, .inl (cyZ, 8192, .inl (upd Tj (T_count).toNatClampNeg (vp_nar .boolean x2)))), (aTs, .inl (cyJ, 8192, .inr (.inl Ts))), (aTt, .inl (cyI, 8192, .inl Tt)), (aF, .inr (1, [.int F_kind, .long F_says, .int F_start, .int F_behind]))] H2 := hP
    have hD : va_D A [(aT, .inr (8, [.ref aTk, .ref aTj, .ref aTs, .ref aTt, .int T_count])), (aTk, .inl (cyI, 8192, .inl (upd Tk (T_count).toNatClampNeg F_kind))), (aTj, .inl (cyZ, 8192, .inl (upd Tj (T_count).toNatClampNeg (vp_nar .boolean x2)))), (aTs, .inl (cyJ, 8192, .inr (.inl Ts))), (aTt, .inl (cyI, 8192, .inl Tt)), (aF, .inr (1, [.int F_kind, .long F_says, .int F_start, .int F_behind]))] := hD
    refine lv_aload_n hx hb dX8_add_33 rfl (lv_at hl 0 rfl) ?_
    refine va_get (D := (dC, dI)) (ci := 8) (v := .ref aTs) (C := RX8) (T := TX8) (N := 5) hx hb hts i_X8_add_X8 hown hK hP 0 rfl rfl 2 (by decide) (hts (.fieldLink RX8 19 "TokenRow$Store" "says" "[J") (List.mem_of_getElem? (i := 4) rfl)) (fun _ h9 => h9) rfl dX8_add_34 ?_
    refine lv_aload_n hx hb dX8_add_37 rfl (lv_at hl 0 rfl) ?_
    refine va_get (D := (dC, dI)) (ci := 8) (v := .int T_count) (C := RX8) (T := TX8) (N := 5) hx hb hts i_X8_add_X8 hown hK hP 0 rfl rfl 4 (by decide) (hts (.fieldLink RX8 26 "TokenRow$Store" "count" "I") (List.mem_of_getElem? (i := 1) rfl)) (fun _ h9 => h9) rfl dX8_add_38 ?_
    refine lv_aload_n hx hb dX8_add_41 rfl (lv_at hl 1 rfl) ?_
    refine va_getN (D := (dC, dI)) (ci := 1) (v := .long F_says) (C := RX1) (T := TX1) (N := 4) hx hb hts i_X8_add_X1 hown hK hP 5 rfl rfl 1 (by decide) (va_Nw.use rfl (hN (.fieldLinkNest RX8 35 "TokenRow$Found" "says" "J" RX9) (List.mem_of_getElem? (i := 14) rfl))) (fun _ h9 => h9) rfl dX8_add_42 ?_
    obtain ⟨hg, hf⟩ := gu_ok hf
    refine va_last hx hb hK hP hD hS 3 3 rfl rfl (gd_in hg) dX8_add_45 (fun H3 locs hP hD hS => ?_)
    have hP : va_P (dC, dI) vwCl [(aT, .inr (8, [.ref aTk, .ref aTj, .ref aTs, .ref aTt, .int T_count])), (aTk, .inl (cyI, 8192, .inl (upd Tk (T_count).toNatClampNeg F_kind))), (aTj, .inl (cyZ, 8192, .inl (upd Tj (T_count).toNatClampNeg (vp_nar .boolean x2)))), (aTs, .inl (cyJ, 8192, .inr (.inl (vp_updL Ts (T_count).toNatClampNeg F_says)))), (aTt, .inl (cyI, 8192, .inl Tt)), (aF, .inr (1, [.int F_kind, .long F_says, .int F_start, .int F_behind]))] H3 := hP
    have hD : va_D A [(aT, .inr (8, [.ref aTk, .ref aTj, .ref aTs, .ref aTt, .int T_count])), (aTk, .inl (cyI, 8192, .inl (upd Tk (T_count).toNatClampNeg F_kind))), (aTj, .inl (cyZ, 8192, .inl (upd Tj (T_count).toNatClampNeg (vp_nar .boolean x2)))), (aTs, .inl (cyJ, 8192, .inr (.inl (vp_updL Ts (T_count).toNatClampNeg F_says)))), (aTt, .inl (cyI, 8192, .inl Tt)), (aF, .inr (1, [.int F_kind, .long F_says, .int F_start, .int F_behind]))] := hD
    refine lv_aload_n hx hb dX8_add_46 rfl (lv_at hl 0 rfl) ?_
    refine va_get (D := (dC, dI)) (ci := 8) (v := .ref aTt) (C := RX8) (T := TX8) (N := 5) hx hb hts i_X8_add_X8 hown hK hP 0 rfl rfl 3 (by decide) (hts (.fieldLink RX8 23 "TokenRow$Store" "starts" "[I") (List.mem_of_getElem? (i := 5) rfl)) (fun _ h9 => h9) rfl dX8_add_47 ?_
    refine lv_aload_n hx hb dX8_add_50 rfl (lv_at hl 0 rfl) ?_
    refine va_get (D := (dC, dI)) (ci := 8) (v := .int T_count) (C := RX8) (T := TX8) (N := 5) hx hb hts i_X8_add_X8 hown hK hP 0 rfl rfl 4 (by decide) (hts (.fieldLink RX8 26 "TokenRow$Store" "count" "I") (List.mem_of_getElem? (i := 1) rfl)) (fun _ h9 => h9) rfl dX8_add_51 ?_
    refine lv_aload_n hx hb dX8_add_54 rfl (lv_at hl 1 rfl) ?_
    refine va_getN (D := (dC, dI)) (ci := 1) (v := .int F_start) (C := RX1) (T := TX1) (N := 4) hx hb hts i_X8_add_X1 hown hK hP 5 rfl rfl 2 (by decide) (va_Nw.use rfl (hN (.fieldLinkNest RX8 38 "TokenRow$Found" "start" "I" RX9) (List.mem_of_getElem? (i := 15) rfl))) (fun _ h9 => h9) rfl dX8_add_55 ?_
    obtain ⟨hg, hf⟩ := gu_ok hf
    refine va_iast hx hb hK hP hD hS 4 2 rfl rfl (gd_in hg) dX8_add_58 (fun H4 locs hP hD hS => ?_)
    have hP : va_P (dC, dI) vwCl [(aT, .inr (8, [.ref aTk, .ref aTj, .ref aTs, .ref aTt, .int T_count])), (aTk, .inl (cyI, 8192, .inl (upd Tk (T_count).toNatClampNeg F_kind))), (aTj, .inl (cyZ, 8192, .inl (upd Tj (T_count).toNatClampNeg (vp_nar .boolean x2)))), (aTs, .inl (cyJ, 8192, .inr (.inl (vp_updL Ts (T_count).toNatClampNeg F_says)))), (aTt, .inl (cyI, 8192, .inl (upd Tt (T_count).toNatClampNeg F_start))), (aF, .inr (1, [.int F_kind, .long F_says, .int F_start, .int F_behind]))] H4 := hP
    have hD : va_D A [(aT, .inr (8, [.ref aTk, .ref aTj, .ref aTs, .ref aTt, .int T_count])), (aTk, .inl (cyI, 8192, .inl (upd Tk (T_count).toNatClampNeg F_kind))), (aTj, .inl (cyZ, 8192, .inl (upd Tj (T_count).toNatClampNeg (vp_nar .boolean x2)))), (aTs, .inl (cyJ, 8192, .inr (.inl (vp_updL Ts (T_count).toNatClampNeg F_says)))), (aTt, .inl (cyI, 8192, .inl (upd Tt (T_count).toNatClampNeg F_start))), (aF, .inr (1, [.int F_kind, .long F_says, .int F_start, .int F_behind]))] := hD
    exact k_X8_add_59 CX hA n _ _ _ _ _ _ _ hf hP hD hS ls (lv_sub hl [0] rfl)
def f_X8_add (n : Nat) (p2 : Int32) (T_count : Int32) (Tk : Nat → Int32) (Tj : Nat → Int32) (Ts : Nat → Int64) (Tt : Nat → Int32) (F_kind : Int32) (F_says : Int64) (F_start : Int32) (F_behind : Int32) : Option (Int32 × (Nat → Int32) × (Nat → Int32) × (Nat → Int64) × (Nat → Int32)) := f_X8_add_0 n F_kind F_says F_start F_behind T_count Tk Tj Ts Tt p2
set_option maxHeartbeats 4000000 in
set_option maxRecDepth 100000 in
/-- TokenRow$Store.add(LTokenRow$Found;Z)V -/
theorem m_X8_add (l : Launch) (dC : Nat → ClassId) (dI : Nat → Nat → Nat) (cyB cyC cyI cyJ cyZ : ClassId) (aT aTk aTj aTs aTt aF : Nat) (sz : Nat) (p2 : Int32) (T_count : Int32) (Tk : Nat → Int32) (Tj : Nat → Int32) (Ts : Nat → Int64) (Tt : Nat → Int32) (F_kind : Int32) (F_says : Int64) (F_start : Int32) (F_behind : Int32) (n : Nat) (out : Int32 × (Nat → Int32) × (Nat → Int32) × (Nat → Int64) × (Nat → Int32)) (hf : f_X8_add n p2 T_count Tk Tj Ts Tt F_kind F_says F_start F_behind = some out) : Met l yX8_add wsX8_add rm_X8_add (Prw (dC, dI) (TY cyB cyC cyI cyJ cyZ) [.ref aT, .ref aF, .int p2] sz [(aT, .inr (8, [.ref aTk, .ref aTj, .ref aTs, .ref aTt, .int T_count])), (aTk, .inl (cyI, 8192, .inl Tk)), (aTj, .inl (cyZ, 8192, .inl Tj)), (aTs, .inl (cyJ, 8192, .inr (.inl Ts))), (aTt, .inl (cyI, 8192, .inl Tt)), (aF, .inr (1, [.int F_kind, .long F_says, .int F_start, .int F_behind]))]) (va_Qv (fun (u : Int32 × (Nat → Int32) × (Nat → Int32) × (Nat → Int64) × (Nat → Int32)) => u = out) (Bw (dC, dI) (va_A [(aT, .inr (8, [.ref aTk, .ref aTj, .ref aTs, .ref aTt, .int T_count])), (aTk, .inl (cyI, 8192, .inl Tk)), (aTj, .inl (cyZ, 8192, .inl Tj)), (aTs, .inl (cyJ, 8192, .inr (.inl Ts))), (aTt, .inl (cyI, 8192, .inl Tt)), (aF, .inr (1, [.int F_kind, .long F_says, .int F_start, .int F_behind]))] sz) (fun u => [(aT, .inr (8, [.ref aTk, .ref aTj, .ref aTs, .ref aTt, .int u.1])), (aTk, .inl (cyI, 8192, .inl u.2.1)), (aTj, .inl (cyZ, 8192, .inl u.2.2.1)), (aTs, .inl (cyJ, 8192, .inr (.inl u.2.2.2.1))), (aTt, .inl (cyI, 8192, .inl u.2.2.2.2)), (aF, .inr (1, [.int F_kind, .long F_says, .int F_start, .int F_behind]))])) (va_A [(aT, .inr (8, [.ref aTk, .ref aTj, .ref aTs, .ref aTt, .int T_count])), (aTk, .inl (cyI, 8192, .inl Tk)), (aTj, .inl (cyZ, 8192, .inl Tj)), (aTs, .inl (cyJ, 8192, .inr (.inl Ts))), (aTt, .inl (cyI, 8192, .inl Tt)), (aF, .inr (1, [.int F_kind, .long F_says, .int F_start, .int F_behind]))] sz)) 0 0 (va_A [(aT, .inr (8, [.ref aTk, .ref aTj, .ref aTs, .ref aTt, .int T_count])), (aTk, .inl (cyI, 8192, .inl Tk)), (aTj, .inl (cyZ, 8192, .inl Tj)), (aTs, .inl (cyJ, 8192, .inr (.inl Ts))), (aTt, .inl (cyI, 8192, .inl Tt)), (aF, .inr (1, [.int F_kind, .long F_says, .int F_start, .int F_behind]))] sz) := by
  refine Met.ofW (cc := cX8_add) (maxL := 3) (ret := none) (by decide) rfl ?_
  intro p e s m args below meth c s₁ B hml hv
  obtain ⟨rfl, hsz, hP, hK, hD0, hN⟩ := hv
  subst hsz
  have hD := hD0.self (sz := s.heap.size)
  have CX : cx cX8_add none 3 RX8 wsX8_add (dC, dI) (TY cyB cyC cyI cyJ cyZ) p s m ([.ref aT, .ref aF, .int p2] : List Value).toArray meth c := ⟨B.exec, B.bytes, B.returns, hml, findClass_of_methodNamed B.named, atoms_spec (ws := wsX8_add) B.pre, B.notSynchronized, hK, hN⟩
  have hl := lv_entry ([.ref aT, .ref aF, .int p2]) (n := 3) (Nat.le_of_ble_eq_true rfl)
  rw [lg_entry_eq]
  exact k_X8_add_0 CX (fun q h => Or.inr h) n _ _ _ _ _ _ _ _ hf hP hD va_S.rf _ hl
abbrev rm_X8_kindOf : Room := { frames := 0, cells := 0, slots := 0, locals := 0 }
theorem i_X8_kindOf_X8 : ∀ w ∈ u_ws RX8 TX8 5, w ∈ wsX8_kindOf := fun _ h => (List.mem_cons_of_mem _ (List.mem_append_right _ h))
def J_X8_kindOf_0 (p : Program) (l : Launch) (e : Env) (s : State) (m : MethodId) (args : Array Value) (below : List Frame) (meth : Method) (c : Code) (dC : Nat → ClassId) (dI : Nat → Nat → Nat) (cyB cyC cyI cyJ cyZ : ClassId) (aT aTk aTj aTs aTt : Nat) (T_count : Int32) (Tk : Nat → Int32) (out : Int32) (g : Int32 → Option (Int32)) : Prop := ∀ (x1 : Int32), g x1 = some out → ∀ ls : Array Slot, lv_has ls 2 [(0, .ref aT), (1, .int x1)] → W p l e rm_X8_kindOf s m args below meth c s.heap [] 0 0 (MQ below (vp_Si (fun r => r = out)) args s 0 0 (fun _ => False)) (F0 m 0 ls [])
def f_X8_kindOf_0 (n : Nat) (T_count : Int32) (Tk : Nat → Int32) (x1 : Int32) : Option (Int32) :=
  gu (gd x1 8192) (
  some (Tk (x1).toNatClampNeg))
set_option maxHeartbeats 4000000 in
set_option maxRecDepth 100000 in
theorem k_X8_kindOf_0 {p : Program} {l : Launch} {e : Env} {s : State} {m : MethodId} {args : Array Value} {below : List Frame} {meth : Method} {c : Code} {dC : Nat → ClassId} {dI : Nat → Nat → Nat} {cyB cyC cyI cyJ cyZ : ClassId} {aT aTk aTj aTs aTt : Nat} {T_count : Int32} {Tk : Nat → Int32} {out : Int32} (CX : cx cX8_kindOf (some .int) 2 RX8 wsX8_kindOf (dC, dI) (TY cyB cyC cyI cyJ cyZ) p s m args meth c) (hP : va_P (dC, dI) vwCl [(aT, .inr (8, [.ref aTk, .ref aTj, .ref aTs, .ref aTt, .int T_count])), (aTk, .inl (cyI, 8192, .inl Tk))] s.heap) (n : Nat) : J_X8_kindOf_0 p l e s m args below meth c dC dI cyB cyC cyI cyJ cyZ aT aTk aTj aTs aTt T_count Tk out (f_X8_kindOf_0 n T_count Tk) := by
  intro x1 hf ls hl
  obtain ⟨hx, hb, hr, hml, hown, hts, hlocks, hK, hN⟩ := id CX
  unfold f_X8_kindOf_0 at hf
  refine lv_aload_n hx hb dX8_kindOf_0 rfl (lv_at hl 0 rfl) ?_
  refine va_get (D := (dC, dI)) (ci := 8) (v := .ref aTk) (C := RX8) (T := TX8) (N := 5) hx hb hts i_X8_kindOf_X8 hown hK hP 0 rfl rfl 0 (by decide) (hts (.fieldLink RX8 9 "TokenRow$Store" "kinds" "[I") (List.mem_of_getElem? (i := 1) rfl)) (fun _ h9 => h9) rfl dX8_kindOf_1 ?_
  refine lv_iload_n hx hb dX8_kindOf_4 rfl (lv_at hl 1 rfl) ?_
  obtain ⟨hg, hf⟩ := gu_ok hf
  refine va_iald hx hb hK hP 1 2 rfl rfl (gd_in hg) dX8_kindOf_5 ?_
  exact W.iret (v := Tk (x1).toNatClampNeg) hx hb hr (fun t ht hW => ⟨_, rfl, Option.some.inj hf, ht⟩) (fun _ h => nomatch h) dX8_kindOf_6
def f_X8_kindOf (n : Nat) (p1 : Int32) (T_count : Int32) (Tk : Nat → Int32) : Option (Int32) := f_X8_kindOf_0 n T_count Tk p1
set_option maxHeartbeats 4000000 in
set_option maxRecDepth 100000 in
/-- TokenRow$Store.kindOf(I)I -/
theorem m_X8_kindOf (l : Launch) (dC : Nat → ClassId) (dI : Nat → Nat → Nat) (cyB cyC cyI cyJ cyZ : ClassId) (aT aTk aTj aTs aTt : Nat) (p1 : Int32) (T_count : Int32) (Tk : Nat → Int32) (n : Nat) (out : Int32) (hf : f_X8_kindOf n p1 T_count Tk = some out) : Met l yX8_kindOf wsX8_kindOf rm_X8_kindOf (Pro (dC, dI) (TY cyB cyC cyI cyJ cyZ) [.ref aT, .int p1] [(aT, .inr (8, [.ref aTk, .ref aTj, .ref aTs, .ref aTt, .int T_count])), (aTk, .inl (cyI, 8192, .inl Tk))]) (vp_Si (fun r => r = out)) 0 0 (fun _ => False) := by
  refine Met.ofW (cc := cX8_kindOf) (maxL := 2) (ret := (some .int)) (by decide) rfl ?_
  intro p e s m args below meth c s₁ B hml hv
  obtain ⟨rfl, hP, hK, hN⟩ := hv
  have CX : cx cX8_kindOf (some .int) 2 RX8 wsX8_kindOf (dC, dI) (TY cyB cyC cyI cyJ cyZ) p s m ([.ref aT, .int p1] : List Value).toArray meth c := ⟨B.exec, B.bytes, B.returns, hml, findClass_of_methodNamed B.named, atoms_spec (ws := wsX8_kindOf) B.pre, B.notSynchronized, hK, hN⟩
  have hl := lv_entry ([.ref aT, .int p1]) (n := 2) (Nat.le_of_ble_eq_true rfl)
  rw [lg_entry_eq]
  exact k_X8_kindOf_0 (aTj := aTj) (aTs := aTs) (aTt := aTt) CX hP n _ hf _ hl
abbrev rm_X8_isJoined : Room := { frames := 0, cells := 0, slots := 0, locals := 0 }
theorem i_X8_isJoined_X8 : ∀ w ∈ u_ws RX8 TX8 5, w ∈ wsX8_isJoined := fun _ h => (List.mem_cons_of_mem _ (List.mem_append_right _ h))
def J_X8_isJoined_0 (p : Program) (l : Launch) (e : Env) (s : State) (m : MethodId) (args : Array Value) (below : List Frame) (meth : Method) (c : Code) (dC : Nat → ClassId) (dI : Nat → Nat → Nat) (cyB cyC cyI cyJ cyZ : ClassId) (aT aTk aTj aTs aTt : Nat) (T_count : Int32) (Tj : Nat → Int32) (out : Int32) (g : Int32 → Option (Int32)) : Prop := ∀ (x1 : Int32), g x1 = some out → ∀ ls : Array Slot, lv_has ls 2 [(0, .ref aT), (1, .int x1)] → W p l e rm_X8_isJoined s m args below meth c s.heap [] 0 0 (MQ below (vp_Si (fun r => r = out)) args s 0 0 (fun _ => False)) (F0 m 0 ls [])
def f_X8_isJoined_0 (n : Nat) (T_count : Int32) (Tj : Nat → Int32) (x1 : Int32) : Option (Int32) :=
  gu (gd x1 8192) (
  gu (zb (Tj (x1).toNatClampNeg)) (
  some (Tj (x1).toNatClampNeg)))
set_option maxHeartbeats 4000000 in
set_option maxRecDepth 100000 in
theorem k_X8_isJoined_0 {p : Program} {l : Launch} {e : Env} {s : State} {m : MethodId} {args : Array Value} {below : List Frame} {meth : Method} {c : Code} {dC : Nat → ClassId} {dI : Nat → Nat → Nat} {cyB cyC cyI cyJ cyZ : ClassId} {aT aTk aTj aTs aTt : Nat} {T_count : Int32} {Tj : Nat → Int32} {out : Int32} (CX : cx cX8_isJoined (some .boolean) 2 RX8 wsX8_isJoined (dC, dI) (TY cyB cyC cyI cyJ cyZ) p s m args meth c) (hP : va_P (dC, dI) vwCl [(aT, .inr (8, [.ref aTk, .ref aTj, .ref aTs, .ref aTt, .int T_count])), (aTj, .inl (cyZ, 8192, .inl Tj))] s.heap) (n : Nat) : J_X8_isJoined_0 p l e s m args below meth c dC dI cyB cyC cyI cyJ cyZ aT aTk aTj aTs aTt T_count Tj out (f_X8_isJoined_0 n T_count Tj) := by
  intro x1 hf ls hl
  obtain ⟨hx, hb, hr, hml, hown, hts, hlocks, hK, hN⟩ := id CX
  unfold f_X8_isJoined_0 at hf
  refine lv_aload_n hx hb dX8_isJoined_0 rfl (lv_at hl 0 rfl) ?_
  refine va_get (D := (dC, dI)) (ci := 8) (v := .ref aTj) (C := RX8) (T := TX8) (N := 5) hx hb hts i_X8_isJoined_X8 hown hK hP 0 rfl rfl 1 (by decide) (hts (.fieldLink RX8 15 "TokenRow$Store" "joined" "[Z") (List.mem_of_getElem? (i := 1) rfl)) (fun _ h9 => h9) rfl dX8_isJoined_1 ?_
  refine lv_iload_n hx hb dX8_isJoined_4 rfl (lv_at hl 1 rfl) ?_
  obtain ⟨hg, hf⟩ := gu_ok hf
  refine va_zald hx hb hK hP 1 4 rfl rfl (gd_in hg) dX8_isJoined_5 ?_
  obtain ⟨hg, hf⟩ := gu_ok hf
  exact W.zret (v := Tj (x1).toNatClampNeg) (ty := .boolean) hx hb hr (zb_n hg) (fun t ht hW => ⟨_, rfl, Option.some.inj hf, ht⟩) (fun _ h => nomatch h) dX8_isJoined_6
def f_X8_isJoined (n : Nat) (p1 : Int32) (T_count : Int32) (Tj : Nat → Int32) : Option (Int32) := f_X8_isJoined_0 n T_count Tj p1
set_option maxHeartbeats 4000000 in
set_option maxRecDepth 100000 in
/-- TokenRow$Store.isJoined(I)Z -/
theorem m_X8_isJoined (l : Launch) (dC : Nat → ClassId) (dI : Nat → Nat → Nat) (cyB cyC cyI cyJ cyZ : ClassId) (aT aTk aTj aTs aTt : Nat) (p1 : Int32) (T_count : Int32) (Tj : Nat → Int32) (n : Nat) (out : Int32) (hf : f_X8_isJoined n p1 T_count Tj = some out) : Met l yX8_isJoined wsX8_isJoined rm_X8_isJoined (Pro (dC, dI) (TY cyB cyC cyI cyJ cyZ) [.ref aT, .int p1] [(aT, .inr (8, [.ref aTk, .ref aTj, .ref aTs, .ref aTt, .int T_count])), (aTj, .inl (cyZ, 8192, .inl Tj))]) (vp_Si (fun r => r = out)) 0 0 (fun _ => False) := by
  refine Met.ofW (cc := cX8_isJoined) (maxL := 2) (ret := (some .boolean)) (by decide) rfl ?_
  intro p e s m args below meth c s₁ B hml hv
  obtain ⟨rfl, hP, hK, hN⟩ := hv
  have CX : cx cX8_isJoined (some .boolean) 2 RX8 wsX8_isJoined (dC, dI) (TY cyB cyC cyI cyJ cyZ) p s m ([.ref aT, .int p1] : List Value).toArray meth c := ⟨B.exec, B.bytes, B.returns, hml, findClass_of_methodNamed B.named, atoms_spec (ws := wsX8_isJoined) B.pre, B.notSynchronized, hK, hN⟩
  have hl := lv_entry ([.ref aT, .int p1]) (n := 2) (Nat.le_of_ble_eq_true rfl)
  rw [lg_entry_eq]
  exact k_X8_isJoined_0 (aTk := aTk) (aTs := aTs) (aTt := aTt) CX hP n _ hf _ hl
abbrev rm_X8_whatSays : Room := { frames := 0, cells := 0, slots := 0, locals := 0 }
theorem i_X8_whatSays_X8 : ∀ w ∈ u_ws RX8 TX8 5, w ∈ wsX8_whatSays := fun _ h => (List.mem_cons_of_mem _ (List.mem_append_right _ h))
def J_X8_whatSays_0 (p : Program) (l : Launch) (e : Env) (s : State) (m : MethodId) (args : Array Value) (below : List Frame) (meth : Method) (c : Code) (dC : Nat → ClassId) (dI : Nat → Nat → Nat) (cyB cyC cyI cyJ cyZ : ClassId) (aT aTk aTj aTs aTt : Nat) (T_count : Int32) (Ts : Nat → Int64) (out : Int64) (g : Int32 → Option (Int64)) : Prop := ∀ (x1 : Int32), g x1 = some out → ∀ ls : Array Slot, lv_has ls 2 [(0, .ref aT), (1, .int x1)] → W p l e rm_X8_whatSays s m args below meth c s.heap [] 0 0 (MQ below (vp_Sl (fun r => r = out)) args s 0 0 (fun _ => False)) (F0 m 0 ls [])
def f_X8_whatSays_0 (n : Nat) (T_count : Int32) (Ts : Nat → Int64) (x1 : Int32) : Option (Int64) :=
  gu (gd x1 8192) (
  some (Ts (x1).toNatClampNeg))
set_option maxHeartbeats 4000000 in
set_option maxRecDepth 100000 in
theorem k_X8_whatSays_0 {p : Program} {l : Launch} {e : Env} {s : State} {m : MethodId} {args : Array Value} {below : List Frame} {meth : Method} {c : Code} {dC : Nat → ClassId} {dI : Nat → Nat → Nat} {cyB cyC cyI cyJ cyZ : ClassId} {aT aTk aTj aTs aTt : Nat} {T_count : Int32} {Ts : Nat → Int64} {out : Int64} (CX : cx cX8_whatSays (some .long) 2 RX8 wsX8_whatSays (dC, dI) (TY cyB cyC cyI cyJ cyZ) p s m args meth c) (hP : va_P (dC, dI) vwCl [(aT, .inr (8, [.ref aTk, .ref aTj, .ref aTs, .ref aTt, .int T_count])), (aTs, .inl (cyJ, 8192, .inr (.inl Ts)))] s.heap) (n : Nat) : J_X8_whatSays_0 p l e s m args below meth c dC dI cyB cyC cyI cyJ cyZ aT aTk aTj aTs aTt T_count Ts out (f_X8_whatSays_0 n T_count Ts) := by
  intro x1 hf ls hl
  obtain ⟨hx, hb, hr, hml, hown, hts, hlocks, hK, hN⟩ := id CX
  unfold f_X8_whatSays_0 at hf
  refine lv_aload_n hx hb dX8_whatSays_0 rfl (lv_at hl 0 rfl) ?_
  refine va_get (D := (dC, dI)) (ci := 8) (v := .ref aTs) (C := RX8) (T := TX8) (N := 5) hx hb hts i_X8_whatSays_X8 hown hK hP 0 rfl rfl 2 (by decide) (hts (.fieldLink RX8 19 "TokenRow$Store" "says" "[J") (List.mem_of_getElem? (i := 1) rfl)) (fun _ h9 => h9) rfl dX8_whatSays_1 ?_
  refine lv_iload_n hx hb dX8_whatSays_4 rfl (lv_at hl 1 rfl) ?_
  obtain ⟨hg, hf⟩ := gu_ok hf
  refine va_lald hx hb hK hP 1 3 rfl rfl (gd_in hg) dX8_whatSays_5 ?_
  exact W.lret (v := Ts (x1).toNatClampNeg) hx hb hr (fun t ht hW => ⟨_, rfl, Option.some.inj hf, ht⟩) (fun _ h => nomatch h) dX8_whatSays_6
def f_X8_whatSays (n : Nat) (p1 : Int32) (T_count : Int32) (Ts : Nat → Int64) : Option (Int64) := f_X8_whatSays_0 n T_count Ts p1
set_option maxHeartbeats 4000000 in
set_option maxRecDepth 100000 in
/-- TokenRow$Store.whatSays(I)J -/
theorem m_X8_whatSays (l : Launch) (dC : Nat → ClassId) (dI : Nat → Nat → Nat) (cyB cyC cyI cyJ cyZ : ClassId) (aT aTk aTj aTs aTt : Nat) (p1 : Int32) (T_count : Int32) (Ts : Nat → Int64) (n : Nat) (out : Int64) (hf : f_X8_whatSays n p1 T_count Ts = some out) : Met l yX8_whatSays wsX8_whatSays rm_X8_whatSays (Pro (dC, dI) (TY cyB cyC cyI cyJ cyZ) [.ref aT, .int p1] [(aT, .inr (8, [.ref aTk, .ref aTj, .ref aTs, .ref aTt, .int T_count])), (aTs, .inl (cyJ, 8192, .inr (.inl Ts)))]) (vp_Sl (fun r => r = out)) 0 0 (fun _ => False) := by
  refine Met.ofW (cc := cX8_whatSays) (maxL := 2) (ret := (some .long)) (by decide) rfl ?_
  intro p e s m args below meth c s₁ B hml hv
  obtain ⟨rfl, hP, hK, hN⟩ := hv
  have CX : cx cX8_whatSays (some .long) 2 RX8 wsX8_whatSays (dC, dI) (TY cyB cyC cyI cyJ cyZ) p s m ([.ref aT, .int p1] : List Value).toArray meth c := ⟨B.exec, B.bytes, B.returns, hml, findClass_of_methodNamed B.named, atoms_spec (ws := wsX8_whatSays) B.pre, B.notSynchronized, hK, hN⟩
  have hl := lv_entry ([.ref aT, .int p1]) (n := 2) (Nat.le_of_ble_eq_true rfl)
  rw [lg_entry_eq]
  exact k_X8_whatSays_0 (aTk := aTk) (aTj := aTj) (aTt := aTt) CX hP n _ hf _ hl
abbrev rm_X8_startOf : Room := { frames := 0, cells := 0, slots := 0, locals := 0 }
theorem i_X8_startOf_X8 : ∀ w ∈ u_ws RX8 TX8 5, w ∈ wsX8_startOf := fun _ h => (List.mem_cons_of_mem _ (List.mem_append_right _ h))
def J_X8_startOf_0 (p : Program) (l : Launch) (e : Env) (s : State) (m : MethodId) (args : Array Value) (below : List Frame) (meth : Method) (c : Code) (dC : Nat → ClassId) (dI : Nat → Nat → Nat) (cyB cyC cyI cyJ cyZ : ClassId) (aT aTk aTj aTs aTt : Nat) (T_count : Int32) (Tt : Nat → Int32) (out : Int32) (g : Int32 → Option (Int32)) : Prop := ∀ (x1 : Int32), g x1 = some out → ∀ ls : Array Slot, lv_has ls 2 [(0, .ref aT), (1, .int x1)] → W p l e rm_X8_startOf s m args below meth c s.heap [] 0 0 (MQ below (vp_Si (fun r => r = out)) args s 0 0 (fun _ => False)) (F0 m 0 ls [])
def f_X8_startOf_0 (n : Nat) (T_count : Int32) (Tt : Nat → Int32) (x1 : Int32) : Option (Int32) :=
  gu (gd x1 8192) (
  some (Tt (x1).toNatClampNeg))
set_option maxHeartbeats 4000000 in
set_option maxRecDepth 100000 in
theorem k_X8_startOf_0 {p : Program} {l : Launch} {e : Env} {s : State} {m : MethodId} {args : Array Value} {below : List Frame} {meth : Method} {c : Code} {dC : Nat → ClassId} {dI : Nat → Nat → Nat} {cyB cyC cyI cyJ cyZ : ClassId} {aT aTk aTj aTs aTt : Nat} {T_count : Int32} {Tt : Nat → Int32} {out : Int32} (CX : cx cX8_startOf (some .int) 2 RX8 wsX8_startOf (dC, dI) (TY cyB cyC cyI cyJ cyZ) p s m args meth c) (hP : va_P (dC, dI) vwCl [(aT, .inr (8, [.ref aTk, .ref aTj, .ref aTs, .ref aTt, .int T_count])), (aTt, .inl (cyI, 8192, .inl Tt))] s.heap) (n : Nat) : J_X8_startOf_0 p l e s m args below meth c dC dI cyB cyC cyI cyJ cyZ aT aTk aTj aTs aTt T_count Tt out (f_X8_startOf_0 n T_count Tt) := by
  intro x1 hf ls hl
  obtain ⟨hx, hb, hr, hml, hown, hts, hlocks, hK, hN⟩ := id CX
  unfold f_X8_startOf_0 at hf
  refine lv_aload_n hx hb dX8_startOf_0 rfl (lv_at hl 0 rfl) ?_
  refine va_get (D := (dC, dI)) (ci := 8) (v := .ref aTt) (C := RX8) (T := TX8) (N := 5) hx hb hts i_X8_startOf_X8 hown hK hP 0 rfl rfl 3 (by decide) (hts (.fieldLink RX8 23 "TokenRow$Store" "starts" "[I") (List.mem_of_getElem? (i := 1) rfl)) (fun _ h9 => h9) rfl dX8_startOf_1 ?_
  refine lv_iload_n hx hb dX8_startOf_4 rfl (lv_at hl 1 rfl) ?_
  obtain ⟨hg, hf⟩ := gu_ok hf
  refine va_iald hx hb hK hP 1 2 rfl rfl (gd_in hg) dX8_startOf_5 ?_
  exact W.iret (v := Tt (x1).toNatClampNeg) hx hb hr (fun t ht hW => ⟨_, rfl, Option.some.inj hf, ht⟩) (fun _ h => nomatch h) dX8_startOf_6
def f_X8_startOf (n : Nat) (p1 : Int32) (T_count : Int32) (Tt : Nat → Int32) : Option (Int32) := f_X8_startOf_0 n T_count Tt p1
set_option maxHeartbeats 4000000 in
set_option maxRecDepth 100000 in
/-- TokenRow$Store.startOf(I)I -/
theorem m_X8_startOf (l : Launch) (dC : Nat → ClassId) (dI : Nat → Nat → Nat) (cyB cyC cyI cyJ cyZ : ClassId) (aT aTk aTj aTs aTt : Nat) (p1 : Int32) (T_count : Int32) (Tt : Nat → Int32) (n : Nat) (out : Int32) (hf : f_X8_startOf n p1 T_count Tt = some out) : Met l yX8_startOf wsX8_startOf rm_X8_startOf (Pro (dC, dI) (TY cyB cyC cyI cyJ cyZ) [.ref aT, .int p1] [(aT, .inr (8, [.ref aTk, .ref aTj, .ref aTs, .ref aTt, .int T_count])), (aTt, .inl (cyI, 8192, .inl Tt))]) (vp_Si (fun r => r = out)) 0 0 (fun _ => False) := by
  refine Met.ofW (cc := cX8_startOf) (maxL := 2) (ret := (some .int)) (by decide) rfl ?_
  intro p e s m args below meth c s₁ B hml hv
  obtain ⟨rfl, hP, hK, hN⟩ := hv
  have CX : cx cX8_startOf (some .int) 2 RX8 wsX8_startOf (dC, dI) (TY cyB cyC cyI cyJ cyZ) p s m ([.ref aT, .int p1] : List Value).toArray meth c := ⟨B.exec, B.bytes, B.returns, hml, findClass_of_methodNamed B.named, atoms_spec (ws := wsX8_startOf) B.pre, B.notSynchronized, hK, hN⟩
  have hl := lv_entry ([.ref aT, .int p1]) (n := 2) (Nat.le_of_ble_eq_true rfl)
  rw [lg_entry_eq]
  exact k_X8_startOf_0 (aTk := aTk) (aTj := aTj) (aTs := aTs) CX hP n _ hf _ hl
abbrev rm_X8_isSpelled : Room := { frames := 0, cells := 0, slots := 0, locals := 0 }
theorem i_X8_isSpelled_X8 : ∀ w ∈ u_ws RX8 TX8 5, w ∈ wsX8_isSpelled := fun _ h => (List.mem_cons_of_mem _ (List.mem_append_right _ h))
def J_X8_isSpelled_0 (p : Program) (l : Launch) (e : Env) (s : State) (m : MethodId) (args : Array Value) (below : List Frame) (meth : Method) (c : Code) (dC : Nat → ClassId) (dI : Nat → Nat → Nat) (cyB cyC cyI cyJ cyZ : ClassId) (aT aTk aTj aTs aTt : Nat) (T_count : Int32) (Tk : Nat → Int32) (out : Int32) (g : Int32 → Option (Int32)) : Prop := ∀ (x1 : Int32), g x1 = some out → ∀ ls : Array Slot, lv_has ls 2 [(0, .ref aT), (1, .int x1)] → W p l e rm_X8_isSpelled s m args below meth c s.heap [] 0 0 (MQ below (vp_Si (fun r => r = out)) args s 0 0 (fun _ => False)) (F0 m 0 ls [])
def f_X8_isSpelled_0 (n : Nat) (T_count : Int32) (Tk : Nat → Int32) (x1 : Int32) : Option (Int32) :=
  gu (gd x1 8192) (
  if (Tk (x1).toNatClampNeg) ≤ (60 : Int32) then
  (some (1 : Int32))
  else
  (gu (gd x1 8192) (
  if (Tk (x1).toNatClampNeg) = (66 : Int32) then
  (some (1 : Int32))
  else
  (some (0 : Int32)))))
set_option maxHeartbeats 4000000 in
set_option maxRecDepth 100000 in
theorem k_X8_isSpelled_0 {p : Program} {l : Launch} {e : Env} {s : State} {m : MethodId} {args : Array Value} {below : List Frame} {meth : Method} {c : Code} {dC : Nat → ClassId} {dI : Nat → Nat → Nat} {cyB cyC cyI cyJ cyZ : ClassId} {aT aTk aTj aTs aTt : Nat} {T_count : Int32} {Tk : Nat → Int32} {out : Int32} (CX : cx cX8_isSpelled (some .boolean) 2 RX8 wsX8_isSpelled (dC, dI) (TY cyB cyC cyI cyJ cyZ) p s m args meth c) (hP : va_P (dC, dI) vwCl [(aT, .inr (8, [.ref aTk, .ref aTj, .ref aTs, .ref aTt, .int T_count])), (aTk, .inl (cyI, 8192, .inl Tk))] s.heap) (n : Nat) : J_X8_isSpelled_0 p l e s m args below meth c dC dI cyB cyC cyI cyJ cyZ aT aTk aTj aTs aTt T_count Tk out (f_X8_isSpelled_0 n T_count Tk) := by
  intro x1 hf ls hl
  obtain ⟨hx, hb, hr, hml, hown, hts, hlocks, hK, hN⟩ := id CX
  unfold f_X8_isSpelled_0 at hf
  refine lv_aload_n hx hb dX8_isSpelled_0 rfl (lv_at hl 0 rfl) ?_
  refine va_get (D := (dC, dI)) (ci := 8) (v := .ref aTk) (C := RX8) (T := TX8) (N := 5) hx hb hts i_X8_isSpelled_X8 hown hK hP 0 rfl rfl 0 (by decide) (hts (.fieldLink RX8 9 "TokenRow$Store" "kinds" "[I") (List.mem_of_getElem? (i := 1) rfl)) (fun _ h9 => h9) rfl dX8_isSpelled_1 ?_
  refine lv_iload_n hx hb dX8_isSpelled_4 rfl (lv_at hl 1 rfl) ?_
  obtain ⟨hg, hf⟩ := gu_ok hf
  refine va_iald hx hb hK hP 1 2 rfl rfl (gd_in hg) dX8_isSpelled_5 ?_
  refine lv_bipush (v := (60 : Int32)) hx hb dX8_isSpelled_6 (by decide) ?_
  refine lv_icmp_le (tgt := 22) hx hb dX8_isSpelled_8 (by decide) (fun hc => ?_) (fun hc => ?_)
  · have hf := (if_pos hc).symm.trans hf
    refine lv_iconst (v := (1 : Int32)) hx hb dX8_isSpelled_22 (by decide) ?_
    refine lv_goto (tgt := 27) hx hb dX8_isSpelled_23 (by decide) ?_
    exact W.zret (v := (1 : Int32)) (ty := .boolean) hx hb hr rfl (fun t ht hW => ⟨_, rfl, Option.some.inj hf, ht⟩) (fun _ h => nomatch h) dX8_isSpelled_27
  · have hf := (if_neg hc).symm.trans hf
    refine lv_aload_n hx hb dX8_isSpelled_11 rfl (lv_at hl 0 rfl) ?_
    refine va_get (D := (dC, dI)) (ci := 8) (v := .ref aTk) (C := RX8) (T := TX8) (N := 5) hx hb hts i_X8_isSpelled_X8 hown hK hP 0 rfl rfl 0 (by decide) (hts (.fieldLink RX8 9 "TokenRow$Store" "kinds" "[I") (List.mem_of_getElem? (i := 1) rfl)) (fun _ h9 => h9) rfl dX8_isSpelled_12 ?_
    refine lv_iload_n hx hb dX8_isSpelled_15 rfl (lv_at hl 1 rfl) ?_
    obtain ⟨hg, hf⟩ := gu_ok hf
    refine va_iald hx hb hK hP 1 2 rfl rfl (gd_in hg) dX8_isSpelled_16 ?_
    refine lv_bipush (v := (66 : Int32)) hx hb dX8_isSpelled_17 (by decide) ?_
    refine lv_icmp_ne (tgt := 26) hx hb dX8_isSpelled_19 (by decide) (fun hc => ?_) (fun hc => ?_)
    · have hf := (if_neg hc).symm.trans hf
      refine lv_iconst (v := (0 : Int32)) hx hb dX8_isSpelled_26 (by decide) ?_
      exact W.zret (v := (0 : Int32)) (ty := .boolean) hx hb hr rfl (fun t ht hW => ⟨_, rfl, Option.some.inj hf, ht⟩) (fun _ h => nomatch h) dX8_isSpelled_27
    · have hf := (if_pos hc).symm.trans hf
      refine lv_iconst (v := (1 : Int32)) hx hb dX8_isSpelled_22 (by decide) ?_
      refine lv_goto (tgt := 27) hx hb dX8_isSpelled_23 (by decide) ?_
      exact W.zret (v := (1 : Int32)) (ty := .boolean) hx hb hr rfl (fun t ht hW => ⟨_, rfl, Option.some.inj hf, ht⟩) (fun _ h => nomatch h) dX8_isSpelled_27
def f_X8_isSpelled (n : Nat) (p1 : Int32) (T_count : Int32) (Tk : Nat → Int32) : Option (Int32) := f_X8_isSpelled_0 n T_count Tk p1
set_option maxHeartbeats 4000000 in
set_option maxRecDepth 100000 in
/-- TokenRow$Store.isSpelled(I)Z -/
theorem m_X8_isSpelled (l : Launch) (dC : Nat → ClassId) (dI : Nat → Nat → Nat) (cyB cyC cyI cyJ cyZ : ClassId) (aT aTk aTj aTs aTt : Nat) (p1 : Int32) (T_count : Int32) (Tk : Nat → Int32) (n : Nat) (out : Int32) (hf : f_X8_isSpelled n p1 T_count Tk = some out) : Met l yX8_isSpelled wsX8_isSpelled rm_X8_isSpelled (Pro (dC, dI) (TY cyB cyC cyI cyJ cyZ) [.ref aT, .int p1] [(aT, .inr (8, [.ref aTk, .ref aTj, .ref aTs, .ref aTt, .int T_count])), (aTk, .inl (cyI, 8192, .inl Tk))]) (vp_Si (fun r => r = out)) 0 0 (fun _ => False) := by
  refine Met.ofW (cc := cX8_isSpelled) (maxL := 2) (ret := (some .boolean)) (by decide) rfl ?_
  intro p e s m args below meth c s₁ B hml hv
  obtain ⟨rfl, hP, hK, hN⟩ := hv
  have CX : cx cX8_isSpelled (some .boolean) 2 RX8 wsX8_isSpelled (dC, dI) (TY cyB cyC cyI cyJ cyZ) p s m ([.ref aT, .int p1] : List Value).toArray meth c := ⟨B.exec, B.bytes, B.returns, hml, findClass_of_methodNamed B.named, atoms_spec (ws := wsX8_isSpelled) B.pre, B.notSynchronized, hK, hN⟩
  have hl := lv_entry ([.ref aT, .int p1]) (n := 2) (Nat.le_of_ble_eq_true rfl)
  rw [lg_entry_eq]
  exact k_X8_isSpelled_0 (aTj := aTj) (aTs := aTs) (aTt := aTt) CX hP n _ hf _ hl
abbrev rm_X8_lengthOf : Room := { frames := 1, cells := 0, slots := 0, locals := 21 }
theorem i_X8_lengthOf_X8 : ∀ w ∈ u_ws RX8 TX8 5, w ∈ wsX8_lengthOf := fun _ h => (List.mem_cons_of_mem _ (List.mem_append_right _ h))
def J_X8_lengthOf_0 (p : Program) (l : Launch) (e : Env) (s : State) (m : MethodId) (args : Array Value) (below : List Frame) (meth : Method) (c : Code) (dC : Nat → ClassId) (dI : Nat → Nat → Nat) (cyB cyC cyI cyJ cyZ : ClassId) (aT aTk aTj aTs aTt : Nat) (T_count : Int32) (Tk : Nat → Int32) (Ts : Nat → Int64) (out : Int32) (g : Int32 → Option (Int32)) : Prop := ∀ (x1 : Int32), g x1 = some out → ∀ ls : Array Slot, lv_has ls 2 [(0, .ref aT), (1, .int x1)] → W p l e rm_X8_lengthOf s m args below meth c s.heap [] 0 0 (MQ below (vp_Si (fun r => r = out)) args s 0 0 (fun _ => False)) (F0 m 0 ls [])
def f_X8_lengthOf_0 (n : Nat) (T_count : Int32) (Tk : Nat → Int32) (Ts : Nat → Int64) (x1 : Int32) : Option (Int32) :=
  bd (f_X8_isSpelled n x1 T_count Tk) fun o1 =>
  if o1 = 0 then
  (some (0 : Int32))
  else
  (gu (gd x1 8192) (
  some ((Ts (x1).toNatClampNeg).toInt32)))
set_option maxHeartbeats 4000000 in
set_option maxRecDepth 100000 in
theorem k_X8_lengthOf_0 {p : Program} {l : Launch} {e : Env} {s : State} {m : MethodId} {args : Array Value} {below : List Frame} {meth : Method} {c : Code} {dC : Nat → ClassId} {dI : Nat → Nat → Nat} {cyB cyC cyI cyJ cyZ : ClassId} {aT aTk aTj aTs aTt : Nat} {T_count : Int32} {Tk : Nat → Int32} {Ts : Nat → Int64} {out : Int32} (CX : cx cX8_lengthOf (some .int) 2 RX8 wsX8_lengthOf (dC, dI) (TY cyB cyC cyI cyJ cyZ) p s m args meth c) (hP : va_P (dC, dI) vwCl [(aT, .inr (8, [.ref aTk, .ref aTj, .ref aTs, .ref aTt, .int T_count])), (aTk, .inl (cyI, 8192, .inl Tk)), (aTs, .inl (cyJ, 8192, .inr (.inl Ts)))] s.heap) (n : Nat) : J_X8_lengthOf_0 p l e s m args below meth c dC dI cyB cyC cyI cyJ cyZ aT aTk aTj aTs aTt T_count Tk Ts out (f_X8_lengthOf_0 n T_count Tk Ts) := by
  intro x1 hf ls hl
  obtain ⟨hx, hb, hr, hml, hown, hts, hlocks, hK, hN⟩ := id CX
  unfold f_X8_lengthOf_0 at hf
  refine lv_aload_n hx hb dX8_lengthOf_0 rfl (lv_at hl 0 rfl) ?_
  refine lv_iload_n hx hb dX8_lengthOf_1 rfl (lv_at hl 1 rfl) ?_
  obtain ⟨z1, hz1, hf⟩ := bd_ok hf
  have hPc := hP.sub (ws' := [(aT, .inr (8, [.ref aTk, .ref aTj, .ref aTs, .ref aTt, .int T_count])), (aTk, .inl (cyI, 8192, .inl Tk))]) [0, 1] rfl
  refine vp_callSi (va_Run.run (va_runV (As := [.int x1]) (rest := []) ⟨hx, hb, hml, hown, hts⟩ (m_X8_isSpelled l dC dI cyB cyC cyI cyJ cyZ aT aTk aTj aTs aTt  x1 T_count Tk n z1 hz1) (cwV 1 hts gX8_lengthOf_X8_isSpelled rfl rfl rfl (by decide +kernel) ⟨Nat.le_of_ble_eq_true rfl, Nat.le_of_ble_eq_true rfl⟩) (proV (va_recv hK hP (ci := 8) (q0 := 0) rfl rfl) hPc hK hN) rfl rfl hl.1 rfl (lv_room (Nat.le_of_ble_eq_true rfl)) dX8_lengthOf_2 ⟨Nat.le_of_ble_eq_true rfl, Nat.le_of_ble_eq_true rfl⟩)) (fun o1 hr9 => ?_)
  subst hr9
  refine lv_if_eq (tgt := 18) hx hb dX8_lengthOf_5 (by decide) (fun hc => ?_) (fun hc => ?_)
  · have hf := (if_pos hc).symm.trans hf
    refine lv_iconst (v := (0 : Int32)) hx hb dX8_lengthOf_18 (by decide) ?_
    exact W.iret (v := (0 : Int32)) hx hb hr (fun t ht hW => ⟨_, rfl, Option.some.inj hf, ht⟩) (fun _ h => nomatch h) dX8_lengthOf_19
  · have hf := (if_neg hc).symm.trans hf
    refine lv_aload_n hx hb dX8_lengthOf_8 rfl (lv_at hl 0 rfl) ?_
    refine va_get (D := (dC, dI)) (ci := 8) (v := .ref aTs) (C := RX8) (T := TX8) (N := 5) hx hb hts i_X8_lengthOf_X8 hown hK hP 0 rfl rfl 2 (by decide) (hts (.fieldLink RX8 19 "TokenRow$Store" "says" "[J") (List.mem_of_getElem? (i := 1) rfl)) (fun _ h9 => h9) rfl dX8_lengthOf_9 ?_
    refine lv_iload_n hx hb dX8_lengthOf_12 rfl (lv_at hl 1 rfl) ?_
    obtain ⟨hg, hf⟩ := gu_ok hf
    refine va_lald hx hb hK hP 2 3 rfl rfl (gd_in hg) dX8_lengthOf_13 ?_
    refine lv_l2i (v := (Ts (x1).toNatClampNeg).toInt32) hx hb dX8_lengthOf_14 rfl ?_
    refine lv_goto (tgt := 19) hx hb dX8_lengthOf_15 (by decide) ?_
    exact W.iret (v := (Ts (x1).toNatClampNeg).toInt32) hx hb hr (fun t ht hW => ⟨_, rfl, Option.some.inj hf, ht⟩) (fun _ h => nomatch h) dX8_lengthOf_19
def f_X8_lengthOf (n : Nat) (p1 : Int32) (T_count : Int32) (Tk : Nat → Int32) (Ts : Nat → Int64) : Option (Int32) := f_X8_lengthOf_0 n T_count Tk Ts p1
set_option maxHeartbeats 4000000 in
set_option maxRecDepth 100000 in
/-- TokenRow$Store.lengthOf(I)I -/
theorem m_X8_lengthOf (l : Launch) (dC : Nat → ClassId) (dI : Nat → Nat → Nat) (cyB cyC cyI cyJ cyZ : ClassId) (aT aTk aTj aTs aTt : Nat) (p1 : Int32) (T_count : Int32) (Tk : Nat → Int32) (Ts : Nat → Int64) (n : Nat) (out : Int32) (hf : f_X8_lengthOf n p1 T_count Tk Ts = some out) : Met l yX8_lengthOf wsX8_lengthOf rm_X8_lengthOf (Pro (dC, dI) (TY cyB cyC cyI cyJ cyZ) [.ref aT, .int p1] [(aT, .inr (8, [.ref aTk, .ref aTj, .ref aTs, .ref aTt, .int T_count])), (aTk, .inl (cyI, 8192, .inl Tk)), (aTs, .inl (cyJ, 8192, .inr (.inl Ts)))]) (vp_Si (fun r => r = out)) 0 0 (fun _ => False) := by
  refine Met.ofW (cc := cX8_lengthOf) (maxL := 2) (ret := (some .int)) (by decide) rfl ?_
  intro p e s m args below meth c s₁ B hml hv
  obtain ⟨rfl, hP, hK, hN⟩ := hv
  have CX : cx cX8_lengthOf (some .int) 2 RX8 wsX8_lengthOf (dC, dI) (TY cyB cyC cyI cyJ cyZ) p s m ([.ref aT, .int p1] : List Value).toArray meth c := ⟨B.exec, B.bytes, B.returns, hml, findClass_of_methodNamed B.named, atoms_spec (ws := wsX8_lengthOf) B.pre, B.notSynchronized, hK, hN⟩
  have hl := lv_entry ([.ref aT, .int p1]) (n := 2) (Nat.le_of_ble_eq_true rfl)
  rw [lg_entry_eq]
  exact k_X8_lengthOf_0 (aTj := aTj) (aTt := aTt) CX hP n _ hf _ hl
abbrev rm_X7_lengthOf : Room := { frames := 0, cells := 0, slots := 0, locals := 0 }
theorem i_X7_lengthOf_X7 : ∀ w ∈ u_ws RX7 TX7 3, w ∈ wsX7_lengthOf := fun _ h => (List.mem_cons_of_mem _ (List.mem_append_right _ h))
def J_X7_lengthOf_0 (p : Program) (l : Launch) (e : Env) (s : State) (m : MethodId) (args : Array Value) (below : List Frame) (meth : Method) (c : Code) (dC : Nat → ClassId) (dI : Nat → Nat → Nat) (cyB cyC cyI cyJ cyZ : ClassId) (aP aPc aPs : Nat) (P_count : Int32) (Ps : Nat → Int32) (out : Int32) (g : Int32 → Option (Int32)) : Prop := ∀ (x1 : Int32), g x1 = some out → ∀ ls : Array Slot, lv_has ls 2 [(0, .ref aP), (1, .int x1)] → W p l e rm_X7_lengthOf s m args below meth c s.heap [] 0 0 (MQ below (vp_Si (fun r => r = out)) args s 0 0 (fun _ => False)) (F0 m 0 ls [])
def f_X7_lengthOf_0 (n : Nat) (P_count : Int32) (Ps : Nat → Int32) (x1 : Int32) : Option (Int32) :=
  gu (gd (x1 + (1 : Int32)) 65) (
  gu (gd x1 65) (
  some ((Ps (x1 + (1 : Int32)).toNatClampNeg) - (Ps (x1).toNatClampNeg))))
set_option maxHeartbeats 4000000 in
set_option maxRecDepth 100000 in
theorem k_X7_lengthOf_0 {p : Program} {l : Launch} {e : Env} {s : State} {m : MethodId} {args : Array Value} {below : List Frame} {meth : Method} {c : Code} {dC : Nat → ClassId} {dI : Nat → Nat → Nat} {cyB cyC cyI cyJ cyZ : ClassId} {aP aPc aPs : Nat} {P_count : Int32} {Ps : Nat → Int32} {out : Int32} (CX : cx cX7_lengthOf (some .int) 2 RX7 wsX7_lengthOf (dC, dI) (TY cyB cyC cyI cyJ cyZ) p s m args meth c) (hP : va_P (dC, dI) vwCl [(aP, .inr (7, [.ref aPc, .ref aPs, .int P_count])), (aPs, .inl (cyI, 65, .inl Ps))] s.heap) (n : Nat) : J_X7_lengthOf_0 p l e s m args below meth c dC dI cyB cyC cyI cyJ cyZ aP aPc aPs P_count Ps out (f_X7_lengthOf_0 n P_count Ps) := by
  intro x1 hf ls hl
  obtain ⟨hx, hb, hr, hml, hown, hts, hlocks, hK, hN⟩ := id CX
  unfold f_X7_lengthOf_0 at hf
  refine lv_aload_n hx hb dX7_lengthOf_0 rfl (lv_at hl 0 rfl) ?_
  refine va_get (D := (dC, dI)) (ci := 7) (v := .ref aPs) (C := RX7) (T := TX7) (N := 3) hx hb hts i_X7_lengthOf_X7 hown hK hP 0 rfl rfl 1 (by decide) (hts (.fieldLink RX7 15 "TokenRow$Spellings" "starts" "[I") (List.mem_of_getElem? (i := 1) rfl)) (fun _ h9 => h9) rfl dX7_lengthOf_1 ?_
  refine lv_iload_n hx hb dX7_lengthOf_4 rfl (lv_at hl 1 rfl) ?_
  refine lv_iconst (v := (1 : Int32)) hx hb dX7_lengthOf_5 (by decide) ?_
  refine lv_iadd hx hb dX7_lengthOf_6 ?_
  obtain ⟨hg, hf⟩ := gu_ok hf
  refine va_iald hx hb hK hP 1 2 rfl rfl (gd_in hg) dX7_lengthOf_7 ?_
  refine lv_aload_n hx hb dX7_lengthOf_8 rfl (lv_at hl 0 rfl) ?_
  refine va_get (D := (dC, dI)) (ci := 7) (v := .ref aPs) (C := RX7) (T := TX7) (N := 3) hx hb hts i_X7_lengthOf_X7 hown hK hP 0 rfl rfl 1 (by decide) (hts (.fieldLink RX7 15 "TokenRow$Spellings" "starts" "[I") (List.mem_of_getElem? (i := 1) rfl)) (fun _ h9 => h9) rfl dX7_lengthOf_9 ?_
  refine lv_iload_n hx hb dX7_lengthOf_12 rfl (lv_at hl 1 rfl) ?_
  obtain ⟨hg, hf⟩ := gu_ok hf
  refine va_iald hx hb hK hP 1 2 rfl rfl (gd_in hg) dX7_lengthOf_13 ?_
  refine lv_isub hx hb dX7_lengthOf_14 ?_
  exact W.iret (v := (Ps (x1 + (1 : Int32)).toNatClampNeg) - (Ps (x1).toNatClampNeg)) hx hb hr (fun t ht hW => ⟨_, rfl, Option.some.inj hf, ht⟩) (fun _ h => nomatch h) dX7_lengthOf_15
def f_X7_lengthOf (n : Nat) (p1 : Int32) (P_count : Int32) (Ps : Nat → Int32) : Option (Int32) := f_X7_lengthOf_0 n P_count Ps p1
set_option maxHeartbeats 4000000 in
set_option maxRecDepth 100000 in
/-- TokenRow$Spellings.lengthOf(I)I -/
theorem m_X7_lengthOf (l : Launch) (dC : Nat → ClassId) (dI : Nat → Nat → Nat) (cyB cyC cyI cyJ cyZ : ClassId) (aP aPc aPs : Nat) (p1 : Int32) (P_count : Int32) (Ps : Nat → Int32) (n : Nat) (out : Int32) (hf : f_X7_lengthOf n p1 P_count Ps = some out) : Met l yX7_lengthOf wsX7_lengthOf rm_X7_lengthOf (Pro (dC, dI) (TY cyB cyC cyI cyJ cyZ) [.ref aP, .int p1] [(aP, .inr (7, [.ref aPc, .ref aPs, .int P_count])), (aPs, .inl (cyI, 65, .inl Ps))]) (vp_Si (fun r => r = out)) 0 0 (fun _ => False) := by
  refine Met.ofW (cc := cX7_lengthOf) (maxL := 2) (ret := (some .int)) (by decide) rfl ?_
  intro p e s m args below meth c s₁ B hml hv
  obtain ⟨rfl, hP, hK, hN⟩ := hv
  have CX : cx cX7_lengthOf (some .int) 2 RX7 wsX7_lengthOf (dC, dI) (TY cyB cyC cyI cyJ cyZ) p s m ([.ref aP, .int p1] : List Value).toArray meth c := ⟨B.exec, B.bytes, B.returns, hml, findClass_of_methodNamed B.named, atoms_spec (ws := wsX7_lengthOf) B.pre, B.notSynchronized, hK, hN⟩
  have hl := lv_entry ([.ref aP, .int p1]) (n := 2) (Nat.le_of_ble_eq_true rfl)
  rw [lg_entry_eq]
  exact k_X7_lengthOf_0 (aPc := aPc) CX hP n _ hf _ hl
abbrev rm_X7_isThere : Room := { frames := 1, cells := 0, slots := 0, locals := 21 }
theorem i_X7_isThere_X6 : ∀ w ∈ u_ws RX6 TX6 3, w ∈ wsX7_isThere := fun _ h => (List.mem_cons_of_mem _ (List.mem_append_right _ h))
theorem i_X7_isThere_X7 : ∀ w ∈ u_ws RX7 TX7 3, w ∈ wsX7_isThere := fun _ h => (List.mem_cons_of_mem _ (List.mem_append_left _ (List.mem_append_right _ h)))
def J_X7_isThere_12 (p : Program) (l : Launch) (e : Env) (s : State) (m : MethodId) (args : Array Value) (below : List Frame) (meth : Method) (c : Code) (dC : Nat → ClassId) (dI : Nat → Nat → Nat) (cyB cyC cyI cyJ cyZ : ClassId) (aP aPc aPs aS aSc : Nat) (P_count : Int32) (Pc : Nat → Int32) (Ps : Nat → Int32) (S_count : Int32) (S_cutShort : Int32) (Sc : Nat → Int32) (out : Int32) (g : Int32 → Int32 → Int32 → Int32 → Option (Int32)) : Prop := ∀ (x1 : Int32) (x3 : Int32) (x4 : Int32) (x5 : Int32), g x1 x3 x4 x5 = some out → ∀ ls : Array Slot, lv_has ls 6 [(0, .ref aP), (1, .int x1), (2, .ref aS), (3, .int x3), (4, .int x4), (5, .int x5)] → W p l e rm_X7_isThere s m args below meth c s.heap [] 0 0 (MQ below (vp_Si (fun r => r = out)) args s 0 0 (fun _ => False)) (F0 m 12 ls [])
def J_X7_isThere_0 (p : Program) (l : Launch) (e : Env) (s : State) (m : MethodId) (args : Array Value) (below : List Frame) (meth : Method) (c : Code) (dC : Nat → ClassId) (dI : Nat → Nat → Nat) (cyB cyC cyI cyJ cyZ : ClassId) (aP aPc aPs aS aSc : Nat) (P_count : Int32) (Pc : Nat → Int32) (Ps : Nat → Int32) (S_count : Int32) (S_cutShort : Int32) (Sc : Nat → Int32) (out : Int32) (g : Int32 → Int32 → Option (Int32)) : Prop := ∀ (x1 : Int32) (x3 : Int32), g x1 x3 = some out → ∀ ls : Array Slot, lv_has ls 6 [(0, .ref aP), (1, .int x1), (2, .ref aS), (3, .int x3)] → W p l e rm_X7_isThere s m args below meth c s.heap [] 0 0 (MQ below (vp_Si (fun r => r = out)) args s 0 0 (fun _ => False)) (F0 m 0 ls [])
def fb_X7_isThere_12 (n : Nat) (r12 : Int32 → Int32 → Int32 → Int32 → Option (Int32)) (P_count : Int32) (Pc : Nat → Int32) (Ps : Nat → Int32) (S_count : Int32) (S_cutShort : Int32) (Sc : Nat → Int32) (x1 : Int32) (x3 : Int32) (x4 : Int32) (x5 : Int32) : Option (Int32) :=
  gu (gd (x1 + (1 : Int32)) 65) (
  if (Ps (x1 + (1 : Int32)).toNatClampNeg) ≤ x5 then
  (some (1 : Int32))
  else
  (bd (f_X6_look n ((x3 + x5) - x4) S_count S_cutShort Sc) fun o1 =>
  gu (gd x5 512) (
  if o1 = (Pc (x5).toNatClampNeg) then
  (lt_ (x5 + (1 : Int32)) fun y2 =>
  r12 x1 x3 x4 y2)
  else
  (some (0 : Int32)))))
set_option maxHeartbeats 4000000 in
set_option maxRecDepth 100000 in
theorem kb_X7_isThere_12 {p : Program} {l : Launch} {e : Env} {s : State} {m : MethodId} {args : Array Value} {below : List Frame} {meth : Method} {c : Code} {dC : Nat → ClassId} {dI : Nat → Nat → Nat} {cyB cyC cyI cyJ cyZ : ClassId} {aP aPc aPs aS aSc : Nat} {P_count : Int32} {Pc : Nat → Int32} {Ps : Nat → Int32} {S_count : Int32} {S_cutShort : Int32} {Sc : Nat → Int32} {out : Int32} (CX : cx cX7_isThere (some .boolean) 6 RX7 wsX7_isThere (dC, dI) (TY cyB cyC cyI cyJ cyZ) p s m args meth c) (hP : va_P (dC, dI) vwCl [(aP, .inr (7, [.ref aPc, .ref aPs, .int P_count])), (aPc, .inl (cyC, 512, .inl Pc)), (aPs, .inl (cyI, 65, .inl Ps)), (aS, .inr (6, [.ref aSc, .int S_count, .int S_cutShort])), (aSc, .inl (cyC, 81920, .inl Sc))] s.heap) (n : Nat) {r12 : Int32 → Int32 → Int32 → Int32 → Option (Int32)} (hr12 : J_X7_isThere_12 p l e s m args below meth c dC dI cyB cyC cyI cyJ cyZ aP aPc aPs aS aSc P_count Pc Ps S_count S_cutShort Sc out r12) : J_X7_isThere_12 p l e s m args below meth c dC dI cyB cyC cyI cyJ cyZ aP aPc aPs aS aSc P_count Pc Ps S_count S_cutShort Sc out (fb_X7_isThere_12 n r12 P_count Pc Ps S_count S_cutShort Sc) := by
  intro x1 x3 x4 x5 hf ls hl
  obtain ⟨hx, hb, hr, hml, hown, hts, hlocks, hK, hN⟩ := id CX
  unfold fb_X7_isThere_12 at hf
  refine lv_iload hx hb dX7_isThere_12 (lv_at hl 5 rfl) ?_
  refine lv_aload_n hx hb dX7_isThere_14 rfl (lv_at hl 0 rfl) ?_
  refine va_get (D := (dC, dI)) (ci := 7) (v := .ref aPs) (C := RX7) (T := TX7) (N := 3) hx hb hts i_X7_isThere_X7 hown hK hP 0 rfl rfl 1 (by decide) (hts (.fieldLink RX7 15 "TokenRow$Spellings" "starts" "[I") (List.mem_of_getElem? (i := 1) rfl)) (fun _ h9 => h9) rfl dX7_isThere_15 ?_
  refine lv_iload_n hx hb dX7_isThere_18 rfl (lv_at hl 1 rfl) ?_
  refine lv_iconst (v := (1 : Int32)) hx hb dX7_isThere_19 (by decide) ?_
  refine lv_iadd hx hb dX7_isThere_20 ?_
  obtain ⟨hg, hf⟩ := gu_ok hf
  refine va_iald hx hb hK hP 2 2 rfl rfl (gd_in hg) dX7_isThere_21 ?_
  refine lv_icmp_ge (tgt := 54) hx hb dX7_isThere_22 (by decide) (fun hc => ?_) (fun hc => ?_)
  · have hf := (if_pos hc).symm.trans hf
    refine lv_iconst (v := (1 : Int32)) hx hb dX7_isThere_54 (by decide) ?_
    exact W.zret (v := (1 : Int32)) (ty := .boolean) hx hb hr rfl (fun t ht hW => ⟨_, rfl, Option.some.inj hf, ht⟩) (fun _ h => nomatch h) dX7_isThere_55
  · have hf := (if_neg hc).symm.trans hf
    refine lv_aload_n hx hb dX7_isThere_25 rfl (lv_at hl 2 rfl) ?_
    refine lv_iload_n hx hb dX7_isThere_26 rfl (lv_at hl 3 rfl) ?_
    refine lv_iload hx hb dX7_isThere_27 (lv_at hl 5 rfl) ?_
    refine lv_iadd hx hb dX7_isThere_29 ?_
    refine lv_iload hx hb dX7_isThere_30 (lv_at hl 4 rfl) ?_
    refine lv_isub hx hb dX7_isThere_32 ?_
    obtain ⟨z1, hz1, hf⟩ := bd_ok hf
    have hPc := hP.sub (ws' := [(aS, .inr (6, [.ref aSc, .int S_count, .int S_cutShort])), (aSc, .inl (cyC, 81920, .inl Sc))]) [3, 4] rfl
    refine vp_callSi (va_Run.run (va_runV (As := [.int ((x3 + x5) - x4)]) (rest := []) ⟨hx, hb, hml, hown, hts⟩ (m_X6_look l dC dI cyB cyC cyI cyJ cyZ aS aSc  ((x3 + x5) - x4) S_count S_cutShort Sc n z1 hz1) (cwV 1 hts gX7_isThere_X6_look rfl rfl rfl (by decide +kernel) ⟨Nat.le_of_ble_eq_true rfl, Nat.le_of_ble_eq_true rfl⟩) (proV (va_recv hK hP (ci := 6) (q0 := 3) rfl rfl) hPc hK hN) rfl rfl hl.1 rfl (lv_room (Nat.le_of_ble_eq_true rfl)) dX7_isThere_33 ⟨Nat.le_of_ble_eq_true rfl, Nat.le_of_ble_eq_true rfl⟩)) (fun o1 hr9 => ?_)
    subst hr9
    refine lv_aload_n hx hb dX7_isThere_36 rfl (lv_at hl 0 rfl) ?_
    refine va_get (D := (dC, dI)) (ci := 7) (v := .ref aPc) (C := RX7) (T := TX7) (N := 3) hx hb hts i_X7_isThere_X7 hown hK hP 0 rfl rfl 0 (by decide) (hts (.fieldLink RX7 9 "TokenRow$Spellings" "characters" "[C") (List.mem_of_getElem? (i := 2) rfl)) (fun _ h9 => h9) rfl dX7_isThere_37 ?_
    refine lv_iload hx hb dX7_isThere_40 (lv_at hl 5 rfl) ?_
    obtain ⟨hg, hf⟩ := gu_ok hf
    refine va_cald hx hb hK hP 1 1 rfl rfl (gd_in hg) dX7_isThere_42 ?_
    refine lv_icmp_eq (tgt := 48) hx hb dX7_isThere_43 (by decide) (fun hc => ?_) (fun hc => ?_)
    · have hf := (if_pos hc).symm.trans hf
      obtain ⟨y2, ey2⟩ : ∃ y : Int32, y = x5 + (1 : Int32) := ⟨_, rfl⟩
      have hf := lt_ok hf y2 ey2
      refine lv_iinc (v := y2) (lv' := [(5, .int y2), (0, .ref aP), (1, .int x1), (2, .ref aS), (3, .int x3), (4, .int x4)]) hx hb dX7_isThere_48 hl (k := 5) rfl (by rw [ey2]; rfl) (by decide) rfl (fun ls hl => ?_)
      refine lv_goto (tgt := 12) hx hb dX7_isThere_51 (by decide) ?_
      exact hr12 _ _ _ _ hf ls (lv_sub hl [1, 2, 3, 4, 5, 0] rfl)
    · have hf := (if_neg hc).symm.trans hf
      refine lv_iconst (v := (0 : Int32)) hx hb dX7_isThere_46 (by decide) ?_
      exact W.zret (v := (0 : Int32)) (ty := .boolean) hx hb hr rfl (fun t ht hW => ⟨_, rfl, Option.some.inj hf, ht⟩) (fun _ h => nomatch h) dX7_isThere_47
def f_X7_isThere_12 (n : Nat) (P_count : Int32) (Pc : Nat → Int32) (Ps : Nat → Int32) (S_count : Int32) (S_cutShort : Int32) (Sc : Nat → Int32) : Nat → Int32 → Int32 → Int32 → Int32 → Option (Int32)
  | 0 => fun _ _ _ _ => none
  | k + 1 => fun x1 x3 x4 x5 => fb_X7_isThere_12 n (f_X7_isThere_12 n P_count Pc Ps S_count S_cutShort Sc k) P_count Pc Ps S_count S_cutShort Sc x1 x3 x4 x5
set_option maxHeartbeats 4000000 in
set_option maxRecDepth 100000 in
theorem k_X7_isThere_12 {p : Program} {l : Launch} {e : Env} {s : State} {m : MethodId} {args : Array Value} {below : List Frame} {meth : Method} {c : Code} {dC : Nat → ClassId} {dI : Nat → Nat → Nat} {cyB cyC cyI cyJ cyZ : ClassId} {aP aPc aPs aS aSc : Nat} {P_count : Int32} {Pc : Nat → Int32} {Ps : Nat → Int32} {S_count : Int32} {S_cutShort : Int32} {Sc : Nat → Int32} {out : Int32} (CX : cx cX7_isThere (some .boolean) 6 RX7 wsX7_isThere (dC, dI) (TY cyB cyC cyI cyJ cyZ) p s m args meth c) (hP : va_P (dC, dI) vwCl [(aP, .inr (7, [.ref aPc, .ref aPs, .int P_count])), (aPc, .inl (cyC, 512, .inl Pc)), (aPs, .inl (cyI, 65, .inl Ps)), (aS, .inr (6, [.ref aSc, .int S_count, .int S_cutShort])), (aSc, .inl (cyC, 81920, .inl Sc))] s.heap) (n : Nat) : ∀ k : Nat, J_X7_isThere_12 p l e s m args below meth c dC dI cyB cyC cyI cyJ cyZ aP aPc aPs aS aSc P_count Pc Ps S_count S_cutShort Sc out (f_X7_isThere_12 n P_count Pc Ps S_count S_cutShort Sc k) := by
  intro k
  induction k with
  | zero =>
    intro x1 x3 x4 x5 hf
    exact absurd (show (none : Option (Int32)) = some out from hf) (by simp)
  | succ k ih =>
    exact kb_X7_isThere_12 CX hP n ih
def f_X7_isThere_0 (n : Nat) (P_count : Int32) (Pc : Nat → Int32) (Ps : Nat → Int32) (S_count : Int32) (S_cutShort : Int32) (Sc : Nat → Int32) (x1 : Int32) (x3 : Int32) : Option (Int32) :=
  gu (gd x1 65) (
  lt_ (Ps (x1).toNatClampNeg) fun y1 =>
  f_X7_isThere_12 n P_count Pc Ps S_count S_cutShort Sc n x1 x3 y1 y1)
set_option maxHeartbeats 4000000 in
set_option maxRecDepth 100000 in
theorem k_X7_isThere_0 {p : Program} {l : Launch} {e : Env} {s : State} {m : MethodId} {args : Array Value} {below : List Frame} {meth : Method} {c : Code} {dC : Nat → ClassId} {dI : Nat → Nat → Nat} {cyB cyC cyI cyJ cyZ : ClassId} {aP aPc aPs aS aSc : Nat} {P_count : Int32} {Pc : Nat → Int32} {Ps : Nat → Int32} {S_count : Int32} {S_cutShort : Int32} {Sc : Nat → Int32} {out : Int32} (CX : cx cX7_isThere (some .boolean) 6 RX7 wsX7_isThere (dC, dI) (TY cyB cyC cyI cyJ cyZ) p s m args meth c) (hP : va_P (dC, dI) vwCl [(aP, .inr (7, [.ref aPc, .ref aPs, .int P_count])), (aPc, .inl (cyC, 512, .inl Pc)), (aPs, .inl (cyI, 65, .inl Ps)), (aS, .inr (6, [.ref aSc, .int S_count, .int S_cutShort])), (aSc, .inl (cyC, 81920, .inl Sc))] s.heap) (n : Nat) : J_X7_isThere_0 p l e s m args below meth c dC dI cyB cyC cyI cyJ cyZ aP aPc aPs aS aSc P_count Pc Ps S_count S_cutShort Sc out (f_X7_isThere_0 n P_count Pc Ps S_count S_cutShort Sc) := by
  intro x1 x3 hf ls hl
  obtain ⟨hx, hb, hr, hml, hown, hts, hlocks, hK, hN⟩ := id CX
  unfold f_X7_isThere_0 at hf
  refine lv_aload_n hx hb dX7_isThere_0 rfl (lv_at hl 0 rfl) ?_
  refine va_get (D := (dC, dI)) (ci := 7) (v := .ref aPs) (C := RX7) (T := TX7) (N := 3) hx hb hts i_X7_isThere_X7 hown hK hP 0 rfl rfl 1 (by decide) (hts (.fieldLink RX7 15 "TokenRow$Spellings" "starts" "[I") (List.mem_of_getElem? (i := 1) rfl)) (fun _ h9 => h9) rfl dX7_isThere_1 ?_
  refine lv_iload_n hx hb dX7_isThere_4 rfl (lv_at hl 1 rfl) ?_
  obtain ⟨hg, hf⟩ := gu_ok hf
  refine va_iald hx hb hK hP 2 2 rfl rfl (gd_in hg) dX7_isThere_5 ?_
  refine lv_topi (fun y1 ey1 => ?_)
  have hf := lt_ok hf y1 ey1
  refine lv_istore (lv' := [(4, .int y1), (0, .ref aP), (1, .int x1), (2, .ref aS), (3, .int x3)]) hx hb dX7_isThere_6 hl (by decide) rfl (fun ls hl => ?_)
  refine lv_iload hx hb dX7_isThere_8 (lv_at hl 0 rfl) ?_
  refine lv_istore (lv' := [(5, .int y1), (4, .int y1), (0, .ref aP), (1, .int x1), (2, .ref aS), (3, .int x3)]) hx hb dX7_isThere_10 hl (by decide) rfl (fun ls hl => ?_)
  exact k_X7_isThere_12 CX hP n n _ _ _ _ hf ls (lv_sub hl [2, 3, 4, 5, 1, 0] rfl)
def f_X7_isThere (n : Nat) (p1 : Int32) (p3 : Int32) (P_count : Int32) (Pc : Nat → Int32) (Ps : Nat → Int32) (S_count : Int32) (S_cutShort : Int32) (Sc : Nat → Int32) : Option (Int32) := f_X7_isThere_0 n P_count Pc Ps S_count S_cutShort Sc p1 p3
set_option maxHeartbeats 4000000 in
set_option maxRecDepth 100000 in
/-- TokenRow$Spellings.isThere(ILTokenRow$Source;I)Z -/
theorem m_X7_isThere (l : Launch) (dC : Nat → ClassId) (dI : Nat → Nat → Nat) (cyB cyC cyI cyJ cyZ : ClassId) (aP aPc aPs aS aSc : Nat) (p1 : Int32) (p3 : Int32) (P_count : Int32) (Pc : Nat → Int32) (Ps : Nat → Int32) (S_count : Int32) (S_cutShort : Int32) (Sc : Nat → Int32) (n : Nat) (out : Int32) (hf : f_X7_isThere n p1 p3 P_count Pc Ps S_count S_cutShort Sc = some out) : Met l yX7_isThere wsX7_isThere rm_X7_isThere (Pro (dC, dI) (TY cyB cyC cyI cyJ cyZ) [.ref aP, .int p1, .ref aS, .int p3] [(aP, .inr (7, [.ref aPc, .ref aPs, .int P_count])), (aPc, .inl (cyC, 512, .inl Pc)), (aPs, .inl (cyI, 65, .inl Ps)), (aS, .inr (6, [.ref aSc, .int S_count, .int S_cutShort])), (aSc, .inl (cyC, 81920, .inl Sc))]) (vp_Si (fun r => r = out)) 0 0 (fun _ => False) := by
  refine Met.ofW (cc := cX7_isThere) (maxL := 6) (ret := (some .boolean)) (by decide) rfl ?_
  intro p e s m args below meth c s₁ B hml hv
  obtain ⟨rfl, hP, hK, hN⟩ := hv
  have CX : cx cX7_isThere (some .boolean) 6 RX7 wsX7_isThere (dC, dI) (TY cyB cyC cyI cyJ cyZ) p s m ([.ref aP, .int p1, .ref aS, .int p3] : List Value).toArray meth c := ⟨B.exec, B.bytes, B.returns, hml, findClass_of_methodNamed B.named, atoms_spec (ws := wsX7_isThere) B.pre, B.notSynchronized, hK, hN⟩
  have hl := lv_entry ([.ref aP, .int p1, .ref aS, .int p3]) (n := 6) (Nat.le_of_ble_eq_true rfl)
  rw [lg_entry_eq]
  exact k_X7_isThere_0 CX hP n _ _ hf _ hl
abbrev rm_X7_longest : Room := { frames := 2, cells := 0, slots := 0, locals := 46 }
theorem i_X7_longest_X6 : ∀ w ∈ u_ws RX6 TX6 3, w ∈ wsX7_longest := fun _ h => (List.mem_cons_of_mem _ (List.mem_append_right _ h))
theorem i_X7_longest_X7 : ∀ w ∈ u_ws RX7 TX7 3, w ∈ wsX7_longest := fun _ h => (List.mem_cons_of_mem _ (List.mem_append_left _ (List.mem_append_right _ h)))
def J_X7_longest_12 (p : Program) (l : Launch) (e : Env) (s : State) (m : MethodId) (args : Array Value) (below : List Frame) (meth : Method) (c : Code) (dC : Nat → ClassId) (dI : Nat → Nat → Nat) (cyB cyC cyI cyJ cyZ : ClassId) (aP aPc aPs aS aSc : Nat) (P_count : Int32) (Pc : Nat → Int32) (Ps : Nat → Int32) (S_count : Int32) (S_cutShort : Int32) (Sc : Nat → Int32) (out : Int32) (g : Int32 → Int32 → Int32 → Int32 → Option (Int32)) : Prop := ∀ (x2 : Int32) (x3 : Int32) (x4 : Int32) (x5 : Int32), g x2 x3 x4 x5 = some out → ∀ ls : Array Slot, lv_has ls 6 [(0, .ref aP), (1, .ref aS), (2, .int x2), (3, .int x3), (4, .int x4), (5, .int x5)] → W p l e rm_X7_longest s m args below meth c s.heap [] 0 0 (MQ below (vp_Si (fun r => r = out)) args s 0 0 (fun _ => False)) (F0 m 12 ls [])
def J_X7_longest_73 (p : Program) (l : Launch) (e : Env) (s : State) (m : MethodId) (args : Array Value) (below : List Frame) (meth : Method) (c : Code) (dC : Nat → ClassId) (dI : Nat → Nat → Nat) (cyB cyC cyI cyJ cyZ : ClassId) (aP aPc aPs aS aSc : Nat) (P_count : Int32) (Pc : Nat → Int32) (Ps : Nat → Int32) (S_count : Int32) (S_cutShort : Int32) (Sc : Nat → Int32) (out : Int32) (g : Int32 → Int32 → Int32 → Int32 → Option (Int32)) : Prop := ∀ (x2 : Int32) (x3 : Int32) (x4 : Int32) (x5 : Int32), g x2 x3 x4 x5 = some out → ∀ ls : Array Slot, lv_has ls 6 [(0, .ref aP), (1, .ref aS), (2, .int x2), (3, .int x3), (4, .int x4), (5, .int x5)] → W p l e rm_X7_longest s m args below meth c s.heap [] 0 0 (MQ below (vp_Si (fun r => r = out)) args s 0 0 (fun _ => False)) (F0 m 73 ls [])
def J_X7_longest_69 (p : Program) (l : Launch) (e : Env) (s : State) (m : MethodId) (args : Array Value) (below : List Frame) (meth : Method) (c : Code) (dC : Nat → ClassId) (dI : Nat → Nat → Nat) (cyB cyC cyI cyJ cyZ : ClassId) (aP aPc aPs aS aSc : Nat) (P_count : Int32) (Pc : Nat → Int32) (Ps : Nat → Int32) (S_count : Int32) (S_cutShort : Int32) (Sc : Nat → Int32) (out : Int32) (g : Int32 → Int32 → Int32 → Option (Int32)) : Prop := ∀ (x2 : Int32) (x3 : Int32) (x5 : Int32), g x2 x3 x5 = some out → ∀ ls : Array Slot, lv_has ls 6 [(0, .ref aP), (1, .ref aS), (2, .int x2), (3, .int x3), (5, .int x5)] → W p l e rm_X7_longest s m args below meth c s.heap [] 0 0 (MQ below (vp_Si (fun r => r = out)) args s 0 0 (fun _ => False)) (F0 m 69 ls [])
def J_X7_longest_0 (p : Program) (l : Launch) (e : Env) (s : State) (m : MethodId) (args : Array Value) (below : List Frame) (meth : Method) (c : Code) (dC : Nat → ClassId) (dI : Nat → Nat → Nat) (cyB cyC cyI cyJ cyZ : ClassId) (aP aPc aPs aS aSc : Nat) (P_count : Int32) (Pc : Nat → Int32) (Ps : Nat → Int32) (S_count : Int32) (S_cutShort : Int32) (Sc : Nat → Int32) (out : Int32) (g : Int32 → Option (Int32)) : Prop := ∀ (x2 : Int32), g x2 = some out → ∀ ls : Array Slot, lv_has ls 6 [(0, .ref aP), (1, .ref aS), (2, .int x2)] → W p l e rm_X7_longest s m args below meth c s.heap [] 0 0 (MQ below (vp_Si (fun r => r = out)) args s 0 0 (fun _ => False)) (F0 m 0 ls [])
def f_X7_longest_73 (n : Nat) (r12 : Int32 → Int32 → Int32 → Int32 → Option (Int32)) (P_count : Int32) (Pc : Nat → Int32) (Ps : Nat → Int32) (S_count : Int32) (S_cutShort : Int32) (Sc : Nat → Int32) (x2 : Int32) (x3 : Int32) (x4 : Int32) (x5 : Int32) : Option (Int32) :=
  lt_ (x5 + (1 : Int32)) fun y1 =>
  r12 x2 x3 x4 y1
set_option maxHeartbeats 4000000 in
set_option maxRecDepth 100000 in
theorem k_X7_longest_73 {p : Program} {l : Launch} {e : Env} {s : State} {m : MethodId} {args : Array Value} {below : List Frame} {meth : Method} {c : Code} {dC : Nat → ClassId} {dI : Nat → Nat → Nat} {cyB cyC cyI cyJ cyZ : ClassId} {aP aPc aPs aS aSc : Nat} {P_count : Int32} {Pc : Nat → Int32} {Ps : Nat → Int32} {S_count : Int32} {S_cutShort : Int32} {Sc : Nat → Int32} {out : Int32} (CX : cx cX7_longest (some .int) 6 RX7 wsX7_longest (dC, dI) (TY cyB cyC cyI cyJ cyZ) p s m args meth c) (hP : va_P (dC, dI) vwCl [(aP, .inr (7, [.ref aPc, .ref aPs, .int P_count])), (aPc, .inl (cyC, 512, .inl Pc)), (aPs, .inl (cyI, 65, .inl Ps)), (aS, .inr (6, [.ref aSc, .int S_count, .int S_cutShort])), (aSc, .inl (cyC, 81920, .inl Sc))] s.heap) (n : Nat) {r12 : Int32 → Int32 → Int32 → Int32 → Option (Int32)} (hr12 : J_X7_longest_12 p l e s m args below meth c dC dI cyB cyC cyI cyJ cyZ aP aPc aPs aS aSc P_count Pc Ps S_count S_cutShort Sc out r12) : J_X7_longest_73 p l e s m args below meth c dC dI cyB cyC cyI cyJ cyZ aP aPc aPs aS aSc P_count Pc Ps S_count S_cutShort Sc out (f_X7_longest_73 n r12 P_count Pc Ps S_count S_cutShort Sc) := by
  intro x2 x3 x4 x5 hf ls hl
  obtain ⟨hx, hb, hr, hml, hown, hts, hlocks, hK, hN⟩ := id CX
  unfold f_X7_longest_73 at hf
  obtain ⟨y1, ey1⟩ : ∃ y : Int32, y = x5 + (1 : Int32) := ⟨_, rfl⟩
  have hf := lt_ok hf y1 ey1
  refine lv_iinc (v := y1) (lv' := [(5, .int y1), (0, .ref aP), (1, .ref aS), (2, .int x2), (3, .int x3), (4, .int x4)]) hx hb dX7_longest_73 hl (k := 5) rfl (by rw [ey1]; rfl) (by decide) rfl (fun ls hl => ?_)
  refine lv_goto (tgt := 12) hx hb dX7_longest_76 (by decide) ?_
  exact hr12 _ _ _ _ hf ls (lv_sub hl [1, 2, 3, 4, 5, 0] rfl)
def f_X7_longest_69 (n : Nat) (r12 : Int32 → Int32 → Int32 → Int32 → Option (Int32)) (P_count : Int32) (Pc : Nat → Int32) (Ps : Nat → Int32) (S_count : Int32) (S_cutShort : Int32) (Sc : Nat → Int32) (x2 : Int32) (x3 : Int32) (x5 : Int32) : Option (Int32) :=
  f_X7_longest_73 n r12 P_count Pc Ps S_count S_cutShort Sc x2 x3 x5 x5
set_option maxHeartbeats 4000000 in
set_option maxRecDepth 100000 in
theorem k_X7_longest_69 {p : Program} {l : Launch} {e : Env} {s : State} {m : MethodId} {args : Array Value} {below : List Frame} {meth : Method} {c : Code} {dC : Nat → ClassId} {dI : Nat → Nat → Nat} {cyB cyC cyI cyJ cyZ : ClassId} {aP aPc aPs aS aSc : Nat} {P_count : Int32} {Pc : Nat → Int32} {Ps : Nat → Int32} {S_count : Int32} {S_cutShort : Int32} {Sc : Nat → Int32} {out : Int32} (CX : cx cX7_longest (some .int) 6 RX7 wsX7_longest (dC, dI) (TY cyB cyC cyI cyJ cyZ) p s m args meth c) (hP : va_P (dC, dI) vwCl [(aP, .inr (7, [.ref aPc, .ref aPs, .int P_count])), (aPc, .inl (cyC, 512, .inl Pc)), (aPs, .inl (cyI, 65, .inl Ps)), (aS, .inr (6, [.ref aSc, .int S_count, .int S_cutShort])), (aSc, .inl (cyC, 81920, .inl Sc))] s.heap) (n : Nat) {r12 : Int32 → Int32 → Int32 → Int32 → Option (Int32)} (hr12 : J_X7_longest_12 p l e s m args below meth c dC dI cyB cyC cyI cyJ cyZ aP aPc aPs aS aSc P_count Pc Ps S_count S_cutShort Sc out r12) : J_X7_longest_69 p l e s m args below meth c dC dI cyB cyC cyI cyJ cyZ aP aPc aPs aS aSc P_count Pc Ps S_count S_cutShort Sc out (f_X7_longest_69 n r12 P_count Pc Ps S_count S_cutShort Sc) := by
  intro x2 x3 x5 hf ls hl
  obtain ⟨hx, hb, hr, hml, hown, hts, hlocks, hK, hN⟩ := id CX
  unfold f_X7_longest_69 at hf
  refine lv_iload hx hb dX7_longest_69 (lv_at hl 4 rfl) ?_
  refine lv_istore (lv' := [(4, .int x5), (0, .ref aP), (1, .ref aS), (2, .int x2), (3, .int x3), (5, .int x5)]) hx hb dX7_longest_71 hl (by decide) rfl (fun ls hl => ?_)
  exact k_X7_longest_73 CX hP n hr12 _ _ _ _ hf ls (lv_sub hl [1, 2, 3, 4, 0, 5] rfl)
def fb_X7_longest_12 (n : Nat) (r12 : Int32 → Int32 → Int32 → Int32 → Option (Int32)) (P_count : Int32) (Pc : Nat → Int32) (Ps : Nat → Int32) (S_count : Int32) (S_cutShort : Int32) (Sc : Nat → Int32) (x2 : Int32) (x3 : Int32) (x4 : Int32) (x5 : Int32) : Option (Int32) :=
  if P_count ≤ x5 then
  (some x4)
  else
  (gu (gd x5 65) (
  gu (gd (Ps (x5).toNatClampNeg) 512) (
  if (Pc (Ps (x5).toNatClampNeg).toNatClampNeg) = x3 then
  (bd (f_X7_isThere n x5 x2 P_count Pc Ps S_count S_cutShort Sc) fun o1 =>
  if o1 = 0 then
  (f_X7_longest_73 n r12 P_count Pc Ps S_count S_cutShort Sc x2 x3 x4 x5)
  else
  (if x4 = (-1 : Int32) then
  (f_X7_longest_69 n r12 P_count Pc Ps S_count S_cutShort Sc x2 x3 x5)
  else
  (bd (f_X7_lengthOf n x5 P_count Ps) fun o2 =>
  bd (f_X7_lengthOf n x4 P_count Ps) fun o3 =>
  if o2 ≤ o3 then
  (f_X7_longest_73 n r12 P_count Pc Ps S_count S_cutShort Sc x2 x3 x4 x5)
  else
  (f_X7_longest_69 n r12 P_count Pc Ps S_count S_cutShort Sc x2 x3 x5))))
  else
  (f_X7_longest_73 n r12 P_count Pc Ps S_count S_cutShort Sc x2 x3 x4 x5))))
set_option maxHeartbeats 4000000 in
set_option maxRecDepth 100000 in
theorem kb_X7_longest_12 {p : Program} {l : Launch} {e : Env} {s : State} {m : MethodId} {args : Array Value} {below : List Frame} {meth : Method} {c : Code} {dC : Nat → ClassId} {dI : Nat → Nat → Nat} {cyB cyC cyI cyJ cyZ : ClassId} {aP aPc aPs aS aSc : Nat} {P_count : Int32} {Pc : Nat → Int32} {Ps : Nat → Int32} {S_count : Int32} {S_cutShort : Int32} {Sc : Nat → Int32} {out : Int32} (CX : cx cX7_longest (some .int) 6 RX7 wsX7_longest (dC, dI) (TY cyB cyC cyI cyJ cyZ) p s m args meth c) (hP : va_P (dC, dI) vwCl [(aP, .inr (7, [.ref aPc, .ref aPs, .int P_count])), (aPc, .inl (cyC, 512, .inl Pc)), (aPs, .inl (cyI, 65, .inl Ps)), (aS, .inr (6, [.ref aSc, .int S_count, .int S_cutShort])), (aSc, .inl (cyC, 81920, .inl Sc))] s.heap) (n : Nat) {r12 : Int32 → Int32 → Int32 → Int32 → Option (Int32)} (hr12 : J_X7_longest_12 p l e s m args below meth c dC dI cyB cyC cyI cyJ cyZ aP aPc aPs aS aSc P_count Pc Ps S_count S_cutShort Sc out r12) : J_X7_longest_12 p l e s m args below meth c dC dI cyB cyC cyI cyJ cyZ aP aPc aPs aS aSc P_count Pc Ps S_count S_cutShort Sc out (fb_X7_longest_12 n r12 P_count Pc Ps S_count S_cutShort Sc) := by
  intro x2 x3 x4 x5 hf ls hl
  obtain ⟨hx, hb, hr, hml, hown, hts, hlocks, hK, hN⟩ := id CX
  unfold fb_X7_longest_12 at hf
  refine lv_iload hx hb dX7_longest_12 (lv_at hl 5 rfl) ?_
  refine lv_aload_n hx hb dX7_longest_14 rfl (lv_at hl 0 rfl) ?_
  refine va_get (D := (dC, dI)) (ci := 7) (v := .int P_count) (C := RX7) (T := TX7) (N := 3) hx hb hts i_X7_longest_X7 hown hK hP 0 rfl rfl 2 (by decide) (hts (.fieldLink RX7 19 "TokenRow$Spellings" "count" "I") (List.mem_of_getElem? (i := 1) rfl)) (fun _ h9 => h9) rfl dX7_longest_15 ?_
  refine lv_icmp_ge (tgt := 79) hx hb dX7_longest_18 (by decide) (fun hc => ?_) (fun hc => ?_)
  · have hf := (if_pos hc).symm.trans hf
    refine lv_iload hx hb dX7_longest_79 (lv_at hl 4 rfl) ?_
    exact W.iret (v := x4) hx hb hr (fun t ht hW => ⟨_, rfl, Option.some.inj hf, ht⟩) (fun _ h => nomatch h) dX7_longest_81
  · have hf := (if_neg hc).symm.trans hf
    refine lv_aload_n hx hb dX7_longest_21 rfl (lv_at hl 0 rfl) ?_
    refine va_get (D := (dC, dI)) (ci := 7) (v := .ref aPc) (C := RX7) (T := TX7) (N := 3) hx hb hts i_X7_longest_X7 hown hK hP 0 rfl rfl 0 (by decide) (hts (.fieldLink RX7 9 "TokenRow$Spellings" "characters" "[C") (List.mem_of_getElem? (i := 2) rfl)) (fun _ h9 => h9) rfl dX7_longest_22 ?_
    refine lv_aload_n hx hb dX7_longest_25 rfl (lv_at hl 0 rfl) ?_
    refine va_get (D := (dC, dI)) (ci := 7) (v := .ref aPs) (C := RX7) (T := TX7) (N := 3) hx hb hts i_X7_longest_X7 hown hK hP 0 rfl rfl 1 (by decide) (hts (.fieldLink RX7 15 "TokenRow$Spellings" "starts" "[I") (List.mem_of_getElem? (i := 3) rfl)) (fun _ h9 => h9) rfl dX7_longest_26 ?_
    refine lv_iload hx hb dX7_longest_29 (lv_at hl 5 rfl) ?_
    obtain ⟨hg, hf⟩ := gu_ok hf
    refine va_iald hx hb hK hP 2 2 rfl rfl (gd_in hg) dX7_longest_31 ?_
    obtain ⟨hg, hf⟩ := gu_ok hf
    refine va_cald hx hb hK hP 1 1 rfl rfl (gd_in hg) dX7_longest_32 ?_
    refine lv_iload_n hx hb dX7_longest_33 rfl (lv_at hl 3 rfl) ?_
    refine lv_icmp_ne (tgt := 73) hx hb dX7_longest_34 (by decide) (fun hc => ?_) (fun hc => ?_)
    · have hf := (if_neg hc).symm.trans hf
      exact k_X7_longest_73 CX hP n hr12 _ _ _ _ hf ls (lv_sub hl [0, 1, 2, 3, 4, 5] rfl)
    · have hf := (if_pos hc).symm.trans hf
      refine lv_aload_n hx hb dX7_longest_37 rfl (lv_at hl 0 rfl) ?_
      refine lv_iload hx hb dX7_longest_38 (lv_at hl 5 rfl) ?_
      refine lv_aload_n hx hb dX7_longest_40 rfl (lv_at hl 1 rfl) ?_
      refine lv_iload_n hx hb dX7_longest_41 rfl (lv_at hl 2 rfl) ?_
      obtain ⟨z1, hz1, hf⟩ := bd_ok hf
      have hPc := hP.sub (ws' := [(aP, .inr (7, [.ref aPc, .ref aPs, .int P_count])), (aPc, .inl (cyC, 512, .inl Pc)), (aPs, .inl (cyI, 65, .inl Ps)), (aS, .inr (6, [.ref aSc, .int S_count, .int S_cutShort])), (aSc, .inl (cyC, 81920, .inl Sc))]) [0, 1, 2, 3, 4] rfl
      refine vp_callSi (va_Run.run (va_runV (As := [.int x5, .ref aS, .int x2]) (rest := []) ⟨hx, hb, hml, hown, hts⟩ (m_X7_isThere l dC dI cyB cyC cyI cyJ cyZ aP aPc aPs aS aSc  x5 x2 P_count Pc Ps S_count S_cutShort Sc n z1 hz1) (cwV 3 hts gX7_longest_X7_isThere rfl rfl rfl (by decide +kernel) ⟨Nat.le_of_ble_eq_true rfl, Nat.le_of_ble_eq_true rfl⟩) (proV (va_recv hK hP (ci := 7) (q0 := 0) rfl rfl) hPc hK hN) rfl rfl hl.1 rfl (lv_room (Nat.le_of_ble_eq_true rfl)) dX7_longest_42 ⟨Nat.le_of_ble_eq_true rfl, Nat.le_of_ble_eq_true rfl⟩)) (fun o1 hr9 => ?_)
      subst hr9
      refine lv_if_eq (tgt := 73) hx hb dX7_longest_45 (by decide) (fun hc => ?_) (fun hc => ?_)
      · have hf := (if_pos hc).symm.trans hf
        exact k_X7_longest_73 CX hP n hr12 _ _ _ _ hf ls (lv_sub hl [0, 1, 2, 3, 4, 5] rfl)
      · have hf := (if_neg hc).symm.trans hf
        refine lv_iload hx hb dX7_longest_48 (lv_at hl 4 rfl) ?_
        refine lv_iconst (v := (-1 : Int32)) hx hb dX7_longest_50 (by decide) ?_
        refine lv_icmp_eq (tgt := 69) hx hb dX7_longest_51 (by decide) (fun hc => ?_) (fun hc => ?_)
        · have hf := (if_pos hc).symm.trans hf
          exact k_X7_longest_69 CX hP n hr12 _ _ _ hf ls (lv_sub hl [0, 1, 2, 3, 5] rfl)
        · have hf := (if_neg hc).symm.trans hf
          refine lv_aload_n hx hb dX7_longest_54 rfl (lv_at hl 0 rfl) ?_
          refine lv_iload hx hb dX7_longest_55 (lv_at hl 5 rfl) ?_
          obtain ⟨z2, hz2, hf⟩ := bd_ok hf
          have hPc := hP.sub (ws' := [(aP, .inr (7, [.ref aPc, .ref aPs, .int P_count])), (aPs, .inl (cyI, 65, .inl Ps))]) [0, 2] rfl
          refine vp_callSi (va_Run.run (va_runV (As := [.int x5]) (rest := []) ⟨hx, hb, hml, hown, hts⟩ (m_X7_lengthOf l dC dI cyB cyC cyI cyJ cyZ aP aPc aPs  x5 P_count Ps n z2 hz2) (cwV 1 hts gX7_longest_X7_lengthOf rfl rfl rfl (by decide +kernel) ⟨Nat.le_of_ble_eq_true rfl, Nat.le_of_ble_eq_true rfl⟩) (proV (va_recv hK hP (ci := 7) (q0 := 0) rfl rfl) hPc hK hN) rfl rfl hl.1 rfl (lv_room (Nat.le_of_ble_eq_true rfl)) dX7_longest_57 ⟨Nat.le_of_ble_eq_true rfl, Nat.le_of_ble_eq_true rfl⟩)) (fun o2 hr9 => ?_)
          subst hr9
          refine lv_aload_n hx hb dX7_longest_60 rfl (lv_at hl 0 rfl) ?_
          refine lv_iload hx hb dX7_longest_61 (lv_at hl 4 rfl) ?_
          obtain ⟨z3, hz3, hf⟩ := bd_ok hf
          have hPc := hP.sub (ws' := [(aP, .inr (7, [.ref aPc, .ref aPs, .int P_count])), (aPs, .inl (cyI, 65, .inl Ps))]) [0, 2] rfl
          refine vp_callSi (va_Run.run (va_runV (As := [.int x4]) (rest := [.int o2]) ⟨hx, hb, hml, hown, hts⟩ (m_X7_lengthOf l dC dI cyB cyC cyI cyJ cyZ aP aPc aPs  x4 P_count Ps n z3 hz3) (cwV 1 hts gX7_longest_X7_lengthOf rfl rfl rfl (by decide +kernel) ⟨Nat.le_of_ble_eq_true rfl, Nat.le_of_ble_eq_true rfl⟩) (proV (va_recv hK hP (ci := 7) (q0 := 0) rfl rfl) hPc hK hN) rfl rfl hl.1 rfl (lv_room (Nat.le_of_ble_eq_true rfl)) dX7_longest_63 ⟨Nat.le_of_ble_eq_true rfl, Nat.le_of_ble_eq_true rfl⟩)) (fun o3 hr9 => ?_)
          subst hr9
          refine lv_icmp_le (tgt := 73) hx hb dX7_longest_66 (by decide) (fun hc => ?_) (fun hc => ?_)
          · have hf := (if_pos hc).symm.trans hf
            exact k_X7_longest_73 CX hP n hr12 _ _ _ _ hf ls (lv_sub hl [0, 1, 2, 3, 4, 5] rfl)
          · have hf := (if_neg hc).symm.trans hf
            exact k_X7_longest_69 CX hP n hr12 _ _ _ hf ls (lv_sub hl [0, 1, 2, 3, 5] rfl)
def f_X7_longest_12 (n : Nat) (P_count : Int32) (Pc : Nat → Int32) (Ps : Nat → Int32) (S_count : Int32) (S_cutShort : Int32) (Sc : Nat → Int32) : Nat → Int32 → Int32 → Int32 → Int32 → Option (Int32)
  | 0 => fun _ _ _ _ => none
  | k + 1 => fun x2 x3 x4 x5 => fb_X7_longest_12 n (f_X7_longest_12 n P_count Pc Ps S_count S_cutShort Sc k) P_count Pc Ps S_count S_cutShort Sc x2 x3 x4 x5
set_option maxHeartbeats 4000000 in
set_option maxRecDepth 100000 in
theorem k_X7_longest_12 {p : Program} {l : Launch} {e : Env} {s : State} {m : MethodId} {args : Array Value} {below : List Frame} {meth : Method} {c : Code} {dC : Nat → ClassId} {dI : Nat → Nat → Nat} {cyB cyC cyI cyJ cyZ : ClassId} {aP aPc aPs aS aSc : Nat} {P_count : Int32} {Pc : Nat → Int32} {Ps : Nat → Int32} {S_count : Int32} {S_cutShort : Int32} {Sc : Nat → Int32} {out : Int32} (CX : cx cX7_longest (some .int) 6 RX7 wsX7_longest (dC, dI) (TY cyB cyC cyI cyJ cyZ) p s m args meth c) (hP : va_P (dC, dI) vwCl [(aP, .inr (7, [.ref aPc, .ref aPs, .int P_count])), (aPc, .inl (cyC, 512, .inl Pc)), (aPs, .inl (cyI, 65, .inl Ps)), (aS, .inr (6, [.ref aSc, .int S_count, .int S_cutShort])), (aSc, .inl (cyC, 81920, .inl Sc))] s.heap) (n : Nat) : ∀ k : Nat, J_X7_longest_12 p l e s m args below meth c dC dI cyB cyC cyI cyJ cyZ aP aPc aPs aS aSc P_count Pc Ps S_count S_cutShort Sc out (f_X7_longest_12 n P_count Pc Ps S_count S_cutShort Sc k) := by
  intro k
  induction k with
  | zero =>
    intro x2 x3 x4 x5 hf
    exact absurd (show (none : Option (Int32)) = some out from hf) (by simp)
  | succ k ih =>
    exact kb_X7_longest_12 CX hP n ih
def f_X7_longest_0 (n : Nat) (P_count : Int32) (Pc : Nat → Int32) (Ps : Nat → Int32) (S_count : Int32) (S_cutShort : Int32) (Sc : Nat → Int32) (x2 : Int32) : Option (Int32) :=
  bd (f_X6_look n x2 S_count S_cutShort Sc) fun o1 =>
  f_X7_longest_12 n P_count Pc Ps S_count S_cutShort Sc n x2 o1 (-1 : Int32) (0 : Int32)
set_option maxHeartbeats 4000000 in
set_option maxRecDepth 100000 in
theorem k_X7_longest_0 {p : Program} {l : Launch} {e : Env} {s : State} {m : MethodId} {args : Array Value} {below : List Frame} {meth : Method} {c : Code} {dC : Nat → ClassId} {dI : Nat → Nat → Nat} {cyB cyC cyI cyJ cyZ : ClassId} {aP aPc aPs aS aSc : Nat} {P_count : Int32} {Pc : Nat → Int32} {Ps : Nat → Int32} {S_count : Int32} {S_cutShort : Int32} {Sc : Nat → Int32} {out : Int32} (CX : cx cX7_longest (some .int) 6 RX7 wsX7_longest (dC, dI) (TY cyB cyC cyI cyJ cyZ) p s m args meth c) (hP : va_P (dC, dI) vwCl [(aP, .inr (7, [.ref aPc, .ref aPs, .int P_count])), (aPc, .inl (cyC, 512, .inl Pc)), (aPs, .inl (cyI, 65, .inl Ps)), (aS, .inr (6, [.ref aSc, .int S_count, .int S_cutShort])), (aSc, .inl (cyC, 81920, .inl Sc))] s.heap) (n : Nat) : J_X7_longest_0 p l e s m args below meth c dC dI cyB cyC cyI cyJ cyZ aP aPc aPs aS aSc P_count Pc Ps S_count S_cutShort Sc out (f_X7_longest_0 n P_count Pc Ps S_count S_cutShort Sc) := by
  intro x2 hf ls hl
  obtain ⟨hx, hb, hr, hml, hown, hts, hlocks, hK, hN⟩ := id CX
  unfold f_X7_longest_0 at hf
  refine lv_aload_n hx hb dX7_longest_0 rfl (lv_at hl 1 rfl) ?_
  refine lv_iload_n hx hb dX7_longest_1 rfl (lv_at hl 2 rfl) ?_
  obtain ⟨z1, hz1, hf⟩ := bd_ok hf
  have hPc := hP.sub (ws' := [(aS, .inr (6, [.ref aSc, .int S_count, .int S_cutShort])), (aSc, .inl (cyC, 81920, .inl Sc))]) [3, 4] rfl
  refine vp_callSi (va_Run.run (va_runV (As := [.int x2]) (rest := []) ⟨hx, hb, hml, hown, hts⟩ (m_X6_look l dC dI cyB cyC cyI cyJ cyZ aS aSc  x2 S_count S_cutShort Sc n z1 hz1) (cwV 1 hts gX7_longest_X6_look rfl rfl rfl (by decide +kernel) ⟨Nat.le_of_ble_eq_true rfl, Nat.le_of_ble_eq_true rfl⟩) (proV (va_recv hK hP (ci := 6) (q0 := 3) rfl rfl) hPc hK hN) rfl rfl hl.1 rfl (lv_room (Nat.le_of_ble_eq_true rfl)) dX7_longest_2 ⟨Nat.le_of_ble_eq_true rfl, Nat.le_of_ble_eq_true rfl⟩)) (fun o1 hr9 => ?_)
  subst hr9
  refine lv_istore_n (lv' := [(3, .int o1), (0, .ref aP), (1, .ref aS), (2, .int x2)]) hx hb dX7_longest_5 rfl hl (by decide) rfl (fun ls hl => ?_)
  refine lv_iconst (v := (-1 : Int32)) hx hb dX7_longest_6 (by decide) ?_
  refine lv_istore (lv' := [(4, .int (-1 : Int32)), (3, .int o1), (0, .ref aP), (1, .ref aS), (2, .int x2)]) hx hb dX7_longest_7 hl (by decide) rfl (fun ls hl => ?_)
  refine lv_iconst (v := (0 : Int32)) hx hb dX7_longest_9 (by decide) ?_
  refine lv_istore (lv' := [(5, .int (0 : Int32)), (4, .int (-1 : Int32)), (3, .int o1), (0, .ref aP), (1, .ref aS), (2, .int x2)]) hx hb dX7_longest_10 hl (by decide) rfl (fun ls hl => ?_)
  exact k_X7_longest_12 CX hP n n _ _ _ _ hf ls (lv_sub hl [3, 4, 5, 2, 1, 0] rfl)
def f_X7_longest (n : Nat) (p2 : Int32) (P_count : Int32) (Pc : Nat → Int32) (Ps : Nat → Int32) (S_count : Int32) (S_cutShort : Int32) (Sc : Nat → Int32) : Option (Int32) := f_X7_longest_0 n P_count Pc Ps S_count S_cutShort Sc p2
set_option maxHeartbeats 4000000 in
set_option maxRecDepth 100000 in
/-- TokenRow$Spellings.longest(LTokenRow$Source;I)I -/
theorem m_X7_longest (l : Launch) (dC : Nat → ClassId) (dI : Nat → Nat → Nat) (cyB cyC cyI cyJ cyZ : ClassId) (aP aPc aPs aS aSc : Nat) (p2 : Int32) (P_count : Int32) (Pc : Nat → Int32) (Ps : Nat → Int32) (S_count : Int32) (S_cutShort : Int32) (Sc : Nat → Int32) (n : Nat) (out : Int32) (hf : f_X7_longest n p2 P_count Pc Ps S_count S_cutShort Sc = some out) : Met l yX7_longest wsX7_longest rm_X7_longest (Pro (dC, dI) (TY cyB cyC cyI cyJ cyZ) [.ref aP, .ref aS, .int p2] [(aP, .inr (7, [.ref aPc, .ref aPs, .int P_count])), (aPc, .inl (cyC, 512, .inl Pc)), (aPs, .inl (cyI, 65, .inl Ps)), (aS, .inr (6, [.ref aSc, .int S_count, .int S_cutShort])), (aSc, .inl (cyC, 81920, .inl Sc))]) (vp_Si (fun r => r = out)) 0 0 (fun _ => False) := by
  refine Met.ofW (cc := cX7_longest) (maxL := 6) (ret := (some .int)) (by decide) rfl ?_
  intro p e s m args below meth c s₁ B hml hv
  obtain ⟨rfl, hP, hK, hN⟩ := hv
  have CX : cx cX7_longest (some .int) 6 RX7 wsX7_longest (dC, dI) (TY cyB cyC cyI cyJ cyZ) p s m ([.ref aP, .ref aS, .int p2] : List Value).toArray meth c := ⟨B.exec, B.bytes, B.returns, hml, findClass_of_methodNamed B.named, atoms_spec (ws := wsX7_longest) B.pre, B.notSynchronized, hK, hN⟩
  have hl := lv_entry ([.ref aP, .ref aS, .int p2]) (n := 6) (Nat.le_of_ble_eq_true rfl)
  rw [lg_entry_eq]
  exact k_X7_longest_0 CX hP n _ hf _ hl
abbrev rm_X7_close : Room := { frames := 0, cells := 0, slots := 0, locals := 0 }
theorem i_X7_close_X7 : ∀ w ∈ u_ws RX7 TX7 3, w ∈ wsX7_close := fun _ h => (List.mem_cons_of_mem _ (List.mem_append_right _ h))
def J_X7_close_0 (p : Program) (l : Launch) (e : Env) (s : State) (m : MethodId) (args : Array Value) (below : List Frame) (meth : Method) (c : Code) (dC : Nat → ClassId) (dI : Nat → Nat → Nat) (cyB cyC cyI cyJ cyZ : ClassId) (aP aPc aPs : Nat) (A : Nat → Prop) (out : Int32 × (Nat → Int32)) (g : Int32 → (Nat → Int32) → Int32 → Option (Int32 × (Nat → Int32))) : Prop := ∀ (P_count : Int32) (Ps : Nat → Int32) (x1 : Int32) (H : Heap) (locs : List Loc), g P_count Ps x1 = some out → va_P (dC, dI) vwCl [(aP, .inr (7, [.ref aPc, .ref aPs, .int P_count])), (aPs, .inl (cyI, 65, .inl Ps))] H → va_D A [(aP, .inr (7, [.ref aPc, .ref aPs, .int P_count])), (aPs, .inl (cyI, 65, .inl Ps))] → va_S A s.heap H locs → ∀ ls : Array Slot, lv_has ls 2 [(0, .ref aP), (1, .int x1)] → W p l e rm_X7_close s m args below meth c H locs 0 0 (MQ below (va_Qv (fun (u : Int32 × (Nat → Int32)) => u = out) (Bw (dC, dI) A (fun u => [(aP, .inr (7, [.ref aPc, .ref aPs, .int u.1])), (aPs, .inl (cyI, 65, .inl u.2))])) A) args s 0 0 A) (F0 m 0 ls [])
def f_X7_close_0 (n : Nat) (P_count : Int32) (Ps : Nat → Int32) (x1 : Int32) : Option (Int32 × (Nat → Int32)) :=
  if (65 : Int32) ≤ (P_count + (1 : Int32)) then
  (some (P_count, Ps))
  else
  (lt_ (P_count + (1 : Int32)) fun y1 =>
  gu (gd y1 65) (
  some (y1, (upd Ps (y1).toNatClampNeg x1))))
set_option maxHeartbeats 4000000 in
set_option maxRecDepth 100000 in
theorem k_X7_close_0 {p : Program} {l : Launch} {e : Env} {s : State} {m : MethodId} {args : Array Value} {below : List Frame} {meth : Method} {c : Code} {dC : Nat → ClassId} {dI : Nat → Nat → Nat} {cyB cyC cyI cyJ cyZ : ClassId} {aP aPc aPs : Nat} {A : Nat → Prop} {out : Int32 × (Nat → Int32)} (CX : cx cX7_close none 2 RX7 wsX7_close (dC, dI) (TY cyB cyC cyI cyJ cyZ) p s m args meth c) (hA : ∀ q : Nat, s.heap.size ≤ q → A q) (n : Nat) : J_X7_close_0 p l e s m args below meth c dC dI cyB cyC cyI cyJ cyZ aP aPc aPs A out (f_X7_close_0 n) := by
  intro P_count Ps x1 H locs hf hP hD hS ls hl
  obtain ⟨hx, hb, hr, hml, hown, hts, hlocks, hK, hN⟩ := id CX
  unfold f_X7_close_0 at hf
  refine lv_aload_n hx hb dX7_close_0 rfl (lv_at hl 0 rfl) ?_
  refine va_get (D := (dC, dI)) (ci := 7) (v := .int P_count) (C := RX7) (T := TX7) (N := 3) hx hb hts i_X7_close_X7 hown hK hP 0 rfl rfl 2 (by decide) (hts (.fieldLink RX7 19 "TokenRow$Spellings" "count" "I") (List.mem_of_getElem? (i := 1) rfl)) (fun _ h9 => h9) rfl dX7_close_1 ?_
  refine lv_iconst (v := (1 : Int32)) hx hb dX7_close_4 (by decide) ?_
  refine lv_iadd hx hb dX7_close_5 ?_
  refine lv_aload_n hx hb dX7_close_6 rfl (lv_at hl 0 rfl) ?_
  refine va_get (D := (dC, dI)) (ci := 7) (v := .ref aPs) (C := RX7) (T := TX7) (N := 3) hx hb hts i_X7_close_X7 hown hK hP 0 rfl rfl 1 (by decide) (hts (.fieldLink RX7 15 "TokenRow$Spellings" "starts" "[I") (List.mem_of_getElem? (i := 2) rfl)) (fun _ h9 => h9) rfl dX7_close_7 ?_
  refine va_alen (v := (65 : Int32)) hx hb hK hP 1 2 rfl rfl rfl dX7_close_10 ?_
  refine lv_icmp_ge (tgt := 34) hx hb dX7_close_11 (by decide) (fun hc => ?_) (fun hc => ?_)
  · have hf := (if_pos hc).symm.trans hf
    exact W.vret hx hb hr (fun t ht hW => ⟨⟨(P_count, Ps), rfl, Option.some.inj hf, by rw [ht]; exact hP, hD⟩, hS.F ht⟩) hS.2.2 dX7_close_34
  · have hf := (if_neg hc).symm.trans hf
    refine lv_aload_n hx hb dX7_close_14 rfl (lv_at hl 0 rfl) ?_
    refine lv_dup hx hb dX7_close_15 rfl ?_
    refine va_get (D := (dC, dI)) (ci := 7) (v := .int P_count) (C := RX7) (T := TX7) (N := 3) hx hb hts i_X7_close_X7 hown hK hP 0 rfl rfl 2 (by decide) (hts (.fieldLink RX7 19 "TokenRow$Spellings" "count" "I") (List.mem_of_getElem? (i := 1) rfl)) (fun _ h9 => h9) rfl dX7_close_16 ?_
    refine lv_iconst (v := (1 : Int32)) hx hb dX7_close_19 (by decide) ?_
    refine lv_iadd hx hb dX7_close_20 ?_
    refine lv_topi (fun y1 ey1 => ?_)
    have hf := lt_ok hf y1 ey1
    refine va_put (D := (dC, dI)) (ci := 7) (v := .int y1) (ty := .int) (C := RX7) (T := TX7) (N := 3) hx hb hts i_X7_close_X7 tyX7 tyX7_ok nmX7 hown hK hP hD hS 0 rfl rfl 2 (by decide) (hts (.fieldLink RX7 19 "TokenRow$Spellings" "count" "I") (List.mem_of_getElem? (i := 1) rfl)) (fun _ h9 => h9) rfl (by decide +kernel) rfl rfl (Nat.le_of_ble_eq_true rfl) dX7_close_21 (fun H2 locs hP hD hS => ?_)
    have hP : va_P (dC, dI) vwCl [(aP, .inr (7, [.ref aPc, .ref aPs, .int y1])), (aPs, .inl (cyI, 65, .inl Ps))] H2 := hP
    have hD : va_D A [(aP, .inr (7, [.ref aPc, .ref aPs, .int y1])), (aPs, .inl (cyI, 65, .inl Ps))] := hD
    refine lv_aload_n hx hb dX7_close_24 rfl (lv_at hl 0 rfl) ?_
    refine va_get (D := (dC, dI)) (ci := 7) (v := .ref aPs) (C := RX7) (T := TX7) (N := 3) hx hb hts i_X7_close_X7 hown hK hP 0 rfl rfl 1 (by decide) (hts (.fieldLink RX7 15 "TokenRow$Spellings" "starts" "[I") (List.mem_of_getElem? (i := 2) rfl)) (fun _ h9 => h9) rfl dX7_close_25 ?_
    refine lv_aload_n hx hb dX7_close_28 rfl (lv_at hl 0 rfl) ?_
    refine va_get (D := (dC, dI)) (ci := 7) (v := .int y1) (C := RX7) (T := TX7) (N := 3) hx hb hts i_X7_close_X7 hown hK hP 0 rfl rfl 2 (by decide) (hts (.fieldLink RX7 19 "TokenRow$Spellings" "count" "I") (List.mem_of_getElem? (i := 1) rfl)) (fun _ h9 => h9) rfl dX7_close_29 ?_
    refine lv_iload_n hx hb dX7_close_32 rfl (lv_at hl 1 rfl) ?_
    obtain ⟨hg, hf⟩ := gu_ok hf
    refine va_iast hx hb hK hP hD hS 1 2 rfl rfl (gd_in hg) dX7_close_33 (fun H3 locs hP hD hS => ?_)
    have hP : va_P (dC, dI) vwCl [(aP, .inr (7, [.ref aPc, .ref aPs, .int y1])), (aPs, .inl (cyI, 65, .inl (upd Ps (y1).toNatClampNeg x1)))] H3 := hP
    have hD : va_D A [(aP, .inr (7, [.ref aPc, .ref aPs, .int y1])), (aPs, .inl (cyI, 65, .inl (upd Ps (y1).toNatClampNeg x1)))] := hD
    exact W.vret hx hb hr (fun t ht hW => ⟨⟨(y1, (upd Ps (y1).toNatClampNeg x1)), rfl, Option.some.inj hf, by rw [ht]; exact hP, hD⟩, hS.F ht⟩) hS.2.2 dX7_close_34
def f_X7_close (n : Nat) (p1 : Int32) (P_count : Int32) (Ps : Nat → Int32) : Option (Int32 × (Nat → Int32)) := f_X7_close_0 n P_count Ps p1
set_option maxHeartbeats 4000000 in
set_option maxRecDepth 100000 in
/-- TokenRow$Spellings.close(I)V -/
theorem m_X7_close (l : Launch) (dC : Nat → ClassId) (dI : Nat → Nat → Nat) (cyB cyC cyI cyJ cyZ : ClassId) (aP aPc aPs : Nat) (sz : Nat) (p1 : Int32) (P_count : Int32) (Ps : Nat → Int32) (n : Nat) (out : Int32 × (Nat → Int32)) (hf : f_X7_close n p1 P_count Ps = some out) : Met l yX7_close wsX7_close rm_X7_close (Prw (dC, dI) (TY cyB cyC cyI cyJ cyZ) [.ref aP, .int p1] sz [(aP, .inr (7, [.ref aPc, .ref aPs, .int P_count])), (aPs, .inl (cyI, 65, .inl Ps))]) (va_Qv (fun (u : Int32 × (Nat → Int32)) => u = out) (Bw (dC, dI) (va_A [(aP, .inr (7, [.ref aPc, .ref aPs, .int P_count])), (aPs, .inl (cyI, 65, .inl Ps))] sz) (fun u => [(aP, .inr (7, [.ref aPc, .ref aPs, .int u.1])), (aPs, .inl (cyI, 65, .inl u.2))])) (va_A [(aP, .inr (7, [.ref aPc, .ref aPs, .int P_count])), (aPs, .inl (cyI, 65, .inl Ps))] sz)) 0 0 (va_A [(aP, .inr (7, [.ref aPc, .ref aPs, .int P_count])), (aPs, .inl (cyI, 65, .inl Ps))] sz) := by
  refine Met.ofW (cc := cX7_close) (maxL := 2) (ret := none) (by decide) rfl ?_
  intro p e s m args below meth c s₁ B hml hv
  obtain ⟨rfl, hsz, hP, hK, hD0, hN⟩ := hv
  subst hsz
  have hD := hD0.self (sz := s.heap.size)
  have CX : cx cX7_close none 2 RX7 wsX7_close (dC, dI) (TY cyB cyC cyI cyJ cyZ) p s m ([.ref aP, .int p1] : List Value).toArray meth c := ⟨B.exec, B.bytes, B.returns, hml, findClass_of_methodNamed B.named, atoms_spec (ws := wsX7_close) B.pre, B.notSynchronized, hK, hN⟩
  have hl := lv_entry ([.ref aP, .int p1]) (n := 2) (Nat.le_of_ble_eq_true rfl)
  rw [lg_entry_eq]
  exact k_X7_close_0 (aPc := aPc) CX (fun q h => Or.inr h) n _ _ _ _ _ hf hP hD va_S.rf _ hl
