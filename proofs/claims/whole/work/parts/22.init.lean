theorem prwSs {adK adV : Nat → Nat} {D : va_G} {ty : List (ClassId × FieldType)} {A : Nat → Prop} {s : State} {H : Heap} {As : List Value} {ws : va_W} (hP : va_P D vwCl ws H) (hK : va_K D vwCl ty s) (hD : va_D A ws) (hN : vN s) (hE : ∀ U : State, U.heap = H → s.WarmedH U.vm → vS adK adV (va_A ws H.size) U U.heap) : PreS s H (Prws adK adV D ty As H.size ws) As :=
  ⟨Prws_fb, fun U hU hW => ⟨rfl, by rw [hU], by rw [hU]; exact hP, va_K.moved hW.alike hK, hD.weaken (fun _ _ _ _ => trivial), vN_w hW hN, hE U hU hW⟩⟩
abbrev rm_X0_init : Room := { frames := 1, cells := 1, slots := 136, locals := 20 }
theorem i_X0_init_X0 : ∀ w ∈ u_ws RX0 TX0 2, w ∈ wsX0_init := fun _ h => (List.mem_cons_of_mem _ (List.mem_append_right _ h))
set_option maxHeartbeats 4000000 in
set_option maxRecDepth 100000 in
/-- TokenRow$Big() -/
theorem m_X0_init (l : Launch) (dC : Nat → ClassId) (dI : Nat → Nat → Nat) (cyB cyC cyI cyJ cyZ : ClassId) (aB : Nat) (sz : Nat) : Met l yX0_init wsX0_init rm_X0_init (Prw (dC, dI) (TY cyB cyC cyI cyJ cyZ) [.ref aB] sz [(aB, .inr (0, [.null, .int (0 : Int32)]))]) (va_Qv (fun (_ : Nat) => True) (Bw (dC, dI) (va_A [(aB, .inr (0, [.null, .int (0 : Int32)]))] sz) (fun (u : Nat) => [(aB, .inr (0, [.ref u, .int (0 : Int32)])), (u, .inl (cyI, 136, .inl (fun _ => 0)))])) (va_A [(aB, .inr (0, [.null, .int (0 : Int32)]))] sz)) 1 136 (va_A [(aB, .inr (0, [.null, .int (0 : Int32)]))] sz) := by
  refine Met.ofW (cc := cX0_init) (maxL := 1) (ret := none) (by decide) rfl ?_
  intro p e s m args below meth c s₁ B hml hv
  obtain ⟨rfl, hsz, hP, hK, hD0, hN⟩ := hv
  subst hsz
  have hx := B.exec
  have hb := B.bytes
  have hr := B.returns
  have hts := atoms_spec (ws := wsX0_init) B.pre
  have hown : s.vm.findClass RX0 = some m.cls := findClass_of_methodNamed B.named
  have hlocks := B.notSynchronized
  have hin : meth.name = "<init>" := (name_of_methodNamed B.named B.method).1
  have hD := hD0.self (sz := s.heap.size)
  generalize hAe : va_A [(aB, .inr (0, [.null, .int (0 : Int32)]))] s.heap.size = A at hD ⊢
  have hA : ∀ q : Nat, s.heap.size ≤ q → A q := fun q h => by rw [← hAe]; exact Or.inr h
  have hS : va_S A s.heap s.heap [] := va_S.rf
  have hP : va_P (dC, dI) vwCl [(aB, .inr (0, [.null, .int (0 : Int32)]))] s.heap := hP
  have hl := lv_entry ([.ref aB]) (n := 1) (Nat.le_of_ble_eq_true rfl)
  rw [lg_entry_eq]
  generalize (lg_sl ([.ref aB]) ++ List.replicate (1 - (lg_sl ([.ref aB])).length) Slot.unset).toArray = ls at hl ⊢
  have hl : lv_has ls 1 [(0, .ref aB)] := hl
  refine lv_aload_n hx hb dX0_init_0 rfl (lv_at hl 0 rfl) ?_
  refine W.objInit hx hb hown (hts (.methodLink RX0 1 objectInit) (List.mem_of_getElem? (i := 1) rfl)) (hts (.instanceMethod objectInit) (List.mem_of_getElem? (i := 2) rfl)) (hts (.code objectInit ⟨#[0xb1]⟩ 1 none) (List.mem_of_getElem? (i := 3) rfl)) rfl (by rw [hml]; exact hl.1) rfl dX0_init_1 (Nat.le_of_ble_eq_true rfl) (Nat.le_of_ble_eq_true rfl) ?_
  refine W.eq (g2 := F0 m 4 ls []) rfl ?_
  refine lv_aload_n hx hb dX0_init_4 rfl (lv_at hl 0 rfl) ?_
  refine lv_sipush (v := (136 : Int32)) hx hb dX0_init_5 (by decide) ?_
  refine va_newa (atype := .int) (ty := .int) (N' := 136) (n := (136 : Int32)) (a0 := (136, .inl (fun _ => 0))) hx hb (hts (.arrayClass .int) (List.mem_of_getElem? (i := 4) rfl)) rfl hK hP hD hS hA (fun _ => rfl) (by decide +kernel) (by decide +kernel) (by decide +kernel) (Nat.le_of_ble_eq_true rfl) (Nat.le_of_ble_eq_true rfl) dX0_init_8 (fun q1 cA H2 hK2 hP hD hS => ?_)
  have eA : cyI = cA := Option.some.inj ((va_nm_int (hK.2 2 _ rfl).2).symm.trans (va_nm_int (hK2.2 5 _ rfl).2))
  subst eA
  have hP : va_P (dC, dI) vwCl [(aB, .inr (0, [.null, .int (0 : Int32)])), (q1, .inl (cyI, 136, .inl (fun _ => 0)))] H2 := hP
  have hD : va_D A [(aB, .inr (0, [.null, .int (0 : Int32)])), (q1, .inl (cyI, 136, .inl (fun _ => 0)))] := hD
  refine va_putF (D := (dC, dI)) (ci := 0) (v := .ref q1) (ty := (.array .int)) (C := RX0) (T := TX0) (N := 2) hx hb hts i_X0_init_X0 tyX0 tyX0_ok nmX0 hown hK hP hD hS 0 rfl rfl 0 (by decide) (hts (.fieldLink RX0 9 "TokenRow$Big" "limbs" "[I") (List.mem_of_getElem? (i := 5) rfl)) (fun _ h9 => h9) rfl hin rfl (by decide +kernel) rfl rfl (Nat.le_of_ble_eq_true rfl) dX0_init_10 (fun H3 locs hP hD hS => ?_)
  have hP : va_P (dC, dI) vwCl [(aB, .inr (0, [.ref q1, .int (0 : Int32)])), (q1, .inl (cyI, 136, .inl (fun _ => 0)))] H3 := hP
  have hD : va_D A [(aB, .inr (0, [.ref q1, .int (0 : Int32)])), (q1, .inl (cyI, 136, .inl (fun _ => 0)))] := hD
  have hP := hP.sub (ws' := [(aB, .inr (0, [.ref q1, .int (0 : Int32)])), (q1, .inl (cyI, 136, .inl (fun _ => 0)))]) [0, 1] rfl
  have hD := hD.sub (ws' := [(aB, .inr (0, [.ref q1, .int (0 : Int32)])), (q1, .inl (cyI, 136, .inl (fun _ => 0)))]) [0, 1] (by decide) rfl
  refine W.widen (k := 1) (n := 136) (Nat.le_of_ble_eq_true rfl) (Nat.le_of_ble_eq_true rfl) ?_
  exact W.vret hx hb hr (fun t ht hW => ⟨⟨q1, rfl, trivial, by rw [ht]; exact hP, hD⟩, hS.F ht⟩) hS.2.2 dX0_init_13
abbrev rm_X1_init : Room := { frames := 1, cells := 0, slots := 0, locals := 20 }
set_option maxHeartbeats 4000000 in
set_option maxRecDepth 100000 in
/-- TokenRow$Found() -/
theorem m_X1_init (l : Launch) (dC : Nat → ClassId) (dI : Nat → Nat → Nat) (cyB cyC cyI cyJ cyZ : ClassId) (aF : Nat) (sz : Nat) : Met l yX1_init wsX1_init rm_X1_init (Prw (dC, dI) (TY cyB cyC cyI cyJ cyZ) [.ref aF] sz [(aF, .inr (1, [.int (0 : Int32), .long (0 : Int64), .int (0 : Int32), .int (0 : Int32)]))]) (va_Qv (fun (_ : Unit) => True) (Bw (dC, dI) (va_A [(aF, .inr (1, [.int (0 : Int32), .long (0 : Int64), .int (0 : Int32), .int (0 : Int32)]))] sz) (fun (u : Unit) => [(aF, .inr (1, [.int (0 : Int32), .long (0 : Int64), .int (0 : Int32), .int (0 : Int32)]))])) (va_A [(aF, .inr (1, [.int (0 : Int32), .long (0 : Int64), .int (0 : Int32), .int (0 : Int32)]))] sz)) 0 0 (va_A [(aF, .inr (1, [.int (0 : Int32), .long (0 : Int64), .int (0 : Int32), .int (0 : Int32)]))] sz) := by
  refine Met.ofW (cc := cX1_init) (maxL := 1) (ret := none) (by decide) rfl ?_
  intro p e s m args below meth c s₁ B hml hv
  obtain ⟨rfl, hsz, hP, hK, hD0, hN⟩ := hv
  subst hsz
  have hx := B.exec
  have hb := B.bytes
  have hr := B.returns
  have hts := atoms_spec (ws := wsX1_init) B.pre
  have hown : s.vm.findClass RX1 = some m.cls := findClass_of_methodNamed B.named
  have hlocks := B.notSynchronized
  have hin : meth.name = "<init>" := (name_of_methodNamed B.named B.method).1
  have hD := hD0.self (sz := s.heap.size)
  generalize hAe : va_A [(aF, .inr (1, [.int (0 : Int32), .long (0 : Int64), .int (0 : Int32), .int (0 : Int32)]))] s.heap.size = A at hD ⊢
  have hA : ∀ q : Nat, s.heap.size ≤ q → A q := fun q h => by rw [← hAe]; exact Or.inr h
  have hS : va_S A s.heap s.heap [] := va_S.rf
  have hP : va_P (dC, dI) vwCl [(aF, .inr (1, [.int (0 : Int32), .long (0 : Int64), .int (0 : Int32), .int (0 : Int32)]))] s.heap := hP
  have hl := lv_entry ([.ref aF]) (n := 1) (Nat.le_of_ble_eq_true rfl)
  rw [lg_entry_eq]
  generalize (lg_sl ([.ref aF]) ++ List.replicate (1 - (lg_sl ([.ref aF])).length) Slot.unset).toArray = ls at hl ⊢
  have hl : lv_has ls 1 [(0, .ref aF)] := hl
  refine lv_aload_n hx hb dX1_init_0 rfl (lv_at hl 0 rfl) ?_
  refine W.objInit hx hb hown (hts (.methodLink RX1 1 objectInit) (List.mem_of_getElem? (i := 1) rfl)) (hts (.instanceMethod objectInit) (List.mem_of_getElem? (i := 2) rfl)) (hts (.code objectInit ⟨#[0xb1]⟩ 1 none) (List.mem_of_getElem? (i := 3) rfl)) rfl (by rw [hml]; exact hl.1) rfl dX1_init_1 (Nat.le_of_ble_eq_true rfl) (Nat.le_of_ble_eq_true rfl) ?_
  refine W.eq (g2 := F0 m 4 ls []) rfl ?_
  have hP := hP.sub (ws' := [(aF, .inr (1, [.int (0 : Int32), .long (0 : Int64), .int (0 : Int32), .int (0 : Int32)]))]) [0] rfl
  have hD := hD.sub (ws' := [(aF, .inr (1, [.int (0 : Int32), .long (0 : Int64), .int (0 : Int32), .int (0 : Int32)]))]) [0] (by decide) rfl
  refine W.widen (k := 0) (n := 0) (Nat.le_of_ble_eq_true rfl) (Nat.le_of_ble_eq_true rfl) ?_
  exact W.vret hx hb hr (fun t ht hW => ⟨⟨(), rfl, trivial, by rw [ht]; exact hP, hD⟩, hS.F ht⟩) hS.2.2 dX1_init_4
abbrev rm_X6_init : Room := { frames := 1, cells := 1, slots := 81920, locals := 20 }
theorem i_X6_init_X6 : ∀ w ∈ u_ws RX6 TX6 3, w ∈ wsX6_init := fun _ h => (List.mem_cons_of_mem _ (List.mem_append_right _ h))
set_option maxHeartbeats 4000000 in
set_option maxRecDepth 100000 in
/-- TokenRow$Source() -/
theorem m_X6_init (l : Launch) (dC : Nat → ClassId) (dI : Nat → Nat → Nat) (cyB cyC cyI cyJ cyZ : ClassId) (aS : Nat) (sz : Nat) : Met l yX6_init wsX6_init rm_X6_init (Prw (dC, dI) (TY cyB cyC cyI cyJ cyZ) [.ref aS] sz [(aS, .inr (6, [.null, .int (0 : Int32), .int (0 : Int32)]))]) (va_Qv (fun (_ : Nat) => True) (Bw (dC, dI) (va_A [(aS, .inr (6, [.null, .int (0 : Int32), .int (0 : Int32)]))] sz) (fun (u : Nat) => [(aS, .inr (6, [.ref u, .int (0 : Int32), .int (0 : Int32)])), (u, .inl (cyC, 81920, .inl (fun _ => 0)))])) (va_A [(aS, .inr (6, [.null, .int (0 : Int32), .int (0 : Int32)]))] sz)) 1 81920 (va_A [(aS, .inr (6, [.null, .int (0 : Int32), .int (0 : Int32)]))] sz) := by
  refine Met.ofW (cc := cX6_init) (maxL := 1) (ret := none) (by decide) rfl ?_
  intro p e s m args below meth c s₁ B hml hv
  obtain ⟨rfl, hsz, hP, hK, hD0, hN⟩ := hv
  subst hsz
  have hx := B.exec
  have hb := B.bytes
  have hr := B.returns
  have hts := atoms_spec (ws := wsX6_init) B.pre
  have hown : s.vm.findClass RX6 = some m.cls := findClass_of_methodNamed B.named
  have hlocks := B.notSynchronized
  have hin : meth.name = "<init>" := (name_of_methodNamed B.named B.method).1
  have hD := hD0.self (sz := s.heap.size)
  generalize hAe : va_A [(aS, .inr (6, [.null, .int (0 : Int32), .int (0 : Int32)]))] s.heap.size = A at hD ⊢
  have hA : ∀ q : Nat, s.heap.size ≤ q → A q := fun q h => by rw [← hAe]; exact Or.inr h
  have hS : va_S A s.heap s.heap [] := va_S.rf
  have hP : va_P (dC, dI) vwCl [(aS, .inr (6, [.null, .int (0 : Int32), .int (0 : Int32)]))] s.heap := hP
  have hl := lv_entry ([.ref aS]) (n := 1) (Nat.le_of_ble_eq_true rfl)
  rw [lg_entry_eq]
  generalize (lg_sl ([.ref aS]) ++ List.replicate (1 - (lg_sl ([.ref aS])).length) Slot.unset).toArray = ls at hl ⊢
  have hl : lv_has ls 1 [(0, .ref aS)] := hl
  refine lv_aload_n hx hb dX6_init_0 rfl (lv_at hl 0 rfl) ?_
  refine W.objInit hx hb hown (hts (.methodLink RX6 3 objectInit) (List.mem_of_getElem? (i := 1) rfl)) (hts (.instanceMethod objectInit) (List.mem_of_getElem? (i := 2) rfl)) (hts (.code objectInit ⟨#[0xb1]⟩ 1 none) (List.mem_of_getElem? (i := 3) rfl)) rfl (by rw [hml]; exact hl.1) rfl dX6_init_1 (Nat.le_of_ble_eq_true rfl) (Nat.le_of_ble_eq_true rfl) ?_
  refine W.eq (g2 := F0 m 4 ls []) rfl ?_
  refine lv_aload_n hx hb dX6_init_4 rfl (lv_at hl 0 rfl) ?_
  refine lv_ldc (v := (81920 : Int32)) hx hb hown (hts (.constant RX6 9 (81920)) (List.mem_of_getElem? (i := 4) rfl)) dX6_init_5 ?_
  refine va_newa (atype := .char) (ty := .char) (N' := 81920) (n := (81920 : Int32)) (a0 := (81920, .inl (fun _ => 0))) hx hb (hts (.arrayClass .char) (List.mem_of_getElem? (i := 5) rfl)) rfl hK hP hD hS hA (fun _ => rfl) (by decide +kernel) (by decide +kernel) (by decide +kernel) (Nat.le_of_ble_eq_true rfl) (Nat.le_of_ble_eq_true rfl) dX6_init_7 (fun q1 cA H2 hK2 hP hD hS => ?_)
  have eA : cyC = cA := Option.some.inj ((va_nm_char (hK.2 1 _ rfl).2).symm.trans (va_nm_char (hK2.2 5 _ rfl).2))
  subst eA
  have hP : va_P (dC, dI) vwCl [(aS, .inr (6, [.null, .int (0 : Int32), .int (0 : Int32)])), (q1, .inl (cyC, 81920, .inl (fun _ => 0)))] H2 := hP
  have hD : va_D A [(aS, .inr (6, [.null, .int (0 : Int32), .int (0 : Int32)])), (q1, .inl (cyC, 81920, .inl (fun _ => 0)))] := hD
  refine va_putF (D := (dC, dI)) (ci := 6) (v := .ref q1) (ty := (.array .char)) (C := RX6) (T := TX6) (N := 3) hx hb hts i_X6_init_X6 tyX6 tyX6_ok nmX6 hown hK hP hD hS 0 rfl rfl 0 (by decide) (hts (.fieldLink RX6 10 "TokenRow$Source" "characters" "[C") (List.mem_of_getElem? (i := 6) rfl)) (fun _ h9 => h9) rfl hin rfl (by decide +kernel) rfl rfl (Nat.le_of_ble_eq_true rfl) dX6_init_9 (fun H3 locs hP hD hS => ?_)
  have hP : va_P (dC, dI) vwCl [(aS, .inr (6, [.ref q1, .int (0 : Int32), .int (0 : Int32)])), (q1, .inl (cyC, 81920, .inl (fun _ => 0)))] H3 := hP
  have hD : va_D A [(aS, .inr (6, [.ref q1, .int (0 : Int32), .int (0 : Int32)])), (q1, .inl (cyC, 81920, .inl (fun _ => 0)))] := hD
  have hP := hP.sub (ws' := [(aS, .inr (6, [.ref q1, .int (0 : Int32), .int (0 : Int32)])), (q1, .inl (cyC, 81920, .inl (fun _ => 0)))]) [0, 1] rfl
  have hD := hD.sub (ws' := [(aS, .inr (6, [.ref q1, .int (0 : Int32), .int (0 : Int32)])), (q1, .inl (cyC, 81920, .inl (fun _ => 0)))]) [0, 1] (by decide) rfl
  refine W.widen (k := 1) (n := 81920) (Nat.le_of_ble_eq_true rfl) (Nat.le_of_ble_eq_true rfl) ?_
  exact W.vret hx hb hr (fun t ht hW => ⟨⟨q1, rfl, trivial, by rw [ht]; exact hP, hD⟩, hS.F ht⟩) hS.2.2 dX6_init_12
abbrev rm_X8_init : Room := { frames := 1, cells := 4, slots := 32768, locals := 20 }
theorem i_X8_init_X8 : ∀ w ∈ u_ws RX8 TX8 5, w ∈ wsX8_init := fun _ h => (List.mem_cons_of_mem _ (List.mem_append_right _ h))
set_option maxHeartbeats 4000000 in
set_option maxRecDepth 100000 in
/-- TokenRow$Store() -/
theorem m_X8_init (l : Launch) (dC : Nat → ClassId) (dI : Nat → Nat → Nat) (cyB cyC cyI cyJ cyZ : ClassId) (aT : Nat) (sz : Nat) : Met l yX8_init wsX8_init rm_X8_init (Prw (dC, dI) (TY cyB cyC cyI cyJ cyZ) [.ref aT] sz [(aT, .inr (8, [.null, .null, .null, .null, .int (0 : Int32)]))]) (va_Qv (fun (_ : Nat × Nat × Nat × Nat) => True) (Bw (dC, dI) (va_A [(aT, .inr (8, [.null, .null, .null, .null, .int (0 : Int32)]))] sz) (fun (u : Nat × Nat × Nat × Nat) => [(aT, .inr (8, [.ref u.1, .ref u.2.1, .ref u.2.2.1, .ref u.2.2.2, .int (0 : Int32)])), (u.1, .inl (cyI, 8192, .inl (fun _ => 0))), (u.2.1, .inl (cyZ, 8192, .inl (fun _ => 0))), (u.2.2.1, .inl (cyJ, 8192, .inr (.inl (fun _ => 0)))), (u.2.2.2, .inl (cyI, 8192, .inl (fun _ => 0)))])) (va_A [(aT, .inr (8, [.null, .null, .null, .null, .int (0 : Int32)]))] sz)) 4 32768 (va_A [(aT, .inr (8, [.null, .null, .null, .null, .int (0 : Int32)]))] sz) := by
  refine Met.ofW (cc := cX8_init) (maxL := 1) (ret := none) (by decide) rfl ?_
  intro p e s m args below meth c s₁ B hml hv
  obtain ⟨rfl, hsz, hP, hK, hD0, hN⟩ := hv
  subst hsz
  have hx := B.exec
  have hb := B.bytes
  have hr := B.returns
  have hts := atoms_spec (ws := wsX8_init) B.pre
  have hown : s.vm.findClass RX8 = some m.cls := findClass_of_methodNamed B.named
  have hlocks := B.notSynchronized
  have hin : meth.name = "<init>" := (name_of_methodNamed B.named B.method).1
  have hD := hD0.self (sz := s.heap.size)
  generalize hAe : va_A [(aT, .inr (8, [.null, .null, .null, .null, .int (0 : Int32)]))] s.heap.size = A at hD ⊢
  have hA : ∀ q : Nat, s.heap.size ≤ q → A q := fun q h => by rw [← hAe]; exact Or.inr h
  have hS : va_S A s.heap s.heap [] := va_S.rf
  have hP : va_P (dC, dI) vwCl [(aT, .inr (8, [.null, .null, .null, .null, .int (0 : Int32)]))] s.heap := hP
  have hl := lv_entry ([.ref aT]) (n := 1) (Nat.le_of_ble_eq_true rfl)
  rw [lg_entry_eq]
  generalize (lg_sl ([.ref aT]) ++ List.replicate (1 - (lg_sl ([.ref aT])).length) Slot.unset).toArray = ls at hl ⊢
  have hl : lv_has ls 1 [(0, .ref aT)] := hl
  refine lv_aload_n hx hb dX8_init_0 rfl (lv_at hl 0 rfl) ?_
  refine W.objInit hx hb hown (hts (.methodLink RX8 3 objectInit) (List.mem_of_getElem? (i := 1) rfl)) (hts (.instanceMethod objectInit) (List.mem_of_getElem? (i := 2) rfl)) (hts (.code objectInit ⟨#[0xb1]⟩ 1 none) (List.mem_of_getElem? (i := 3) rfl)) rfl (by rw [hml]; exact hl.1) rfl dX8_init_1 (Nat.le_of_ble_eq_true rfl) (Nat.le_of_ble_eq_true rfl) ?_
  refine W.eq (g2 := F0 m 4 ls []) rfl ?_
  refine lv_aload_n hx hb dX8_init_4 rfl (lv_at hl 0 rfl) ?_
  refine lv_sipush (v := (8192 : Int32)) hx hb dX8_init_5 (by decide) ?_
  refine va_newa (atype := .int) (ty := .int) (N' := 8192) (n := (8192 : Int32)) (a0 := (8192, .inl (fun _ => 0))) hx hb (hts (.arrayClass .int) (List.mem_of_getElem? (i := 4) rfl)) rfl hK hP hD hS hA (fun _ => rfl) (by decide +kernel) (by decide +kernel) (by decide +kernel) (Nat.le_of_ble_eq_true rfl) (Nat.le_of_ble_eq_true rfl) dX8_init_8 (fun q1 cA H2 hK2 hP hD hS => ?_)
  have eA : cyI = cA := Option.some.inj ((va_nm_int (hK.2 2 _ rfl).2).symm.trans (va_nm_int (hK2.2 5 _ rfl).2))
  subst eA
  have hP : va_P (dC, dI) vwCl [(aT, .inr (8, [.null, .null, .null, .null, .int (0 : Int32)])), (q1, .inl (cyI, 8192, .inl (fun _ => 0)))] H2 := hP
  have hD : va_D A [(aT, .inr (8, [.null, .null, .null, .null, .int (0 : Int32)])), (q1, .inl (cyI, 8192, .inl (fun _ => 0)))] := hD
  refine va_putF (D := (dC, dI)) (ci := 8) (v := .ref q1) (ty := (.array .int)) (C := RX8) (T := TX8) (N := 5) hx hb hts i_X8_init_X8 tyX8 tyX8_ok nmX8 hown hK hP hD hS 0 rfl rfl 0 (by decide) (hts (.fieldLink RX8 9 "TokenRow$Store" "kinds" "[I") (List.mem_of_getElem? (i := 5) rfl)) (fun _ h9 => h9) rfl hin rfl (by decide +kernel) rfl rfl (Nat.le_of_ble_eq_true rfl) dX8_init_10 (fun H3 locs hP hD hS => ?_)
  have hP : va_P (dC, dI) vwCl [(aT, .inr (8, [.ref q1, .null, .null, .null, .int (0 : Int32)])), (q1, .inl (cyI, 8192, .inl (fun _ => 0)))] H3 := hP
  have hD : va_D A [(aT, .inr (8, [.ref q1, .null, .null, .null, .int (0 : Int32)])), (q1, .inl (cyI, 8192, .inl (fun _ => 0)))] := hD
  refine lv_aload_n hx hb dX8_init_13 rfl (lv_at hl 0 rfl) ?_
  refine lv_sipush (v := (8192 : Int32)) hx hb dX8_init_14 (by decide) ?_
  refine va_newa (atype := .boolean) (ty := .boolean) (N' := 8192) (n := (8192 : Int32)) (a0 := (8192, .inl (fun _ => 0))) hx hb (hts (.arrayClass .boolean) (List.mem_of_getElem? (i := 6) rfl)) rfl hK hP hD hS hA (fun _ => rfl) (by decide +kernel) (by decide +kernel) (by decide +kernel) (Nat.le_of_ble_eq_true rfl) (Nat.le_of_ble_eq_true rfl) dX8_init_17 (fun q4 cA H5 hK2 hP hD hS => ?_)
  have eA : cyZ = cA := Option.some.inj ((va_nm_boolean (hK.2 4 _ rfl).2).symm.trans (va_nm_boolean (hK2.2 5 _ rfl).2))
  subst eA
  have hP : va_P (dC, dI) vwCl [(aT, .inr (8, [.ref q1, .null, .null, .null, .int (0 : Int32)])), (q1, .inl (cyI, 8192, .inl (fun _ => 0))), (q4, .inl (cyZ, 8192, .inl (fun _ => 0)))] H5 := hP
  have hD : va_D A [(aT, .inr (8, [.ref q1, .null, .null, .null, .int (0 : Int32)])), (q1, .inl (cyI, 8192, .inl (fun _ => 0))), (q4, .inl (cyZ, 8192, .inl (fun _ => 0)))] := hD
  refine va_putF (D := (dC, dI)) (ci := 8) (v := .ref q4) (ty := (.array .boolean)) (C := RX8) (T := TX8) (N := 5) hx hb hts i_X8_init_X8 tyX8 tyX8_ok nmX8 hown hK hP hD hS 0 rfl rfl 1 (by decide) (hts (.fieldLink RX8 15 "TokenRow$Store" "joined" "[Z") (List.mem_of_getElem? (i := 7) rfl)) (fun _ h9 => h9) rfl hin rfl (by decide +kernel) rfl rfl (Nat.le_of_ble_eq_true rfl) dX8_init_19 (fun H6 locs hP hD hS => ?_)
  have hP : va_P (dC, dI) vwCl [(aT, .inr (8, [.ref q1, .ref q4, .null, .null, .int (0 : Int32)])), (q1, .inl (cyI, 8192, .inl (fun _ => 0))), (q4, .inl (cyZ, 8192, .inl (fun _ => 0)))] H6 := hP
  have hD : va_D A [(aT, .inr (8, [.ref q1, .ref q4, .null, .null, .int (0 : Int32)])), (q1, .inl (cyI, 8192, .inl (fun _ => 0))), (q4, .inl (cyZ, 8192, .inl (fun _ => 0)))] := hD
  refine lv_aload_n hx hb dX8_init_22 rfl (lv_at hl 0 rfl) ?_
  refine lv_sipush (v := (8192 : Int32)) hx hb dX8_init_23 (by decide) ?_
  refine va_newa (atype := .long) (ty := .long) (N' := 8192) (n := (8192 : Int32)) (a0 := (8192, .inr (.inl (fun _ => 0)))) hx hb (hts (.arrayClass .long) (List.mem_of_getElem? (i := 8) rfl)) rfl hK hP hD hS hA (fun _ => rfl) (by decide +kernel) (by decide +kernel) (by decide +kernel) (Nat.le_of_ble_eq_true rfl) (Nat.le_of_ble_eq_true rfl) dX8_init_26 (fun q7 cA H8 hK2 hP hD hS => ?_)
  have eA : cyJ = cA := Option.some.inj ((va_nm_long (hK.2 3 _ rfl).2).symm.trans (va_nm_long (hK2.2 5 _ rfl).2))
  subst eA
  have hP : va_P (dC, dI) vwCl [(aT, .inr (8, [.ref q1, .ref q4, .null, .null, .int (0 : Int32)])), (q1, .inl (cyI, 8192, .inl (fun _ => 0))), (q4, .inl (cyZ, 8192, .inl (fun _ => 0))), (q7, .inl (cyJ, 8192, .inr (.inl (fun _ => 0))))] H8 := hP
  have hD : va_D A [(aT, .inr (8, [.ref q1, .ref q4, .null, .null, .int (0 : Int32)])), (q1, .inl (cyI, 8192, .inl (fun _ => 0))), (q4, .inl (cyZ, 8192, .inl (fun _ => 0))), (q7, .inl (cyJ, 8192, .inr (.inl (fun _ => 0))))] := hD
  refine va_putF (D := (dC, dI)) (ci := 8) (v := .ref q7) (ty := (.array .long)) (C := RX8) (T := TX8) (N := 5) hx hb hts i_X8_init_X8 tyX8 tyX8_ok nmX8 hown hK hP hD hS 0 rfl rfl 2 (by decide) (hts (.fieldLink RX8 19 "TokenRow$Store" "says" "[J") (List.mem_of_getElem? (i := 9) rfl)) (fun _ h9 => h9) rfl hin rfl (by decide +kernel) rfl rfl (Nat.le_of_ble_eq_true rfl) dX8_init_28 (fun H9 locs hP hD hS => ?_)
  have hP : va_P (dC, dI) vwCl [(aT, .inr (8, [.ref q1, .ref q4, .ref q7, .null, .int (0 : Int32)])), (q1, .inl (cyI, 8192, .inl (fun _ => 0))), (q4, .inl (cyZ, 8192, .inl (fun _ => 0))), (q7, .inl (cyJ, 8192, .inr (.inl (fun _ => 0))))] H9 := hP
  have hD : va_D A [(aT, .inr (8, [.ref q1, .ref q4, .ref q7, .null, .int (0 : Int32)])), (q1, .inl (cyI, 8192, .inl (fun _ => 0))), (q4, .inl (cyZ, 8192, .inl (fun _ => 0))), (q7, .inl (cyJ, 8192, .inr (.inl (fun _ => 0))))] := hD
  refine lv_aload_n hx hb dX8_init_31 rfl (lv_at hl 0 rfl) ?_
  refine lv_sipush (v := (8192 : Int32)) hx hb dX8_init_32 (by decide) ?_
  refine va_newa (atype := .int) (ty := .int) (N' := 8192) (n := (8192 : Int32)) (a0 := (8192, .inl (fun _ => 0))) hx hb (hts (.arrayClass .int) (List.mem_of_getElem? (i := 4) rfl)) rfl hK hP hD hS hA (fun _ => rfl) (by decide +kernel) (by decide +kernel) (by decide +kernel) (Nat.le_of_ble_eq_true rfl) (Nat.le_of_ble_eq_true rfl) dX8_init_35 (fun q10 cA H11 hK2 hP hD hS => ?_)
  have eA : cyI = cA := Option.some.inj ((va_nm_int (hK.2 2 _ rfl).2).symm.trans (va_nm_int (hK2.2 5 _ rfl).2))
  subst eA
  have hP : va_P (dC, dI) vwCl [(aT, .inr (8, [.ref q1, .ref q4, .ref q7, .null, .int (0 : Int32)])), (q1, .inl (cyI, 8192, .inl (fun _ => 0))), (q4, .inl (cyZ, 8192, .inl (fun _ => 0))), (q7, .inl (cyJ, 8192, .inr (.inl (fun _ => 0)))), (q10, .inl (cyI, 8192, .inl (fun _ => 0)))] H11 := hP
  have hD : va_D A [(aT, .inr (8, [.ref q1, .ref q4, .ref q7, .null, .int (0 : Int32)])), (q1, .inl (cyI, 8192, .inl (fun _ => 0))), (q4, .inl (cyZ, 8192, .inl (fun _ => 0))), (q7, .inl (cyJ, 8192, .inr (.inl (fun _ => 0)))), (q10, .inl (cyI, 8192, .inl (fun _ => 0)))] := hD
  refine va_putF (D := (dC, dI)) (ci := 8) (v := .ref q10) (ty := (.array .int)) (C := RX8) (T := TX8) (N := 5) hx hb hts i_X8_init_X8 tyX8 tyX8_ok nmX8 hown hK hP hD hS 0 rfl rfl 3 (by decide) (hts (.fieldLink RX8 23 "TokenRow$Store" "starts" "[I") (List.mem_of_getElem? (i := 10) rfl)) (fun _ h9 => h9) rfl hin rfl (by decide +kernel) rfl rfl (Nat.le_of_ble_eq_true rfl) dX8_init_37 (fun H12 locs hP hD hS => ?_)
  have hP : va_P (dC, dI) vwCl [(aT, .inr (8, [.ref q1, .ref q4, .ref q7, .ref q10, .int (0 : Int32)])), (q1, .inl (cyI, 8192, .inl (fun _ => 0))), (q4, .inl (cyZ, 8192, .inl (fun _ => 0))), (q7, .inl (cyJ, 8192, .inr (.inl (fun _ => 0)))), (q10, .inl (cyI, 8192, .inl (fun _ => 0)))] H12 := hP
  have hD : va_D A [(aT, .inr (8, [.ref q1, .ref q4, .ref q7, .ref q10, .int (0 : Int32)])), (q1, .inl (cyI, 8192, .inl (fun _ => 0))), (q4, .inl (cyZ, 8192, .inl (fun _ => 0))), (q7, .inl (cyJ, 8192, .inr (.inl (fun _ => 0)))), (q10, .inl (cyI, 8192, .inl (fun _ => 0)))] := hD
  have hP := hP.sub (ws' := [(aT, .inr (8, [.ref q1, .ref q4, .ref q7, .ref q10, .int (0 : Int32)])), (q1, .inl (cyI, 8192, .inl (fun _ => 0))), (q4, .inl (cyZ, 8192, .inl (fun _ => 0))), (q7, .inl (cyJ, 8192, .inr (.inl (fun _ => 0)))), (q10, .inl (cyI, 8192, .inl (fun _ => 0)))]) [0, 1, 2, 3, 4] rfl
  have hD := hD.sub (ws' := [(aT, .inr (8, [.ref q1, .ref q4, .ref q7, .ref q10, .int (0 : Int32)])), (q1, .inl (cyI, 8192, .inl (fun _ => 0))), (q4, .inl (cyZ, 8192, .inl (fun _ => 0))), (q7, .inl (cyJ, 8192, .inr (.inl (fun _ => 0)))), (q10, .inl (cyI, 8192, .inl (fun _ => 0)))]) [0, 1, 2, 3, 4] (by decide) rfl
  refine W.widen (k := 4) (n := 32768) (Nat.le_of_ble_eq_true rfl) (Nat.le_of_ble_eq_true rfl) ?_
  exact W.vret hx hb hr (fun t ht hW => ⟨⟨(q1, q4, q7, q10), rfl, trivial, by rw [ht]; exact hP, hD⟩, hS.F ht⟩) hS.2.2 dX8_init_40
abbrev rm_X7_init : Room := { frames := 1, cells := 2, slots := 577, locals := 20 }
theorem i_X7_init_X7 : ∀ w ∈ u_ws RX7 TX7 3, w ∈ wsX7_init := fun _ h => (List.mem_cons_of_mem _ (List.mem_append_right _ h))
set_option maxHeartbeats 4000000 in
set_option maxRecDepth 100000 in
/-- TokenRow$Spellings() -/
theorem m_X7_init (l : Launch) (dC : Nat → ClassId) (dI : Nat → Nat → Nat) (cyB cyC cyI cyJ cyZ : ClassId) (aP : Nat) (sz : Nat) : Met l yX7_init wsX7_init rm_X7_init (Prw (dC, dI) (TY cyB cyC cyI cyJ cyZ) [.ref aP] sz [(aP, .inr (7, [.null, .null, .int (0 : Int32)]))]) (va_Qv (fun (_ : Nat × Nat) => True) (Bw (dC, dI) (va_A [(aP, .inr (7, [.null, .null, .int (0 : Int32)]))] sz) (fun (u : Nat × Nat) => [(aP, .inr (7, [.ref u.1, .ref u.2, .int (0 : Int32)])), (u.1, .inl (cyC, 512, .inl (fun _ => 0))), (u.2, .inl (cyI, 65, .inl (fun _ => 0)))])) (va_A [(aP, .inr (7, [.null, .null, .int (0 : Int32)]))] sz)) 2 577 (va_A [(aP, .inr (7, [.null, .null, .int (0 : Int32)]))] sz) := by
  refine Met.ofW (cc := cX7_init) (maxL := 1) (ret := none) (by decide) rfl ?_
  intro p e s m args below meth c s₁ B hml hv
  obtain ⟨rfl, hsz, hP, hK, hD0, hN⟩ := hv
  subst hsz
  have hx := B.exec
  have hb := B.bytes
  have hr := B.returns
  have hts := atoms_spec (ws := wsX7_init) B.pre
  have hown : s.vm.findClass RX7 = some m.cls := findClass_of_methodNamed B.named
  have hlocks := B.notSynchronized
  have hin : meth.name = "<init>" := (name_of_methodNamed B.named B.method).1
  have hD := hD0.self (sz := s.heap.size)
  generalize hAe : va_A [(aP, .inr (7, [.null, .null, .int (0 : Int32)]))] s.heap.size = A at hD ⊢
  have hA : ∀ q : Nat, s.heap.size ≤ q → A q := fun q h => by rw [← hAe]; exact Or.inr h
  have hS : va_S A s.heap s.heap [] := va_S.rf
  have hP : va_P (dC, dI) vwCl [(aP, .inr (7, [.null, .null, .int (0 : Int32)]))] s.heap := hP
  have hl := lv_entry ([.ref aP]) (n := 1) (Nat.le_of_ble_eq_true rfl)
  rw [lg_entry_eq]
  generalize (lg_sl ([.ref aP]) ++ List.replicate (1 - (lg_sl ([.ref aP])).length) Slot.unset).toArray = ls at hl ⊢
  have hl : lv_has ls 1 [(0, .ref aP)] := hl
  refine lv_aload_n hx hb dX7_init_0 rfl (lv_at hl 0 rfl) ?_
  refine W.objInit hx hb hown (hts (.methodLink RX7 3 objectInit) (List.mem_of_getElem? (i := 1) rfl)) (hts (.instanceMethod objectInit) (List.mem_of_getElem? (i := 2) rfl)) (hts (.code objectInit ⟨#[0xb1]⟩ 1 none) (List.mem_of_getElem? (i := 3) rfl)) rfl (by rw [hml]; exact hl.1) rfl dX7_init_1 (Nat.le_of_ble_eq_true rfl) (Nat.le_of_ble_eq_true rfl) ?_
  refine W.eq (g2 := F0 m 4 ls []) rfl ?_
  refine lv_aload_n hx hb dX7_init_4 rfl (lv_at hl 0 rfl) ?_
  refine lv_sipush (v := (512 : Int32)) hx hb dX7_init_5 (by decide) ?_
  refine va_newa (atype := .char) (ty := .char) (N' := 512) (n := (512 : Int32)) (a0 := (512, .inl (fun _ => 0))) hx hb (hts (.arrayClass .char) (List.mem_of_getElem? (i := 4) rfl)) rfl hK hP hD hS hA (fun _ => rfl) (by decide +kernel) (by decide +kernel) (by decide +kernel) (Nat.le_of_ble_eq_true rfl) (Nat.le_of_ble_eq_true rfl) dX7_init_8 (fun q1 cA H2 hK2 hP hD hS => ?_)
  have eA : cyC = cA := Option.some.inj ((va_nm_char (hK.2 1 _ rfl).2).symm.trans (va_nm_char (hK2.2 5 _ rfl).2))
  subst eA
  have hP : va_P (dC, dI) vwCl [(aP, .inr (7, [.null, .null, .int (0 : Int32)])), (q1, .inl (cyC, 512, .inl (fun _ => 0)))] H2 := hP
  have hD : va_D A [(aP, .inr (7, [.null, .null, .int (0 : Int32)])), (q1, .inl (cyC, 512, .inl (fun _ => 0)))] := hD
  refine va_putF (D := (dC, dI)) (ci := 7) (v := .ref q1) (ty := (.array .char)) (C := RX7) (T := TX7) (N := 3) hx hb hts i_X7_init_X7 tyX7 tyX7_ok nmX7 hown hK hP hD hS 0 rfl rfl 0 (by decide) (hts (.fieldLink RX7 9 "TokenRow$Spellings" "characters" "[C") (List.mem_of_getElem? (i := 5) rfl)) (fun _ h9 => h9) rfl hin rfl (by decide +kernel) rfl rfl (Nat.le_of_ble_eq_true rfl) dX7_init_10 (fun H3 locs hP hD hS => ?_)
  have hP : va_P (dC, dI) vwCl [(aP, .inr (7, [.ref q1, .null, .int (0 : Int32)])), (q1, .inl (cyC, 512, .inl (fun _ => 0)))] H3 := hP
  have hD : va_D A [(aP, .inr (7, [.ref q1, .null, .int (0 : Int32)])), (q1, .inl (cyC, 512, .inl (fun _ => 0)))] := hD
  refine lv_aload_n hx hb dX7_init_13 rfl (lv_at hl 0 rfl) ?_
  refine lv_bipush (v := (65 : Int32)) hx hb dX7_init_14 (by decide) ?_
  refine va_newa (atype := .int) (ty := .int) (N' := 65) (n := (65 : Int32)) (a0 := (65, .inl (fun _ => 0))) hx hb (hts (.arrayClass .int) (List.mem_of_getElem? (i := 6) rfl)) rfl hK hP hD hS hA (fun _ => rfl) (by decide +kernel) (by decide +kernel) (by decide +kernel) (Nat.le_of_ble_eq_true rfl) (Nat.le_of_ble_eq_true rfl) dX7_init_16 (fun q4 cA H5 hK2 hP hD hS => ?_)
  have eA : cyI = cA := Option.some.inj ((va_nm_int (hK.2 2 _ rfl).2).symm.trans (va_nm_int (hK2.2 5 _ rfl).2))
  subst eA
  have hP : va_P (dC, dI) vwCl [(aP, .inr (7, [.ref q1, .null, .int (0 : Int32)])), (q1, .inl (cyC, 512, .inl (fun _ => 0))), (q4, .inl (cyI, 65, .inl (fun _ => 0)))] H5 := hP
  have hD : va_D A [(aP, .inr (7, [.ref q1, .null, .int (0 : Int32)])), (q1, .inl (cyC, 512, .inl (fun _ => 0))), (q4, .inl (cyI, 65, .inl (fun _ => 0)))] := hD
  refine va_putF (D := (dC, dI)) (ci := 7) (v := .ref q4) (ty := (.array .int)) (C := RX7) (T := TX7) (N := 3) hx hb hts i_X7_init_X7 tyX7 tyX7_ok nmX7 hown hK hP hD hS 0 rfl rfl 1 (by decide) (hts (.fieldLink RX7 15 "TokenRow$Spellings" "starts" "[I") (List.mem_of_getElem? (i := 7) rfl)) (fun _ h9 => h9) rfl hin rfl (by decide +kernel) rfl rfl (Nat.le_of_ble_eq_true rfl) dX7_init_18 (fun H6 locs hP hD hS => ?_)
  have hP : va_P (dC, dI) vwCl [(aP, .inr (7, [.ref q1, .ref q4, .int (0 : Int32)])), (q1, .inl (cyC, 512, .inl (fun _ => 0))), (q4, .inl (cyI, 65, .inl (fun _ => 0)))] H6 := hP
  have hD : va_D A [(aP, .inr (7, [.ref q1, .ref q4, .int (0 : Int32)])), (q1, .inl (cyC, 512, .inl (fun _ => 0))), (q4, .inl (cyI, 65, .inl (fun _ => 0)))] := hD
  have hP := hP.sub (ws' := [(aP, .inr (7, [.ref q1, .ref q4, .int (0 : Int32)])), (q1, .inl (cyC, 512, .inl (fun _ => 0))), (q4, .inl (cyI, 65, .inl (fun _ => 0)))]) [0, 1, 2] rfl
  have hD := hD.sub (ws' := [(aP, .inr (7, [.ref q1, .ref q4, .int (0 : Int32)])), (q1, .inl (cyC, 512, .inl (fun _ => 0))), (q4, .inl (cyI, 65, .inl (fun _ => 0)))]) [0, 1, 2] (by decide) rfl
  refine W.widen (k := 2) (n := 577) (Nat.le_of_ble_eq_true rfl) (Nat.le_of_ble_eq_true rfl) ?_
  exact W.vret hx hb hr (fun t ht hW => ⟨⟨(q1, q4), rfl, trivial, by rw [ht]; exact hP, hD⟩, hS.F ht⟩) hS.2.2 dX7_init_21
abbrev rm_X3_init : Room := { frames := 1, cells := 0, slots := 0, locals := 20 }
theorem i_X3_init_X3 : ∀ w ∈ u_ws RX3 TX3 3, w ∈ wsX3_init := fun _ h => (List.mem_cons_of_mem _ (List.mem_append_right _ h))
set_option maxHeartbeats 4000000 in
set_option maxRecDepth 100000 in
/-- TokenRow$Quotes() -/
theorem m_X3_init (l : Launch) (dC : Nat → ClassId) (dI : Nat → Nat → Nat) (cyB cyC cyI cyJ cyZ : ClassId) (aQ aS aF : Nat) (sz : Nat) : Met l yX3_init wsX3_init rm_X3_init (Prw (dC, dI) (TY cyB cyC cyI cyJ cyZ) [.ref aQ, .ref aS, .ref aF] sz [(aQ, .inr (3, [.null, .null, .int (0 : Int32)]))]) (va_Qv (fun (_ : Unit) => True) (Bw (dC, dI) (va_A [(aQ, .inr (3, [.null, .null, .int (0 : Int32)]))] sz) (fun (u : Unit) => [(aQ, .inr (3, [.ref aS, .ref aF, .int (0 : Int32)]))])) (va_A [(aQ, .inr (3, [.null, .null, .int (0 : Int32)]))] sz)) 0 0 (va_A [(aQ, .inr (3, [.null, .null, .int (0 : Int32)]))] sz) := by
  refine Met.ofW (cc := cX3_init) (maxL := 3) (ret := none) (by decide) rfl ?_
  intro p e s m args below meth c s₁ B hml hv
  obtain ⟨rfl, hsz, hP, hK, hD0, hN⟩ := hv
  subst hsz
  have hx := B.exec
  have hb := B.bytes
  have hr := B.returns
  have hts := atoms_spec (ws := wsX3_init) B.pre
  have hown : s.vm.findClass RX3 = some m.cls := findClass_of_methodNamed B.named
  have hlocks := B.notSynchronized
  have hin : meth.name = "<init>" := (name_of_methodNamed B.named B.method).1
  have hD := hD0.self (sz := s.heap.size)
  generalize hAe : va_A [(aQ, .inr (3, [.null, .null, .int (0 : Int32)]))] s.heap.size = A at hD ⊢
  have hA : ∀ q : Nat, s.heap.size ≤ q → A q := fun q h => by rw [← hAe]; exact Or.inr h
  have hS : va_S A s.heap s.heap [] := va_S.rf
  have hP : va_P (dC, dI) vwCl [(aQ, .inr (3, [.null, .null, .int (0 : Int32)]))] s.heap := hP
  have hl := lv_entry ([.ref aQ, .ref aS, .ref aF]) (n := 3) (Nat.le_of_ble_eq_true rfl)
  rw [lg_entry_eq]
  generalize (lg_sl ([.ref aQ, .ref aS, .ref aF]) ++ List.replicate (3 - (lg_sl ([.ref aQ, .ref aS, .ref aF])).length) Slot.unset).toArray = ls at hl ⊢
  have hl : lv_has ls 3 [(0, .ref aQ), (1, .ref aS), (2, .ref aF)] := hl
  refine lv_aload_n hx hb dX3_init_0 rfl (lv_at hl 0 rfl) ?_
  refine W.objInit hx hb hown (hts (.methodLink RX3 3 objectInit) (List.mem_of_getElem? (i := 1) rfl)) (hts (.instanceMethod objectInit) (List.mem_of_getElem? (i := 2) rfl)) (hts (.code objectInit ⟨#[0xb1]⟩ 1 none) (List.mem_of_getElem? (i := 3) rfl)) rfl (by rw [hml]; exact hl.1) rfl dX3_init_1 (Nat.le_of_ble_eq_true rfl) (Nat.le_of_ble_eq_true rfl) ?_
  refine W.eq (g2 := F0 m 4 ls []) rfl ?_
  refine lv_aload_n hx hb dX3_init_4 rfl (lv_at hl 0 rfl) ?_
  refine lv_aload_n hx hb dX3_init_5 rfl (lv_at hl 1 rfl) ?_
  refine va_putF (D := (dC, dI)) (ci := 3) (v := .ref aS) (ty := (.object "TokenRow$Source")) (C := RX3) (T := TX3) (N := 3) hx hb hts i_X3_init_X3 tyX3 tyX3_ok nmX3 hown hK hP hD hS 0 rfl rfl 0 (by decide) (hts (.fieldLink RX3 9 "TokenRow$Quotes" "source" "LTokenRow$Source;") (List.mem_of_getElem? (i := 4) rfl)) (fun _ h9 => h9) rfl hin rfl (by decide +kernel) rfl rfl (Nat.le_of_ble_eq_true rfl) dX3_init_6 (fun H1 locs hP hD hS => ?_)
  have hP : va_P (dC, dI) vwCl [(aQ, .inr (3, [.ref aS, .null, .int (0 : Int32)]))] H1 := hP
  have hD : va_D A [(aQ, .inr (3, [.ref aS, .null, .int (0 : Int32)]))] := hD
  refine lv_aload_n hx hb dX3_init_9 rfl (lv_at hl 0 rfl) ?_
  refine lv_aload_n hx hb dX3_init_10 rfl (lv_at hl 2 rfl) ?_
  refine va_putF (D := (dC, dI)) (ci := 3) (v := .ref aF) (ty := (.object "TokenRow$Found")) (C := RX3) (T := TX3) (N := 3) hx hb hts i_X3_init_X3 tyX3 tyX3_ok nmX3 hown hK hP hD hS 0 rfl rfl 1 (by decide) (hts (.fieldLink RX3 15 "TokenRow$Quotes" "found" "LTokenRow$Found;") (List.mem_of_getElem? (i := 5) rfl)) (fun _ h9 => h9) rfl hin rfl (by decide +kernel) rfl rfl (Nat.le_of_ble_eq_true rfl) dX3_init_11 (fun H2 locs hP hD hS => ?_)
  have hP : va_P (dC, dI) vwCl [(aQ, .inr (3, [.ref aS, .ref aF, .int (0 : Int32)]))] H2 := hP
  have hD : va_D A [(aQ, .inr (3, [.ref aS, .ref aF, .int (0 : Int32)]))] := hD
  have hP := hP.sub (ws' := [(aQ, .inr (3, [.ref aS, .ref aF, .int (0 : Int32)]))]) [0] rfl
  have hD := hD.sub (ws' := [(aQ, .inr (3, [.ref aS, .ref aF, .int (0 : Int32)]))]) [0] (by decide) rfl
  refine W.widen (k := 0) (n := 0) (Nat.le_of_ble_eq_true rfl) (Nat.le_of_ble_eq_true rfl) ?_
  exact W.vret hx hb hr (fun t ht hW => ⟨⟨(), rfl, trivial, by rw [ht]; exact hP, hD⟩, hS.F ht⟩) hS.2.2 dX3_init_14
abbrev rm_X5_init : Room := { frames := 2, cells := 2, slots := 138, locals := 40 }
theorem i_X5_init_X0 : ∀ w ∈ u_ws RX0 TX0 2, w ∈ wsX5_init := fun _ h => (List.mem_cons_of_mem _ (List.mem_append_right _ h))
theorem i_X5_init_X5 : ∀ w ∈ u_ws RX5 TX5 3, w ∈ wsX5_init := fun _ h => (List.mem_cons_of_mem _ (List.mem_append_left _ (List.mem_append_right _ h)))
set_option maxHeartbeats 4000000 in
set_option maxRecDepth 100000 in
/-- TokenRow$Rounding() -/
theorem m_X5_init (l : Launch) (dC : Nat → ClassId) (dI : Nat → Nat → Nat) (cyB cyC cyI cyJ cyZ : ClassId) (aR aB : Nat) (sz : Nat) : Met l yX5_init wsX5_init rm_X5_init (Prw (dC, dI) (TY cyB cyC cyI cyJ cyZ) [.ref aR, .ref aB] sz [(aR, .inr (5, [.null, .null, .long (0 : Int64)]))]) (va_Qv (fun (_ : Nat × Nat) => True) (Bw (dC, dI) (va_A [(aR, .inr (5, [.null, .null, .long (0 : Int64)]))] sz) (fun (u : Nat × Nat) => [(aR, .inr (5, [.ref aB, .ref u.1, .long (0 : Int64)])), (u.1, .inr (0, [.ref u.2, .int (0 : Int32)])), (u.2, .inl (cyI, 136, .inl (fun _ => 0)))])) (va_A [(aR, .inr (5, [.null, .null, .long (0 : Int64)]))] sz)) 2 138 (va_A [(aR, .inr (5, [.null, .null, .long (0 : Int64)]))] sz) := by
  refine Met.ofW (cc := cX5_init) (maxL := 2) (ret := none) (by decide) rfl ?_
  intro p e s m args below meth c s₁ B hml hv
  obtain ⟨rfl, hsz, hP, hK, hD0, hN⟩ := hv
  subst hsz
  have hx := B.exec
  have hb := B.bytes
  have hr := B.returns
  have hts := atoms_spec (ws := wsX5_init) B.pre
  have hown : s.vm.findClass RX5 = some m.cls := findClass_of_methodNamed B.named
  have hlocks := B.notSynchronized
  have hin : meth.name = "<init>" := (name_of_methodNamed B.named B.method).1
  have hD := hD0.self (sz := s.heap.size)
  generalize hAe : va_A [(aR, .inr (5, [.null, .null, .long (0 : Int64)]))] s.heap.size = A at hD ⊢
  have hA : ∀ q : Nat, s.heap.size ≤ q → A q := fun q h => by rw [← hAe]; exact Or.inr h
  have hS : va_S A s.heap s.heap [] := va_S.rf
  have hP : va_P (dC, dI) vwCl [(aR, .inr (5, [.null, .null, .long (0 : Int64)]))] s.heap := hP
  have hl := lv_entry ([.ref aR, .ref aB]) (n := 2) (Nat.le_of_ble_eq_true rfl)
  rw [lg_entry_eq]
  generalize (lg_sl ([.ref aR, .ref aB]) ++ List.replicate (2 - (lg_sl ([.ref aR, .ref aB])).length) Slot.unset).toArray = ls at hl ⊢
  have hl : lv_has ls 2 [(0, .ref aR), (1, .ref aB)] := hl
  refine lv_aload_n hx hb dX5_init_0 rfl (lv_at hl 0 rfl) ?_
  refine W.objInit hx hb hown (hts (.methodLink RX5 1 objectInit) (List.mem_of_getElem? (i := 1) rfl)) (hts (.instanceMethod objectInit) (List.mem_of_getElem? (i := 2) rfl)) (hts (.code objectInit ⟨#[0xb1]⟩ 1 none) (List.mem_of_getElem? (i := 3) rfl)) rfl (by rw [hml]; exact hl.1) rfl dX5_init_1 (Nat.le_of_ble_eq_true rfl) (Nat.le_of_ble_eq_true rfl) ?_
  refine W.eq (g2 := F0 m 4 ls []) rfl ?_
  refine lv_aload_n hx hb dX5_init_4 rfl (lv_at hl 0 rfl) ?_
  refine lv_aload_n hx hb dX5_init_5 rfl (lv_at hl 1 rfl) ?_
  refine va_putF (D := (dC, dI)) (ci := 5) (v := .ref aB) (ty := (.object "TokenRow$Big")) (C := RX5) (T := TX5) (N := 3) hx hb hts i_X5_init_X5 tyX5 tyX5_ok nmX5 hown hK hP hD hS 0 rfl rfl 0 (by decide) (hts (.fieldLink RX5 7 "TokenRow$Rounding" "numerator" "LTokenRow$Big;") (List.mem_of_getElem? (i := 4) rfl)) (fun _ h9 => h9) rfl hin rfl (by decide +kernel) rfl rfl (Nat.le_of_ble_eq_true rfl) dX5_init_6 (fun H1 locs hP hD hS => ?_)
  have hP : va_P (dC, dI) vwCl [(aR, .inr (5, [.ref aB, .null, .long (0 : Int64)]))] H1 := hP
  have hD : va_D A [(aR, .inr (5, [.ref aB, .null, .long (0 : Int64)]))] := hD
  refine lv_aload_n hx hb dX5_init_9 rfl (lv_at hl 0 rfl) ?_
  refine va_new (ci := 0) (fs := [.null, .int 0]) (C := RX0) (T := TX0) (N := 2) hx hb hts i_X5_init_X0 tyX0 tyX0_ok hown (hts (.classLink RX5 13 RX0) (List.mem_of_getElem? (i := 5) rfl)) (hts (.instantiable RX0 2) (List.mem_of_getElem? (i := 6) rfl)) (hts (.initialized RX0) (List.mem_of_getElem? (i := 7) rfl)) hK hP hD hS hA rfl (fun j hj => by rcases (show j = 0 ∨ j = 1 by omega) with rfl | rfl <;> rfl) (Nat.le_of_ble_eq_true rfl) (Nat.le_of_ble_eq_true rfl) dX5_init_10 (fun q2 H3 hP hD hS => ?_)
  have hP : va_P (dC, dI) vwCl [(aR, .inr (5, [.ref aB, .null, .long (0 : Int64)])), (q2, .inr (0, [.null, .int (0 : Int32)]))] H3 := hP
  have hD : va_D A [(aR, .inr (5, [.ref aB, .null, .long (0 : Int64)])), (q2, .inr (0, [.null, .int (0 : Int32)]))] := hD
  refine lv_dup hx hb dX5_init_13 rfl ?_
  have hPc := hP.sub (ws' := [(q2, .inr (0, [.null, .int (0 : Int32)]))]) [1] rfl
  have hDc := hD.sub (ws' := [(q2, .inr (0, [.null, .int (0 : Int32)]))]) [1] (by decide) rfl
  have hFc := va_free (wc := [(q2, .inr (0, [.null, .int (0 : Int32)]))]) hD hS hA [1] rfl
  refine va_callv (va_runIN (As := []) (rest := [.ref q2, .ref aR]) ⟨hx, hb, hml, hown, hts⟩ (m_X0_init l dC dI cyB cyC cyI cyJ cyZ q2 H3.size) ⟨va_cnB 0 hts ggX5_init_X0_init rfl rfl rfl (hN (.methodLinkNest RX5 15 yX0_init RX9) (List.mem_of_getElem? (i := 5) rfl)) (hts (.initialized RX0) (List.mem_of_getElem? (i := 7) rfl)) (by decide +kernel) ⟨Nat.le_of_ble_eq_true rfl, Nat.le_of_ble_eq_true rfl⟩, rfl, (hts (.instanceMethod yX0_init) (List.mem_of_getElem? (i := 9) rfl))⟩ (prwS hPc hK hDc hN) rfl rfl hl.1 rfl (lv_room (Nat.le_of_ble_eq_true rfl)) dX5_init_14 ⟨Nat.le_of_ble_eq_true rfl, Nat.le_of_ble_eq_true rfl⟩) hS (fun q _ h => hFc q h) hFc (fun u9 t9 H4 locs ht hvm hw hB hz1 hk1 hS => ?_)
  obtain ⟨q5, rfl⟩ : ∃ z : Nat, z = u9 := ⟨_, rfl⟩
  obtain ⟨hP1, hD1⟩ := hB
  rw [ht] at hP1
  obtain ⟨hP, hD⟩ := va_join (wr := [(aR, .inr (5, [.ref aB, .null, .long (0 : Int64)]))]) (w1 := [(q2, .inr (0, [.ref q5, .int (0 : Int32)])), (q5, .inl (cyI, 136, .inl (fun _ => 0)))]) hP hD [1] [0] rfl rfl (by decide) (by decide) hk1 hFc hP1 hD1
  have hP : va_P (dC, dI) vwCl [(aR, .inr (5, [.ref aB, .null, .long (0 : Int64)])), (q2, .inr (0, [.ref q5, .int (0 : Int32)])), (q5, .inl (cyI, 136, .inl (fun _ => 0)))] H4 := hP
  have hD : va_D A [(aR, .inr (5, [.ref aB, .null, .long (0 : Int64)])), (q2, .inr (0, [.ref q5, .int (0 : Int32)])), (q5, .inl (cyI, 136, .inl (fun _ => 0)))] := hD
  refine va_putF (D := (dC, dI)) (ci := 5) (v := .ref q2) (ty := (.object "TokenRow$Big")) (C := RX5) (T := TX5) (N := 3) hx hb hts i_X5_init_X5 tyX5 tyX5_ok nmX5 hown hK hP hD hS 0 rfl rfl 1 (by decide) (hts (.fieldLink RX5 16 "TokenRow$Rounding" "denominator" "LTokenRow$Big;") (List.mem_of_getElem? (i := 8) rfl)) (fun _ h9 => h9) rfl hin rfl (by decide +kernel) rfl rfl (Nat.le_of_ble_eq_true rfl) dX5_init_17 (fun H6 locs hP hD hS => ?_)
  have hP : va_P (dC, dI) vwCl [(aR, .inr (5, [.ref aB, .ref q2, .long (0 : Int64)])), (q2, .inr (0, [.ref q5, .int (0 : Int32)])), (q5, .inl (cyI, 136, .inl (fun _ => 0)))] H6 := hP
  have hD : va_D A [(aR, .inr (5, [.ref aB, .ref q2, .long (0 : Int64)])), (q2, .inr (0, [.ref q5, .int (0 : Int32)])), (q5, .inl (cyI, 136, .inl (fun _ => 0)))] := hD
  have hP := hP.sub (ws' := [(aR, .inr (5, [.ref aB, .ref q2, .long (0 : Int64)])), (q2, .inr (0, [.ref q5, .int (0 : Int32)])), (q5, .inl (cyI, 136, .inl (fun _ => 0)))]) [0, 1, 2] rfl
  have hD := hD.sub (ws' := [(aR, .inr (5, [.ref aB, .ref q2, .long (0 : Int64)])), (q2, .inr (0, [.ref q5, .int (0 : Int32)])), (q5, .inl (cyI, 136, .inl (fun _ => 0)))]) [0, 1, 2] (by decide) rfl
  refine W.widen (k := 2) (n := 138) (Nat.le_of_ble_eq_true rfl) (Nat.le_of_ble_eq_true rfl) ?_
  exact W.vret hx hb hr (fun t ht hW => ⟨⟨(q2, q5), rfl, trivial, by rw [ht]; exact hP, hD⟩, hS.F ht⟩) hS.2.2 dX5_init_20
abbrev rm_X2_init : Room := { frames := 3, cells := 5, slots := 279, locals := 61 }
theorem i_X2_init_X0 : ∀ w ∈ u_ws RX0 TX0 2, w ∈ wsX2_init := fun _ h => (List.mem_cons_of_mem _ (List.mem_append_left _ (List.mem_append_right _ h)))
theorem i_X2_init_X2 : ∀ w ∈ u_ws RX2 TX2 8, w ∈ wsX2_init := fun _ h => (List.mem_cons_of_mem _ (List.mem_append_left _ (List.mem_append_left _ (List.mem_append_right _ h))))
theorem i_X2_init_X5 : ∀ w ∈ u_ws RX5 TX5 3, w ∈ wsX2_init := fun _ h => (List.mem_cons_of_mem _ (List.mem_append_right _ h))
set_option maxHeartbeats 4000000 in
set_option maxRecDepth 100000 in
/-- TokenRow$Numbers() -/
theorem m_X2_init (l : Launch) (dC : Nat → ClassId) (dI : Nat → Nat → Nat) (cyB cyC cyI cyJ cyZ : ClassId) (aN aS aF : Nat) (sz : Nat) : Met l yX2_init wsX2_init rm_X2_init (Prw (dC, dI) (TY cyB cyC cyI cyJ cyZ) [.ref aN, .ref aS, .ref aF] sz [(aN, .inr (2, [.null, .null, .null, .null, .int (0 : Int32), .int (0 : Int32), .int (0 : Int32), .int (0 : Int32)]))]) (va_Qv (fun (_ : Nat × Nat × Nat × Nat × Nat) => True) (Bw (dC, dI) (va_A [(aN, .inr (2, [.null, .null, .null, .null, .int (0 : Int32), .int (0 : Int32), .int (0 : Int32), .int (0 : Int32)]))] sz) (fun (u : Nat × Nat × Nat × Nat × Nat) => [(aN, .inr (2, [.ref aS, .ref aF, .ref u.1, .ref u.2.2.1, .int (0 : Int32), .int (0 : Int32), .int (0 : Int32), .int (0 : Int32)])), (u.1, .inr (0, [.ref u.2.1, .int (0 : Int32)])), (u.2.1, .inl (cyI, 136, .inl (fun _ => 0))), (u.2.2.1, .inr (5, [.ref u.1, .ref u.2.2.2.1, .long (0 : Int64)])), (u.2.2.2.1, .inr (0, [.ref u.2.2.2.2, .int (0 : Int32)])), (u.2.2.2.2, .inl (cyI, 136, .inl (fun _ => 0)))])) (va_A [(aN, .inr (2, [.null, .null, .null, .null, .int (0 : Int32), .int (0 : Int32), .int (0 : Int32), .int (0 : Int32)]))] sz)) 5 279 (va_A [(aN, .inr (2, [.null, .null, .null, .null, .int (0 : Int32), .int (0 : Int32), .int (0 : Int32), .int (0 : Int32)]))] sz) := by
  refine Met.ofW (cc := cX2_init) (maxL := 3) (ret := none) (by decide) rfl ?_
  intro p e s m args below meth c s₁ B hml hv
  obtain ⟨rfl, hsz, hP, hK, hD0, hN⟩ := hv
  subst hsz
  have hx := B.exec
  have hb := B.bytes
  have hr := B.returns
  have hts := atoms_spec (ws := wsX2_init) B.pre
  have hown : s.vm.findClass RX2 = some m.cls := findClass_of_methodNamed B.named
  have hlocks := B.notSynchronized
  have hin : meth.name = "<init>" := (name_of_methodNamed B.named B.method).1
  have hD := hD0.self (sz := s.heap.size)
  generalize hAe : va_A [(aN, .inr (2, [.null, .null, .null, .null, .int (0 : Int32), .int (0 : Int32), .int (0 : Int32), .int (0 : Int32)]))] s.heap.size = A at hD ⊢
  have hA : ∀ q : Nat, s.heap.size ≤ q → A q := fun q h => by rw [← hAe]; exact Or.inr h
  have hS : va_S A s.heap s.heap [] := va_S.rf
  have hP : va_P (dC, dI) vwCl [(aN, .inr (2, [.null, .null, .null, .null, .int (0 : Int32), .int (0 : Int32), .int (0 : Int32), .int (0 : Int32)]))] s.heap := hP
  have hl := lv_entry ([.ref aN, .ref aS, .ref aF]) (n := 3) (Nat.le_of_ble_eq_true rfl)
  rw [lg_entry_eq]
  generalize (lg_sl ([.ref aN, .ref aS, .ref aF]) ++ List.replicate (3 - (lg_sl ([.ref aN, .ref aS, .ref aF])).length) Slot.unset).toArray = ls at hl ⊢
  have hl : lv_has ls 3 [(0, .ref aN), (1, .ref aS), (2, .ref aF)] := hl
  refine lv_aload_n hx hb dX2_init_0 rfl (lv_at hl 0 rfl) ?_
  refine W.objInit hx hb hown (hts (.methodLink RX2 3 objectInit) (List.mem_of_getElem? (i := 1) rfl)) (hts (.instanceMethod objectInit) (List.mem_of_getElem? (i := 2) rfl)) (hts (.code objectInit ⟨#[0xb1]⟩ 1 none) (List.mem_of_getElem? (i := 3) rfl)) rfl (by rw [hml]; exact hl.1) rfl dX2_init_1 (Nat.le_of_ble_eq_true rfl) (Nat.le_of_ble_eq_true rfl) ?_
  refine W.eq (g2 := F0 m 4 ls []) rfl ?_
  refine lv_aload_n hx hb dX2_init_4 rfl (lv_at hl 0 rfl) ?_
  refine lv_aload_n hx hb dX2_init_5 rfl (lv_at hl 1 rfl) ?_
  refine va_putF (D := (dC, dI)) (ci := 2) (v := .ref aS) (ty := (.object "TokenRow$Source")) (C := RX2) (T := TX2) (N := 8) hx hb hts i_X2_init_X2 tyX2 tyX2_ok nmX2 hown hK hP hD hS 0 rfl rfl 0 (by decide) (hts (.fieldLink RX2 9 "TokenRow$Numbers" "source" "LTokenRow$Source;") (List.mem_of_getElem? (i := 4) rfl)) (fun _ h9 => h9) rfl hin rfl (by decide +kernel) rfl rfl (Nat.le_of_ble_eq_true rfl) dX2_init_6 (fun H1 locs hP hD hS => ?_)
  have hP : va_P (dC, dI) vwCl [(aN, .inr (2, [.ref aS, .null, .null, .null, .int (0 : Int32), .int (0 : Int32), .int (0 : Int32), .int (0 : Int32)]))] H1 := hP
  have hD : va_D A [(aN, .inr (2, [.ref aS, .null, .null, .null, .int (0 : Int32), .int (0 : Int32), .int (0 : Int32), .int (0 : Int32)]))] := hD
  refine lv_aload_n hx hb dX2_init_9 rfl (lv_at hl 0 rfl) ?_
  refine lv_aload_n hx hb dX2_init_10 rfl (lv_at hl 2 rfl) ?_
  refine va_putF (D := (dC, dI)) (ci := 2) (v := .ref aF) (ty := (.object "TokenRow$Found")) (C := RX2) (T := TX2) (N := 8) hx hb hts i_X2_init_X2 tyX2 tyX2_ok nmX2 hown hK hP hD hS 0 rfl rfl 1 (by decide) (hts (.fieldLink RX2 15 "TokenRow$Numbers" "found" "LTokenRow$Found;") (List.mem_of_getElem? (i := 5) rfl)) (fun _ h9 => h9) rfl hin rfl (by decide +kernel) rfl rfl (Nat.le_of_ble_eq_true rfl) dX2_init_11 (fun H2 locs hP hD hS => ?_)
  have hP : va_P (dC, dI) vwCl [(aN, .inr (2, [.ref aS, .ref aF, .null, .null, .int (0 : Int32), .int (0 : Int32), .int (0 : Int32), .int (0 : Int32)]))] H2 := hP
  have hD : va_D A [(aN, .inr (2, [.ref aS, .ref aF, .null, .null, .int (0 : Int32), .int (0 : Int32), .int (0 : Int32), .int (0 : Int32)]))] := hD
  refine lv_aload_n hx hb dX2_init_14 rfl (lv_at hl 0 rfl) ?_
  refine va_new (ci := 0) (fs := [.null, .int 0]) (C := RX0) (T := TX0) (N := 2) hx hb hts i_X2_init_X0 tyX0 tyX0_ok hown (hts (.classLink RX2 19 RX0) (List.mem_of_getElem? (i := 6) rfl)) (hts (.instantiable RX0 2) (List.mem_of_getElem? (i := 7) rfl)) (hts (.initialized RX0) (List.mem_of_getElem? (i := 8) rfl)) hK hP hD hS hA rfl (fun j hj => by rcases (show j = 0 ∨ j = 1 by omega) with rfl | rfl <;> rfl) (Nat.le_of_ble_eq_true rfl) (Nat.le_of_ble_eq_true rfl) dX2_init_15 (fun q3 H4 hP hD hS => ?_)
  have hP : va_P (dC, dI) vwCl [(aN, .inr (2, [.ref aS, .ref aF, .null, .null, .int (0 : Int32), .int (0 : Int32), .int (0 : Int32), .int (0 : Int32)])), (q3, .inr (0, [.null, .int (0 : Int32)]))] H4 := hP
  have hD : va_D A [(aN, .inr (2, [.ref aS, .ref aF, .null, .null, .int (0 : Int32), .int (0 : Int32), .int (0 : Int32), .int (0 : Int32)])), (q3, .inr (0, [.null, .int (0 : Int32)]))] := hD
  refine lv_dup hx hb dX2_init_18 rfl ?_
  have hPc := hP.sub (ws' := [(q3, .inr (0, [.null, .int (0 : Int32)]))]) [1] rfl
  have hDc := hD.sub (ws' := [(q3, .inr (0, [.null, .int (0 : Int32)]))]) [1] (by decide) rfl
  have hFc := va_free (wc := [(q3, .inr (0, [.null, .int (0 : Int32)]))]) hD hS hA [1] rfl
  refine va_callv (va_runIN (As := []) (rest := [.ref q3, .ref aN]) ⟨hx, hb, hml, hown, hts⟩ (m_X0_init l dC dI cyB cyC cyI cyJ cyZ q3 H4.size) ⟨va_cnB 0 hts ggX2_init_X0_init rfl rfl rfl (hN (.methodLinkNest RX2 21 yX0_init RX9) (List.mem_of_getElem? (i := 4) rfl)) (hts (.initialized RX0) (List.mem_of_getElem? (i := 8) rfl)) (by decide +kernel) ⟨Nat.le_of_ble_eq_true rfl, Nat.le_of_ble_eq_true rfl⟩, rfl, (hts (.instanceMethod yX0_init) (List.mem_of_getElem? (i := 14) rfl))⟩ (prwS hPc hK hDc hN) rfl rfl hl.1 rfl (lv_room (Nat.le_of_ble_eq_true rfl)) dX2_init_19 ⟨Nat.le_of_ble_eq_true rfl, Nat.le_of_ble_eq_true rfl⟩) hS (fun q _ h => hFc q h) hFc (fun u9 t9 H5 locs ht hvm hw hB hz1 hk1 hS => ?_)
  obtain ⟨q6, rfl⟩ : ∃ z : Nat, z = u9 := ⟨_, rfl⟩
  obtain ⟨hP1, hD1⟩ := hB
  rw [ht] at hP1
  obtain ⟨hP, hD⟩ := va_join (wr := [(aN, .inr (2, [.ref aS, .ref aF, .null, .null, .int (0 : Int32), .int (0 : Int32), .int (0 : Int32), .int (0 : Int32)]))]) (w1 := [(q3, .inr (0, [.ref q6, .int (0 : Int32)])), (q6, .inl (cyI, 136, .inl (fun _ => 0)))]) hP hD [1] [0] rfl rfl (by decide) (by decide) hk1 hFc hP1 hD1
  have hP : va_P (dC, dI) vwCl [(aN, .inr (2, [.ref aS, .ref aF, .null, .null, .int (0 : Int32), .int (0 : Int32), .int (0 : Int32), .int (0 : Int32)])), (q3, .inr (0, [.ref q6, .int (0 : Int32)])), (q6, .inl (cyI, 136, .inl (fun _ => 0)))] H5 := hP
  have hD : va_D A [(aN, .inr (2, [.ref aS, .ref aF, .null, .null, .int (0 : Int32), .int (0 : Int32), .int (0 : Int32), .int (0 : Int32)])), (q3, .inr (0, [.ref q6, .int (0 : Int32)])), (q6, .inl (cyI, 136, .inl (fun _ => 0)))] := hD
  refine va_putF (D := (dC, dI)) (ci := 2) (v := .ref q3) (ty := (.object "TokenRow$Big")) (C := RX2) (T := TX2) (N := 8) hx hb hts i_X2_init_X2 tyX2 tyX2_ok nmX2 hown hK hP hD hS 0 rfl rfl 2 (by decide) (hts (.fieldLink RX2 22 "TokenRow$Numbers" "digits" "LTokenRow$Big;") (List.mem_of_getElem? (i := 9) rfl)) (fun _ h9 => h9) rfl hin rfl (by decide +kernel) rfl rfl (Nat.le_of_ble_eq_true rfl) dX2_init_22 (fun H7 locs hP hD hS => ?_)
  have hP : va_P (dC, dI) vwCl [(aN, .inr (2, [.ref aS, .ref aF, .ref q3, .null, .int (0 : Int32), .int (0 : Int32), .int (0 : Int32), .int (0 : Int32)])), (q3, .inr (0, [.ref q6, .int (0 : Int32)])), (q6, .inl (cyI, 136, .inl (fun _ => 0)))] H7 := hP
  have hD : va_D A [(aN, .inr (2, [.ref aS, .ref aF, .ref q3, .null, .int (0 : Int32), .int (0 : Int32), .int (0 : Int32), .int (0 : Int32)])), (q3, .inr (0, [.ref q6, .int (0 : Int32)])), (q6, .inl (cyI, 136, .inl (fun _ => 0)))] := hD
  refine lv_aload_n hx hb dX2_init_25 rfl (lv_at hl 0 rfl) ?_
  refine va_new (ci := 5) (fs := [.null, .null, .long 0]) (C := RX5) (T := TX5) (N := 3) hx hb hts i_X2_init_X5 tyX5 tyX5_ok hown (hts (.classLink RX2 26 RX5) (List.mem_of_getElem? (i := 10) rfl)) (hts (.instantiable RX5 3) (List.mem_of_getElem? (i := 11) rfl)) (hts (.initialized RX5) (List.mem_of_getElem? (i := 12) rfl)) hK hP hD hS hA rfl (fun j hj => by rcases (show j = 0 ∨ j = 1 ∨ j = 2 by omega) with rfl | rfl | rfl <;> rfl) (Nat.le_of_ble_eq_true rfl) (Nat.le_of_ble_eq_true rfl) dX2_init_26 (fun q8 H9 hP hD hS => ?_)
  have hP : va_P (dC, dI) vwCl [(aN, .inr (2, [.ref aS, .ref aF, .ref q3, .null, .int (0 : Int32), .int (0 : Int32), .int (0 : Int32), .int (0 : Int32)])), (q3, .inr (0, [.ref q6, .int (0 : Int32)])), (q6, .inl (cyI, 136, .inl (fun _ => 0))), (q8, .inr (5, [.null, .null, .long (0 : Int64)]))] H9 := hP
  have hD : va_D A [(aN, .inr (2, [.ref aS, .ref aF, .ref q3, .null, .int (0 : Int32), .int (0 : Int32), .int (0 : Int32), .int (0 : Int32)])), (q3, .inr (0, [.ref q6, .int (0 : Int32)])), (q6, .inl (cyI, 136, .inl (fun _ => 0))), (q8, .inr (5, [.null, .null, .long (0 : Int64)]))] := hD
  refine lv_dup hx hb dX2_init_29 rfl ?_
  refine lv_aload_n hx hb dX2_init_30 rfl (lv_at hl 0 rfl) ?_
  refine va_get (D := (dC, dI)) (ci := 2) (v := .ref q3) (C := RX2) (T := TX2) (N := 8) hx hb hts i_X2_init_X2 hown hK hP 0 rfl rfl 2 (by decide) (hts (.fieldLink RX2 22 "TokenRow$Numbers" "digits" "LTokenRow$Big;") (List.mem_of_getElem? (i := 9) rfl)) (fun _ h9 => h9) rfl dX2_init_31 ?_
  have hPc := hP.sub (ws' := [(q8, .inr (5, [.null, .null, .long (0 : Int64)]))]) [3] rfl
  have hDc := hD.sub (ws' := [(q8, .inr (5, [.null, .null, .long (0 : Int64)]))]) [3] (by decide) rfl
  have hFc := va_free (wc := [(q8, .inr (5, [.null, .null, .long (0 : Int64)]))]) hD hS hA [3] rfl
  refine va_callv (va_runI (As := [.ref q3]) (rest := [.ref q8, .ref aN]) ⟨hx, hb, hml, hown, hts⟩ (m_X5_init l dC dI cyB cyC cyI cyJ cyZ q8 q3 H9.size) (cwI 1 hts ggX2_init_X5_init rfl rfl rfl (hts (.initialized RX5) (List.mem_of_getElem? (i := 12) rfl)) (hts (.methodLink RX2 28 yX5_init) (List.mem_of_getElem? (i := 19) rfl)) (hts (.instanceMethod yX5_init) (List.mem_of_getElem? (i := 20) rfl)) rfl (by decide +kernel) ⟨Nat.le_of_ble_eq_true rfl, Nat.le_of_ble_eq_true rfl⟩) (prwS hPc hK hDc hN) rfl rfl hl.1 rfl (lv_room (Nat.le_of_ble_eq_true rfl)) dX2_init_34 ⟨Nat.le_of_ble_eq_true rfl, Nat.le_of_ble_eq_true rfl⟩) hS (fun q _ h => hFc q h) hFc (fun u9 t9 H10 locs ht hvm hw hB hz1 hk1 hS => ?_)
  obtain ⟨q11, q12⟩ := u9
  obtain ⟨hP1, hD1⟩ := hB
  rw [ht] at hP1
  obtain ⟨hP, hD⟩ := va_join (wr := [(aN, .inr (2, [.ref aS, .ref aF, .ref q3, .null, .int (0 : Int32), .int (0 : Int32), .int (0 : Int32), .int (0 : Int32)])), (q3, .inr (0, [.ref q6, .int (0 : Int32)])), (q6, .inl (cyI, 136, .inl (fun _ => 0)))]) (w1 := [(q8, .inr (5, [.ref q3, .ref q11, .long (0 : Int64)])), (q11, .inr (0, [.ref q12, .int (0 : Int32)])), (q12, .inl (cyI, 136, .inl (fun _ => 0)))]) hP hD [3] [0, 1, 2] rfl rfl (by decide) (by decide) hk1 hFc hP1 hD1
  have hP : va_P (dC, dI) vwCl [(aN, .inr (2, [.ref aS, .ref aF, .ref q3, .null, .int (0 : Int32), .int (0 : Int32), .int (0 : Int32), .int (0 : Int32)])), (q3, .inr (0, [.ref q6, .int (0 : Int32)])), (q6, .inl (cyI, 136, .inl (fun _ => 0))), (q8, .inr (5, [.ref q3, .ref q11, .long (0 : Int64)])), (q11, .inr (0, [.ref q12, .int (0 : Int32)])), (q12, .inl (cyI, 136, .inl (fun _ => 0)))] H10 := hP
  have hD : va_D A [(aN, .inr (2, [.ref aS, .ref aF, .ref q3, .null, .int (0 : Int32), .int (0 : Int32), .int (0 : Int32), .int (0 : Int32)])), (q3, .inr (0, [.ref q6, .int (0 : Int32)])), (q6, .inl (cyI, 136, .inl (fun _ => 0))), (q8, .inr (5, [.ref q3, .ref q11, .long (0 : Int64)])), (q11, .inr (0, [.ref q12, .int (0 : Int32)])), (q12, .inl (cyI, 136, .inl (fun _ => 0)))] := hD
  refine va_putF (D := (dC, dI)) (ci := 2) (v := .ref q8) (ty := (.object "TokenRow$Rounding")) (C := RX2) (T := TX2) (N := 8) hx hb hts i_X2_init_X2 tyX2 tyX2_ok nmX2 hown hK hP hD hS 0 rfl rfl 3 (by decide) (hts (.fieldLink RX2 31 "TokenRow$Numbers" "rounding" "LTokenRow$Rounding;") (List.mem_of_getElem? (i := 13) rfl)) (fun _ h9 => h9) rfl hin rfl (by decide +kernel) rfl rfl (Nat.le_of_ble_eq_true rfl) dX2_init_37 (fun H13 locs hP hD hS => ?_)
  have hP : va_P (dC, dI) vwCl [(aN, .inr (2, [.ref aS, .ref aF, .ref q3, .ref q8, .int (0 : Int32), .int (0 : Int32), .int (0 : Int32), .int (0 : Int32)])), (q3, .inr (0, [.ref q6, .int (0 : Int32)])), (q6, .inl (cyI, 136, .inl (fun _ => 0))), (q8, .inr (5, [.ref q3, .ref q11, .long (0 : Int64)])), (q11, .inr (0, [.ref q12, .int (0 : Int32)])), (q12, .inl (cyI, 136, .inl (fun _ => 0)))] H13 := hP
  have hD : va_D A [(aN, .inr (2, [.ref aS, .ref aF, .ref q3, .ref q8, .int (0 : Int32), .int (0 : Int32), .int (0 : Int32), .int (0 : Int32)])), (q3, .inr (0, [.ref q6, .int (0 : Int32)])), (q6, .inl (cyI, 136, .inl (fun _ => 0))), (q8, .inr (5, [.ref q3, .ref q11, .long (0 : Int64)])), (q11, .inr (0, [.ref q12, .int (0 : Int32)])), (q12, .inl (cyI, 136, .inl (fun _ => 0)))] := hD
  have hP := hP.sub (ws' := [(aN, .inr (2, [.ref aS, .ref aF, .ref q3, .ref q8, .int (0 : Int32), .int (0 : Int32), .int (0 : Int32), .int (0 : Int32)])), (q3, .inr (0, [.ref q6, .int (0 : Int32)])), (q6, .inl (cyI, 136, .inl (fun _ => 0))), (q8, .inr (5, [.ref q3, .ref q11, .long (0 : Int64)])), (q11, .inr (0, [.ref q12, .int (0 : Int32)])), (q12, .inl (cyI, 136, .inl (fun _ => 0)))]) [0, 1, 2, 3, 4, 5] rfl
  have hD := hD.sub (ws' := [(aN, .inr (2, [.ref aS, .ref aF, .ref q3, .ref q8, .int (0 : Int32), .int (0 : Int32), .int (0 : Int32), .int (0 : Int32)])), (q3, .inr (0, [.ref q6, .int (0 : Int32)])), (q6, .inl (cyI, 136, .inl (fun _ => 0))), (q8, .inr (5, [.ref q3, .ref q11, .long (0 : Int64)])), (q11, .inr (0, [.ref q12, .int (0 : Int32)])), (q12, .inl (cyI, 136, .inl (fun _ => 0)))]) [0, 1, 2, 3, 4, 5] (by decide) rfl
  refine W.widen (k := 5) (n := 279) (Nat.le_of_ble_eq_true rfl) (Nat.le_of_ble_eq_true rfl) ?_
  exact W.vret hx hb hr (fun t ht hW => ⟨⟨(q3, q6, q8, q11, q12), rfl, trivial, by rw [ht]; exact hP, hD⟩, hS.F ht⟩) hS.2.2 dX2_init_40
