theorem inw_X7_init_X7 : ∀ w ∈ wsX70, w ∈ wsX7_init := fun _ h => List.mem_cons_of_mem _ (List.mem_append_right _ h)
set_option maxHeartbeats 4000000 in
set_option maxRecDepth 100000 in
theorem k_Tape (l : Launch) (D : va_G) (y : Nat → ClassId) (a0 sz : Nat) : Met l yX7_init wsX7_init ({ frames := 1, cells := 1, slots := 400, locals := 12 }) (va_Pc [.ref a0] (mPre D y sz [(a0, .inr (9, [.null, .int 0]))])) (va_Qv (fun (u : Nat → Nat) => True) (mAt D y (va_A [(a0, .inr (9, [.null, .int 0]))] sz) (fun u => [(a0, .inr (9, [.ref (u 0), .int 0])), ((u 0), .inl (y 1, 400, .inl (fun _ => 0)))])) (va_A [(a0, .inr (9, [.null, .int 0]))] sz)) 1 400 (va_A [(a0, .inr (9, [.null, .int 0]))] sz) := by
  refine Met.ofW (cc := cX7_init) (maxL := 1) (ret := none) (by decide) rfl ?_
  intro p e s m args below meth c s₁ B hml hv
  obtain ⟨rfl, hsz, hP, hK, hD0, hE⟩ := hv
  have hx := B.exec
  have hb := B.bytes
  have hr := B.returns
  have hts := atoms_spec (ws := wsX7_init) B.pre
  have hown : s.vm.findClass RX7 = some m.cls := findClass_of_methodNamed B.named
  have hlocks := B.notSynchronized
  have hin : meth.name = "<init>" := (name_of_methodNamed B.named B.method).1
  subst hsz
  have hD := hD0.self (sz := s.heap.size)
  generalize hAe : va_A [(a0, .inr (9, [.null, .int 0]))] s.heap.size = A at hD ⊢
  have hA : ∀ q : Nat, s.heap.size ≤ q → A q := fun q h => by rw [← hAe]; exact Or.inr h
  have hS : va_S A s.heap s.heap [] := va_S.rf
  have hP : va_P D vwCl [(a0, .inr (9, [.null, .int 0]))] s.heap := hP
  have hl := lv_entry ([.ref a0]) (n := 1) (Nat.le_of_ble_eq_true rfl)
  rw [lg_entry_eq]
  generalize (lg_sl ([.ref a0]) ++ List.replicate (1 - (lg_sl ([.ref a0])).length) Slot.unset).toArray = ls at hl ⊢
  have hl : lv_has ls 1 [(0, .ref a0)] := hl
  refine lv_aload_n hx hb dX7_init_0 rfl (lv_at hl 0 rfl) ?_
  refine W.objInit hx hb hown (hts (.methodLink RX7 3 objectInit) (by decide +kernel)) (hts (.instanceMethod objectInit) (by decide +kernel)) (hts (.code objectInit ⟨#[0xb1]⟩ 1 none) (by decide +kernel)) rfl (by rw [hml]; exact hl.1) rfl dX7_init_1 (Nat.le_of_ble_eq_true rfl) (Nat.le_of_ble_eq_true rfl) ?_
  refine W.eq (g2 := F0 m 4 ls []) rfl ?_
  refine lv_aload_n hx hb dX7_init_4 rfl (lv_at hl 0 rfl) ?_
  refine lv_sipush (v := 400) hx hb dX7_init_5 (by decide) ?_
  refine my_newa (atype := .byte) (ty := .byte) (N' := 400) (a0 := (400, .inl (fun _ => 0))) 1 hx hb (hts (.arrayClass .byte) (by decide +kernel)) rfl rfl hK hP hD hS hA (fun _ => rfl) (by decide +kernel) (by decide +kernel) (by decide +kernel) (by show 0 + 1 ≤ 1; omega) (by show 0 + 400 ≤ 400; omega) dX7_init_8 (fun q0 H hP hD hS => ?_)
  have hP : va_P D vwCl [(a0, .inr (9, [.null, .int 0])), (q0, .inl (y 1, 400, .inl (fun _ => 0)))] H := hP
  have hD : va_D A [(a0, .inr (9, [.null, .int 0])), (q0, .inl (y 1, 400, .inl (fun _ => 0)))] := hD
  refine W.widen (k := 1) (n := 400) (by omega) (by omega) ?_
  refine va_putF (ci := 9) (v := .ref q0) (ty := .array .byte) (C := RX7) (T := TX7) (N := 2) hx hb hts inw_X7_init_X7 tyX7 tyX7_ok nmX7 hown hK hP hD hS 0 rfl rfl 0 (by decide) (hts (.fieldLink RX7 9 "DockCall$Tape" "bytes" "[B") (by decide +kernel)) (fun _ h9 => h9) rfl hin rfl (by decide +kernel) rfl rfl (Nat.le_of_ble_eq_true rfl) dX7_init_10 (fun H locs hP hD hS => ?_)
  have hP : va_P D vwCl [(a0, .inr (9, [.ref q0, .int 0])), (q0, .inl (y 1, 400, .inl (fun _ => 0)))] H := hP
  have hD : va_D A [(a0, .inr (9, [.ref q0, .int 0])), (q0, .inl (y 1, 400, .inl (fun _ => 0)))] := hD
  exact W.vret hx hb hr (fun t ht hW => ⟨⟨(fun k => ([q0] : List Nat).getD k 0), rfl, trivial, mAt.to (hP.sub [0, 1] rfl) hK (hD.sub [0, 1] (by decide) rfl) ht hW⟩, hS.F ht⟩) hS.2.2 dX7_init_13

theorem inw_X4_init_X4 : ∀ w ∈ wsX40, w ∈ wsX4_init := fun _ h => List.mem_cons_of_mem _ (List.mem_append_right _ h)
set_option maxHeartbeats 4000000 in
set_option maxRecDepth 100000 in
theorem k_Reader (l : Launch) (D : va_G) (y : Nat → ClassId) (a0 sz : Nat) (b0 : Nat) : Met l yX4_init wsX4_init ({ frames := 1, cells := 1, slots := 11, locals := 12 }) (va_Pc [.ref a0, .ref b0] (mPre D y sz [(a0, .inr (6, [.null, .null, .int 0, .int 0]))])) (va_Qv (fun (u : Nat → Nat) => True) (mAt D y (va_A [(a0, .inr (6, [.null, .null, .int 0, .int 0]))] sz) (fun u => [(a0, .inr (6, [.ref b0, .ref (u 0), .int 0, .int (-1)])), ((u 0), .inl (y 0, 11, .inl (fun _ => 0)))])) (va_A [(a0, .inr (6, [.null, .null, .int 0, .int 0]))] sz)) 1 11 (va_A [(a0, .inr (6, [.null, .null, .int 0, .int 0]))] sz) := by
  refine Met.ofW (cc := cX4_init) (maxL := 2) (ret := none) (by decide) rfl ?_
  intro p e s m args below meth c s₁ B hml hv
  obtain ⟨rfl, hsz, hP, hK, hD0, hE⟩ := hv
  have hx := B.exec
  have hb := B.bytes
  have hr := B.returns
  have hts := atoms_spec (ws := wsX4_init) B.pre
  have hown : s.vm.findClass RX4 = some m.cls := findClass_of_methodNamed B.named
  have hlocks := B.notSynchronized
  have hin : meth.name = "<init>" := (name_of_methodNamed B.named B.method).1
  subst hsz
  have hD := hD0.self (sz := s.heap.size)
  generalize hAe : va_A [(a0, .inr (6, [.null, .null, .int 0, .int 0]))] s.heap.size = A at hD ⊢
  have hA : ∀ q : Nat, s.heap.size ≤ q → A q := fun q h => by rw [← hAe]; exact Or.inr h
  have hS : va_S A s.heap s.heap [] := va_S.rf
  have hP : va_P D vwCl [(a0, .inr (6, [.null, .null, .int 0, .int 0]))] s.heap := hP
  have hl := lv_entry ([.ref a0, .ref b0]) (n := 2) (Nat.le_of_ble_eq_true rfl)
  rw [lg_entry_eq]
  generalize (lg_sl ([.ref a0, .ref b0]) ++ List.replicate (2 - (lg_sl ([.ref a0, .ref b0])).length) Slot.unset).toArray = ls at hl ⊢
  have hl : lv_has ls 2 [(0, .ref a0), (1, .ref b0)] := hl
  refine lv_aload_n hx hb dX4_init_0 rfl (lv_at hl 0 rfl) ?_
  refine W.objInit hx hb hown (hts (.methodLink RX4 3 objectInit) (by decide +kernel)) (hts (.instanceMethod objectInit) (by decide +kernel)) (hts (.code objectInit ⟨#[0xb1]⟩ 1 none) (by decide +kernel)) rfl (by rw [hml]; exact hl.1) rfl dX4_init_1 (Nat.le_of_ble_eq_true rfl) (Nat.le_of_ble_eq_true rfl) ?_
  refine W.eq (g2 := F0 m 4 ls []) rfl ?_
  refine lv_aload_n hx hb dX4_init_4 rfl (lv_at hl 0 rfl) ?_
  refine lv_bipush (v := 11) hx hb dX4_init_5 (by decide) ?_
  refine my_newa (atype := .int) (ty := .int) (N' := 11) (a0 := (11, .inl (fun _ => 0))) 0 hx hb (hts (.arrayClass .int) (by decide +kernel)) rfl rfl hK hP hD hS hA (fun _ => rfl) (by decide +kernel) (by decide +kernel) (by decide +kernel) (by show 0 + 1 ≤ 1; omega) (by show 0 + 11 ≤ 11; omega) dX4_init_7 (fun q0 H hP hD hS => ?_)
  have hP : va_P D vwCl [(a0, .inr (6, [.null, .null, .int 0, .int 0])), (q0, .inl (y 0, 11, .inl (fun _ => 0)))] H := hP
  have hD : va_D A [(a0, .inr (6, [.null, .null, .int 0, .int 0])), (q0, .inl (y 0, 11, .inl (fun _ => 0)))] := hD
  refine W.widen (k := 1) (n := 11) (by omega) (by omega) ?_
  refine va_putF (ci := 6) (v := .ref q0) (ty := .array .int) (C := RX4) (T := TX4) (N := 4) hx hb hts inw_X4_init_X4 tyX4 tyX4_ok nmX4 hown hK hP hD hS 0 rfl rfl 1 (by decide) (hts (.fieldLink RX4 9 "DockCall$Reader" "told" "[I") (by decide +kernel)) (fun _ h9 => h9) rfl hin rfl (by decide +kernel) rfl rfl (Nat.le_of_ble_eq_true rfl) dX4_init_9 (fun H locs hP hD hS => ?_)
  have hP : va_P D vwCl [(a0, .inr (6, [.null, .ref q0, .int 0, .int 0])), (q0, .inl (y 0, 11, .inl (fun _ => 0)))] H := hP
  have hD : va_D A [(a0, .inr (6, [.null, .ref q0, .int 0, .int 0])), (q0, .inl (y 0, 11, .inl (fun _ => 0)))] := hD
  refine lv_aload_n hx hb dX4_init_12 rfl (lv_at hl 0 rfl) ?_
  refine lv_iconst (v := (-1)) hx hb dX4_init_13 (by decide) ?_
  refine va_put (ci := 6) (v := .int (-1)) (ty := .int) (C := RX4) (T := TX4) (N := 4) hx hb hts inw_X4_init_X4 tyX4 tyX4_ok nmX4 hown hK hP hD hS 0 rfl rfl 3 (by decide) (hts (.fieldLink RX4 15 "DockCall$Reader" "wrongAt" "I") (by decide +kernel)) (fun _ h9 => h9) rfl (by decide +kernel) rfl rfl (Nat.le_of_ble_eq_true rfl) dX4_init_14 (fun H locs hP hD hS => ?_)
  have hP : va_P D vwCl [(a0, .inr (6, [.null, .ref q0, .int 0, .int (-1)])), (q0, .inl (y 0, 11, .inl (fun _ => 0)))] H := hP
  have hD : va_D A [(a0, .inr (6, [.null, .ref q0, .int 0, .int (-1)])), (q0, .inl (y 0, 11, .inl (fun _ => 0)))] := hD
  refine lv_aload_n hx hb dX4_init_17 rfl (lv_at hl 0 rfl) ?_
  refine lv_aload_n hx hb dX4_init_18 rfl (lv_at hl 1 rfl) ?_
  refine va_putF (ci := 6) (v := .ref b0) (ty := .object "DockCall$Tape") (C := RX4) (T := TX4) (N := 4) hx hb hts inw_X4_init_X4 tyX4 tyX4_ok nmX4 hown hK hP hD hS 0 rfl rfl 0 (by decide) (hts (.fieldLink RX4 19 "DockCall$Reader" "tape" "LDockCall$Tape;") (by decide +kernel)) (fun _ h9 => h9) rfl hin rfl (by decide +kernel) rfl rfl (Nat.le_of_ble_eq_true rfl) dX4_init_19 (fun H locs hP hD hS => ?_)
  have hP : va_P D vwCl [(a0, .inr (6, [.ref b0, .ref q0, .int 0, .int (-1)])), (q0, .inl (y 0, 11, .inl (fun _ => 0)))] H := hP
  have hD : va_D A [(a0, .inr (6, [.ref b0, .ref q0, .int 0, .int (-1)])), (q0, .inl (y 0, 11, .inl (fun _ => 0)))] := hD
  exact W.vret hx hb hr (fun t ht hW => ⟨⟨(fun k => ([q0] : List Nat).getD k 0), rfl, trivial, mAt.to (hP.sub [0, 1] rfl) hK (hD.sub [0, 1] (by decide) rfl) ht hW⟩, hS.F ht⟩) hS.2.2 dX4_init_22

theorem inw_X2_init_X2 : ∀ w ∈ wsX20, w ∈ wsX2_init := fun _ h => List.mem_cons_of_mem _ (List.mem_append_right _ h)
set_option maxHeartbeats 4000000 in
set_option maxRecDepth 100000 in
theorem k_Men (l : Launch) (D : va_G) (y : Nat → ClassId) (a0 sz : Nat) : Met l yX2_init wsX2_init ({ frames := 1, cells := 7, slots := 168, locals := 12 }) (va_Pc [.ref a0] (mPre D y sz [(a0, .inr (4, [.null, .null, .null, .null, .null, .null, .null, .int 0]))])) (va_Qv (fun (u : Nat → Nat) => True) (mAt D y (va_A [(a0, .inr (4, [.null, .null, .null, .null, .null, .null, .null, .int 0]))] sz) (fun u => [(a0, .inr (4, [.ref (u 0), .ref (u 1), .ref (u 2), .ref (u 3), .ref (u 4), .ref (u 5), .ref (u 6), .int 0])), ((u 0), .inl (y 0, 24, .inl (fun _ => 0))), ((u 1), .inl (y 0, 24, .inl (fun _ => 0))), ((u 2), .inl (y 0, 24, .inl (fun _ => 0))), ((u 3), .inl (y 0, 24, .inl (fun _ => 0))), ((u 4), .inl (y 0, 24, .inl (fun _ => 0))), ((u 5), .inl (y 0, 24, .inl (fun _ => 0))), ((u 6), .inl (y 0, 24, .inl (fun _ => 0)))])) (va_A [(a0, .inr (4, [.null, .null, .null, .null, .null, .null, .null, .int 0]))] sz)) 7 168 (va_A [(a0, .inr (4, [.null, .null, .null, .null, .null, .null, .null, .int 0]))] sz) := by
  refine Met.ofW (cc := cX2_init) (maxL := 1) (ret := none) (by decide) rfl ?_
  intro p e s m args below meth c s₁ B hml hv
  obtain ⟨rfl, hsz, hP, hK, hD0, hE⟩ := hv
  have hx := B.exec
  have hb := B.bytes
  have hr := B.returns
  have hts := atoms_spec (ws := wsX2_init) B.pre
  have hown : s.vm.findClass RX2 = some m.cls := findClass_of_methodNamed B.named
  have hlocks := B.notSynchronized
  have hin : meth.name = "<init>" := (name_of_methodNamed B.named B.method).1
  subst hsz
  have hD := hD0.self (sz := s.heap.size)
  generalize hAe : va_A [(a0, .inr (4, [.null, .null, .null, .null, .null, .null, .null, .int 0]))] s.heap.size = A at hD ⊢
  have hA : ∀ q : Nat, s.heap.size ≤ q → A q := fun q h => by rw [← hAe]; exact Or.inr h
  have hS : va_S A s.heap s.heap [] := va_S.rf
  have hP : va_P D vwCl [(a0, .inr (4, [.null, .null, .null, .null, .null, .null, .null, .int 0]))] s.heap := hP
  have hl := lv_entry ([.ref a0]) (n := 1) (Nat.le_of_ble_eq_true rfl)
  rw [lg_entry_eq]
  generalize (lg_sl ([.ref a0]) ++ List.replicate (1 - (lg_sl ([.ref a0])).length) Slot.unset).toArray = ls at hl ⊢
  have hl : lv_has ls 1 [(0, .ref a0)] := hl
  refine lv_aload_n hx hb dX2_init_0 rfl (lv_at hl 0 rfl) ?_
  refine W.objInit hx hb hown (hts (.methodLink RX2 3 objectInit) (by decide +kernel)) (hts (.instanceMethod objectInit) (by decide +kernel)) (hts (.code objectInit ⟨#[0xb1]⟩ 1 none) (by decide +kernel)) rfl (by rw [hml]; exact hl.1) rfl dX2_init_1 (Nat.le_of_ble_eq_true rfl) (Nat.le_of_ble_eq_true rfl) ?_
  refine W.eq (g2 := F0 m 4 ls []) rfl ?_
  refine lv_aload_n hx hb dX2_init_4 rfl (lv_at hl 0 rfl) ?_
  refine lv_bipush (v := 24) hx hb dX2_init_5 (by decide) ?_
  refine my_newa (atype := .int) (ty := .int) (N' := 24) (a0 := (24, .inl (fun _ => 0))) 0 hx hb (hts (.arrayClass .int) (by decide +kernel)) rfl rfl hK hP hD hS hA (fun _ => rfl) (by decide +kernel) (by decide +kernel) (by decide +kernel) (by show 0 + 1 ≤ 7; omega) (by show 0 + 24 ≤ 168; omega) dX2_init_7 (fun q0 H hP hD hS => ?_)
  have hP : va_P D vwCl [(a0, .inr (4, [.null, .null, .null, .null, .null, .null, .null, .int 0])), (q0, .inl (y 0, 24, .inl (fun _ => 0)))] H := hP
  have hD : va_D A [(a0, .inr (4, [.null, .null, .null, .null, .null, .null, .null, .int 0])), (q0, .inl (y 0, 24, .inl (fun _ => 0)))] := hD
  refine W.widen (k := 1) (n := 24) (by omega) (by omega) ?_
  refine va_putF (ci := 4) (v := .ref q0) (ty := .array .int) (C := RX2) (T := TX2) (N := 8) hx hb hts inw_X2_init_X2 tyX2 tyX2_ok nmX2 hown hK hP hD hS 0 rfl rfl 0 (by decide) (hts (.fieldLink RX2 9 "DockCall$Men" "skills" "[I") (by decide +kernel)) (fun _ h9 => h9) rfl hin rfl (by decide +kernel) rfl rfl (Nat.le_of_ble_eq_true rfl) dX2_init_9 (fun H locs hP hD hS => ?_)
  have hP : va_P D vwCl [(a0, .inr (4, [.ref q0, .null, .null, .null, .null, .null, .null, .int 0])), (q0, .inl (y 0, 24, .inl (fun _ => 0)))] H := hP
  have hD : va_D A [(a0, .inr (4, [.ref q0, .null, .null, .null, .null, .null, .null, .int 0])), (q0, .inl (y 0, 24, .inl (fun _ => 0)))] := hD
  refine lv_aload_n hx hb dX2_init_12 rfl (lv_at hl 0 rfl) ?_
  refine lv_bipush (v := 24) hx hb dX2_init_13 (by decide) ?_
  refine my_newa (atype := .int) (ty := .int) (N' := 24) (a0 := (24, .inl (fun _ => 0))) 0 hx hb (hts (.arrayClass .int) (by decide +kernel)) rfl rfl hK hP hD hS hA (fun _ => rfl) (by decide +kernel) (by decide +kernel) (by decide +kernel) (by show 1 + 1 ≤ 7; omega) (by show 24 + 24 ≤ 168; omega) dX2_init_15 (fun q1 H hP hD hS => ?_)
  have hP : va_P D vwCl [(a0, .inr (4, [.ref q0, .null, .null, .null, .null, .null, .null, .int 0])), (q0, .inl (y 0, 24, .inl (fun _ => 0))), (q1, .inl (y 0, 24, .inl (fun _ => 0)))] H := hP
  have hD : va_D A [(a0, .inr (4, [.ref q0, .null, .null, .null, .null, .null, .null, .int 0])), (q0, .inl (y 0, 24, .inl (fun _ => 0))), (q1, .inl (y 0, 24, .inl (fun _ => 0)))] := hD
  refine W.widen (k := 2) (n := 48) (by omega) (by omega) ?_
  refine va_putF (ci := 4) (v := .ref q1) (ty := .array .int) (C := RX2) (T := TX2) (N := 8) hx hb hts inw_X2_init_X2 tyX2 tyX2_ok nmX2 hown hK hP hD hS 0 rfl rfl 1 (by decide) (hts (.fieldLink RX2 15 "DockCall$Men" "turns" "[I") (by decide +kernel)) (fun _ h9 => h9) rfl hin rfl (by decide +kernel) rfl rfl (Nat.le_of_ble_eq_true rfl) dX2_init_17 (fun H locs hP hD hS => ?_)
  have hP : va_P D vwCl [(a0, .inr (4, [.ref q0, .ref q1, .null, .null, .null, .null, .null, .int 0])), (q0, .inl (y 0, 24, .inl (fun _ => 0))), (q1, .inl (y 0, 24, .inl (fun _ => 0)))] H := hP
  have hD : va_D A [(a0, .inr (4, [.ref q0, .ref q1, .null, .null, .null, .null, .null, .int 0])), (q0, .inl (y 0, 24, .inl (fun _ => 0))), (q1, .inl (y 0, 24, .inl (fun _ => 0)))] := hD
  refine lv_aload_n hx hb dX2_init_20 rfl (lv_at hl 0 rfl) ?_
  refine lv_bipush (v := 24) hx hb dX2_init_21 (by decide) ?_
  refine my_newa (atype := .int) (ty := .int) (N' := 24) (a0 := (24, .inl (fun _ => 0))) 0 hx hb (hts (.arrayClass .int) (by decide +kernel)) rfl rfl hK hP hD hS hA (fun _ => rfl) (by decide +kernel) (by decide +kernel) (by decide +kernel) (by show 2 + 1 ≤ 7; omega) (by show 48 + 24 ≤ 168; omega) dX2_init_23 (fun q2 H hP hD hS => ?_)
  have hP : va_P D vwCl [(a0, .inr (4, [.ref q0, .ref q1, .null, .null, .null, .null, .null, .int 0])), (q0, .inl (y 0, 24, .inl (fun _ => 0))), (q1, .inl (y 0, 24, .inl (fun _ => 0))), (q2, .inl (y 0, 24, .inl (fun _ => 0)))] H := hP
  have hD : va_D A [(a0, .inr (4, [.ref q0, .ref q1, .null, .null, .null, .null, .null, .int 0])), (q0, .inl (y 0, 24, .inl (fun _ => 0))), (q1, .inl (y 0, 24, .inl (fun _ => 0))), (q2, .inl (y 0, 24, .inl (fun _ => 0)))] := hD
  refine W.widen (k := 3) (n := 72) (by omega) (by omega) ?_
  refine va_putF (ci := 4) (v := .ref q2) (ty := .array .int) (C := RX2) (T := TX2) (N := 8) hx hb hts inw_X2_init_X2 tyX2 tyX2_ok nmX2 hown hK hP hD hS 0 rfl rfl 2 (by decide) (hts (.fieldLink RX2 18 "DockCall$Men" "barredUpTo" "[I") (by decide +kernel)) (fun _ h9 => h9) rfl hin rfl (by decide +kernel) rfl rfl (Nat.le_of_ble_eq_true rfl) dX2_init_25 (fun H locs hP hD hS => ?_)
  have hP : va_P D vwCl [(a0, .inr (4, [.ref q0, .ref q1, .ref q2, .null, .null, .null, .null, .int 0])), (q0, .inl (y 0, 24, .inl (fun _ => 0))), (q1, .inl (y 0, 24, .inl (fun _ => 0))), (q2, .inl (y 0, 24, .inl (fun _ => 0)))] H := hP
  have hD : va_D A [(a0, .inr (4, [.ref q0, .ref q1, .ref q2, .null, .null, .null, .null, .int 0])), (q0, .inl (y 0, 24, .inl (fun _ => 0))), (q1, .inl (y 0, 24, .inl (fun _ => 0))), (q2, .inl (y 0, 24, .inl (fun _ => 0)))] := hD
  refine lv_aload_n hx hb dX2_init_28 rfl (lv_at hl 0 rfl) ?_
  refine lv_bipush (v := 24) hx hb dX2_init_29 (by decide) ?_
  refine my_newa (atype := .int) (ty := .int) (N' := 24) (a0 := (24, .inl (fun _ => 0))) 0 hx hb (hts (.arrayClass .int) (by decide +kernel)) rfl rfl hK hP hD hS hA (fun _ => rfl) (by decide +kernel) (by decide +kernel) (by decide +kernel) (by show 3 + 1 ≤ 7; omega) (by show 72 + 24 ≤ 168; omega) dX2_init_31 (fun q3 H hP hD hS => ?_)
  have hP : va_P D vwCl [(a0, .inr (4, [.ref q0, .ref q1, .ref q2, .null, .null, .null, .null, .int 0])), (q0, .inl (y 0, 24, .inl (fun _ => 0))), (q1, .inl (y 0, 24, .inl (fun _ => 0))), (q2, .inl (y 0, 24, .inl (fun _ => 0))), (q3, .inl (y 0, 24, .inl (fun _ => 0)))] H := hP
  have hD : va_D A [(a0, .inr (4, [.ref q0, .ref q1, .ref q2, .null, .null, .null, .null, .int 0])), (q0, .inl (y 0, 24, .inl (fun _ => 0))), (q1, .inl (y 0, 24, .inl (fun _ => 0))), (q2, .inl (y 0, 24, .inl (fun _ => 0))), (q3, .inl (y 0, 24, .inl (fun _ => 0)))] := hD
  refine W.widen (k := 4) (n := 96) (by omega) (by omega) ?_
  refine va_putF (ci := 4) (v := .ref q3) (ty := .array .int) (C := RX2) (T := TX2) (N := 8) hx hb hts inw_X2_init_X2 tyX2 tyX2_ok nmX2 hown hK hP hD hS 0 rfl rfl 3 (by decide) (hts (.fieldLink RX2 21 "DockCall$Men" "refusals" "[I") (by decide +kernel)) (fun _ h9 => h9) rfl hin rfl (by decide +kernel) rfl rfl (Nat.le_of_ble_eq_true rfl) dX2_init_33 (fun H locs hP hD hS => ?_)
  have hP : va_P D vwCl [(a0, .inr (4, [.ref q0, .ref q1, .ref q2, .ref q3, .null, .null, .null, .int 0])), (q0, .inl (y 0, 24, .inl (fun _ => 0))), (q1, .inl (y 0, 24, .inl (fun _ => 0))), (q2, .inl (y 0, 24, .inl (fun _ => 0))), (q3, .inl (y 0, 24, .inl (fun _ => 0)))] H := hP
  have hD : va_D A [(a0, .inr (4, [.ref q0, .ref q1, .ref q2, .ref q3, .null, .null, .null, .int 0])), (q0, .inl (y 0, 24, .inl (fun _ => 0))), (q1, .inl (y 0, 24, .inl (fun _ => 0))), (q2, .inl (y 0, 24, .inl (fun _ => 0))), (q3, .inl (y 0, 24, .inl (fun _ => 0)))] := hD
  refine lv_aload_n hx hb dX2_init_36 rfl (lv_at hl 0 rfl) ?_
  refine lv_bipush (v := 24) hx hb dX2_init_37 (by decide) ?_
  refine my_newa (atype := .int) (ty := .int) (N' := 24) (a0 := (24, .inl (fun _ => 0))) 0 hx hb (hts (.arrayClass .int) (by decide +kernel)) rfl rfl hK hP hD hS hA (fun _ => rfl) (by decide +kernel) (by decide +kernel) (by decide +kernel) (by show 4 + 1 ≤ 7; omega) (by show 96 + 24 ≤ 168; omega) dX2_init_39 (fun q4 H hP hD hS => ?_)
  have hP : va_P D vwCl [(a0, .inr (4, [.ref q0, .ref q1, .ref q2, .ref q3, .null, .null, .null, .int 0])), (q0, .inl (y 0, 24, .inl (fun _ => 0))), (q1, .inl (y 0, 24, .inl (fun _ => 0))), (q2, .inl (y 0, 24, .inl (fun _ => 0))), (q3, .inl (y 0, 24, .inl (fun _ => 0))), (q4, .inl (y 0, 24, .inl (fun _ => 0)))] H := hP
  have hD : va_D A [(a0, .inr (4, [.ref q0, .ref q1, .ref q2, .ref q3, .null, .null, .null, .int 0])), (q0, .inl (y 0, 24, .inl (fun _ => 0))), (q1, .inl (y 0, 24, .inl (fun _ => 0))), (q2, .inl (y 0, 24, .inl (fun _ => 0))), (q3, .inl (y 0, 24, .inl (fun _ => 0))), (q4, .inl (y 0, 24, .inl (fun _ => 0)))] := hD
  refine W.widen (k := 5) (n := 120) (by omega) (by omega) ?_
  refine va_putF (ci := 4) (v := .ref q4) (ty := .array .int) (C := RX2) (T := TX2) (N := 8) hx hb hts inw_X2_init_X2 tyX2 tyX2_ok nmX2 hown hK hP hD hS 0 rfl rfl 4 (by decide) (hts (.fieldLink RX2 24 "DockCall$Men" "gangShip" "[I") (by decide +kernel)) (fun _ h9 => h9) rfl hin rfl (by decide +kernel) rfl rfl (Nat.le_of_ble_eq_true rfl) dX2_init_41 (fun H locs hP hD hS => ?_)
  have hP : va_P D vwCl [(a0, .inr (4, [.ref q0, .ref q1, .ref q2, .ref q3, .ref q4, .null, .null, .int 0])), (q0, .inl (y 0, 24, .inl (fun _ => 0))), (q1, .inl (y 0, 24, .inl (fun _ => 0))), (q2, .inl (y 0, 24, .inl (fun _ => 0))), (q3, .inl (y 0, 24, .inl (fun _ => 0))), (q4, .inl (y 0, 24, .inl (fun _ => 0)))] H := hP
  have hD : va_D A [(a0, .inr (4, [.ref q0, .ref q1, .ref q2, .ref q3, .ref q4, .null, .null, .int 0])), (q0, .inl (y 0, 24, .inl (fun _ => 0))), (q1, .inl (y 0, 24, .inl (fun _ => 0))), (q2, .inl (y 0, 24, .inl (fun _ => 0))), (q3, .inl (y 0, 24, .inl (fun _ => 0))), (q4, .inl (y 0, 24, .inl (fun _ => 0)))] := hD
  refine lv_aload_n hx hb dX2_init_44 rfl (lv_at hl 0 rfl) ?_
  refine lv_bipush (v := 24) hx hb dX2_init_45 (by decide) ?_
  refine my_newa (atype := .int) (ty := .int) (N' := 24) (a0 := (24, .inl (fun _ => 0))) 0 hx hb (hts (.arrayClass .int) (by decide +kernel)) rfl rfl hK hP hD hS hA (fun _ => rfl) (by decide +kernel) (by decide +kernel) (by decide +kernel) (by show 5 + 1 ≤ 7; omega) (by show 120 + 24 ≤ 168; omega) dX2_init_47 (fun q5 H hP hD hS => ?_)
  have hP : va_P D vwCl [(a0, .inr (4, [.ref q0, .ref q1, .ref q2, .ref q3, .ref q4, .null, .null, .int 0])), (q0, .inl (y 0, 24, .inl (fun _ => 0))), (q1, .inl (y 0, 24, .inl (fun _ => 0))), (q2, .inl (y 0, 24, .inl (fun _ => 0))), (q3, .inl (y 0, 24, .inl (fun _ => 0))), (q4, .inl (y 0, 24, .inl (fun _ => 0))), (q5, .inl (y 0, 24, .inl (fun _ => 0)))] H := hP
  have hD : va_D A [(a0, .inr (4, [.ref q0, .ref q1, .ref q2, .ref q3, .ref q4, .null, .null, .int 0])), (q0, .inl (y 0, 24, .inl (fun _ => 0))), (q1, .inl (y 0, 24, .inl (fun _ => 0))), (q2, .inl (y 0, 24, .inl (fun _ => 0))), (q3, .inl (y 0, 24, .inl (fun _ => 0))), (q4, .inl (y 0, 24, .inl (fun _ => 0))), (q5, .inl (y 0, 24, .inl (fun _ => 0)))] := hD
  refine W.widen (k := 6) (n := 144) (by omega) (by omega) ?_
  refine va_putF (ci := 4) (v := .ref q5) (ty := .array .int) (C := RX2) (T := TX2) (N := 8) hx hb hts inw_X2_init_X2 tyX2 tyX2_ok nmX2 hown hK hP hD hS 0 rfl rfl 5 (by decide) (hts (.fieldLink RX2 27 "DockCall$Men" "gangHatch" "[I") (by decide +kernel)) (fun _ h9 => h9) rfl hin rfl (by decide +kernel) rfl rfl (Nat.le_of_ble_eq_true rfl) dX2_init_49 (fun H locs hP hD hS => ?_)
  have hP : va_P D vwCl [(a0, .inr (4, [.ref q0, .ref q1, .ref q2, .ref q3, .ref q4, .ref q5, .null, .int 0])), (q0, .inl (y 0, 24, .inl (fun _ => 0))), (q1, .inl (y 0, 24, .inl (fun _ => 0))), (q2, .inl (y 0, 24, .inl (fun _ => 0))), (q3, .inl (y 0, 24, .inl (fun _ => 0))), (q4, .inl (y 0, 24, .inl (fun _ => 0))), (q5, .inl (y 0, 24, .inl (fun _ => 0)))] H := hP
  have hD : va_D A [(a0, .inr (4, [.ref q0, .ref q1, .ref q2, .ref q3, .ref q4, .ref q5, .null, .int 0])), (q0, .inl (y 0, 24, .inl (fun _ => 0))), (q1, .inl (y 0, 24, .inl (fun _ => 0))), (q2, .inl (y 0, 24, .inl (fun _ => 0))), (q3, .inl (y 0, 24, .inl (fun _ => 0))), (q4, .inl (y 0, 24, .inl (fun _ => 0))), (q5, .inl (y 0, 24, .inl (fun _ => 0)))] := hD
  refine lv_aload_n hx hb dX2_init_52 rfl (lv_at hl 0 rfl) ?_
  refine lv_bipush (v := 24) hx hb dX2_init_53 (by decide) ?_
  refine my_newa (atype := .int) (ty := .int) (N' := 24) (a0 := (24, .inl (fun _ => 0))) 0 hx hb (hts (.arrayClass .int) (by decide +kernel)) rfl rfl hK hP hD hS hA (fun _ => rfl) (by decide +kernel) (by decide +kernel) (by decide +kernel) (by show 6 + 1 ≤ 7; omega) (by show 144 + 24 ≤ 168; omega) dX2_init_55 (fun q6 H hP hD hS => ?_)
  have hP : va_P D vwCl [(a0, .inr (4, [.ref q0, .ref q1, .ref q2, .ref q3, .ref q4, .ref q5, .null, .int 0])), (q0, .inl (y 0, 24, .inl (fun _ => 0))), (q1, .inl (y 0, 24, .inl (fun _ => 0))), (q2, .inl (y 0, 24, .inl (fun _ => 0))), (q3, .inl (y 0, 24, .inl (fun _ => 0))), (q4, .inl (y 0, 24, .inl (fun _ => 0))), (q5, .inl (y 0, 24, .inl (fun _ => 0))), (q6, .inl (y 0, 24, .inl (fun _ => 0)))] H := hP
  have hD : va_D A [(a0, .inr (4, [.ref q0, .ref q1, .ref q2, .ref q3, .ref q4, .ref q5, .null, .int 0])), (q0, .inl (y 0, 24, .inl (fun _ => 0))), (q1, .inl (y 0, 24, .inl (fun _ => 0))), (q2, .inl (y 0, 24, .inl (fun _ => 0))), (q3, .inl (y 0, 24, .inl (fun _ => 0))), (q4, .inl (y 0, 24, .inl (fun _ => 0))), (q5, .inl (y 0, 24, .inl (fun _ => 0))), (q6, .inl (y 0, 24, .inl (fun _ => 0)))] := hD
  refine W.widen (k := 7) (n := 168) (by omega) (by omega) ?_
  refine va_putF (ci := 4) (v := .ref q6) (ty := .array .int) (C := RX2) (T := TX2) (N := 8) hx hb hts inw_X2_init_X2 tyX2 tyX2_ok nmX2 hown hK hP hD hS 0 rfl rfl 6 (by decide) (hts (.fieldLink RX2 30 "DockCall$Men" "line" "[I") (by decide +kernel)) (fun _ h9 => h9) rfl hin rfl (by decide +kernel) rfl rfl (Nat.le_of_ble_eq_true rfl) dX2_init_57 (fun H locs hP hD hS => ?_)
  have hP : va_P D vwCl [(a0, .inr (4, [.ref q0, .ref q1, .ref q2, .ref q3, .ref q4, .ref q5, .ref q6, .int 0])), (q0, .inl (y 0, 24, .inl (fun _ => 0))), (q1, .inl (y 0, 24, .inl (fun _ => 0))), (q2, .inl (y 0, 24, .inl (fun _ => 0))), (q3, .inl (y 0, 24, .inl (fun _ => 0))), (q4, .inl (y 0, 24, .inl (fun _ => 0))), (q5, .inl (y 0, 24, .inl (fun _ => 0))), (q6, .inl (y 0, 24, .inl (fun _ => 0)))] H := hP
  have hD : va_D A [(a0, .inr (4, [.ref q0, .ref q1, .ref q2, .ref q3, .ref q4, .ref q5, .ref q6, .int 0])), (q0, .inl (y 0, 24, .inl (fun _ => 0))), (q1, .inl (y 0, 24, .inl (fun _ => 0))), (q2, .inl (y 0, 24, .inl (fun _ => 0))), (q3, .inl (y 0, 24, .inl (fun _ => 0))), (q4, .inl (y 0, 24, .inl (fun _ => 0))), (q5, .inl (y 0, 24, .inl (fun _ => 0))), (q6, .inl (y 0, 24, .inl (fun _ => 0)))] := hD
  exact W.vret hx hb hr (fun t ht hW => ⟨⟨(fun k => ([q0, q1, q2, q3, q4, q5, q6] : List Nat).getD k 0), rfl, trivial, mAt.to (hP.sub [0, 1, 2, 3, 4, 5, 6, 7] rfl) hK (hD.sub [0, 1, 2, 3, 4, 5, 6, 7] (by decide) rfl) ht hW⟩, hS.F ht⟩) hS.2.2 dX2_init_60

theorem inw_X6_init_X6 : ∀ w ∈ wsX60, w ∈ wsX6_init := fun _ h => List.mem_cons_of_mem _ (List.mem_append_right _ h)
set_option maxHeartbeats 4000000 in
set_option maxRecDepth 100000 in
theorem k_Ships (l : Launch) (D : va_G) (y : Nat → ClassId) (a0 sz : Nat) : Met l yX6_init wsX6_init ({ frames := 1, cells := 8, slots := 170, locals := 12 }) (va_Pc [.ref a0] (mPre D y sz [(a0, .inr (8, [.null, .null, .null, .null, .null, .null, .null, .null, .int 0, .int 0]))])) (va_Qv (fun (u : Nat → Nat) => True) (mAt D y (va_A [(a0, .inr (8, [.null, .null, .null, .null, .null, .null, .null, .null, .int 0, .int 0]))] sz) (fun u => [(a0, .inr (8, [.ref (u 0), .ref (u 1), .ref (u 2), .ref (u 3), .ref (u 4), .ref (u 5), .ref (u 6), .ref (u 7), .int 0, .int 0])), ((u 0), .inl (y 0, 10, .inl (fun _ => 0))), ((u 1), .inl (y 0, 10, .inl (fun _ => 0))), ((u 2), .inl (y 0, 10, .inl (fun _ => 0))), ((u 3), .inl (y 0, 40, .inl (fun _ => 0))), ((u 4), .inl (y 0, 40, .inl (fun _ => 0))), ((u 5), .inl (y 2, 40, .inl (fun _ => 0))), ((u 6), .inl (y 0, 10, .inl (fun _ => 0))), ((u 7), .inl (y 0, 10, .inl (fun _ => 0)))])) (va_A [(a0, .inr (8, [.null, .null, .null, .null, .null, .null, .null, .null, .int 0, .int 0]))] sz)) 8 170 (va_A [(a0, .inr (8, [.null, .null, .null, .null, .null, .null, .null, .null, .int 0, .int 0]))] sz) := by
  refine Met.ofW (cc := cX6_init) (maxL := 1) (ret := none) (by decide) rfl ?_
  intro p e s m args below meth c s₁ B hml hv
  obtain ⟨rfl, hsz, hP, hK, hD0, hE⟩ := hv
  have hx := B.exec
  have hb := B.bytes
  have hr := B.returns
  have hts := atoms_spec (ws := wsX6_init) B.pre
  have hown : s.vm.findClass RX6 = some m.cls := findClass_of_methodNamed B.named
  have hlocks := B.notSynchronized
  have hin : meth.name = "<init>" := (name_of_methodNamed B.named B.method).1
  subst hsz
  have hD := hD0.self (sz := s.heap.size)
  generalize hAe : va_A [(a0, .inr (8, [.null, .null, .null, .null, .null, .null, .null, .null, .int 0, .int 0]))] s.heap.size = A at hD ⊢
  have hA : ∀ q : Nat, s.heap.size ≤ q → A q := fun q h => by rw [← hAe]; exact Or.inr h
  have hS : va_S A s.heap s.heap [] := va_S.rf
  have hP : va_P D vwCl [(a0, .inr (8, [.null, .null, .null, .null, .null, .null, .null, .null, .int 0, .int 0]))] s.heap := hP
  have hl := lv_entry ([.ref a0]) (n := 1) (Nat.le_of_ble_eq_true rfl)
  rw [lg_entry_eq]
  generalize (lg_sl ([.ref a0]) ++ List.replicate (1 - (lg_sl ([.ref a0])).length) Slot.unset).toArray = ls at hl ⊢
  have hl : lv_has ls 1 [(0, .ref a0)] := hl
  refine lv_aload_n hx hb dX6_init_0 rfl (lv_at hl 0 rfl) ?_
  refine W.objInit hx hb hown (hts (.methodLink RX6 3 objectInit) (by decide +kernel)) (hts (.instanceMethod objectInit) (by decide +kernel)) (hts (.code objectInit ⟨#[0xb1]⟩ 1 none) (by decide +kernel)) rfl (by rw [hml]; exact hl.1) rfl dX6_init_1 (Nat.le_of_ble_eq_true rfl) (Nat.le_of_ble_eq_true rfl) ?_
  refine W.eq (g2 := F0 m 4 ls []) rfl ?_
  refine lv_aload_n hx hb dX6_init_4 rfl (lv_at hl 0 rfl) ?_
  refine lv_bipush (v := 10) hx hb dX6_init_5 (by decide) ?_
  refine my_newa (atype := .int) (ty := .int) (N' := 10) (a0 := (10, .inl (fun _ => 0))) 0 hx hb (hts (.arrayClass .int) (by decide +kernel)) rfl rfl hK hP hD hS hA (fun _ => rfl) (by decide +kernel) (by decide +kernel) (by decide +kernel) (by show 0 + 1 ≤ 8; omega) (by show 0 + 10 ≤ 170; omega) dX6_init_7 (fun q0 H hP hD hS => ?_)
  have hP : va_P D vwCl [(a0, .inr (8, [.null, .null, .null, .null, .null, .null, .null, .null, .int 0, .int 0])), (q0, .inl (y 0, 10, .inl (fun _ => 0)))] H := hP
  have hD : va_D A [(a0, .inr (8, [.null, .null, .null, .null, .null, .null, .null, .null, .int 0, .int 0])), (q0, .inl (y 0, 10, .inl (fun _ => 0)))] := hD
  refine W.widen (k := 1) (n := 10) (by omega) (by omega) ?_
  refine va_putF (ci := 8) (v := .ref q0) (ty := .array .int) (C := RX6) (T := TX6) (N := 10) hx hb hts inw_X6_init_X6 tyX6 tyX6_ok nmX6 hown hK hP hD hS 0 rfl rfl 0 (by decide) (hts (.fieldLink RX6 9 "DockCall$Ships" "came" "[I") (by decide +kernel)) (fun _ h9 => h9) rfl hin rfl (by decide +kernel) rfl rfl (Nat.le_of_ble_eq_true rfl) dX6_init_9 (fun H locs hP hD hS => ?_)
  have hP : va_P D vwCl [(a0, .inr (8, [.ref q0, .null, .null, .null, .null, .null, .null, .null, .int 0, .int 0])), (q0, .inl (y 0, 10, .inl (fun _ => 0)))] H := hP
  have hD : va_D A [(a0, .inr (8, [.ref q0, .null, .null, .null, .null, .null, .null, .null, .int 0, .int 0])), (q0, .inl (y 0, 10, .inl (fun _ => 0)))] := hD
  refine lv_aload_n hx hb dX6_init_12 rfl (lv_at hl 0 rfl) ?_
  refine lv_bipush (v := 10) hx hb dX6_init_13 (by decide) ?_
  refine my_newa (atype := .int) (ty := .int) (N' := 10) (a0 := (10, .inl (fun _ => 0))) 0 hx hb (hts (.arrayClass .int) (by decide +kernel)) rfl rfl hK hP hD hS hA (fun _ => rfl) (by decide +kernel) (by decide +kernel) (by decide +kernel) (by show 1 + 1 ≤ 8; omega) (by show 10 + 10 ≤ 170; omega) dX6_init_15 (fun q1 H hP hD hS => ?_)
  have hP : va_P D vwCl [(a0, .inr (8, [.ref q0, .null, .null, .null, .null, .null, .null, .null, .int 0, .int 0])), (q0, .inl (y 0, 10, .inl (fun _ => 0))), (q1, .inl (y 0, 10, .inl (fun _ => 0)))] H := hP
  have hD : va_D A [(a0, .inr (8, [.ref q0, .null, .null, .null, .null, .null, .null, .null, .int 0, .int 0])), (q0, .inl (y 0, 10, .inl (fun _ => 0))), (q1, .inl (y 0, 10, .inl (fun _ => 0)))] := hD
  refine W.widen (k := 2) (n := 20) (by omega) (by omega) ?_
  refine va_putF (ci := 8) (v := .ref q1) (ty := .array .int) (C := RX6) (T := TX6) (N := 10) hx hb hts inw_X6_init_X6 tyX6 tyX6_ok nmX6 hown hK hP hD hS 0 rfl rfl 1 (by decide) (hts (.fieldLink RX6 15 "DockCall$Ships" "hatches" "[I") (by decide +kernel)) (fun _ h9 => h9) rfl hin rfl (by decide +kernel) rfl rfl (Nat.le_of_ble_eq_true rfl) dX6_init_17 (fun H locs hP hD hS => ?_)
  have hP : va_P D vwCl [(a0, .inr (8, [.ref q0, .ref q1, .null, .null, .null, .null, .null, .null, .int 0, .int 0])), (q0, .inl (y 0, 10, .inl (fun _ => 0))), (q1, .inl (y 0, 10, .inl (fun _ => 0)))] H := hP
  have hD : va_D A [(a0, .inr (8, [.ref q0, .ref q1, .null, .null, .null, .null, .null, .null, .int 0, .int 0])), (q0, .inl (y 0, 10, .inl (fun _ => 0))), (q1, .inl (y 0, 10, .inl (fun _ => 0)))] := hD
  refine lv_aload_n hx hb dX6_init_20 rfl (lv_at hl 0 rfl) ?_
  refine lv_bipush (v := 10) hx hb dX6_init_21 (by decide) ?_
  refine my_newa (atype := .int) (ty := .int) (N' := 10) (a0 := (10, .inl (fun _ => 0))) 0 hx hb (hts (.arrayClass .int) (by decide +kernel)) rfl rfl hK hP hD hS hA (fun _ => rfl) (by decide +kernel) (by decide +kernel) (by decide +kernel) (by show 2 + 1 ≤ 8; omega) (by show 20 + 10 ≤ 170; omega) dX6_init_23 (fun q2 H hP hD hS => ?_)
  have hP : va_P D vwCl [(a0, .inr (8, [.ref q0, .ref q1, .null, .null, .null, .null, .null, .null, .int 0, .int 0])), (q0, .inl (y 0, 10, .inl (fun _ => 0))), (q1, .inl (y 0, 10, .inl (fun _ => 0))), (q2, .inl (y 0, 10, .inl (fun _ => 0)))] H := hP
  have hD : va_D A [(a0, .inr (8, [.ref q0, .ref q1, .null, .null, .null, .null, .null, .null, .int 0, .int 0])), (q0, .inl (y 0, 10, .inl (fun _ => 0))), (q1, .inl (y 0, 10, .inl (fun _ => 0))), (q2, .inl (y 0, 10, .inl (fun _ => 0)))] := hD
  refine W.widen (k := 3) (n := 30) (by omega) (by omega) ?_
  refine va_putF (ci := 8) (v := .ref q2) (ty := .array .int) (C := RX6) (T := TX6) (N := 10) hx hb hts inw_X6_init_X6 tyX6 tyX6_ok nmX6 hown hK hP hD hS 0 rfl rfl 2 (by decide) (hts (.fieldLink RX6 18 "DockCall$Ships" "waited" "[I") (by decide +kernel)) (fun _ h9 => h9) rfl hin rfl (by decide +kernel) rfl rfl (Nat.le_of_ble_eq_true rfl) dX6_init_25 (fun H locs hP hD hS => ?_)
  have hP : va_P D vwCl [(a0, .inr (8, [.ref q0, .ref q1, .ref q2, .null, .null, .null, .null, .null, .int 0, .int 0])), (q0, .inl (y 0, 10, .inl (fun _ => 0))), (q1, .inl (y 0, 10, .inl (fun _ => 0))), (q2, .inl (y 0, 10, .inl (fun _ => 0)))] H := hP
  have hD : va_D A [(a0, .inr (8, [.ref q0, .ref q1, .ref q2, .null, .null, .null, .null, .null, .int 0, .int 0])), (q0, .inl (y 0, 10, .inl (fun _ => 0))), (q1, .inl (y 0, 10, .inl (fun _ => 0))), (q2, .inl (y 0, 10, .inl (fun _ => 0)))] := hD
  refine lv_aload_n hx hb dX6_init_28 rfl (lv_at hl 0 rfl) ?_
  refine lv_bipush (v := 40) hx hb dX6_init_29 (by decide) ?_
  refine my_newa (atype := .int) (ty := .int) (N' := 40) (a0 := (40, .inl (fun _ => 0))) 0 hx hb (hts (.arrayClass .int) (by decide +kernel)) rfl rfl hK hP hD hS hA (fun _ => rfl) (by decide +kernel) (by decide +kernel) (by decide +kernel) (by show 3 + 1 ≤ 8; omega) (by show 30 + 40 ≤ 170; omega) dX6_init_31 (fun q3 H hP hD hS => ?_)
  have hP : va_P D vwCl [(a0, .inr (8, [.ref q0, .ref q1, .ref q2, .null, .null, .null, .null, .null, .int 0, .int 0])), (q0, .inl (y 0, 10, .inl (fun _ => 0))), (q1, .inl (y 0, 10, .inl (fun _ => 0))), (q2, .inl (y 0, 10, .inl (fun _ => 0))), (q3, .inl (y 0, 40, .inl (fun _ => 0)))] H := hP
  have hD : va_D A [(a0, .inr (8, [.ref q0, .ref q1, .ref q2, .null, .null, .null, .null, .null, .int 0, .int 0])), (q0, .inl (y 0, 10, .inl (fun _ => 0))), (q1, .inl (y 0, 10, .inl (fun _ => 0))), (q2, .inl (y 0, 10, .inl (fun _ => 0))), (q3, .inl (y 0, 40, .inl (fun _ => 0)))] := hD
  refine W.widen (k := 4) (n := 70) (by omega) (by omega) ?_
  refine va_putF (ci := 8) (v := .ref q3) (ty := .array .int) (C := RX6) (T := TX6) (N := 10) hx hb hts inw_X6_init_X6 tyX6 tyX6_ok nmX6 hown hK hP hD hS 0 rfl rfl 3 (by decide) (hts (.fieldLink RX6 21 "DockCall$Ships" "left" "[I") (by decide +kernel)) (fun _ h9 => h9) rfl hin rfl (by decide +kernel) rfl rfl (Nat.le_of_ble_eq_true rfl) dX6_init_33 (fun H locs hP hD hS => ?_)
  have hP : va_P D vwCl [(a0, .inr (8, [.ref q0, .ref q1, .ref q2, .ref q3, .null, .null, .null, .null, .int 0, .int 0])), (q0, .inl (y 0, 10, .inl (fun _ => 0))), (q1, .inl (y 0, 10, .inl (fun _ => 0))), (q2, .inl (y 0, 10, .inl (fun _ => 0))), (q3, .inl (y 0, 40, .inl (fun _ => 0)))] H := hP
  have hD : va_D A [(a0, .inr (8, [.ref q0, .ref q1, .ref q2, .ref q3, .null, .null, .null, .null, .int 0, .int 0])), (q0, .inl (y 0, 10, .inl (fun _ => 0))), (q1, .inl (y 0, 10, .inl (fun _ => 0))), (q2, .inl (y 0, 10, .inl (fun _ => 0))), (q3, .inl (y 0, 40, .inl (fun _ => 0)))] := hD
  refine lv_aload_n hx hb dX6_init_36 rfl (lv_at hl 0 rfl) ?_
  refine lv_bipush (v := 40) hx hb dX6_init_37 (by decide) ?_
  refine my_newa (atype := .int) (ty := .int) (N' := 40) (a0 := (40, .inl (fun _ => 0))) 0 hx hb (hts (.arrayClass .int) (by decide +kernel)) rfl rfl hK hP hD hS hA (fun _ => rfl) (by decide +kernel) (by decide +kernel) (by decide +kernel) (by show 4 + 1 ≤ 8; omega) (by show 70 + 40 ≤ 170; omega) dX6_init_39 (fun q4 H hP hD hS => ?_)
  have hP : va_P D vwCl [(a0, .inr (8, [.ref q0, .ref q1, .ref q2, .ref q3, .null, .null, .null, .null, .int 0, .int 0])), (q0, .inl (y 0, 10, .inl (fun _ => 0))), (q1, .inl (y 0, 10, .inl (fun _ => 0))), (q2, .inl (y 0, 10, .inl (fun _ => 0))), (q3, .inl (y 0, 40, .inl (fun _ => 0))), (q4, .inl (y 0, 40, .inl (fun _ => 0)))] H := hP
  have hD : va_D A [(a0, .inr (8, [.ref q0, .ref q1, .ref q2, .ref q3, .null, .null, .null, .null, .int 0, .int 0])), (q0, .inl (y 0, 10, .inl (fun _ => 0))), (q1, .inl (y 0, 10, .inl (fun _ => 0))), (q2, .inl (y 0, 10, .inl (fun _ => 0))), (q3, .inl (y 0, 40, .inl (fun _ => 0))), (q4, .inl (y 0, 40, .inl (fun _ => 0)))] := hD
  refine W.widen (k := 5) (n := 110) (by omega) (by omega) ?_
  refine va_putF (ci := 8) (v := .ref q4) (ty := .array .int) (C := RX6) (T := TX6) (N := 10) hx hb hts inw_X6_init_X6 tyX6 tyX6_ok nmX6 hown hK hP hD hS 0 rfl rfl 4 (by decide) (hts (.fieldLink RX6 24 "DockCall$Ships" "skill" "[I") (by decide +kernel)) (fun _ h9 => h9) rfl hin rfl (by decide +kernel) rfl rfl (Nat.le_of_ble_eq_true rfl) dX6_init_41 (fun H locs hP hD hS => ?_)
  have hP : va_P D vwCl [(a0, .inr (8, [.ref q0, .ref q1, .ref q2, .ref q3, .ref q4, .null, .null, .null, .int 0, .int 0])), (q0, .inl (y 0, 10, .inl (fun _ => 0))), (q1, .inl (y 0, 10, .inl (fun _ => 0))), (q2, .inl (y 0, 10, .inl (fun _ => 0))), (q3, .inl (y 0, 40, .inl (fun _ => 0))), (q4, .inl (y 0, 40, .inl (fun _ => 0)))] H := hP
  have hD : va_D A [(a0, .inr (8, [.ref q0, .ref q1, .ref q2, .ref q3, .ref q4, .null, .null, .null, .int 0, .int 0])), (q0, .inl (y 0, 10, .inl (fun _ => 0))), (q1, .inl (y 0, 10, .inl (fun _ => 0))), (q2, .inl (y 0, 10, .inl (fun _ => 0))), (q3, .inl (y 0, 40, .inl (fun _ => 0))), (q4, .inl (y 0, 40, .inl (fun _ => 0)))] := hD
  refine lv_aload_n hx hb dX6_init_44 rfl (lv_at hl 0 rfl) ?_
  refine lv_bipush (v := 40) hx hb dX6_init_45 (by decide) ?_
  refine my_newa (atype := .boolean) (ty := .boolean) (N' := 40) (a0 := (40, .inl (fun _ => 0))) 2 hx hb (hts (.arrayClass .boolean) (by decide +kernel)) rfl rfl hK hP hD hS hA (fun _ => rfl) (by decide +kernel) (by decide +kernel) (by decide +kernel) (by show 5 + 1 ≤ 8; omega) (by show 110 + 40 ≤ 170; omega) dX6_init_47 (fun q5 H hP hD hS => ?_)
  have hP : va_P D vwCl [(a0, .inr (8, [.ref q0, .ref q1, .ref q2, .ref q3, .ref q4, .null, .null, .null, .int 0, .int 0])), (q0, .inl (y 0, 10, .inl (fun _ => 0))), (q1, .inl (y 0, 10, .inl (fun _ => 0))), (q2, .inl (y 0, 10, .inl (fun _ => 0))), (q3, .inl (y 0, 40, .inl (fun _ => 0))), (q4, .inl (y 0, 40, .inl (fun _ => 0))), (q5, .inl (y 2, 40, .inl (fun _ => 0)))] H := hP
  have hD : va_D A [(a0, .inr (8, [.ref q0, .ref q1, .ref q2, .ref q3, .ref q4, .null, .null, .null, .int 0, .int 0])), (q0, .inl (y 0, 10, .inl (fun _ => 0))), (q1, .inl (y 0, 10, .inl (fun _ => 0))), (q2, .inl (y 0, 10, .inl (fun _ => 0))), (q3, .inl (y 0, 40, .inl (fun _ => 0))), (q4, .inl (y 0, 40, .inl (fun _ => 0))), (q5, .inl (y 2, 40, .inl (fun _ => 0)))] := hD
  refine W.widen (k := 6) (n := 150) (by omega) (by omega) ?_
  refine va_putF (ci := 8) (v := .ref q5) (ty := .array .boolean) (C := RX6) (T := TX6) (N := 10) hx hb hts inw_X6_init_X6 tyX6 tyX6_ok nmX6 hown hK hP hD hS 0 rfl rfl 5 (by decide) (hts (.fieldLink RX6 27 "DockCall$Ships" "dry" "[Z") (by decide +kernel)) (fun _ h9 => h9) rfl hin rfl (by decide +kernel) rfl rfl (Nat.le_of_ble_eq_true rfl) dX6_init_49 (fun H locs hP hD hS => ?_)
  have hP : va_P D vwCl [(a0, .inr (8, [.ref q0, .ref q1, .ref q2, .ref q3, .ref q4, .ref q5, .null, .null, .int 0, .int 0])), (q0, .inl (y 0, 10, .inl (fun _ => 0))), (q1, .inl (y 0, 10, .inl (fun _ => 0))), (q2, .inl (y 0, 10, .inl (fun _ => 0))), (q3, .inl (y 0, 40, .inl (fun _ => 0))), (q4, .inl (y 0, 40, .inl (fun _ => 0))), (q5, .inl (y 2, 40, .inl (fun _ => 0)))] H := hP
  have hD : va_D A [(a0, .inr (8, [.ref q0, .ref q1, .ref q2, .ref q3, .ref q4, .ref q5, .null, .null, .int 0, .int 0])), (q0, .inl (y 0, 10, .inl (fun _ => 0))), (q1, .inl (y 0, 10, .inl (fun _ => 0))), (q2, .inl (y 0, 10, .inl (fun _ => 0))), (q3, .inl (y 0, 40, .inl (fun _ => 0))), (q4, .inl (y 0, 40, .inl (fun _ => 0))), (q5, .inl (y 2, 40, .inl (fun _ => 0)))] := hD
  refine lv_aload_n hx hb dX6_init_52 rfl (lv_at hl 0 rfl) ?_
  refine lv_bipush (v := 10) hx hb dX6_init_53 (by decide) ?_
  refine my_newa (atype := .int) (ty := .int) (N' := 10) (a0 := (10, .inl (fun _ => 0))) 0 hx hb (hts (.arrayClass .int) (by decide +kernel)) rfl rfl hK hP hD hS hA (fun _ => rfl) (by decide +kernel) (by decide +kernel) (by decide +kernel) (by show 6 + 1 ≤ 8; omega) (by show 150 + 10 ≤ 170; omega) dX6_init_55 (fun q6 H hP hD hS => ?_)
  have hP : va_P D vwCl [(a0, .inr (8, [.ref q0, .ref q1, .ref q2, .ref q3, .ref q4, .ref q5, .null, .null, .int 0, .int 0])), (q0, .inl (y 0, 10, .inl (fun _ => 0))), (q1, .inl (y 0, 10, .inl (fun _ => 0))), (q2, .inl (y 0, 10, .inl (fun _ => 0))), (q3, .inl (y 0, 40, .inl (fun _ => 0))), (q4, .inl (y 0, 40, .inl (fun _ => 0))), (q5, .inl (y 2, 40, .inl (fun _ => 0))), (q6, .inl (y 0, 10, .inl (fun _ => 0)))] H := hP
  have hD : va_D A [(a0, .inr (8, [.ref q0, .ref q1, .ref q2, .ref q3, .ref q4, .ref q5, .null, .null, .int 0, .int 0])), (q0, .inl (y 0, 10, .inl (fun _ => 0))), (q1, .inl (y 0, 10, .inl (fun _ => 0))), (q2, .inl (y 0, 10, .inl (fun _ => 0))), (q3, .inl (y 0, 40, .inl (fun _ => 0))), (q4, .inl (y 0, 40, .inl (fun _ => 0))), (q5, .inl (y 2, 40, .inl (fun _ => 0))), (q6, .inl (y 0, 10, .inl (fun _ => 0)))] := hD
  refine W.widen (k := 7) (n := 160) (by omega) (by omega) ?_
  refine va_putF (ci := 8) (v := .ref q6) (ty := .array .int) (C := RX6) (T := TX6) (N := 10) hx hb hts inw_X6_init_X6 tyX6 tyX6_ok nmX6 hown hK hP hD hS 0 rfl rfl 6 (by decide) (hts (.fieldLink RX6 31 "DockCall$Ships" "line" "[I") (by decide +kernel)) (fun _ h9 => h9) rfl hin rfl (by decide +kernel) rfl rfl (Nat.le_of_ble_eq_true rfl) dX6_init_57 (fun H locs hP hD hS => ?_)
  have hP : va_P D vwCl [(a0, .inr (8, [.ref q0, .ref q1, .ref q2, .ref q3, .ref q4, .ref q5, .ref q6, .null, .int 0, .int 0])), (q0, .inl (y 0, 10, .inl (fun _ => 0))), (q1, .inl (y 0, 10, .inl (fun _ => 0))), (q2, .inl (y 0, 10, .inl (fun _ => 0))), (q3, .inl (y 0, 40, .inl (fun _ => 0))), (q4, .inl (y 0, 40, .inl (fun _ => 0))), (q5, .inl (y 2, 40, .inl (fun _ => 0))), (q6, .inl (y 0, 10, .inl (fun _ => 0)))] H := hP
  have hD : va_D A [(a0, .inr (8, [.ref q0, .ref q1, .ref q2, .ref q3, .ref q4, .ref q5, .ref q6, .null, .int 0, .int 0])), (q0, .inl (y 0, 10, .inl (fun _ => 0))), (q1, .inl (y 0, 10, .inl (fun _ => 0))), (q2, .inl (y 0, 10, .inl (fun _ => 0))), (q3, .inl (y 0, 40, .inl (fun _ => 0))), (q4, .inl (y 0, 40, .inl (fun _ => 0))), (q5, .inl (y 2, 40, .inl (fun _ => 0))), (q6, .inl (y 0, 10, .inl (fun _ => 0)))] := hD
  refine lv_aload_n hx hb dX6_init_60 rfl (lv_at hl 0 rfl) ?_
  refine lv_bipush (v := 10) hx hb dX6_init_61 (by decide) ?_
  refine my_newa (atype := .int) (ty := .int) (N' := 10) (a0 := (10, .inl (fun _ => 0))) 0 hx hb (hts (.arrayClass .int) (by decide +kernel)) rfl rfl hK hP hD hS hA (fun _ => rfl) (by decide +kernel) (by decide +kernel) (by decide +kernel) (by show 7 + 1 ≤ 8; omega) (by show 160 + 10 ≤ 170; omega) dX6_init_63 (fun q7 H hP hD hS => ?_)
  have hP : va_P D vwCl [(a0, .inr (8, [.ref q0, .ref q1, .ref q2, .ref q3, .ref q4, .ref q5, .ref q6, .null, .int 0, .int 0])), (q0, .inl (y 0, 10, .inl (fun _ => 0))), (q1, .inl (y 0, 10, .inl (fun _ => 0))), (q2, .inl (y 0, 10, .inl (fun _ => 0))), (q3, .inl (y 0, 40, .inl (fun _ => 0))), (q4, .inl (y 0, 40, .inl (fun _ => 0))), (q5, .inl (y 2, 40, .inl (fun _ => 0))), (q6, .inl (y 0, 10, .inl (fun _ => 0))), (q7, .inl (y 0, 10, .inl (fun _ => 0)))] H := hP
  have hD : va_D A [(a0, .inr (8, [.ref q0, .ref q1, .ref q2, .ref q3, .ref q4, .ref q5, .ref q6, .null, .int 0, .int 0])), (q0, .inl (y 0, 10, .inl (fun _ => 0))), (q1, .inl (y 0, 10, .inl (fun _ => 0))), (q2, .inl (y 0, 10, .inl (fun _ => 0))), (q3, .inl (y 0, 40, .inl (fun _ => 0))), (q4, .inl (y 0, 40, .inl (fun _ => 0))), (q5, .inl (y 2, 40, .inl (fun _ => 0))), (q6, .inl (y 0, 10, .inl (fun _ => 0))), (q7, .inl (y 0, 10, .inl (fun _ => 0)))] := hD
  refine W.widen (k := 8) (n := 170) (by omega) (by omega) ?_
  refine va_putF (ci := 8) (v := .ref q7) (ty := .array .int) (C := RX6) (T := TX6) (N := 10) hx hb hts inw_X6_init_X6 tyX6 tyX6_ok nmX6 hown hK hP hD hS 0 rfl rfl 7 (by decide) (hts (.fieldLink RX6 34 "DockCall$Ships" "rank" "[I") (by decide +kernel)) (fun _ h9 => h9) rfl hin rfl (by decide +kernel) rfl rfl (Nat.le_of_ble_eq_true rfl) dX6_init_65 (fun H locs hP hD hS => ?_)
  have hP : va_P D vwCl [(a0, .inr (8, [.ref q0, .ref q1, .ref q2, .ref q3, .ref q4, .ref q5, .ref q6, .ref q7, .int 0, .int 0])), (q0, .inl (y 0, 10, .inl (fun _ => 0))), (q1, .inl (y 0, 10, .inl (fun _ => 0))), (q2, .inl (y 0, 10, .inl (fun _ => 0))), (q3, .inl (y 0, 40, .inl (fun _ => 0))), (q4, .inl (y 0, 40, .inl (fun _ => 0))), (q5, .inl (y 2, 40, .inl (fun _ => 0))), (q6, .inl (y 0, 10, .inl (fun _ => 0))), (q7, .inl (y 0, 10, .inl (fun _ => 0)))] H := hP
  have hD : va_D A [(a0, .inr (8, [.ref q0, .ref q1, .ref q2, .ref q3, .ref q4, .ref q5, .ref q6, .ref q7, .int 0, .int 0])), (q0, .inl (y 0, 10, .inl (fun _ => 0))), (q1, .inl (y 0, 10, .inl (fun _ => 0))), (q2, .inl (y 0, 10, .inl (fun _ => 0))), (q3, .inl (y 0, 40, .inl (fun _ => 0))), (q4, .inl (y 0, 40, .inl (fun _ => 0))), (q5, .inl (y 2, 40, .inl (fun _ => 0))), (q6, .inl (y 0, 10, .inl (fun _ => 0))), (q7, .inl (y 0, 10, .inl (fun _ => 0)))] := hD
  exact W.vret hx hb hr (fun t ht hW => ⟨⟨(fun k => ([q0, q1, q2, q3, q4, q5, q6, q7] : List Nat).getD k 0), rfl, trivial, mAt.to (hP.sub [0, 1, 2, 3, 4, 5, 6, 7, 8] rfl) hK (hD.sub [0, 1, 2, 3, 4, 5, 6, 7, 8] (by decide) rfl) ht hW⟩, hS.F ht⟩) hS.2.2 dX6_init_68

theorem inw_X1_init_X1 : ∀ w ∈ wsX10, w ∈ wsX1_init := fun _ h => List.mem_cons_of_mem _ (List.mem_append_right _ h)
set_option maxHeartbeats 4000000 in
set_option maxRecDepth 100000 in
theorem k_Ledger (l : Launch) (D : va_G) (y : Nat → ClassId) (a0 sz : Nat) : Met l yX1_init wsX1_init ({ frames := 1, cells := 7, slots := 3500, locals := 12 }) (va_Pc [.ref a0] (mPre D y sz [(a0, .inr (3, [.null, .null, .null, .null, .null, .null, .null, .int 0, .int 0, .int 0]))])) (va_Qv (fun (u : Nat → Nat) => True) (mAt D y (va_A [(a0, .inr (3, [.null, .null, .null, .null, .null, .null, .null, .int 0, .int 0, .int 0]))] sz) (fun u => [(a0, .inr (3, [.ref (u 0), .ref (u 1), .ref (u 2), .ref (u 3), .ref (u 4), .ref (u 5), .ref (u 6), .int 0, .int 0, .int 0])), ((u 0), .inl (y 0, 800, .inl (fun _ => 0))), ((u 1), .inl (y 0, 800, .inl (fun _ => 0))), ((u 2), .inl (y 0, 800, .inl (fun _ => 0))), ((u 3), .inl (y 0, 800, .inl (fun _ => 0))), ((u 4), .inl (y 0, 100, .inl (fun _ => 0))), ((u 5), .inl (y 0, 100, .inl (fun _ => 0))), ((u 6), .inl (y 0, 100, .inl (fun _ => 0)))])) (va_A [(a0, .inr (3, [.null, .null, .null, .null, .null, .null, .null, .int 0, .int 0, .int 0]))] sz)) 7 3500 (va_A [(a0, .inr (3, [.null, .null, .null, .null, .null, .null, .null, .int 0, .int 0, .int 0]))] sz) := by
  refine Met.ofW (cc := cX1_init) (maxL := 1) (ret := none) (by decide) rfl ?_
  intro p e s m args below meth c s₁ B hml hv
  obtain ⟨rfl, hsz, hP, hK, hD0, hE⟩ := hv
  have hx := B.exec
  have hb := B.bytes
  have hr := B.returns
  have hts := atoms_spec (ws := wsX1_init) B.pre
  have hown : s.vm.findClass RX1 = some m.cls := findClass_of_methodNamed B.named
  have hlocks := B.notSynchronized
  have hin : meth.name = "<init>" := (name_of_methodNamed B.named B.method).1
  subst hsz
  have hD := hD0.self (sz := s.heap.size)
  generalize hAe : va_A [(a0, .inr (3, [.null, .null, .null, .null, .null, .null, .null, .int 0, .int 0, .int 0]))] s.heap.size = A at hD ⊢
  have hA : ∀ q : Nat, s.heap.size ≤ q → A q := fun q h => by rw [← hAe]; exact Or.inr h
  have hS : va_S A s.heap s.heap [] := va_S.rf
  have hP : va_P D vwCl [(a0, .inr (3, [.null, .null, .null, .null, .null, .null, .null, .int 0, .int 0, .int 0]))] s.heap := hP
  have hl := lv_entry ([.ref a0]) (n := 1) (Nat.le_of_ble_eq_true rfl)
  rw [lg_entry_eq]
  generalize (lg_sl ([.ref a0]) ++ List.replicate (1 - (lg_sl ([.ref a0])).length) Slot.unset).toArray = ls at hl ⊢
  have hl : lv_has ls 1 [(0, .ref a0)] := hl
  refine lv_aload_n hx hb dX1_init_0 rfl (lv_at hl 0 rfl) ?_
  refine W.objInit hx hb hown (hts (.methodLink RX1 3 objectInit) (by decide +kernel)) (hts (.instanceMethod objectInit) (by decide +kernel)) (hts (.code objectInit ⟨#[0xb1]⟩ 1 none) (by decide +kernel)) rfl (by rw [hml]; exact hl.1) rfl dX1_init_1 (Nat.le_of_ble_eq_true rfl) (Nat.le_of_ble_eq_true rfl) ?_
  refine W.eq (g2 := F0 m 4 ls []) rfl ?_
  refine lv_aload_n hx hb dX1_init_4 rfl (lv_at hl 0 rfl) ?_
  refine lv_sipush (v := 800) hx hb dX1_init_5 (by decide) ?_
  refine my_newa (atype := .int) (ty := .int) (N' := 800) (a0 := (800, .inl (fun _ => 0))) 0 hx hb (hts (.arrayClass .int) (by decide +kernel)) rfl rfl hK hP hD hS hA (fun _ => rfl) (by decide +kernel) (by decide +kernel) (by decide +kernel) (by show 0 + 1 ≤ 7; omega) (by show 0 + 800 ≤ 3500; omega) dX1_init_8 (fun q0 H hP hD hS => ?_)
  have hP : va_P D vwCl [(a0, .inr (3, [.null, .null, .null, .null, .null, .null, .null, .int 0, .int 0, .int 0])), (q0, .inl (y 0, 800, .inl (fun _ => 0)))] H := hP
  have hD : va_D A [(a0, .inr (3, [.null, .null, .null, .null, .null, .null, .null, .int 0, .int 0, .int 0])), (q0, .inl (y 0, 800, .inl (fun _ => 0)))] := hD
  refine W.widen (k := 1) (n := 800) (by omega) (by omega) ?_
  refine va_putF (ci := 3) (v := .ref q0) (ty := .array .int) (C := RX1) (T := TX1) (N := 10) hx hb hts inw_X1_init_X1 tyX1 tyX1_ok nmX1 hown hK hP hD hS 0 rfl rfl 0 (by decide) (hts (.fieldLink RX1 9 "DockCall$Ledger" "madeAt" "[I") (by decide +kernel)) (fun _ h9 => h9) rfl hin rfl (by decide +kernel) rfl rfl (Nat.le_of_ble_eq_true rfl) dX1_init_10 (fun H locs hP hD hS => ?_)
  have hP : va_P D vwCl [(a0, .inr (3, [.ref q0, .null, .null, .null, .null, .null, .null, .int 0, .int 0, .int 0])), (q0, .inl (y 0, 800, .inl (fun _ => 0)))] H := hP
  have hD : va_D A [(a0, .inr (3, [.ref q0, .null, .null, .null, .null, .null, .null, .int 0, .int 0, .int 0])), (q0, .inl (y 0, 800, .inl (fun _ => 0)))] := hD
  refine lv_aload_n hx hb dX1_init_13 rfl (lv_at hl 0 rfl) ?_
  refine lv_sipush (v := 800) hx hb dX1_init_14 (by decide) ?_
  refine my_newa (atype := .int) (ty := .int) (N' := 800) (a0 := (800, .inl (fun _ => 0))) 0 hx hb (hts (.arrayClass .int) (by decide +kernel)) rfl rfl hK hP hD hS hA (fun _ => rfl) (by decide +kernel) (by decide +kernel) (by decide +kernel) (by show 1 + 1 ≤ 7; omega) (by show 800 + 800 ≤ 3500; omega) dX1_init_17 (fun q1 H hP hD hS => ?_)
  have hP : va_P D vwCl [(a0, .inr (3, [.ref q0, .null, .null, .null, .null, .null, .null, .int 0, .int 0, .int 0])), (q0, .inl (y 0, 800, .inl (fun _ => 0))), (q1, .inl (y 0, 800, .inl (fun _ => 0)))] H := hP
  have hD : va_D A [(a0, .inr (3, [.ref q0, .null, .null, .null, .null, .null, .null, .int 0, .int 0, .int 0])), (q0, .inl (y 0, 800, .inl (fun _ => 0))), (q1, .inl (y 0, 800, .inl (fun _ => 0)))] := hD
  refine W.widen (k := 2) (n := 1600) (by omega) (by omega) ?_
  refine va_putF (ci := 3) (v := .ref q1) (ty := .array .int) (C := RX1) (T := TX1) (N := 10) hx hb hts inw_X1_init_X1 tyX1 tyX1_ok nmX1 hown hK hP hD hS 0 rfl rfl 1 (by decide) (hts (.fieldLink RX1 15 "DockCall$Ledger" "card" "[I") (by decide +kernel)) (fun _ h9 => h9) rfl hin rfl (by decide +kernel) rfl rfl (Nat.le_of_ble_eq_true rfl) dX1_init_19 (fun H locs hP hD hS => ?_)
  have hP : va_P D vwCl [(a0, .inr (3, [.ref q0, .ref q1, .null, .null, .null, .null, .null, .int 0, .int 0, .int 0])), (q0, .inl (y 0, 800, .inl (fun _ => 0))), (q1, .inl (y 0, 800, .inl (fun _ => 0)))] H := hP
  have hD : va_D A [(a0, .inr (3, [.ref q0, .ref q1, .null, .null, .null, .null, .null, .int 0, .int 0, .int 0])), (q0, .inl (y 0, 800, .inl (fun _ => 0))), (q1, .inl (y 0, 800, .inl (fun _ => 0)))] := hD
  refine lv_aload_n hx hb dX1_init_22 rfl (lv_at hl 0 rfl) ?_
  refine lv_sipush (v := 800) hx hb dX1_init_23 (by decide) ?_
  refine my_newa (atype := .int) (ty := .int) (N' := 800) (a0 := (800, .inl (fun _ => 0))) 0 hx hb (hts (.arrayClass .int) (by decide +kernel)) rfl rfl hK hP hD hS hA (fun _ => rfl) (by decide +kernel) (by decide +kernel) (by decide +kernel) (by show 2 + 1 ≤ 7; omega) (by show 1600 + 800 ≤ 3500; omega) dX1_init_26 (fun q2 H hP hD hS => ?_)
  have hP : va_P D vwCl [(a0, .inr (3, [.ref q0, .ref q1, .null, .null, .null, .null, .null, .int 0, .int 0, .int 0])), (q0, .inl (y 0, 800, .inl (fun _ => 0))), (q1, .inl (y 0, 800, .inl (fun _ => 0))), (q2, .inl (y 0, 800, .inl (fun _ => 0)))] H := hP
  have hD : va_D A [(a0, .inr (3, [.ref q0, .ref q1, .null, .null, .null, .null, .null, .int 0, .int 0, .int 0])), (q0, .inl (y 0, 800, .inl (fun _ => 0))), (q1, .inl (y 0, 800, .inl (fun _ => 0))), (q2, .inl (y 0, 800, .inl (fun _ => 0)))] := hD
  refine W.widen (k := 3) (n := 2400) (by omega) (by omega) ?_
  refine va_putF (ci := 3) (v := .ref q2) (ty := .array .int) (C := RX1) (T := TX1) (N := 10) hx hb hts inw_X1_init_X1 tyX1 tyX1_ok nmX1 hown hK hP hD hS 0 rfl rfl 2 (by decide) (hts (.fieldLink RX1 18 "DockCall$Ledger" "money" "[I") (by decide +kernel)) (fun _ h9 => h9) rfl hin rfl (by decide +kernel) rfl rfl (Nat.le_of_ble_eq_true rfl) dX1_init_28 (fun H locs hP hD hS => ?_)
  have hP : va_P D vwCl [(a0, .inr (3, [.ref q0, .ref q1, .ref q2, .null, .null, .null, .null, .int 0, .int 0, .int 0])), (q0, .inl (y 0, 800, .inl (fun _ => 0))), (q1, .inl (y 0, 800, .inl (fun _ => 0))), (q2, .inl (y 0, 800, .inl (fun _ => 0)))] H := hP
  have hD : va_D A [(a0, .inr (3, [.ref q0, .ref q1, .ref q2, .null, .null, .null, .null, .int 0, .int 0, .int 0])), (q0, .inl (y 0, 800, .inl (fun _ => 0))), (q1, .inl (y 0, 800, .inl (fun _ => 0))), (q2, .inl (y 0, 800, .inl (fun _ => 0)))] := hD
  refine lv_aload_n hx hb dX1_init_31 rfl (lv_at hl 0 rfl) ?_
  refine lv_sipush (v := 800) hx hb dX1_init_32 (by decide) ?_
  refine my_newa (atype := .int) (ty := .int) (N' := 800) (a0 := (800, .inl (fun _ => 0))) 0 hx hb (hts (.arrayClass .int) (by decide +kernel)) rfl rfl hK hP hD hS hA (fun _ => rfl) (by decide +kernel) (by decide +kernel) (by decide +kernel) (by show 3 + 1 ≤ 7; omega) (by show 2400 + 800 ≤ 3500; omega) dX1_init_35 (fun q3 H hP hD hS => ?_)
  have hP : va_P D vwCl [(a0, .inr (3, [.ref q0, .ref q1, .ref q2, .null, .null, .null, .null, .int 0, .int 0, .int 0])), (q0, .inl (y 0, 800, .inl (fun _ => 0))), (q1, .inl (y 0, 800, .inl (fun _ => 0))), (q2, .inl (y 0, 800, .inl (fun _ => 0))), (q3, .inl (y 0, 800, .inl (fun _ => 0)))] H := hP
  have hD : va_D A [(a0, .inr (3, [.ref q0, .ref q1, .ref q2, .null, .null, .null, .null, .int 0, .int 0, .int 0])), (q0, .inl (y 0, 800, .inl (fun _ => 0))), (q1, .inl (y 0, 800, .inl (fun _ => 0))), (q2, .inl (y 0, 800, .inl (fun _ => 0))), (q3, .inl (y 0, 800, .inl (fun _ => 0)))] := hD
  refine W.widen (k := 4) (n := 3200) (by omega) (by omega) ?_
  refine va_putF (ci := 3) (v := .ref q3) (ty := .array .int) (C := RX1) (T := TX1) (N := 10) hx hb hts inw_X1_init_X1 tyX1 tyX1_ok nmX1 hown hK hP hD hS 0 rfl rfl 3 (by decide) (hts (.fieldLink RX1 21 "DockCall$Ledger" "latestRuling" "[I") (by decide +kernel)) (fun _ h9 => h9) rfl hin rfl (by decide +kernel) rfl rfl (Nat.le_of_ble_eq_true rfl) dX1_init_37 (fun H locs hP hD hS => ?_)
  have hP : va_P D vwCl [(a0, .inr (3, [.ref q0, .ref q1, .ref q2, .ref q3, .null, .null, .null, .int 0, .int 0, .int 0])), (q0, .inl (y 0, 800, .inl (fun _ => 0))), (q1, .inl (y 0, 800, .inl (fun _ => 0))), (q2, .inl (y 0, 800, .inl (fun _ => 0))), (q3, .inl (y 0, 800, .inl (fun _ => 0)))] H := hP
  have hD : va_D A [(a0, .inr (3, [.ref q0, .ref q1, .ref q2, .ref q3, .null, .null, .null, .int 0, .int 0, .int 0])), (q0, .inl (y 0, 800, .inl (fun _ => 0))), (q1, .inl (y 0, 800, .inl (fun _ => 0))), (q2, .inl (y 0, 800, .inl (fun _ => 0))), (q3, .inl (y 0, 800, .inl (fun _ => 0)))] := hD
  refine lv_aload_n hx hb dX1_init_40 rfl (lv_at hl 0 rfl) ?_
  refine lv_bipush (v := 100) hx hb dX1_init_41 (by decide) ?_
  refine my_newa (atype := .int) (ty := .int) (N' := 100) (a0 := (100, .inl (fun _ => 0))) 0 hx hb (hts (.arrayClass .int) (by decide +kernel)) rfl rfl hK hP hD hS hA (fun _ => rfl) (by decide +kernel) (by decide +kernel) (by decide +kernel) (by show 4 + 1 ≤ 7; omega) (by show 3200 + 100 ≤ 3500; omega) dX1_init_43 (fun q4 H hP hD hS => ?_)
  have hP : va_P D vwCl [(a0, .inr (3, [.ref q0, .ref q1, .ref q2, .ref q3, .null, .null, .null, .int 0, .int 0, .int 0])), (q0, .inl (y 0, 800, .inl (fun _ => 0))), (q1, .inl (y 0, 800, .inl (fun _ => 0))), (q2, .inl (y 0, 800, .inl (fun _ => 0))), (q3, .inl (y 0, 800, .inl (fun _ => 0))), (q4, .inl (y 0, 100, .inl (fun _ => 0)))] H := hP
  have hD : va_D A [(a0, .inr (3, [.ref q0, .ref q1, .ref q2, .ref q3, .null, .null, .null, .int 0, .int 0, .int 0])), (q0, .inl (y 0, 800, .inl (fun _ => 0))), (q1, .inl (y 0, 800, .inl (fun _ => 0))), (q2, .inl (y 0, 800, .inl (fun _ => 0))), (q3, .inl (y 0, 800, .inl (fun _ => 0))), (q4, .inl (y 0, 100, .inl (fun _ => 0)))] := hD
  refine W.widen (k := 5) (n := 3300) (by omega) (by omega) ?_
  refine va_putF (ci := 3) (v := .ref q4) (ty := .array .int) (C := RX1) (T := TX1) (N := 10) hx hb hts inw_X1_init_X1 tyX1 tyX1_ok nmX1 hown hK hP hD hS 0 rfl rfl 4 (by decide) (hts (.fieldLink RX1 24 "DockCall$Ledger" "rulingFrom" "[I") (by decide +kernel)) (fun _ h9 => h9) rfl hin rfl (by decide +kernel) rfl rfl (Nat.le_of_ble_eq_true rfl) dX1_init_45 (fun H locs hP hD hS => ?_)
  have hP : va_P D vwCl [(a0, .inr (3, [.ref q0, .ref q1, .ref q2, .ref q3, .ref q4, .null, .null, .int 0, .int 0, .int 0])), (q0, .inl (y 0, 800, .inl (fun _ => 0))), (q1, .inl (y 0, 800, .inl (fun _ => 0))), (q2, .inl (y 0, 800, .inl (fun _ => 0))), (q3, .inl (y 0, 800, .inl (fun _ => 0))), (q4, .inl (y 0, 100, .inl (fun _ => 0)))] H := hP
  have hD : va_D A [(a0, .inr (3, [.ref q0, .ref q1, .ref q2, .ref q3, .ref q4, .null, .null, .int 0, .int 0, .int 0])), (q0, .inl (y 0, 800, .inl (fun _ => 0))), (q1, .inl (y 0, 800, .inl (fun _ => 0))), (q2, .inl (y 0, 800, .inl (fun _ => 0))), (q3, .inl (y 0, 800, .inl (fun _ => 0))), (q4, .inl (y 0, 100, .inl (fun _ => 0)))] := hD
  refine lv_aload_n hx hb dX1_init_48 rfl (lv_at hl 0 rfl) ?_
  refine lv_bipush (v := 100) hx hb dX1_init_49 (by decide) ?_
  refine my_newa (atype := .int) (ty := .int) (N' := 100) (a0 := (100, .inl (fun _ => 0))) 0 hx hb (hts (.arrayClass .int) (by decide +kernel)) rfl rfl hK hP hD hS hA (fun _ => rfl) (by decide +kernel) (by decide +kernel) (by decide +kernel) (by show 5 + 1 ≤ 7; omega) (by show 3300 + 100 ≤ 3500; omega) dX1_init_51 (fun q5 H hP hD hS => ?_)
  have hP : va_P D vwCl [(a0, .inr (3, [.ref q0, .ref q1, .ref q2, .ref q3, .ref q4, .null, .null, .int 0, .int 0, .int 0])), (q0, .inl (y 0, 800, .inl (fun _ => 0))), (q1, .inl (y 0, 800, .inl (fun _ => 0))), (q2, .inl (y 0, 800, .inl (fun _ => 0))), (q3, .inl (y 0, 800, .inl (fun _ => 0))), (q4, .inl (y 0, 100, .inl (fun _ => 0))), (q5, .inl (y 0, 100, .inl (fun _ => 0)))] H := hP
  have hD : va_D A [(a0, .inr (3, [.ref q0, .ref q1, .ref q2, .ref q3, .ref q4, .null, .null, .int 0, .int 0, .int 0])), (q0, .inl (y 0, 800, .inl (fun _ => 0))), (q1, .inl (y 0, 800, .inl (fun _ => 0))), (q2, .inl (y 0, 800, .inl (fun _ => 0))), (q3, .inl (y 0, 800, .inl (fun _ => 0))), (q4, .inl (y 0, 100, .inl (fun _ => 0))), (q5, .inl (y 0, 100, .inl (fun _ => 0)))] := hD
  refine W.widen (k := 6) (n := 3400) (by omega) (by omega) ?_
  refine va_putF (ci := 3) (v := .ref q5) (ty := .array .int) (C := RX1) (T := TX1) (N := 10) hx hb hts inw_X1_init_X1 tyX1 tyX1_ok nmX1 hown hK hP hD hS 0 rfl rfl 5 (by decide) (hts (.fieldLink RX1 27 "DockCall$Ledger" "rulingMoney" "[I") (by decide +kernel)) (fun _ h9 => h9) rfl hin rfl (by decide +kernel) rfl rfl (Nat.le_of_ble_eq_true rfl) dX1_init_53 (fun H locs hP hD hS => ?_)
  have hP : va_P D vwCl [(a0, .inr (3, [.ref q0, .ref q1, .ref q2, .ref q3, .ref q4, .ref q5, .null, .int 0, .int 0, .int 0])), (q0, .inl (y 0, 800, .inl (fun _ => 0))), (q1, .inl (y 0, 800, .inl (fun _ => 0))), (q2, .inl (y 0, 800, .inl (fun _ => 0))), (q3, .inl (y 0, 800, .inl (fun _ => 0))), (q4, .inl (y 0, 100, .inl (fun _ => 0))), (q5, .inl (y 0, 100, .inl (fun _ => 0)))] H := hP
  have hD : va_D A [(a0, .inr (3, [.ref q0, .ref q1, .ref q2, .ref q3, .ref q4, .ref q5, .null, .int 0, .int 0, .int 0])), (q0, .inl (y 0, 800, .inl (fun _ => 0))), (q1, .inl (y 0, 800, .inl (fun _ => 0))), (q2, .inl (y 0, 800, .inl (fun _ => 0))), (q3, .inl (y 0, 800, .inl (fun _ => 0))), (q4, .inl (y 0, 100, .inl (fun _ => 0))), (q5, .inl (y 0, 100, .inl (fun _ => 0)))] := hD
  refine lv_aload_n hx hb dX1_init_56 rfl (lv_at hl 0 rfl) ?_
  refine lv_bipush (v := 100) hx hb dX1_init_57 (by decide) ?_
  refine my_newa (atype := .int) (ty := .int) (N' := 100) (a0 := (100, .inl (fun _ => 0))) 0 hx hb (hts (.arrayClass .int) (by decide +kernel)) rfl rfl hK hP hD hS hA (fun _ => rfl) (by decide +kernel) (by decide +kernel) (by decide +kernel) (by show 6 + 1 ≤ 7; omega) (by show 3400 + 100 ≤ 3500; omega) dX1_init_59 (fun q6 H hP hD hS => ?_)
  have hP : va_P D vwCl [(a0, .inr (3, [.ref q0, .ref q1, .ref q2, .ref q3, .ref q4, .ref q5, .null, .int 0, .int 0, .int 0])), (q0, .inl (y 0, 800, .inl (fun _ => 0))), (q1, .inl (y 0, 800, .inl (fun _ => 0))), (q2, .inl (y 0, 800, .inl (fun _ => 0))), (q3, .inl (y 0, 800, .inl (fun _ => 0))), (q4, .inl (y 0, 100, .inl (fun _ => 0))), (q5, .inl (y 0, 100, .inl (fun _ => 0))), (q6, .inl (y 0, 100, .inl (fun _ => 0)))] H := hP
  have hD : va_D A [(a0, .inr (3, [.ref q0, .ref q1, .ref q2, .ref q3, .ref q4, .ref q5, .null, .int 0, .int 0, .int 0])), (q0, .inl (y 0, 800, .inl (fun _ => 0))), (q1, .inl (y 0, 800, .inl (fun _ => 0))), (q2, .inl (y 0, 800, .inl (fun _ => 0))), (q3, .inl (y 0, 800, .inl (fun _ => 0))), (q4, .inl (y 0, 100, .inl (fun _ => 0))), (q5, .inl (y 0, 100, .inl (fun _ => 0))), (q6, .inl (y 0, 100, .inl (fun _ => 0)))] := hD
  refine W.widen (k := 7) (n := 3500) (by omega) (by omega) ?_
  refine va_putF (ci := 3) (v := .ref q6) (ty := .array .int) (C := RX1) (T := TX1) (N := 10) hx hb hts inw_X1_init_X1 tyX1 tyX1_ok nmX1 hown hK hP hD hS 0 rfl rfl 6 (by decide) (hts (.fieldLink RX1 30 "DockCall$Ledger" "rulingBefore" "[I") (by decide +kernel)) (fun _ h9 => h9) rfl hin rfl (by decide +kernel) rfl rfl (Nat.le_of_ble_eq_true rfl) dX1_init_61 (fun H locs hP hD hS => ?_)
  have hP : va_P D vwCl [(a0, .inr (3, [.ref q0, .ref q1, .ref q2, .ref q3, .ref q4, .ref q5, .ref q6, .int 0, .int 0, .int 0])), (q0, .inl (y 0, 800, .inl (fun _ => 0))), (q1, .inl (y 0, 800, .inl (fun _ => 0))), (q2, .inl (y 0, 800, .inl (fun _ => 0))), (q3, .inl (y 0, 800, .inl (fun _ => 0))), (q4, .inl (y 0, 100, .inl (fun _ => 0))), (q5, .inl (y 0, 100, .inl (fun _ => 0))), (q6, .inl (y 0, 100, .inl (fun _ => 0)))] H := hP
  have hD : va_D A [(a0, .inr (3, [.ref q0, .ref q1, .ref q2, .ref q3, .ref q4, .ref q5, .ref q6, .int 0, .int 0, .int 0])), (q0, .inl (y 0, 800, .inl (fun _ => 0))), (q1, .inl (y 0, 800, .inl (fun _ => 0))), (q2, .inl (y 0, 800, .inl (fun _ => 0))), (q3, .inl (y 0, 800, .inl (fun _ => 0))), (q4, .inl (y 0, 100, .inl (fun _ => 0))), (q5, .inl (y 0, 100, .inl (fun _ => 0))), (q6, .inl (y 0, 100, .inl (fun _ => 0)))] := hD
  exact W.vret hx hb hr (fun t ht hW => ⟨⟨(fun k => ([q0, q1, q2, q3, q4, q5, q6] : List Nat).getD k 0), rfl, trivial, mAt.to (hP.sub [0, 1, 2, 3, 4, 5, 6, 7] rfl) hK (hD.sub [0, 1, 2, 3, 4, 5, 6, 7] (by decide) rfl) ht hW⟩, hS.F ht⟩) hS.2.2 dX1_init_64

theorem inw_X5_init_X5 : ∀ w ∈ wsX50, w ∈ wsX5_init := fun _ h => List.mem_cons_of_mem _ (List.mem_append_right _ h)
set_option maxHeartbeats 4000000 in
set_option maxRecDepth 100000 in
theorem k_Round (l : Launch) (D : va_G) (y : Nat → ClassId) (a0 sz : Nat) (b0 : Nat) (b1 : Nat) (b2 : Nat) (b3 : Nat) : Met l yX5_init wsX5_init ({ frames := 1, cells := 1, slots := 8, locals := 12 }) (va_Pc [.ref a0, .ref b0, .ref b1, .ref b2, .ref b3] (mPre D y sz [(a0, .inr (7, [.null, .null, .null, .null, .null, .int 0, .int 0, .int 0, .int 0, .int 0, .int 0]))])) (va_Qv (fun (u : Nat → Nat) => True) (mAt D y (va_A [(a0, .inr (7, [.null, .null, .null, .null, .null, .int 0, .int 0, .int 0, .int 0, .int 0, .int 0]))] sz) (fun u => [(a0, .inr (7, [.ref b0, .ref b1, .ref b2, .ref b3, .ref (u 0), .int 0, .int 0, .int 0, .int 0, .int 0, .int 0])), ((u 0), .inl (y 0, 8, .inl (fun _ => 0)))])) (va_A [(a0, .inr (7, [.null, .null, .null, .null, .null, .int 0, .int 0, .int 0, .int 0, .int 0, .int 0]))] sz)) 1 8 (va_A [(a0, .inr (7, [.null, .null, .null, .null, .null, .int 0, .int 0, .int 0, .int 0, .int 0, .int 0]))] sz) := by
  refine Met.ofW (cc := cX5_init) (maxL := 5) (ret := none) (by decide) rfl ?_
  intro p e s m args below meth c s₁ B hml hv
  obtain ⟨rfl, hsz, hP, hK, hD0, hE⟩ := hv
  have hx := B.exec
  have hb := B.bytes
  have hr := B.returns
  have hts := atoms_spec (ws := wsX5_init) B.pre
  have hown : s.vm.findClass RX5 = some m.cls := findClass_of_methodNamed B.named
  have hlocks := B.notSynchronized
  have hin : meth.name = "<init>" := (name_of_methodNamed B.named B.method).1
  subst hsz
  have hD := hD0.self (sz := s.heap.size)
  generalize hAe : va_A [(a0, .inr (7, [.null, .null, .null, .null, .null, .int 0, .int 0, .int 0, .int 0, .int 0, .int 0]))] s.heap.size = A at hD ⊢
  have hA : ∀ q : Nat, s.heap.size ≤ q → A q := fun q h => by rw [← hAe]; exact Or.inr h
  have hS : va_S A s.heap s.heap [] := va_S.rf
  have hP : va_P D vwCl [(a0, .inr (7, [.null, .null, .null, .null, .null, .int 0, .int 0, .int 0, .int 0, .int 0, .int 0]))] s.heap := hP
  have hl := lv_entry ([.ref a0, .ref b0, .ref b1, .ref b2, .ref b3]) (n := 5) (Nat.le_of_ble_eq_true rfl)
  rw [lg_entry_eq]
  generalize (lg_sl ([.ref a0, .ref b0, .ref b1, .ref b2, .ref b3]) ++ List.replicate (5 - (lg_sl ([.ref a0, .ref b0, .ref b1, .ref b2, .ref b3])).length) Slot.unset).toArray = ls at hl ⊢
  have hl : lv_has ls 5 [(0, .ref a0), (1, .ref b0), (2, .ref b1), (3, .ref b2), (4, .ref b3)] := hl
  refine lv_aload_n hx hb dX5_init_0 rfl (lv_at hl 0 rfl) ?_
  refine W.objInit hx hb hown (hts (.methodLink RX5 3 objectInit) (by decide +kernel)) (hts (.instanceMethod objectInit) (by decide +kernel)) (hts (.code objectInit ⟨#[0xb1]⟩ 1 none) (by decide +kernel)) rfl (by rw [hml]; exact hl.1) rfl dX5_init_1 (Nat.le_of_ble_eq_true rfl) (Nat.le_of_ble_eq_true rfl) ?_
  refine W.eq (g2 := F0 m 4 ls []) rfl ?_
  refine lv_aload_n hx hb dX5_init_4 rfl (lv_at hl 0 rfl) ?_
  refine lv_bipush (v := 8) hx hb dX5_init_5 (by decide) ?_
  refine my_newa (atype := .int) (ty := .int) (N' := 8) (a0 := (8, .inl (fun _ => 0))) 0 hx hb (hts (.arrayClass .int) (by decide +kernel)) rfl rfl hK hP hD hS hA (fun _ => rfl) (by decide +kernel) (by decide +kernel) (by decide +kernel) (by show 0 + 1 ≤ 1; omega) (by show 0 + 8 ≤ 8; omega) dX5_init_7 (fun q0 H hP hD hS => ?_)
  have hP : va_P D vwCl [(a0, .inr (7, [.null, .null, .null, .null, .null, .int 0, .int 0, .int 0, .int 0, .int 0, .int 0])), (q0, .inl (y 0, 8, .inl (fun _ => 0)))] H := hP
  have hD : va_D A [(a0, .inr (7, [.null, .null, .null, .null, .null, .int 0, .int 0, .int 0, .int 0, .int 0, .int 0])), (q0, .inl (y 0, 8, .inl (fun _ => 0)))] := hD
  refine W.widen (k := 1) (n := 8) (by omega) (by omega) ?_
  refine va_putF (ci := 7) (v := .ref q0) (ty := .array .int) (C := RX5) (T := TX5) (N := 11) hx hb hts inw_X5_init_X5 tyX5 tyX5_ok nmX5 hown hK hP hD hS 0 rfl rfl 4 (by decide) (hts (.fieldLink RX5 9 "DockCall$Round" "gang" "[I") (by decide +kernel)) (fun _ h9 => h9) rfl hin rfl (by decide +kernel) rfl rfl (Nat.le_of_ble_eq_true rfl) dX5_init_9 (fun H locs hP hD hS => ?_)
  have hP : va_P D vwCl [(a0, .inr (7, [.null, .null, .null, .null, .ref q0, .int 0, .int 0, .int 0, .int 0, .int 0, .int 0])), (q0, .inl (y 0, 8, .inl (fun _ => 0)))] H := hP
  have hD : va_D A [(a0, .inr (7, [.null, .null, .null, .null, .ref q0, .int 0, .int 0, .int 0, .int 0, .int 0, .int 0])), (q0, .inl (y 0, 8, .inl (fun _ => 0)))] := hD
  refine lv_aload_n hx hb dX5_init_12 rfl (lv_at hl 0 rfl) ?_
  refine lv_aload_n hx hb dX5_init_13 rfl (lv_at hl 1 rfl) ?_
  refine va_putF (ci := 7) (v := .ref b0) (ty := .array .int) (C := RX5) (T := TX5) (N := 11) hx hb hts inw_X5_init_X5 tyX5 tyX5_ok nmX5 hown hK hP hD hS 0 rfl rfl 0 (by decide) (hts (.fieldLink RX5 15 "DockCall$Round" "agreement" "[I") (by decide +kernel)) (fun _ h9 => h9) rfl hin rfl (by decide +kernel) rfl rfl (Nat.le_of_ble_eq_true rfl) dX5_init_14 (fun H locs hP hD hS => ?_)
  have hP : va_P D vwCl [(a0, .inr (7, [.ref b0, .null, .null, .null, .ref q0, .int 0, .int 0, .int 0, .int 0, .int 0, .int 0])), (q0, .inl (y 0, 8, .inl (fun _ => 0)))] H := hP
  have hD : va_D A [(a0, .inr (7, [.ref b0, .null, .null, .null, .ref q0, .int 0, .int 0, .int 0, .int 0, .int 0, .int 0])), (q0, .inl (y 0, 8, .inl (fun _ => 0)))] := hD
  refine lv_aload_n hx hb dX5_init_17 rfl (lv_at hl 0 rfl) ?_
  refine lv_aload_n hx hb dX5_init_18 rfl (lv_at hl 2 rfl) ?_
  refine va_putF (ci := 7) (v := .ref b1) (ty := .object "DockCall$Men") (C := RX5) (T := TX5) (N := 11) hx hb hts inw_X5_init_X5 tyX5 tyX5_ok nmX5 hown hK hP hD hS 0 rfl rfl 1 (by decide) (hts (.fieldLink RX5 18 "DockCall$Round" "men" "LDockCall$Men;") (by decide +kernel)) (fun _ h9 => h9) rfl hin rfl (by decide +kernel) rfl rfl (Nat.le_of_ble_eq_true rfl) dX5_init_19 (fun H locs hP hD hS => ?_)
  have hP : va_P D vwCl [(a0, .inr (7, [.ref b0, .ref b1, .null, .null, .ref q0, .int 0, .int 0, .int 0, .int 0, .int 0, .int 0])), (q0, .inl (y 0, 8, .inl (fun _ => 0)))] H := hP
  have hD : va_D A [(a0, .inr (7, [.ref b0, .ref b1, .null, .null, .ref q0, .int 0, .int 0, .int 0, .int 0, .int 0, .int 0])), (q0, .inl (y 0, 8, .inl (fun _ => 0)))] := hD
  refine lv_aload_n hx hb dX5_init_22 rfl (lv_at hl 0 rfl) ?_
  refine lv_aload_n hx hb dX5_init_23 rfl (lv_at hl 3 rfl) ?_
  refine va_putF (ci := 7) (v := .ref b2) (ty := .object "DockCall$Ships") (C := RX5) (T := TX5) (N := 11) hx hb hts inw_X5_init_X5 tyX5 tyX5_ok nmX5 hown hK hP hD hS 0 rfl rfl 2 (by decide) (hts (.fieldLink RX5 22 "DockCall$Round" "ships" "LDockCall$Ships;") (by decide +kernel)) (fun _ h9 => h9) rfl hin rfl (by decide +kernel) rfl rfl (Nat.le_of_ble_eq_true rfl) dX5_init_24 (fun H locs hP hD hS => ?_)
  have hP : va_P D vwCl [(a0, .inr (7, [.ref b0, .ref b1, .ref b2, .null, .ref q0, .int 0, .int 0, .int 0, .int 0, .int 0, .int 0])), (q0, .inl (y 0, 8, .inl (fun _ => 0)))] H := hP
  have hD : va_D A [(a0, .inr (7, [.ref b0, .ref b1, .ref b2, .null, .ref q0, .int 0, .int 0, .int 0, .int 0, .int 0, .int 0])), (q0, .inl (y 0, 8, .inl (fun _ => 0)))] := hD
  refine lv_aload_n hx hb dX5_init_27 rfl (lv_at hl 0 rfl) ?_
  refine lv_aload hx hb dX5_init_28 (lv_at hl 4 rfl) ?_
  refine va_putF (ci := 7) (v := .ref b3) (ty := .object "DockCall$Ledger") (C := RX5) (T := TX5) (N := 11) hx hb hts inw_X5_init_X5 tyX5 tyX5_ok nmX5 hown hK hP hD hS 0 rfl rfl 3 (by decide) (hts (.fieldLink RX5 26 "DockCall$Round" "ledger" "LDockCall$Ledger;") (by decide +kernel)) (fun _ h9 => h9) rfl hin rfl (by decide +kernel) rfl rfl (Nat.le_of_ble_eq_true rfl) dX5_init_30 (fun H locs hP hD hS => ?_)
  have hP : va_P D vwCl [(a0, .inr (7, [.ref b0, .ref b1, .ref b2, .ref b3, .ref q0, .int 0, .int 0, .int 0, .int 0, .int 0, .int 0])), (q0, .inl (y 0, 8, .inl (fun _ => 0)))] H := hP
  have hD : va_D A [(a0, .inr (7, [.ref b0, .ref b1, .ref b2, .ref b3, .ref q0, .int 0, .int 0, .int 0, .int 0, .int 0, .int 0])), (q0, .inl (y 0, 8, .inl (fun _ => 0)))] := hD
  exact W.vret hx hb hr (fun t ht hW => ⟨⟨(fun k => ([q0] : List Nat).getD k 0), rfl, trivial, mAt.to (hP.sub [0, 1] rfl) hK (hD.sub [0, 1] (by decide) rfl) ht hW⟩, hS.F ht⟩) hS.2.2 dX5_init_33

theorem inw_X3_init_X3 : ∀ w ∈ wsX30, w ∈ wsX3_init := fun _ h => List.mem_cons_of_mem _ (List.mem_append_right _ h)
set_option maxHeartbeats 4000000 in
set_option maxRecDepth 100000 in
theorem k_Planner (l : Launch) (D : va_G) (y : Nat → ClassId) (a0 sz : Nat) : Met l yX3_init wsX3_init ({ frames := 1, cells := 5, slots := 6582, locals := 23 }) (va_Pc [.ref a0] (mPre D y sz [(a0, .inr (5, [.null, .null, .null, .null, .null, .int 0]))])) (va_Qv (fun (u : Nat → Nat) => True) (mAt D y (va_A [(a0, .inr (5, [.null, .null, .null, .null, .null, .int 0]))] sz) (fun u => [(a0, .inr (5, [.ref (u 0), .ref (u 1), .ref (u 2), .ref (u 3), .ref (u 4), .int 0])), ((u 0), .inl (y 0, 4, .inl (fun _ => 0))), ((u 1), .inl (y 0, 4, .inl (fun _ => 0))), ((u 2), .inl (y 0, 4, .inl (fun _ => 0))), ((u 3), .inl (y 0, 6561, .inl (fun _ => 0))), ((u 4), .inl (y 0, 9, .inl (fun k => if k < 9 then (-1) else (fun _ => 0) k)))])) (va_A [(a0, .inr (5, [.null, .null, .null, .null, .null, .int 0]))] sz)) 5 6582 (va_A [(a0, .inr (5, [.null, .null, .null, .null, .null, .int 0]))] sz) := by
  refine Met.ofW (cc := cX3_init) (maxL := 1) (ret := none) (by decide) rfl ?_
  intro p e s m args below meth c s₁ B hml hv
  obtain ⟨rfl, hsz, hP, hK, hD0, hE⟩ := hv
  have hx := B.exec
  have hb := B.bytes
  have hr := B.returns
  have hts := atoms_spec (ws := wsX3_init) B.pre
  have hown : s.vm.findClass RX3 = some m.cls := findClass_of_methodNamed B.named
  have hlocks := B.notSynchronized
  have hin : meth.name = "<init>" := (name_of_methodNamed B.named B.method).1
  subst hsz
  have hD := hD0.self (sz := s.heap.size)
  generalize hAe : va_A [(a0, .inr (5, [.null, .null, .null, .null, .null, .int 0]))] s.heap.size = A at hD ⊢
  have hA : ∀ q : Nat, s.heap.size ≤ q → A q := fun q h => by rw [← hAe]; exact Or.inr h
  have hS : va_S A s.heap s.heap [] := va_S.rf
  have hP : va_P D vwCl [(a0, .inr (5, [.null, .null, .null, .null, .null, .int 0]))] s.heap := hP
  have hl := lv_entry ([.ref a0]) (n := 1) (Nat.le_of_ble_eq_true rfl)
  rw [lg_entry_eq]
  generalize (lg_sl ([.ref a0]) ++ List.replicate (1 - (lg_sl ([.ref a0])).length) Slot.unset).toArray = ls at hl ⊢
  have hl : lv_has ls 1 [(0, .ref a0)] := hl
  refine lv_aload_n hx hb dX3_init_0 rfl (lv_at hl 0 rfl) ?_
  refine W.objInit hx hb hown (hts (.methodLink RX3 7 objectInit) (by decide +kernel)) (hts (.instanceMethod objectInit) (by decide +kernel)) (hts (.code objectInit ⟨#[0xb1]⟩ 1 none) (by decide +kernel)) rfl (by rw [hml]; exact hl.1) rfl dX3_init_1 (Nat.le_of_ble_eq_true rfl) (Nat.le_of_ble_eq_true rfl) ?_
  refine W.eq (g2 := F0 m 4 ls []) rfl ?_
  refine lv_aload_n hx hb dX3_init_4 rfl (lv_at hl 0 rfl) ?_
  refine lv_iconst (v := 4) hx hb dX3_init_5 (by decide) ?_
  refine my_newa (atype := .int) (ty := .int) (N' := 4) (a0 := (4, .inl (fun _ => 0))) 0 hx hb (hts (.arrayClass .int) (by decide +kernel)) rfl rfl hK hP hD hS hA (fun _ => rfl) (by decide +kernel) (by decide +kernel) (by decide +kernel) (by show 0 + 1 ≤ 5; omega) (by show 0 + 4 ≤ 6582; omega) dX3_init_6 (fun q0 H hP hD hS => ?_)
  have hP : va_P D vwCl [(a0, .inr (5, [.null, .null, .null, .null, .null, .int 0])), (q0, .inl (y 0, 4, .inl (fun _ => 0)))] H := hP
  have hD : va_D A [(a0, .inr (5, [.null, .null, .null, .null, .null, .int 0])), (q0, .inl (y 0, 4, .inl (fun _ => 0)))] := hD
  refine W.widen (k := 1) (n := 4) (by omega) (by omega) ?_
  refine va_putF (ci := 5) (v := .ref q0) (ty := .array .int) (C := RX3) (T := TX3) (N := 6) hx hb hts inw_X3_init_X3 tyX3 tyX3_ok nmX3 hown hK hP hD hS 0 rfl rfl 0 (by decide) (hts (.fieldLink RX3 13 "DockCall$Planner" "need" "[I") (by decide +kernel)) (fun _ h9 => h9) rfl hin rfl (by decide +kernel) rfl rfl (Nat.le_of_ble_eq_true rfl) dX3_init_8 (fun H locs hP hD hS => ?_)
  have hP : va_P D vwCl [(a0, .inr (5, [.ref q0, .null, .null, .null, .null, .int 0])), (q0, .inl (y 0, 4, .inl (fun _ => 0)))] H := hP
  have hD : va_D A [(a0, .inr (5, [.ref q0, .null, .null, .null, .null, .int 0])), (q0, .inl (y 0, 4, .inl (fun _ => 0)))] := hD
  refine lv_aload_n hx hb dX3_init_11 rfl (lv_at hl 0 rfl) ?_
  refine lv_iconst (v := 4) hx hb dX3_init_12 (by decide) ?_
  refine my_newa (atype := .int) (ty := .int) (N' := 4) (a0 := (4, .inl (fun _ => 0))) 0 hx hb (hts (.arrayClass .int) (by decide +kernel)) rfl rfl hK hP hD hS hA (fun _ => rfl) (by decide +kernel) (by decide +kernel) (by decide +kernel) (by show 1 + 1 ≤ 5; omega) (by show 4 + 4 ≤ 6582; omega) dX3_init_13 (fun q1 H hP hD hS => ?_)
  have hP : va_P D vwCl [(a0, .inr (5, [.ref q0, .null, .null, .null, .null, .int 0])), (q0, .inl (y 0, 4, .inl (fun _ => 0))), (q1, .inl (y 0, 4, .inl (fun _ => 0)))] H := hP
  have hD : va_D A [(a0, .inr (5, [.ref q0, .null, .null, .null, .null, .int 0])), (q0, .inl (y 0, 4, .inl (fun _ => 0))), (q1, .inl (y 0, 4, .inl (fun _ => 0)))] := hD
  refine W.widen (k := 2) (n := 8) (by omega) (by omega) ?_
  refine va_putF (ci := 5) (v := .ref q1) (ty := .array .int) (C := RX3) (T := TX3) (N := 6) hx hb hts inw_X3_init_X3 tyX3 tyX3_ok nmX3 hown hK hP hD hS 0 rfl rfl 1 (by decide) (hts (.fieldLink RX3 17 "DockCall$Planner" "takes" "[I") (by decide +kernel)) (fun _ h9 => h9) rfl hin rfl (by decide +kernel) rfl rfl (Nat.le_of_ble_eq_true rfl) dX3_init_15 (fun H locs hP hD hS => ?_)
  have hP : va_P D vwCl [(a0, .inr (5, [.ref q0, .ref q1, .null, .null, .null, .int 0])), (q0, .inl (y 0, 4, .inl (fun _ => 0))), (q1, .inl (y 0, 4, .inl (fun _ => 0)))] H := hP
  have hD : va_D A [(a0, .inr (5, [.ref q0, .ref q1, .null, .null, .null, .int 0])), (q0, .inl (y 0, 4, .inl (fun _ => 0))), (q1, .inl (y 0, 4, .inl (fun _ => 0)))] := hD
  refine lv_aload_n hx hb dX3_init_18 rfl (lv_at hl 0 rfl) ?_
  refine lv_iconst (v := 4) hx hb dX3_init_19 (by decide) ?_
  refine my_newa (atype := .int) (ty := .int) (N' := 4) (a0 := (4, .inl (fun _ => 0))) 0 hx hb (hts (.arrayClass .int) (by decide +kernel)) rfl rfl hK hP hD hS hA (fun _ => rfl) (by decide +kernel) (by decide +kernel) (by decide +kernel) (by show 2 + 1 ≤ 5; omega) (by show 8 + 4 ≤ 6582; omega) dX3_init_20 (fun q2 H hP hD hS => ?_)
  have hP : va_P D vwCl [(a0, .inr (5, [.ref q0, .ref q1, .null, .null, .null, .int 0])), (q0, .inl (y 0, 4, .inl (fun _ => 0))), (q1, .inl (y 0, 4, .inl (fun _ => 0))), (q2, .inl (y 0, 4, .inl (fun _ => 0)))] H := hP
  have hD : va_D A [(a0, .inr (5, [.ref q0, .ref q1, .null, .null, .null, .int 0])), (q0, .inl (y 0, 4, .inl (fun _ => 0))), (q1, .inl (y 0, 4, .inl (fun _ => 0))), (q2, .inl (y 0, 4, .inl (fun _ => 0)))] := hD
  refine W.widen (k := 3) (n := 12) (by omega) (by omega) ?_
  refine va_putF (ci := 5) (v := .ref q2) (ty := .array .int) (C := RX3) (T := TX3) (N := 6) hx hb hts inw_X3_init_X3 tyX3 tyX3_ok nmX3 hown hK hP hD hS 0 rfl rfl 2 (by decide) (hts (.fieldLink RX3 20 "DockCall$Planner" "room" "[I") (by decide +kernel)) (fun _ h9 => h9) rfl hin rfl (by decide +kernel) rfl rfl (Nat.le_of_ble_eq_true rfl) dX3_init_22 (fun H locs hP hD hS => ?_)
  have hP : va_P D vwCl [(a0, .inr (5, [.ref q0, .ref q1, .ref q2, .null, .null, .int 0])), (q0, .inl (y 0, 4, .inl (fun _ => 0))), (q1, .inl (y 0, 4, .inl (fun _ => 0))), (q2, .inl (y 0, 4, .inl (fun _ => 0)))] H := hP
  have hD : va_D A [(a0, .inr (5, [.ref q0, .ref q1, .ref q2, .null, .null, .int 0])), (q0, .inl (y 0, 4, .inl (fun _ => 0))), (q1, .inl (y 0, 4, .inl (fun _ => 0))), (q2, .inl (y 0, 4, .inl (fun _ => 0)))] := hD
  refine lv_aload_n hx hb dX3_init_25 rfl (lv_at hl 0 rfl) ?_
  refine lv_sipush (v := 6561) hx hb dX3_init_26 (by decide) ?_
  refine my_newa (atype := .int) (ty := .int) (N' := 6561) (a0 := (6561, .inl (fun _ => 0))) 0 hx hb (hts (.arrayClass .int) (by decide +kernel)) rfl rfl hK hP hD hS hA (fun _ => rfl) (by decide +kernel) (by decide +kernel) (by decide +kernel) (by show 3 + 1 ≤ 5; omega) (by show 12 + 6561 ≤ 6582; omega) dX3_init_29 (fun q3 H hP hD hS => ?_)
  have hP : va_P D vwCl [(a0, .inr (5, [.ref q0, .ref q1, .ref q2, .null, .null, .int 0])), (q0, .inl (y 0, 4, .inl (fun _ => 0))), (q1, .inl (y 0, 4, .inl (fun _ => 0))), (q2, .inl (y 0, 4, .inl (fun _ => 0))), (q3, .inl (y 0, 6561, .inl (fun _ => 0)))] H := hP
  have hD : va_D A [(a0, .inr (5, [.ref q0, .ref q1, .ref q2, .null, .null, .int 0])), (q0, .inl (y 0, 4, .inl (fun _ => 0))), (q1, .inl (y 0, 4, .inl (fun _ => 0))), (q2, .inl (y 0, 4, .inl (fun _ => 0))), (q3, .inl (y 0, 6561, .inl (fun _ => 0)))] := hD
  refine W.widen (k := 4) (n := 6573) (by omega) (by omega) ?_
  refine va_putF (ci := 5) (v := .ref q3) (ty := .array .int) (C := RX3) (T := TX3) (N := 6) hx hb hts inw_X3_init_X3 tyX3 tyX3_ok nmX3 hown hK hP hD hS 0 rfl rfl 3 (by decide) (hts (.fieldLink RX3 23 "DockCall$Planner" "waiting" "[I") (by decide +kernel)) (fun _ h9 => h9) rfl hin rfl (by decide +kernel) rfl rfl (Nat.le_of_ble_eq_true rfl) dX3_init_31 (fun H locs hP hD hS => ?_)
  have hP : va_P D vwCl [(a0, .inr (5, [.ref q0, .ref q1, .ref q2, .ref q3, .null, .int 0])), (q0, .inl (y 0, 4, .inl (fun _ => 0))), (q1, .inl (y 0, 4, .inl (fun _ => 0))), (q2, .inl (y 0, 4, .inl (fun _ => 0))), (q3, .inl (y 0, 6561, .inl (fun _ => 0)))] H := hP
  have hD : va_D A [(a0, .inr (5, [.ref q0, .ref q1, .ref q2, .ref q3, .null, .int 0])), (q0, .inl (y 0, 4, .inl (fun _ => 0))), (q1, .inl (y 0, 4, .inl (fun _ => 0))), (q2, .inl (y 0, 4, .inl (fun _ => 0))), (q3, .inl (y 0, 6561, .inl (fun _ => 0)))] := hD
  refine lv_aload_n hx hb dX3_init_34 rfl (lv_at hl 0 rfl) ?_
  refine lv_bipush (v := 9) hx hb dX3_init_35 (by decide) ?_
  refine my_newa (atype := .int) (ty := .int) (N' := 9) (a0 := (9, .inl (fun _ => 0))) 0 hx hb (hts (.arrayClass .int) (by decide +kernel)) rfl rfl hK hP hD hS hA (fun _ => rfl) (by decide +kernel) (by decide +kernel) (by decide +kernel) (by show 4 + 1 ≤ 5; omega) (by show 6573 + 9 ≤ 6582; omega) dX3_init_37 (fun q4 H hP hD hS => ?_)
  have hP : va_P D vwCl [(a0, .inr (5, [.ref q0, .ref q1, .ref q2, .ref q3, .null, .int 0])), (q0, .inl (y 0, 4, .inl (fun _ => 0))), (q1, .inl (y 0, 4, .inl (fun _ => 0))), (q2, .inl (y 0, 4, .inl (fun _ => 0))), (q3, .inl (y 0, 6561, .inl (fun _ => 0))), (q4, .inl (y 0, 9, .inl (fun _ => 0)))] H := hP
  have hD : va_D A [(a0, .inr (5, [.ref q0, .ref q1, .ref q2, .ref q3, .null, .int 0])), (q0, .inl (y 0, 4, .inl (fun _ => 0))), (q1, .inl (y 0, 4, .inl (fun _ => 0))), (q2, .inl (y 0, 4, .inl (fun _ => 0))), (q3, .inl (y 0, 6561, .inl (fun _ => 0))), (q4, .inl (y 0, 9, .inl (fun _ => 0)))] := hD
  refine W.widen (k := 5) (n := 6582) (by omega) (by omega) ?_
  refine va_putF (ci := 5) (v := .ref q4) (ty := .array .int) (C := RX3) (T := TX3) (N := 6) hx hb hts inw_X3_init_X3 tyX3 tyX3_ok nmX3 hown hK hP hD hS 0 rfl rfl 4 (by decide) (hts (.fieldLink RX3 26 "DockCall$Planner" "answers" "[I") (by decide +kernel)) (fun _ h9 => h9) rfl hin rfl (by decide +kernel) rfl rfl (Nat.le_of_ble_eq_true rfl) dX3_init_39 (fun H locs hP hD hS => ?_)
  have hP : va_P D vwCl [(a0, .inr (5, [.ref q0, .ref q1, .ref q2, .ref q3, .ref q4, .int 0])), (q0, .inl (y 0, 4, .inl (fun _ => 0))), (q1, .inl (y 0, 4, .inl (fun _ => 0))), (q2, .inl (y 0, 4, .inl (fun _ => 0))), (q3, .inl (y 0, 6561, .inl (fun _ => 0))), (q4, .inl (y 0, 9, .inl (fun _ => 0)))] H := hP
  have hD : va_D A [(a0, .inr (5, [.ref q0, .ref q1, .ref q2, .ref q3, .ref q4, .int 0])), (q0, .inl (y 0, 4, .inl (fun _ => 0))), (q1, .inl (y 0, 4, .inl (fun _ => 0))), (q2, .inl (y 0, 4, .inl (fun _ => 0))), (q3, .inl (y 0, 6561, .inl (fun _ => 0))), (q4, .inl (y 0, 9, .inl (fun _ => 0)))] := hD
  refine lv_aload_n hx hb dX3_init_42 rfl (lv_at hl 0 rfl) ?_
  refine va_get (ci := 5) (v := .ref q4) (C := RX3) (T := TX3) (N := 6) hx hb hts inw_X3_init_X3 hown hK hP 0 rfl rfl 4 (by decide) (hts (.fieldLink RX3 26 "DockCall$Planner" "answers" "[I") (by decide +kernel)) (fun _ h9 => h9) rfl dX3_init_43 ?_
  refine lv_iconst (v := (-1)) hx hb dX3_init_46 (by decide) ?_
  refine mx_v (wc := [(q4, .inl (y 0, 9, .inl (fun _ => 0)))]) (wr := [(a0, .inr (5, [.ref q0, .ref q1, .ref q2, .ref q3, .ref q4, .int 0])), (q0, .inl (y 0, 4, .inl (fun _ => 0))), (q1, .inl (y 0, 4, .inl (fun _ => 0))), (q2, .inl (y 0, 4, .inl (fun _ => 0))), (q3, .inl (y 0, 6561, .inl (fun _ => 0)))]) hP hD hS hA [5] [0, 1, 2, 3, 4] [0, 1, 2, 3, 4, 5] rfl rfl (by decide) (by decide) (by decide) (fun (u : Nat → Int32) => [(a0, .inr (5, [.ref q0, .ref q1, .ref q2, .ref q3, .ref q4, .int 0])), (q0, .inl (y 0, 4, .inl (fun _ => 0))), (q1, .inl (y 0, 4, .inl (fun _ => 0))), (q2, .inl (y 0, 4, .inl (fun _ => 0))), (q3, .inl (y 0, 6561, .inl (fun _ => 0))), (q4, .inl (y 0, 9, .inl u))]) (fun _ => rfl) (va_runS (As := [.ref q4, .int (-1)]) (rest := []) ⟨hx, hb, hml, hown, hts⟩ (c_Arrays_fill_53178 l D y q4 9 H.size (fun _ => 0) (-1) (s_fill (Q := fun g => g = (fun k => if k < 9 then (-1) else (fun _ => 0) k)) (by decide) rfl)) (va_cwS 2 hts gX3_init_J7_fill_53178 rfl rfl rfl (by decide +kernel) ⟨Nat.le_of_ble_eq_true rfl, Nat.le_of_ble_eq_true rfl⟩) ⟨mPre.blind, mPre.to (hP.sub [5] rfl) hK (hD.sub [5] (by decide) rfl) hE⟩ rfl rfl hl.1 rfl (lv_room (Nat.le_of_ble_eq_true rfl)) dX3_init_47 ⟨by show 5 + 0 ≤ 5; omega, by show 6582 + 0 ≤ 6582; omega⟩) (fun u H locs hw hP hD hS => ?_)
  have hw : u = (fun k => if k < 9 then (-1) else (fun _ => 0) k) := hw
  subst hw
  have hP : va_P D vwCl [(a0, .inr (5, [.ref q0, .ref q1, .ref q2, .ref q3, .ref q4, .int 0])), (q0, .inl (y 0, 4, .inl (fun _ => 0))), (q1, .inl (y 0, 4, .inl (fun _ => 0))), (q2, .inl (y 0, 4, .inl (fun _ => 0))), (q3, .inl (y 0, 6561, .inl (fun _ => 0))), (q4, .inl (y 0, 9, .inl (fun k => if k < 9 then (-1) else (fun _ => 0) k)))] H := hP
  have hD : va_D A [(a0, .inr (5, [.ref q0, .ref q1, .ref q2, .ref q3, .ref q4, .int 0])), (q0, .inl (y 0, 4, .inl (fun _ => 0))), (q1, .inl (y 0, 4, .inl (fun _ => 0))), (q2, .inl (y 0, 4, .inl (fun _ => 0))), (q3, .inl (y 0, 6561, .inl (fun _ => 0))), (q4, .inl (y 0, 9, .inl (fun k => if k < 9 then (-1) else (fun _ => 0) k)))] := hD
  exact W.vret hx hb hr (fun t ht hW => ⟨⟨(fun k => ([q0, q1, q2, q3, q4] : List Nat).getD k 0), rfl, trivial, mAt.to (hP.sub [0, 1, 2, 3, 4, 5] rfl) hK (hD.sub [0, 1, 2, 3, 4, 5] (by decide) rfl) ht hW⟩, hS.F ht⟩) hS.2.2 dX3_init_50
