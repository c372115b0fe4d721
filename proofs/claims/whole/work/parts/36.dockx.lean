theorem inw_X8_ship_X5 : ∀ w ∈ wsX50, w ∈ wsX8_ship := fun _ h => List.mem_cons_of_mem _ (List.mem_append_left _ (List.mem_append_left _ (List.mem_append_right _ h)))
theorem inw_X8_ship_X6 : ∀ w ∈ wsX60, w ∈ wsX8_ship := fun _ h => List.mem_cons_of_mem _ (List.mem_append_left _ (List.mem_append_left _ (List.mem_append_left _ (List.mem_append_right _ h))))
theorem inw_X8_ship_X8 : ∀ w ∈ wsX80, w ∈ wsX8_ship := fun _ h => List.mem_cons_of_mem _ (List.mem_append_left _ (List.mem_append_left _ (List.mem_append_left _ (List.mem_append_left _ (List.mem_append_right _ h)))))
theorem inx_X8_ship_UO : ∀ w ∈ (xa_UO).filter goodWord, w ∈ wsX8_ship := by
  rw [xa_UO_eq]
  exact fun w h => List.mem_cons_of_mem _ (List.mem_append_left _ (List.mem_append_right _ h))
theorem xh_UO_84 : ∀ w ∈ Cond.classLink RX8 84 "java/lang/UnsupportedOperationException" :: Cond.initialized "java/lang/UnsupportedOperationException" :: xa_UO, vx_ot w = true := by decide +kernel
def wp_Dock_ship (s_size : Int32) (s_came : Nat → Int32) (o_number : Int32) (Q : Int32 → Int32 → (Nat → Int32) → Prop) (X : String → Int32 → (Nat → Int32) → Prop) : Prop := ((s_size < 10 → (wp_Ships_add s_size s_came o_number (fun r_1 s_size_2 s_came_3 => Q r_1 s_size_2 s_came_3))) ∧ (¬ s_size < 10 → X "java/lang/UnsupportedOperationException" s_size s_came))
set_option maxHeartbeats 4000000 in
set_option maxRecDepth 100000 in
theorem c_Dock_ship (l : Launch) (hl0 : l.stackTraces = false) (D : va_G) (y E : Nat → Nat) (ad : Nat → Nat) (sz : Nat) (s_inLine : Int32) (s_size : Int32) (s_came : Nat → Int32) (o_number : Int32) (o_gangsInAll : Int32) (o_tonsMoved : Int32) (o_idle : Int32) (o_worked : Int32) (o_rained : Int32)  {Q : Int32 → Int32 → (Nat → Int32) → Prop} {X : String → Int32 → (Nat → Int32) → Prop} (hw : wp_Dock_ship s_size s_came o_number Q X) : vx_Met l yX8_ship wsX8_ship ({ frames := 6, cells := 1, slots := 6, locals := 120 }) (va_Pc [.ref (ad 0)] (nPre D y E sz [(ce_dk ad), (ce_sh ad s_inLine s_size), ((ad 15), .inl (y 0, 10, .inl s_came)), (ce_ro ad o_number o_gangsInAll o_tonsMoved o_idle o_worked o_rained)])) (va_Qi (fun (r : Int32) (u : Int32 × (Nat → Int32)) => Q r u.1 u.2) (mAt D y (va_A [(ce_dk ad), (ce_sh ad s_inLine s_size), ((ad 15), .inl (y 0, 10, .inl s_came)), (ce_ro ad o_number o_gangsInAll o_tonsMoved o_idle o_worked o_rained)] sz) (fun (u : Int32 × (Nat → Int32)) => [(ce_dk ad), (ce_sh ad s_inLine u.1), ((ad 15), .inl (y 0, 10, .inl u.2)), (ce_ro ad o_number o_gangsInAll o_tonsMoved o_idle o_worked o_rained)])) (va_A [(ce_dk ad), (ce_sh ad s_inLine s_size), ((ad 15), .inl (y 0, 10, .inl s_came)), (ce_ro ad o_number o_gangsInAll o_tonsMoved o_idle o_worked o_rained)] sz)) (vx_X (fun _ => True) (fun (E9 : String) (u9 : Int32 × (Nat → Int32)) (t9 : State) => (fun (E8 : String) (u8 : Int32 × (Nat → Int32)) => X E8 u8.1 u8.2) E9 u9 ∧ mAt D y (va_A [(ce_dk ad), (ce_sh ad s_inLine s_size), ((ad 15), .inl (y 0, 10, .inl s_came)), (ce_ro ad o_number o_gangsInAll o_tonsMoved o_idle o_worked o_rained)] sz) (fun (u : Int32 × (Nat → Int32)) => [(ce_dk ad), (ce_sh ad s_inLine u.1), ((ad 15), .inl (y 0, 10, .inl u.2)), (ce_ro ad o_number o_gangsInAll o_tonsMoved o_idle o_worked o_rained)]) u9 t9) (va_A [(ce_dk ad), (ce_sh ad s_inLine s_size), ((ad 15), .inl (y 0, 10, .inl s_came)), (ce_ro ad o_number o_gangsInAll o_tonsMoved o_idle o_worked o_rained)] sz)) 1 6 (va_A [(ce_dk ad), (ce_sh ad s_inLine s_size), ((ad 15), .inl (y 0, 10, .inl s_came)), (ce_ro ad o_number o_gangsInAll o_tonsMoved o_idle o_worked o_rained)] sz) := by
  unfold wp_Dock_ship at hw
  refine vx_ofW (cc := cX8_ship) (maxL := 1) (ret := some .int) (by decide) rfl ?_
  intro p e s m args below meth c s₁ B hml ht hv
  obtain ⟨rfl, ⟨hsz, hP, hK, hD0, hE⟩, hH⟩ := hv
  have hx := B.exec
  have hb := B.bytes
  have hr := B.returns
  have hts := atoms_spec (ws := wsX8_ship) B.pre
  have hown : s.vm.findClass RX8 = some m.cls := findClass_of_methodNamed B.named
  have hlocks := B.notSynchronized
  subst hsz
  have hD := hD0.self (sz := s.heap.size)
  generalize hAe : va_A [(ce_dk ad), (ce_sh ad s_inLine s_size), ((ad 15), .inl (y 0, 10, .inl s_came)), (ce_ro ad o_number o_gangsInAll o_tonsMoved o_idle o_worked o_rained)] s.heap.size = A at hD hH ⊢
  have hA : ∀ q : Nat, s.heap.size ≤ q → A q := fun q h => by rw [← hAe]; exact Or.inr h
  have hS : va_S A s.heap s.heap [] := va_S.rf
  have hP : va_P D vwCl [(ce_dk ad), (ce_sh ad s_inLine s_size), ((ad 15), .inl (y 0, 10, .inl s_came)), (ce_ro ad o_number o_gangsInAll o_tonsMoved o_idle o_worked o_rained)] s.heap := hP
  have hl := lv_entry ([.ref (ad 0)]) (n := 1) (Nat.le_of_ble_eq_true rfl)
  rw [lg_entry_eq]
  generalize (lg_sl ([.ref (ad 0)]) ++ List.replicate (1 - (lg_sl ([.ref (ad 0)])).length) Slot.unset).toArray = ls at hl ⊢
  have hl : lv_has ls 1 [(0, .ref (ad 0))] := hl
  refine lv_aload_n hx hb dX8_ship_0 rfl (lv_at hl 0 rfl) ?_
  refine va_get (ci := 10) (v := .ref (ad 14)) (C := RX8) (T := TX8) (N := 8) hx hb hts inw_X8_ship_X8 hown hK hP 0 rfl rfl 4 (by decide) (hts (.fieldLink RX8 39 "DockCall" "ships" "LDockCall$Ships;") (by decide +kernel)) (fun _ h9 => h9) rfl dX8_ship_1 ?_
  refine va_getN (ci := 8) (v := .int s_size) (C := RX6) (T := TX6) (N := 10) hx hb hts inw_X8_ship_X6 hown hK hP 1 rfl rfl 9 (by decide) (hE.use nwf_RX8_93) (fun _ h9 => h9) rfl dX8_ship_4 ?_
  refine lv_bipush (v := 10) hx hb dX8_ship_7 (by decide) ?_
  refine lv_icmp_lt (tgt := 22) hx hb dX8_ship_9 (by decide) (fun hc => ?_) (fun hc => ?_)
  · have hw := hw.1 hc
    refine lv_aload_n hx hb dX8_ship_22 rfl (lv_at hl 0 rfl) ?_
    refine va_get (ci := 10) (v := .ref (ad 14)) (C := RX8) (T := TX8) (N := 8) hx hb hts inw_X8_ship_X8 hown hK hP 0 rfl rfl 4 (by decide) (hts (.fieldLink RX8 39 "DockCall" "ships" "LDockCall$Ships;") (by decide +kernel)) (fun _ h9 => h9) rfl dX8_ship_23 ?_
    refine lv_aload_n hx hb dX8_ship_26 rfl (lv_at hl 0 rfl) ?_
    refine va_get (ci := 10) (v := .ref (ad 31)) (C := RX8) (T := TX8) (N := 8) hx hb hts inw_X8_ship_X8 hown hK hP 0 rfl rfl 6 (by decide) (hts (.fieldLink RX8 55 "DockCall" "round" "LDockCall$Round;") (by decide +kernel)) (fun _ h9 => h9) rfl dX8_ship_27 ?_
    refine va_getN (ci := 7) (v := .int o_number) (C := RX5) (T := TX5) (N := 11) hx hb hts inw_X8_ship_X5 hown hK hP 3 rfl rfl 5 (by decide) (hE.use nwf_RX8_96) (fun _ h9 => h9) rfl dX8_ship_30 ?_
    refine mx_i (wc := [(ce_sh ad s_inLine s_size), ((ad 15), .inl (y 0, 10, .inl s_came))]) (wr := [(ce_dk ad), (ce_ro ad o_number o_gangsInAll o_tonsMoved o_idle o_worked o_rained)]) hP hD hS hA [1, 2] [0, 3] [0, 2, 3, 1] rfl rfl (by decide) (by decide) (by decide) (fun (u : Int32 × (Nat → Int32)) => [(ce_dk ad), (ce_sh ad s_inLine u.1), ((ad 15), .inl (y 0, 10, .inl u.2)), (ce_ro ad o_number o_gangsInAll o_tonsMoved o_idle o_worked o_rained)]) (fun _ => rfl) (va_runVN (C := RX6) (As := [.int o_number]) (rest := []) ⟨hx, hb, hml, hown, hts⟩ (c_Ships_add l D y ad s.heap.size s_inLine s_size s_came o_number hw) ⟨va_cnB 1 hts gX8_ship_X6_add_n99 rfl rfl rfl (hE _ nwm_RX8_99) (hts (.initialized RX6) (by decide +kernel)) (by decide +kernel) ⟨Nat.le_of_ble_eq_true rfl, Nat.le_of_ble_eq_true rfl⟩, (hts (.instanceMethod yX6_add) (by decide +kernel)), (hts (.selects RX6 yX6_add yX6_add) (by decide +kernel))⟩ ⟨mPre.blind, (va_recv hK hP (ci := 8) (q0 := 1) rfl rfl), mPre.to (hP.sub [1, 2] rfl) hK (hD.sub [1, 2] (by decide) rfl) hE⟩ rfl rfl hl.1 rfl (lv_room (Nat.le_of_ble_eq_true rfl)) dX8_ship_33 ⟨Nat.le_of_ble_eq_true rfl, Nat.le_of_ble_eq_true rfl⟩) (fun r_1 u H locs hw hP hD hS => ?_)
    obtain ⟨s_size_2, s_came_3⟩ := u
    try dsimp only at hw
    have hP : va_P D vwCl [(ce_dk ad), (ce_sh ad s_inLine s_size_2), ((ad 15), .inl (y 0, 10, .inl s_came_3)), (ce_ro ad o_number o_gangsInAll o_tonsMoved o_idle o_worked o_rained)] H := hP
    have hD : va_D A [(ce_dk ad), (ce_sh ad s_inLine s_size_2), ((ad 15), .inl (y 0, 10, .inl s_came_3)), (ce_ro ad o_number o_gangsInAll o_tonsMoved o_idle o_worked o_rained)] := hD
    refine W.widen (k := 1) (n := 6) (by omega) (by omega) ?_
    exact vx_ret (W.iret (v := r_1) hx hb hr (fun t ht hW => ⟨⟨r_1, (s_size_2, s_came_3), rfl, hw, mAt.to hP hK hD ht hW⟩, hS.F ht⟩) hS.2.2 dX8_ship_36)
  · have hw := hw.2 hc
    exact nx_throwS (own := RX8) (cls := "java/lang/UnsupportedOperationException") (sup := "java/lang/RuntimeException") (names := ["java/lang/Exception"]) (ik := 84) (is := 94) (ic := 88) (i1 := 7) (b1 := Bundle.six) hx hb hl0 (text := "there are 10 ships") hown (by decide +kernel) (by decide +kernel) (by decide +kernel) (by decide +kernel) (by decide +kernel) (by decide +kernel) (by decide +kernel) (hts (.classLink RX8 84 "java/lang/UnsupportedOperationException") (by decide +kernel)) (hts (.initialized "java/lang/UnsupportedOperationException") (by decide +kernel)) (hH.2.1 _ xs_D94) (hH.words xa_UO_xv (fun w hw => hts w (inx_X8_ship_UO w hw))) (xh_UO_84) hH.2.2.2.1 hH.2.2.2.2.1 hS (by rw [hml]; exact hl.1) dX8_ship_12 dX8_ship_15 dX8_ship_16 dX8_ship_18 dX8_ship_21 (fun x hx => (ht x hx).elim) (by show 1 + 4 < 6; omega) (by show 0 + (13 * (1 + 2) + 43) ≤ 120; omega) (by show 0 + 1 ≤ 1; omega) (by show 0 + 6 ≤ 6; omega) hlocks (xAt.to (X := fun (E8 : String) (u8 : Int32 × (Nat → Int32)) => X E8 u8.1 u8.2) (w := fun (u : Int32 × (Nat → Int32)) => [(ce_dk ad), (ce_sh ad s_inLine u.1), ((ad 15), .inl (y 0, 10, .inl u.2)), (ce_ro ad o_number o_gangsInAll o_tonsMoved o_idle o_worked o_rained)]) (u := (s_size, s_came)) hP hK hD hS hw) hS.2.2 (by show 0 + 1 ≤ 1; omega) (by show 0 + 6 ≤ 6; omega)
