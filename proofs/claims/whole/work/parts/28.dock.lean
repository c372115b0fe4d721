theorem inw_X8_feed_X7 : ∀ w ∈ wsX70, w ∈ wsX8_feed := fun _ h => List.mem_cons_of_mem _ (List.mem_append_left _ (List.mem_append_right _ h))
theorem inw_X8_feed_X8 : ∀ w ∈ wsX80, w ∈ wsX8_feed := fun _ h => List.mem_cons_of_mem _ (List.mem_append_left _ (List.mem_append_left _ (List.mem_append_right _ h)))
def wp_Dock_feed (t_length : Int32) (t_bytes : Nat → Int32) (p0 : Int32) (p1 : Int32) (p2 : Int32) (p3 : Int32) (p4 : Int32) (Q : Int32 → Int32 → (Nat → Int32) → Prop) : Prop := ((t_length + 20 ≤ 400 → (wp_Tape_putNumber t_length t_bytes p0 (fun t_length_1 t_bytes_2 => (wp_Tape_putNumber t_length_1 t_bytes_2 p1 (fun t_length_3 t_bytes_4 => (wp_Tape_putNumber t_length_3 t_bytes_4 p2 (fun t_length_5 t_bytes_6 => (wp_Tape_putNumber t_length_5 t_bytes_6 p3 (fun t_length_7 t_bytes_8 => (wp_Tape_putNumber t_length_7 t_bytes_8 p4 (fun t_length_9 t_bytes_10 => Q t_length_9 t_length_9 t_bytes_10))))))))))) ∧ (¬ t_length + 20 ≤ 400 → Q (-1) t_length t_bytes))
set_option maxHeartbeats 4000000 in
set_option maxRecDepth 100000 in
theorem c_Dock_feed (l : Launch) (D : va_G) (y : Nat → ClassId) (ad : Nat → Nat) (sz : Nat) (t_length : Int32) (t_bytes : Nat → Int32) (p0 : Int32) (p1 : Int32) (p2 : Int32) (p3 : Int32) (p4 : Int32) {Q : Int32 → Int32 → (Nat → Int32) → Prop} (hw : wp_Dock_feed t_length t_bytes p0 p1 p2 p3 p4 Q) : Met l yX8_feed wsX8_feed ({ frames := 2, cells := 0, slots := 0, locals := 43 }) (va_Pc [.ref (ad 0), .int p0, .int p1, .int p2, .int p3, .int p4] (mPre D y sz [(ce_dk ad), (ce_tp ad t_length), ((ad 2), .inl (y 1, 400, .inl t_bytes))])) (va_Qi (fun (r : Int32) (u : Int32 × (Nat → Int32)) => Q r u.1 u.2) (mAt D y (va_A [(ce_dk ad), (ce_tp ad t_length), ((ad 2), .inl (y 1, 400, .inl t_bytes))] sz) (fun (u : Int32 × (Nat → Int32)) => [(ce_dk ad), (ce_tp ad u.1), ((ad 2), .inl (y 1, 400, .inl u.2))])) (va_A [(ce_dk ad), (ce_tp ad t_length), ((ad 2), .inl (y 1, 400, .inl t_bytes))] sz)) 0 0 (va_A [(ce_dk ad), (ce_tp ad t_length), ((ad 2), .inl (y 1, 400, .inl t_bytes))] sz) := by
  unfold wp_Dock_feed at hw
  refine Met.ofW (cc := cX8_feed) (maxL := 6) (ret := some .int) (by decide) rfl ?_
  intro p e s m args below meth c s₁ B hml hv
  obtain ⟨rfl, hsz, hP, hK, hD0, hE⟩ := hv
  have hx := B.exec
  have hb := B.bytes
  have hr := B.returns
  have hts := atoms_spec (ws := wsX8_feed) B.pre
  have hown : s.vm.findClass RX8 = some m.cls := findClass_of_methodNamed B.named
  have hlocks := B.notSynchronized
  subst hsz
  have hD := hD0.self (sz := s.heap.size)
  generalize hAe : va_A [(ce_dk ad), (ce_tp ad t_length), ((ad 2), .inl (y 1, 400, .inl t_bytes))] s.heap.size = A at hD ⊢
  have hA : ∀ q : Nat, s.heap.size ≤ q → A q := fun q h => by rw [← hAe]; exact Or.inr h
  have hS : va_S A s.heap s.heap [] := va_S.rf
  have hP : va_P D vwCl [(ce_dk ad), (ce_tp ad t_length), ((ad 2), .inl (y 1, 400, .inl t_bytes))] s.heap := hP
  have hl := lv_entry ([.ref (ad 0), .int p0, .int p1, .int p2, .int p3, .int p4]) (n := 6) (Nat.le_of_ble_eq_true rfl)
  rw [lg_entry_eq]
  generalize (lg_sl ([.ref (ad 0), .int p0, .int p1, .int p2, .int p3, .int p4]) ++ List.replicate (6 - (lg_sl ([.ref (ad 0), .int p0, .int p1, .int p2, .int p3, .int p4])).length) Slot.unset).toArray = ls at hl ⊢
  have hl : lv_has ls 6 [(0, .ref (ad 0)), (1, .int p0), (2, .int p1), (3, .int p2), (4, .int p3), (5, .int p4)] := hl
  refine lv_aload_n hx hb dX8_feed_0 rfl (lv_at hl 0 rfl) ?_
  refine va_get (ci := 10) (v := .ref (ad 1)) (C := RX8) (T := TX8) (N := 8) hx hb hts inw_X8_feed_X8 hown hK hP 0 rfl rfl 0 (by decide) (hts (.fieldLink RX8 10 "DockCall" "tape" "LDockCall$Tape;") (by decide +kernel)) (fun _ h9 => h9) rfl dX8_feed_1 ?_
  refine va_getN (ci := 9) (v := .int t_length) (C := RX7) (T := TX7) (N := 2) hx hb hts inw_X8_feed_X7 hown hK hP 1 rfl rfl 1 (by decide) (hE.use nwf_RX8_66) (fun _ h9 => h9) rfl dX8_feed_4 ?_
  refine lv_bipush (v := 20) hx hb dX8_feed_7 (by decide) ?_
  refine lv_iadd hx hb dX8_feed_9 ?_
  refine lv_sipush (v := 400) hx hb dX8_feed_10 (by decide) ?_
  refine lv_icmp_le (tgt := 18) hx hb dX8_feed_13 (by decide) (fun hc => ?_) (fun hc => ?_)
  · have hw := hw.1 hc
    refine lv_aload_n hx hb dX8_feed_18 rfl (lv_at hl 0 rfl) ?_
    refine va_get (ci := 10) (v := .ref (ad 1)) (C := RX8) (T := TX8) (N := 8) hx hb hts inw_X8_feed_X8 hown hK hP 0 rfl rfl 0 (by decide) (hts (.fieldLink RX8 10 "DockCall" "tape" "LDockCall$Tape;") (by decide +kernel)) (fun _ h9 => h9) rfl dX8_feed_19 ?_
    refine lv_iload_n hx hb dX8_feed_22 rfl (lv_at hl 1 rfl) ?_
    refine mx_v (wc := [(ce_tp ad t_length), ((ad 2), .inl (y 1, 400, .inl t_bytes))]) (wr := [(ce_dk ad)]) hP hD hS hA [1, 2] [0] [0, 1, 2] rfl rfl (by decide) (by decide) (by decide) (fun (u : Int32 × (Nat → Int32)) => [(ce_dk ad), (ce_tp ad u.1), ((ad 2), .inl (y 1, 400, .inl u.2))]) (fun _ => rfl) (va_runVN (C := RX7) (As := [.int p0]) (rest := []) ⟨hx, hb, hml, hown, hts⟩ (c_Tape_putNumber l D y ad s.heap.size t_length t_bytes p0 hw) ⟨va_cnB 1 hts gX8_feed_X7_putNumber_n70 rfl rfl rfl (hE _ nwm_RX8_70) (hts (.initialized RX7) (by decide +kernel)) (by decide +kernel) ⟨Nat.le_of_ble_eq_true rfl, Nat.le_of_ble_eq_true rfl⟩, (hts (.instanceMethod yX7_putNumber) (by decide +kernel)), (hts (.selects RX7 yX7_putNumber yX7_putNumber) (by decide +kernel))⟩ ⟨mPre.blind, (va_recv hK hP (ci := 9) (q0 := 1) rfl rfl), mPre.to (hP.sub [1, 2] rfl) hK (hD.sub [1, 2] (by decide) rfl) hE⟩ rfl rfl hl.1 rfl (lv_room (Nat.le_of_ble_eq_true rfl)) dX8_feed_23 ⟨Nat.le_of_ble_eq_true rfl, Nat.le_of_ble_eq_true rfl⟩) (fun u H locs hw hP hD hS => ?_)
    obtain ⟨t_length_1, t_bytes_2⟩ := u
    try dsimp only at hw
    have hP : va_P D vwCl [(ce_dk ad), (ce_tp ad t_length_1), ((ad 2), .inl (y 1, 400, .inl t_bytes_2))] H := hP
    have hD : va_D A [(ce_dk ad), (ce_tp ad t_length_1), ((ad 2), .inl (y 1, 400, .inl t_bytes_2))] := hD
    refine lv_aload_n hx hb dX8_feed_26 rfl (lv_at hl 0 rfl) ?_
    refine va_get (ci := 10) (v := .ref (ad 1)) (C := RX8) (T := TX8) (N := 8) hx hb hts inw_X8_feed_X8 hown hK hP 0 rfl rfl 0 (by decide) (hts (.fieldLink RX8 10 "DockCall" "tape" "LDockCall$Tape;") (by decide +kernel)) (fun _ h9 => h9) rfl dX8_feed_27 ?_
    refine lv_iload_n hx hb dX8_feed_30 rfl (lv_at hl 2 rfl) ?_
    refine mx_v (wc := [(ce_tp ad t_length_1), ((ad 2), .inl (y 1, 400, .inl t_bytes_2))]) (wr := [(ce_dk ad)]) hP hD hS hA [1, 2] [0] [0, 1, 2] rfl rfl (by decide) (by decide) (by decide) (fun (u : Int32 × (Nat → Int32)) => [(ce_dk ad), (ce_tp ad u.1), ((ad 2), .inl (y 1, 400, .inl u.2))]) (fun _ => rfl) (va_runVN (C := RX7) (As := [.int p1]) (rest := []) ⟨hx, hb, hml, hown, hts⟩ (c_Tape_putNumber l D y ad H.size t_length_1 t_bytes_2 p1 hw) ⟨va_cnB 1 hts gX8_feed_X7_putNumber_n70 rfl rfl rfl (hE _ nwm_RX8_70) (hts (.initialized RX7) (by decide +kernel)) (by decide +kernel) ⟨Nat.le_of_ble_eq_true rfl, Nat.le_of_ble_eq_true rfl⟩, (hts (.instanceMethod yX7_putNumber) (by decide +kernel)), (hts (.selects RX7 yX7_putNumber yX7_putNumber) (by decide +kernel))⟩ ⟨mPre.blind, (va_recv hK hP (ci := 9) (q0 := 1) rfl rfl), mPre.to (hP.sub [1, 2] rfl) hK (hD.sub [1, 2] (by decide) rfl) hE⟩ rfl rfl hl.1 rfl (lv_room (Nat.le_of_ble_eq_true rfl)) dX8_feed_31 ⟨Nat.le_of_ble_eq_true rfl, Nat.le_of_ble_eq_true rfl⟩) (fun u H locs hw hP hD hS => ?_)
    obtain ⟨t_length_3, t_bytes_4⟩ := u
    try dsimp only at hw
    have hP : va_P D vwCl [(ce_dk ad), (ce_tp ad t_length_3), ((ad 2), .inl (y 1, 400, .inl t_bytes_4))] H := hP
    have hD : va_D A [(ce_dk ad), (ce_tp ad t_length_3), ((ad 2), .inl (y 1, 400, .inl t_bytes_4))] := hD
    refine lv_aload_n hx hb dX8_feed_34 rfl (lv_at hl 0 rfl) ?_
    refine va_get (ci := 10) (v := .ref (ad 1)) (C := RX8) (T := TX8) (N := 8) hx hb hts inw_X8_feed_X8 hown hK hP 0 rfl rfl 0 (by decide) (hts (.fieldLink RX8 10 "DockCall" "tape" "LDockCall$Tape;") (by decide +kernel)) (fun _ h9 => h9) rfl dX8_feed_35 ?_
    refine lv_iload_n hx hb dX8_feed_38 rfl (lv_at hl 3 rfl) ?_
    refine mx_v (wc := [(ce_tp ad t_length_3), ((ad 2), .inl (y 1, 400, .inl t_bytes_4))]) (wr := [(ce_dk ad)]) hP hD hS hA [1, 2] [0] [0, 1, 2] rfl rfl (by decide) (by decide) (by decide) (fun (u : Int32 × (Nat → Int32)) => [(ce_dk ad), (ce_tp ad u.1), ((ad 2), .inl (y 1, 400, .inl u.2))]) (fun _ => rfl) (va_runVN (C := RX7) (As := [.int p2]) (rest := []) ⟨hx, hb, hml, hown, hts⟩ (c_Tape_putNumber l D y ad H.size t_length_3 t_bytes_4 p2 hw) ⟨va_cnB 1 hts gX8_feed_X7_putNumber_n70 rfl rfl rfl (hE _ nwm_RX8_70) (hts (.initialized RX7) (by decide +kernel)) (by decide +kernel) ⟨Nat.le_of_ble_eq_true rfl, Nat.le_of_ble_eq_true rfl⟩, (hts (.instanceMethod yX7_putNumber) (by decide +kernel)), (hts (.selects RX7 yX7_putNumber yX7_putNumber) (by decide +kernel))⟩ ⟨mPre.blind, (va_recv hK hP (ci := 9) (q0 := 1) rfl rfl), mPre.to (hP.sub [1, 2] rfl) hK (hD.sub [1, 2] (by decide) rfl) hE⟩ rfl rfl hl.1 rfl (lv_room (Nat.le_of_ble_eq_true rfl)) dX8_feed_39 ⟨Nat.le_of_ble_eq_true rfl, Nat.le_of_ble_eq_true rfl⟩) (fun u H locs hw hP hD hS => ?_)
    obtain ⟨t_length_5, t_bytes_6⟩ := u
    try dsimp only at hw
    have hP : va_P D vwCl [(ce_dk ad), (ce_tp ad t_length_5), ((ad 2), .inl (y 1, 400, .inl t_bytes_6))] H := hP
    have hD : va_D A [(ce_dk ad), (ce_tp ad t_length_5), ((ad 2), .inl (y 1, 400, .inl t_bytes_6))] := hD
    refine lv_aload_n hx hb dX8_feed_42 rfl (lv_at hl 0 rfl) ?_
    refine va_get (ci := 10) (v := .ref (ad 1)) (C := RX8) (T := TX8) (N := 8) hx hb hts inw_X8_feed_X8 hown hK hP 0 rfl rfl 0 (by decide) (hts (.fieldLink RX8 10 "DockCall" "tape" "LDockCall$Tape;") (by decide +kernel)) (fun _ h9 => h9) rfl dX8_feed_43 ?_
    refine lv_iload hx hb dX8_feed_46 (lv_at hl 4 rfl) ?_
    refine mx_v (wc := [(ce_tp ad t_length_5), ((ad 2), .inl (y 1, 400, .inl t_bytes_6))]) (wr := [(ce_dk ad)]) hP hD hS hA [1, 2] [0] [0, 1, 2] rfl rfl (by decide) (by decide) (by decide) (fun (u : Int32 × (Nat → Int32)) => [(ce_dk ad), (ce_tp ad u.1), ((ad 2), .inl (y 1, 400, .inl u.2))]) (fun _ => rfl) (va_runVN (C := RX7) (As := [.int p3]) (rest := []) ⟨hx, hb, hml, hown, hts⟩ (c_Tape_putNumber l D y ad H.size t_length_5 t_bytes_6 p3 hw) ⟨va_cnB 1 hts gX8_feed_X7_putNumber_n70 rfl rfl rfl (hE _ nwm_RX8_70) (hts (.initialized RX7) (by decide +kernel)) (by decide +kernel) ⟨Nat.le_of_ble_eq_true rfl, Nat.le_of_ble_eq_true rfl⟩, (hts (.instanceMethod yX7_putNumber) (by decide +kernel)), (hts (.selects RX7 yX7_putNumber yX7_putNumber) (by decide +kernel))⟩ ⟨mPre.blind, (va_recv hK hP (ci := 9) (q0 := 1) rfl rfl), mPre.to (hP.sub [1, 2] rfl) hK (hD.sub [1, 2] (by decide) rfl) hE⟩ rfl rfl hl.1 rfl (lv_room (Nat.le_of_ble_eq_true rfl)) dX8_feed_48 ⟨Nat.le_of_ble_eq_true rfl, Nat.le_of_ble_eq_true rfl⟩) (fun u H locs hw hP hD hS => ?_)
    obtain ⟨t_length_7, t_bytes_8⟩ := u
    try dsimp only at hw
    have hP : va_P D vwCl [(ce_dk ad), (ce_tp ad t_length_7), ((ad 2), .inl (y 1, 400, .inl t_bytes_8))] H := hP
    have hD : va_D A [(ce_dk ad), (ce_tp ad t_length_7), ((ad 2), .inl (y 1, 400, .inl t_bytes_8))] := hD
    refine lv_aload_n hx hb dX8_feed_51 rfl (lv_at hl 0 rfl) ?_
    refine va_get (ci := 10) (v := .ref (ad 1)) (C := RX8) (T := TX8) (N := 8) hx hb hts inw_X8_feed_X8 hown hK hP 0 rfl rfl 0 (by decide) (hts (.fieldLink RX8 10 "DockCall" "tape" "LDockCall$Tape;") (by decide +kernel)) (fun _ h9 => h9) rfl dX8_feed_52 ?_
    refine lv_iload hx hb dX8_feed_55 (lv_at hl 5 rfl) ?_
    refine mx_v (wc := [(ce_tp ad t_length_7), ((ad 2), .inl (y 1, 400, .inl t_bytes_8))]) (wr := [(ce_dk ad)]) hP hD hS hA [1, 2] [0] [0, 1, 2] rfl rfl (by decide) (by decide) (by decide) (fun (u : Int32 × (Nat → Int32)) => [(ce_dk ad), (ce_tp ad u.1), ((ad 2), .inl (y 1, 400, .inl u.2))]) (fun _ => rfl) (va_runVN (C := RX7) (As := [.int p4]) (rest := []) ⟨hx, hb, hml, hown, hts⟩ (c_Tape_putNumber l D y ad H.size t_length_7 t_bytes_8 p4 hw) ⟨va_cnB 1 hts gX8_feed_X7_putNumber_n70 rfl rfl rfl (hE _ nwm_RX8_70) (hts (.initialized RX7) (by decide +kernel)) (by decide +kernel) ⟨Nat.le_of_ble_eq_true rfl, Nat.le_of_ble_eq_true rfl⟩, (hts (.instanceMethod yX7_putNumber) (by decide +kernel)), (hts (.selects RX7 yX7_putNumber yX7_putNumber) (by decide +kernel))⟩ ⟨mPre.blind, (va_recv hK hP (ci := 9) (q0 := 1) rfl rfl), mPre.to (hP.sub [1, 2] rfl) hK (hD.sub [1, 2] (by decide) rfl) hE⟩ rfl rfl hl.1 rfl (lv_room (Nat.le_of_ble_eq_true rfl)) dX8_feed_57 ⟨Nat.le_of_ble_eq_true rfl, Nat.le_of_ble_eq_true rfl⟩) (fun u H locs hw hP hD hS => ?_)
    obtain ⟨t_length_9, t_bytes_10⟩ := u
    try dsimp only at hw
    have hP : va_P D vwCl [(ce_dk ad), (ce_tp ad t_length_9), ((ad 2), .inl (y 1, 400, .inl t_bytes_10))] H := hP
    have hD : va_D A [(ce_dk ad), (ce_tp ad t_length_9), ((ad 2), .inl (y 1, 400, .inl t_bytes_10))] := hD
    refine lv_aload_n hx hb dX8_feed_60 rfl (lv_at hl 0 rfl) ?_
    refine va_get (ci := 10) (v := .ref (ad 1)) (C := RX8) (T := TX8) (N := 8) hx hb hts inw_X8_feed_X8 hown hK hP 0 rfl rfl 0 (by decide) (hts (.fieldLink RX8 10 "DockCall" "tape" "LDockCall$Tape;") (by decide +kernel)) (fun _ h9 => h9) rfl dX8_feed_61 ?_
    refine va_getN (ci := 9) (v := .int t_length_9) (C := RX7) (T := TX7) (N := 2) hx hb hts inw_X8_feed_X7 hown hK hP 1 rfl rfl 1 (by decide) (hE.use nwf_RX8_66) (fun _ h9 => h9) rfl dX8_feed_64 ?_
    exact W.iret (v := t_length_9) hx hb hr (fun t ht hW => ⟨⟨t_length_9, (t_length_9, t_bytes_10), rfl, hw, mAt.to hP hK hD ht hW⟩, hS.F ht⟩) hS.2.2 dX8_feed_67
  · have hw := hw.2 hc
    refine lv_iconst (v := (-1)) hx hb dX8_feed_16 (by decide) ?_
    exact W.iret (v := (-1)) hx hb hr (fun t ht hW => ⟨⟨(-1), (t_length, t_bytes), rfl, hw, mAt.to hP hK hD ht hW⟩, hS.F ht⟩) hS.2.2 dX8_feed_17
theorem inw_X8_end_X7 : ∀ w ∈ wsX70, w ∈ wsX8_end := fun _ h => List.mem_cons_of_mem _ (List.mem_append_right _ h)
theorem inw_X8_end_X8 : ∀ w ∈ wsX80, w ∈ wsX8_end := fun _ h => List.mem_cons_of_mem _ (List.mem_append_left _ (List.mem_append_right _ h))
def wp_Dock_end (t_length : Int32) (p0 : Int32) (Q : Int32 → Int32 → Prop) : Prop := ((p0 < 0 → Q 0 t_length) ∧ (¬ p0 < 0 → ((p0 ≤ t_length → Q 1 p0) ∧ (¬ p0 ≤ t_length → Q 0 t_length))))
set_option maxHeartbeats 4000000 in
set_option maxRecDepth 100000 in
theorem c_Dock_end (l : Launch) (D : va_G) (y : Nat → ClassId) (ad : Nat → Nat) (sz : Nat) (t_length : Int32) (p0 : Int32) {Q : Int32 → Int32 → Prop} (hw : wp_Dock_end t_length p0 Q) : Met l yX8_end wsX8_end ({ frames := 0, cells := 0, slots := 0, locals := 0 }) (va_Pc [.ref (ad 0), .int p0] (mPre D y sz [(ce_dk ad), (ce_tp ad t_length)])) (va_Qi (fun (r : Int32) (u : Int32) => Q r u) (mAt D y (va_A [(ce_dk ad), (ce_tp ad t_length)] sz) (fun (u : Int32) => [(ce_dk ad), (ce_tp ad u)])) (va_A [(ce_dk ad), (ce_tp ad t_length)] sz)) 0 0 (va_A [(ce_dk ad), (ce_tp ad t_length)] sz) := by
  unfold wp_Dock_end at hw
  refine Met.ofW (cc := cX8_end) (maxL := 2) (ret := some .boolean) (by decide) rfl ?_
  intro p e s m args below meth c s₁ B hml hv
  obtain ⟨rfl, hsz, hP, hK, hD0, hE⟩ := hv
  have hx := B.exec
  have hb := B.bytes
  have hr := B.returns
  have hts := atoms_spec (ws := wsX8_end) B.pre
  have hown : s.vm.findClass RX8 = some m.cls := findClass_of_methodNamed B.named
  have hlocks := B.notSynchronized
  subst hsz
  have hD := hD0.self (sz := s.heap.size)
  generalize hAe : va_A [(ce_dk ad), (ce_tp ad t_length)] s.heap.size = A at hD ⊢
  have hA : ∀ q : Nat, s.heap.size ≤ q → A q := fun q h => by rw [← hAe]; exact Or.inr h
  have hS : va_S A s.heap s.heap [] := va_S.rf
  have hP : va_P D vwCl [(ce_dk ad), (ce_tp ad t_length)] s.heap := hP
  have hl := lv_entry ([.ref (ad 0), .int p0]) (n := 2) (Nat.le_of_ble_eq_true rfl)
  rw [lg_entry_eq]
  generalize (lg_sl ([.ref (ad 0), .int p0]) ++ List.replicate (2 - (lg_sl ([.ref (ad 0), .int p0])).length) Slot.unset).toArray = ls at hl ⊢
  have hl : lv_has ls 2 [(0, .ref (ad 0)), (1, .int p0)] := hl
  refine lv_iload_n hx hb dX8_end_0 rfl (lv_at hl 1 rfl) ?_
  refine lv_if_lt (tgt := 15) hx hb dX8_end_1 (by decide) (fun hc => ?_) (fun hc => ?_)
  · have hw := hw.1 hc
    refine lv_iconst (v := 0) hx hb dX8_end_15 (by decide) ?_
    exact W.zret (v := 0) hx hb hr (by decide) (fun t ht hW => ⟨⟨0, (t_length), rfl, hw, mAt.to hP hK hD ht hW⟩, hS.F ht⟩) hS.2.2 dX8_end_16
  · have hw := hw.2 hc
    refine lv_iload_n hx hb dX8_end_4 rfl (lv_at hl 1 rfl) ?_
    refine lv_aload_n hx hb dX8_end_5 rfl (lv_at hl 0 rfl) ?_
    refine va_get (ci := 10) (v := .ref (ad 1)) (C := RX8) (T := TX8) (N := 8) hx hb hts inw_X8_end_X8 hown hK hP 0 rfl rfl 0 (by decide) (hts (.fieldLink RX8 10 "DockCall" "tape" "LDockCall$Tape;") (by decide +kernel)) (fun _ h9 => h9) rfl dX8_end_6 ?_
    refine va_getN (ci := 9) (v := .int t_length) (C := RX7) (T := TX7) (N := 2) hx hb hts inw_X8_end_X7 hown hK hP 1 rfl rfl 1 (by decide) (hE.use nwf_RX8_66) (fun _ h9 => h9) rfl dX8_end_9 ?_
    refine lv_icmp_le (tgt := 17) hx hb dX8_end_12 (by decide) (fun hc => ?_) (fun hc => ?_)
    · have hw := hw.1 hc
      refine lv_aload_n hx hb dX8_end_17 rfl (lv_at hl 0 rfl) ?_
      refine va_get (ci := 10) (v := .ref (ad 1)) (C := RX8) (T := TX8) (N := 8) hx hb hts inw_X8_end_X8 hown hK hP 0 rfl rfl 0 (by decide) (hts (.fieldLink RX8 10 "DockCall" "tape" "LDockCall$Tape;") (by decide +kernel)) (fun _ h9 => h9) rfl dX8_end_18 ?_
      refine lv_iload_n hx hb dX8_end_21 rfl (lv_at hl 1 rfl) ?_
      refine va_putN (ci := 9) (v := .int p0) (ty := .int) (C := RX7) (T := TX7) (N := 2) hx hb hts inw_X8_end_X7 tyX7 tyX7_ok nmX7 hown hK hP hD hS 1 rfl rfl 1 (by decide) (hE.use nwf_RX8_66) (fun _ h9 => h9) rfl (by decide +kernel) rfl rfl (Nat.le_of_ble_eq_true rfl) dX8_end_22 (fun H locs hP hD hS => ?_)
      have hP : va_P D vwCl [(ce_dk ad), (ce_tp ad p0)] H := hP
      have hD : va_D A [(ce_dk ad), (ce_tp ad p0)] := hD
      refine lv_iconst (v := 1) hx hb dX8_end_25 (by decide) ?_
      exact W.zret (v := 1) hx hb hr (by decide) (fun t ht hW => ⟨⟨1, (p0), rfl, hw, mAt.to hP hK hD ht hW⟩, hS.F ht⟩) hS.2.2 dX8_end_26
    · have hw := hw.2 hc
      refine lv_iconst (v := 0) hx hb dX8_end_15 (by decide) ?_
      exact W.zret (v := 0) hx hb hr (by decide) (fun t ht hW => ⟨⟨0, (t_length), rfl, hw, mAt.to hP hK hD ht hW⟩, hS.F ht⟩) hS.2.2 dX8_end_16
theorem inw_X8_fault_X4 : ∀ w ∈ wsX40, w ∈ wsX8_fault := fun _ h => List.mem_cons_of_mem _ (List.mem_append_right _ h)
theorem inw_X8_fault_X8 : ∀ w ∈ wsX80, w ∈ wsX8_fault := fun _ h => List.mem_cons_of_mem _ (List.mem_append_left _ (List.mem_append_right _ h))
def wp_Dock_fault (e_wrongAt : Int32) (Q : Int32 → Prop) : Prop := Q e_wrongAt
set_option maxHeartbeats 4000000 in
set_option maxRecDepth 100000 in
theorem c_Dock_fault (l : Launch) (D : va_G) (y : Nat → ClassId) (ad : Nat → Nat) (sz : Nat) (e_at : Int32) (e_wrongAt : Int32)  {Q : Int32 → Prop} (hw : wp_Dock_fault e_wrongAt Q) : Met l yX8_fault wsX8_fault ({ frames := 0, cells := 0, slots := 0, locals := 0 }) (va_Pc [.ref (ad 0)] (mPre D y sz [(ce_dk ad), (ce_rd ad e_at e_wrongAt)])) (va_Qi (fun (r : Int32) (u : Unit) => Q r ) (mAt D y (va_A [(ce_dk ad), (ce_rd ad e_at e_wrongAt)] sz) (fun (u : Unit) => [(ce_dk ad), (ce_rd ad e_at e_wrongAt)])) (va_A [(ce_dk ad), (ce_rd ad e_at e_wrongAt)] sz)) 0 0 (va_A [(ce_dk ad), (ce_rd ad e_at e_wrongAt)] sz) := by
  unfold wp_Dock_fault at hw
  refine Met.ofW (cc := cX8_fault) (maxL := 1) (ret := some .int) (by decide) rfl ?_
  intro p e s m args below meth c s₁ B hml hv
  obtain ⟨rfl, hsz, hP, hK, hD0, hE⟩ := hv
  have hx := B.exec
  have hb := B.bytes
  have hr := B.returns
  have hts := atoms_spec (ws := wsX8_fault) B.pre
  have hown : s.vm.findClass RX8 = some m.cls := findClass_of_methodNamed B.named
  have hlocks := B.notSynchronized
  subst hsz
  have hD := hD0.self (sz := s.heap.size)
  generalize hAe : va_A [(ce_dk ad), (ce_rd ad e_at e_wrongAt)] s.heap.size = A at hD ⊢
  have hA : ∀ q : Nat, s.heap.size ≤ q → A q := fun q h => by rw [← hAe]; exact Or.inr h
  have hS : va_S A s.heap s.heap [] := va_S.rf
  have hP : va_P D vwCl [(ce_dk ad), (ce_rd ad e_at e_wrongAt)] s.heap := hP
  have hl := lv_entry ([.ref (ad 0)]) (n := 1) (Nat.le_of_ble_eq_true rfl)
  rw [lg_entry_eq]
  generalize (lg_sl ([.ref (ad 0)]) ++ List.replicate (1 - (lg_sl ([.ref (ad 0)])).length) Slot.unset).toArray = ls at hl ⊢
  have hl : lv_has ls 1 [(0, .ref (ad 0))] := hl
  refine lv_aload_n hx hb dX8_fault_0 rfl (lv_at hl 0 rfl) ?_
  refine va_get (ci := 10) (v := .ref (ad 4)) (C := RX8) (T := TX8) (N := 8) hx hb hts inw_X8_fault_X8 hown hK hP 0 rfl rfl 2 (by decide) (hts (.fieldLink RX8 25 "DockCall" "reader" "LDockCall$Reader;") (by decide +kernel)) (fun _ h9 => h9) rfl dX8_fault_1 ?_
  refine va_getN (ci := 6) (v := .int e_wrongAt) (C := RX4) (T := TX4) (N := 4) hx hb hts inw_X8_fault_X4 hown hK hP 1 rfl rfl 3 (by decide) (hE.use nwf_RX8_135) (fun _ h9 => h9) rfl dX8_fault_4 ?_
  exact W.iret (v := e_wrongAt) hx hb hr (fun t ht hW => ⟨⟨e_wrongAt, (), rfl, hw, mAt.to hP hK hD ht hW⟩, hS.F ht⟩) hS.2.2 dX8_fault_7
theorem inw_X8_unwant_X8 : ∀ w ∈ wsX80, w ∈ wsX8_unwant := fun _ h => List.mem_cons_of_mem _ (List.mem_append_left _ (List.mem_append_right _ h))
def wp_Dock_unwant (p_size : Int32) (p_need : Nat → Int32) (p_answers : Nat → Int32) (Q : Int32 → Int32 → (Nat → Int32) → (Nat → Int32) → Prop) : Prop := (wp_Planner_clear p_size p_need p_answers (fun r_1 p_size_2 p_need_3 p_answers_4 => Q r_1 p_size_2 p_need_3 p_answers_4))
set_option maxHeartbeats 4000000 in
set_option maxRecDepth 100000 in
theorem c_Dock_unwant (l : Launch) (D : va_G) (y : Nat → ClassId) (ad : Nat → Nat) (sz : Nat) (p_size : Int32) (p_need : Nat → Int32) (p_answers : Nat → Int32)  {Q : Int32 → Int32 → (Nat → Int32) → (Nat → Int32) → Prop} (hw : wp_Dock_unwant p_size p_need p_answers Q) : Met l yX8_unwant wsX8_unwant ({ frames := 2, cells := 0, slots := 0, locals := 44 }) (va_Pc [.ref (ad 0)] (mPre D y sz [(ce_dk ad), (ce_pl ad p_size), ((ad 34), .inl (y 0, 4, .inl p_need)), ((ad 38), .inl (y 0, 9, .inl p_answers))])) (va_Qi (fun (r : Int32) (u : Int32 × (Nat → Int32) × (Nat → Int32)) => Q r u.1 u.2.1 u.2.2) (mAt D y (va_A [(ce_dk ad), (ce_pl ad p_size), ((ad 34), .inl (y 0, 4, .inl p_need)), ((ad 38), .inl (y 0, 9, .inl p_answers))] sz) (fun (u : Int32 × (Nat → Int32) × (Nat → Int32)) => [(ce_dk ad), (ce_pl ad u.1), ((ad 34), .inl (y 0, 4, .inl u.2.1)), ((ad 38), .inl (y 0, 9, .inl u.2.2))])) (va_A [(ce_dk ad), (ce_pl ad p_size), ((ad 34), .inl (y 0, 4, .inl p_need)), ((ad 38), .inl (y 0, 9, .inl p_answers))] sz)) 0 0 (va_A [(ce_dk ad), (ce_pl ad p_size), ((ad 34), .inl (y 0, 4, .inl p_need)), ((ad 38), .inl (y 0, 9, .inl p_answers))] sz) := by
  unfold wp_Dock_unwant at hw
  refine Met.ofW (cc := cX8_unwant) (maxL := 1) (ret := some .int) (by decide) rfl ?_
  intro p e s m args below meth c s₁ B hml hv
  obtain ⟨rfl, hsz, hP, hK, hD0, hE⟩ := hv
  have hx := B.exec
  have hb := B.bytes
  have hr := B.returns
  have hts := atoms_spec (ws := wsX8_unwant) B.pre
  have hown : s.vm.findClass RX8 = some m.cls := findClass_of_methodNamed B.named
  have hlocks := B.notSynchronized
  subst hsz
  have hD := hD0.self (sz := s.heap.size)
  generalize hAe : va_A [(ce_dk ad), (ce_pl ad p_size), ((ad 34), .inl (y 0, 4, .inl p_need)), ((ad 38), .inl (y 0, 9, .inl p_answers))] s.heap.size = A at hD ⊢
  have hA : ∀ q : Nat, s.heap.size ≤ q → A q := fun q h => by rw [← hAe]; exact Or.inr h
  have hS : va_S A s.heap s.heap [] := va_S.rf
  have hP : va_P D vwCl [(ce_dk ad), (ce_pl ad p_size), ((ad 34), .inl (y 0, 4, .inl p_need)), ((ad 38), .inl (y 0, 9, .inl p_answers))] s.heap := hP
  have hl := lv_entry ([.ref (ad 0)]) (n := 1) (Nat.le_of_ble_eq_true rfl)
  rw [lg_entry_eq]
  generalize (lg_sl ([.ref (ad 0)]) ++ List.replicate (1 - (lg_sl ([.ref (ad 0)])).length) Slot.unset).toArray = ls at hl ⊢
  have hl : lv_has ls 1 [(0, .ref (ad 0))] := hl
  refine lv_aload_n hx hb dX8_unwant_0 rfl (lv_at hl 0 rfl) ?_
  refine va_get (ci := 10) (v := .ref (ad 33)) (C := RX8) (T := TX8) (N := 8) hx hb hts inw_X8_unwant_X8 hown hK hP 0 rfl rfl 7 (by decide) (hts (.fieldLink RX8 62 "DockCall" "planner" "LDockCall$Planner;") (by decide +kernel)) (fun _ h9 => h9) rfl dX8_unwant_1 ?_
  refine mx_i (wc := [(ce_pl ad p_size), ((ad 34), .inl (y 0, 4, .inl p_need)), ((ad 38), .inl (y 0, 9, .inl p_answers))]) (wr := [(ce_dk ad)]) hP hD hS hA [1, 2, 3] [0] [0, 1, 2, 3] rfl rfl (by decide) (by decide) (by decide) (fun (u : Int32 × (Nat → Int32) × (Nat → Int32)) => [(ce_dk ad), (ce_pl ad u.1), ((ad 34), .inl (y 0, 4, .inl u.2.1)), ((ad 38), .inl (y 0, 9, .inl u.2.2))]) (fun _ => rfl) (va_runVN (C := RX3) (As := []) (rest := []) ⟨hx, hb, hml, hown, hts⟩ (c_Planner_clear l D y ad s.heap.size p_size p_need p_answers hw) ⟨va_cnB 0 hts gX8_unwant_X3_clear_n224 rfl rfl rfl (hE _ nwm_RX8_224) (hts (.initialized RX3) (by decide +kernel)) (by decide +kernel) ⟨Nat.le_of_ble_eq_true rfl, Nat.le_of_ble_eq_true rfl⟩, (hts (.instanceMethod yX3_clear) (by decide +kernel)), (hts (.selects RX3 yX3_clear yX3_clear) (by decide +kernel))⟩ ⟨mPre.blind, (va_recv hK hP (ci := 5) (q0 := 1) rfl rfl), mPre.to (hP.sub [1, 2, 3] rfl) hK (hD.sub [1, 2, 3] (by decide) rfl) hE⟩ rfl rfl hl.1 rfl (lv_room (Nat.le_of_ble_eq_true rfl)) dX8_unwant_4 ⟨Nat.le_of_ble_eq_true rfl, Nat.le_of_ble_eq_true rfl⟩) (fun r_1 u H locs hw hP hD hS => ?_)
  obtain ⟨p_size_2, p_need_3, p_answers_4⟩ := u
  try dsimp only at hw
  have hP : va_P D vwCl [(ce_dk ad), (ce_pl ad p_size_2), ((ad 34), .inl (y 0, 4, .inl p_need_3)), ((ad 38), .inl (y 0, 9, .inl p_answers_4))] H := hP
  have hD : va_D A [(ce_dk ad), (ce_pl ad p_size_2), ((ad 34), .inl (y 0, 4, .inl p_need_3)), ((ad 38), .inl (y 0, 9, .inl p_answers_4))] := hD
  exact W.iret (v := r_1) hx hb hr (fun t ht hW => ⟨⟨r_1, (p_size_2, p_need_3, p_answers_4), rfl, hw, mAt.to hP hK hD ht hW⟩, hS.F ht⟩) hS.2.2 dX8_unwant_7
theorem inw_X8_count_X1 : ∀ w ∈ wsX10, w ∈ wsX8_count := fun _ h => List.mem_cons_of_mem _ (List.mem_append_left _ (List.mem_append_right _ h))
theorem inw_X8_count_X2 : ∀ w ∈ wsX20, w ∈ wsX8_count := fun _ h => List.mem_cons_of_mem _ (List.mem_append_left _ (List.mem_append_left _ (List.mem_append_left _ (List.mem_append_left _ (List.mem_append_right _ h)))))
theorem inw_X8_count_X5 : ∀ w ∈ wsX50, w ∈ wsX8_count := fun _ h => List.mem_cons_of_mem _ (List.mem_append_left _ (List.mem_append_left _ (List.mem_append_right _ h)))
theorem inw_X8_count_X6 : ∀ w ∈ wsX60, w ∈ wsX8_count := fun _ h => List.mem_cons_of_mem _ (List.mem_append_left _ (List.mem_append_left _ (List.mem_append_left _ (List.mem_append_right _ h))))
theorem inw_X8_count_X8 : ∀ w ∈ wsX80, w ∈ wsX8_count := fun _ h => List.mem_cons_of_mem _ (List.mem_append_left _ (List.mem_append_left _ (List.mem_append_left _ (List.mem_append_left _ (List.mem_append_left _ (List.mem_append_right _ h))))))
def wp_Dock_count (m_size : Int32) (s_size : Int32) (s_hatches : Nat → Int32) (s_left : Nat → Int32) (g_size : Int32) (g_rulings : Int32) (g_paid : Int32) (o_number : Int32) (o_gangsInAll : Int32) (o_tonsMoved : Int32) (o_idle : Int32) (p0 : Int32) (Q : Int32 → Prop) : Prop := ((p0 = 0 → Q m_size) ∧ (¬ p0 = 0 → ((p0 = 1 → Q s_size) ∧ (¬ p0 = 1 → ((p0 = 2 → Q o_number) ∧ (¬ p0 = 2 → ((p0 = 3 → Q g_size) ∧ (¬ p0 = 3 → ((p0 = 4 → (wp_Ships_tonsLeft s_size s_hatches s_left (fun r_1 => Q r_1))) ∧ (¬ p0 = 4 → ((p0 = 5 → Q o_tonsMoved) ∧ (¬ p0 = 5 → ((p0 = 6 → Q o_gangsInAll) ∧ (¬ p0 = 6 → ((p0 = 7 → Q o_idle) ∧ (¬ p0 = 7 → ((p0 = 8 → Q g_rulings) ∧ (¬ p0 = 8 → ((p0 = 9 → Q g_paid) ∧ (¬ p0 = 9 → Q (-1)))))))))))))))))))))
set_option maxHeartbeats 4000000 in
set_option maxRecDepth 100000 in
theorem c_Dock_count (l : Launch) (D : va_G) (y : Nat → ClassId) (ad : Nat → Nat) (sz : Nat) (m_size : Int32) (s_inLine : Int32) (s_size : Int32) (s_hatches : Nat → Int32) (s_left : Nat → Int32) (g_size : Int32) (g_rulings : Int32) (g_paid : Int32) (o_number : Int32) (o_gangsInAll : Int32) (o_tonsMoved : Int32) (o_idle : Int32) (o_worked : Int32) (o_rained : Int32) (p0 : Int32) {Q : Int32 → Prop} (hw : wp_Dock_count m_size s_size s_hatches s_left g_size g_rulings g_paid o_number o_gangsInAll o_tonsMoved o_idle p0 Q) : Met l yX8_count wsX8_count ({ frames := 3, cells := 0, slots := 0, locals := 66 }) (va_Pc [.ref (ad 0), .int p0] (mPre D y sz [(ce_dk ad), (ce_mn ad m_size), (ce_sh ad s_inLine s_size), ((ad 16), .inl (y 0, 10, .inl s_hatches)), ((ad 18), .inl (y 0, 40, .inl s_left)), (ce_lg ad g_size g_rulings g_paid), (ce_ro ad o_number o_gangsInAll o_tonsMoved o_idle o_worked o_rained)])) (va_Qi (fun (r : Int32) (u : Unit) => Q r ) (mAt D y (va_A [(ce_dk ad), (ce_mn ad m_size), (ce_sh ad s_inLine s_size), ((ad 16), .inl (y 0, 10, .inl s_hatches)), ((ad 18), .inl (y 0, 40, .inl s_left)), (ce_lg ad g_size g_rulings g_paid), (ce_ro ad o_number o_gangsInAll o_tonsMoved o_idle o_worked o_rained)] sz) (fun (u : Unit) => [(ce_dk ad), (ce_mn ad m_size), (ce_sh ad s_inLine s_size), ((ad 16), .inl (y 0, 10, .inl s_hatches)), ((ad 18), .inl (y 0, 40, .inl s_left)), (ce_lg ad g_size g_rulings g_paid), (ce_ro ad o_number o_gangsInAll o_tonsMoved o_idle o_worked o_rained)])) (va_A [(ce_dk ad), (ce_mn ad m_size), (ce_sh ad s_inLine s_size), ((ad 16), .inl (y 0, 10, .inl s_hatches)), ((ad 18), .inl (y 0, 40, .inl s_left)), (ce_lg ad g_size g_rulings g_paid), (ce_ro ad o_number o_gangsInAll o_tonsMoved o_idle o_worked o_rained)] sz)) 0 0 (va_A [(ce_dk ad), (ce_mn ad m_size), (ce_sh ad s_inLine s_size), ((ad 16), .inl (y 0, 10, .inl s_hatches)), ((ad 18), .inl (y 0, 40, .inl s_left)), (ce_lg ad g_size g_rulings g_paid), (ce_ro ad o_number o_gangsInAll o_tonsMoved o_idle o_worked o_rained)] sz) := by
  unfold wp_Dock_count at hw
  refine Met.ofW (cc := cX8_count) (maxL := 2) (ret := some .int) (by decide) rfl ?_
  intro p e s m args below meth c s₁ B hml hv
  obtain ⟨rfl, hsz, hP, hK, hD0, hE⟩ := hv
  have hx := B.exec
  have hb := B.bytes
  have hr := B.returns
  have hts := atoms_spec (ws := wsX8_count) B.pre
  have hown : s.vm.findClass RX8 = some m.cls := findClass_of_methodNamed B.named
  have hlocks := B.notSynchronized
  subst hsz
  have hD := hD0.self (sz := s.heap.size)
  generalize hAe : va_A [(ce_dk ad), (ce_mn ad m_size), (ce_sh ad s_inLine s_size), ((ad 16), .inl (y 0, 10, .inl s_hatches)), ((ad 18), .inl (y 0, 40, .inl s_left)), (ce_lg ad g_size g_rulings g_paid), (ce_ro ad o_number o_gangsInAll o_tonsMoved o_idle o_worked o_rained)] s.heap.size = A at hD ⊢
  have hA : ∀ q : Nat, s.heap.size ≤ q → A q := fun q h => by rw [← hAe]; exact Or.inr h
  have hS : va_S A s.heap s.heap [] := va_S.rf
  have hP : va_P D vwCl [(ce_dk ad), (ce_mn ad m_size), (ce_sh ad s_inLine s_size), ((ad 16), .inl (y 0, 10, .inl s_hatches)), ((ad 18), .inl (y 0, 40, .inl s_left)), (ce_lg ad g_size g_rulings g_paid), (ce_ro ad o_number o_gangsInAll o_tonsMoved o_idle o_worked o_rained)] s.heap := hP
  have hl := lv_entry ([.ref (ad 0), .int p0]) (n := 2) (Nat.le_of_ble_eq_true rfl)
  rw [lg_entry_eq]
  generalize (lg_sl ([.ref (ad 0), .int p0]) ++ List.replicate (2 - (lg_sl ([.ref (ad 0), .int p0])).length) Slot.unset).toArray = ls at hl ⊢
  have hl : lv_has ls 2 [(0, .ref (ad 0)), (1, .int p0)] := hl
  refine lv_iload_n hx hb dX8_count_0 rfl (lv_at hl 1 rfl) ?_
  by_cases tc0 : p0 = 0
  · have hw := hw.1 tc0
    refine lv_tableIn (off := 55) (tgt := 56) hx hb dX8_count_1 (by rw [tc0]; decide) (by rw [tc0]; decide) (by rw [tc0]; decide) (by decide) ?_
    refine lv_aload_n hx hb dX8_count_56 rfl (lv_at hl 0 rfl) ?_
    refine va_get (ci := 10) (v := .ref (ad 6)) (C := RX8) (T := TX8) (N := 8) hx hb hts inw_X8_count_X8 hown hK hP 0 rfl rfl 3 (by decide) (hts (.fieldLink RX8 32 "DockCall" "men" "LDockCall$Men;") (by decide +kernel)) (fun _ h9 => h9) rfl dX8_count_57 ?_
    refine va_getN (ci := 4) (v := .int m_size) (C := RX2) (T := TX2) (N := 8) hx hb hts inw_X8_count_X2 hown hK hP 1 rfl rfl 7 (by decide) (hE.use nwf_RX8_81) (fun _ h9 => h9) rfl dX8_count_60 ?_
    exact W.iret (v := m_size) hx hb hr (fun t ht hW => ⟨⟨m_size, (), rfl, hw, mAt.to hP hK hD ht hW⟩, hS.F ht⟩) hS.2.2 dX8_count_63
  · have hw := hw.2 tc0
    by_cases tc1 : p0 = 1
    · have hw := hw.1 tc1
      refine lv_tableIn (off := 63) (tgt := 64) hx hb dX8_count_1 (by rw [tc1]; decide) (by rw [tc1]; decide) (by rw [tc1]; decide) (by decide) ?_
      refine lv_aload_n hx hb dX8_count_64 rfl (lv_at hl 0 rfl) ?_
      refine va_get (ci := 10) (v := .ref (ad 14)) (C := RX8) (T := TX8) (N := 8) hx hb hts inw_X8_count_X8 hown hK hP 0 rfl rfl 4 (by decide) (hts (.fieldLink RX8 39 "DockCall" "ships" "LDockCall$Ships;") (by decide +kernel)) (fun _ h9 => h9) rfl dX8_count_65 ?_
      refine va_getN (ci := 8) (v := .int s_size) (C := RX6) (T := TX6) (N := 10) hx hb hts inw_X8_count_X6 hown hK hP 2 rfl rfl 9 (by decide) (hE.use nwf_RX8_93) (fun _ h9 => h9) rfl dX8_count_68 ?_
      exact W.iret (v := s_size) hx hb hr (fun t ht hW => ⟨⟨s_size, (), rfl, hw, mAt.to hP hK hD ht hW⟩, hS.F ht⟩) hS.2.2 dX8_count_71
    · have hw := hw.2 tc1
      by_cases tc2 : p0 = 2
      · have hw := hw.1 tc2
        refine lv_tableIn (off := 71) (tgt := 72) hx hb dX8_count_1 (by rw [tc2]; decide) (by rw [tc2]; decide) (by rw [tc2]; decide) (by decide) ?_
        refine lv_aload_n hx hb dX8_count_72 rfl (lv_at hl 0 rfl) ?_
        refine va_get (ci := 10) (v := .ref (ad 31)) (C := RX8) (T := TX8) (N := 8) hx hb hts inw_X8_count_X8 hown hK hP 0 rfl rfl 6 (by decide) (hts (.fieldLink RX8 55 "DockCall" "round" "LDockCall$Round;") (by decide +kernel)) (fun _ h9 => h9) rfl dX8_count_73 ?_
        refine va_getN (ci := 7) (v := .int o_number) (C := RX5) (T := TX5) (N := 11) hx hb hts inw_X8_count_X5 hown hK hP 6 rfl rfl 5 (by decide) (hE.use nwf_RX8_96) (fun _ h9 => h9) rfl dX8_count_76 ?_
        exact W.iret (v := o_number) hx hb hr (fun t ht hW => ⟨⟨o_number, (), rfl, hw, mAt.to hP hK hD ht hW⟩, hS.F ht⟩) hS.2.2 dX8_count_79
      · have hw := hw.2 tc2
        by_cases tc3 : p0 = 3
        · have hw := hw.1 tc3
          refine lv_tableIn (off := 79) (tgt := 80) hx hb dX8_count_1 (by rw [tc3]; decide) (by rw [tc3]; decide) (by rw [tc3]; decide) (by decide) ?_
          refine lv_aload_n hx hb dX8_count_80 rfl (lv_at hl 0 rfl) ?_
          refine va_get (ci := 10) (v := .ref (ad 23)) (C := RX8) (T := TX8) (N := 8) hx hb hts inw_X8_count_X8 hown hK hP 0 rfl rfl 5 (by decide) (hts (.fieldLink RX8 46 "DockCall" "ledger" "LDockCall$Ledger;") (by decide +kernel)) (fun _ h9 => h9) rfl dX8_count_81 ?_
          refine va_getN (ci := 3) (v := .int g_size) (C := RX1) (T := TX1) (N := 10) hx hb hts inw_X8_count_X1 hown hK hP 5 rfl rfl 7 (by decide) (hE.use nwf_RX8_233) (fun _ h9 => h9) rfl dX8_count_84 ?_
          exact W.iret (v := g_size) hx hb hr (fun t ht hW => ⟨⟨g_size, (), rfl, hw, mAt.to hP hK hD ht hW⟩, hS.F ht⟩) hS.2.2 dX8_count_87
        · have hw := hw.2 tc3
          by_cases tc4 : p0 = 4
          · have hw := hw.1 tc4
            refine lv_tableIn (off := 87) (tgt := 88) hx hb dX8_count_1 (by rw [tc4]; decide) (by rw [tc4]; decide) (by rw [tc4]; decide) (by decide) ?_
            refine lv_aload_n hx hb dX8_count_88 rfl (lv_at hl 0 rfl) ?_
            refine va_get (ci := 10) (v := .ref (ad 14)) (C := RX8) (T := TX8) (N := 8) hx hb hts inw_X8_count_X8 hown hK hP 0 rfl rfl 4 (by decide) (hts (.fieldLink RX8 39 "DockCall" "ships" "LDockCall$Ships;") (by decide +kernel)) (fun _ h9 => h9) rfl dX8_count_89 ?_
            refine mx_i (wc := [(ce_sh ad s_inLine s_size), ((ad 16), .inl (y 0, 10, .inl s_hatches)), ((ad 18), .inl (y 0, 40, .inl s_left))]) (wr := [(ce_dk ad), (ce_mn ad m_size), (ce_lg ad g_size g_rulings g_paid), (ce_ro ad o_number o_gangsInAll o_tonsMoved o_idle o_worked o_rained)]) hP hD hS hA [2, 3, 4] [0, 1, 5, 6] [0, 1, 4, 5, 6, 2, 3] rfl rfl (by decide) (by decide) (by decide) (fun (u : Unit) => [(ce_dk ad), (ce_mn ad m_size), (ce_sh ad s_inLine s_size), ((ad 16), .inl (y 0, 10, .inl s_hatches)), ((ad 18), .inl (y 0, 40, .inl s_left)), (ce_lg ad g_size g_rulings g_paid), (ce_ro ad o_number o_gangsInAll o_tonsMoved o_idle o_worked o_rained)]) (fun _ => rfl) (va_runVN (C := RX6) (As := []) (rest := []) ⟨hx, hb, hml, hown, hts⟩ (c_Ships_tonsLeft l D y ad s.heap.size s_inLine s_size s_hatches s_left hw) ⟨va_cnB 0 hts gX8_count_X6_tonsLeft_n234 rfl rfl rfl (hE _ nwm_RX8_234) (hts (.initialized RX6) (by decide +kernel)) (by decide +kernel) ⟨Nat.le_of_ble_eq_true rfl, Nat.le_of_ble_eq_true rfl⟩, (hts (.instanceMethod yX6_tonsLeft) (by decide +kernel)), (hts (.selects RX6 yX6_tonsLeft yX6_tonsLeft) (by decide +kernel))⟩ ⟨mPre.blind, (va_recv hK hP (ci := 8) (q0 := 2) rfl rfl), mPre.to (hP.sub [2, 3, 4] rfl) hK (hD.sub [2, 3, 4] (by decide) rfl) hE⟩ rfl rfl hl.1 rfl (lv_room (Nat.le_of_ble_eq_true rfl)) dX8_count_92 ⟨Nat.le_of_ble_eq_true rfl, Nat.le_of_ble_eq_true rfl⟩) (fun r_1 u H locs hw hP hD hS => ?_)
            try dsimp only at hw
            have hP : va_P D vwCl [(ce_dk ad), (ce_mn ad m_size), (ce_sh ad s_inLine s_size), ((ad 16), .inl (y 0, 10, .inl s_hatches)), ((ad 18), .inl (y 0, 40, .inl s_left)), (ce_lg ad g_size g_rulings g_paid), (ce_ro ad o_number o_gangsInAll o_tonsMoved o_idle o_worked o_rained)] H := hP
            have hD : va_D A [(ce_dk ad), (ce_mn ad m_size), (ce_sh ad s_inLine s_size), ((ad 16), .inl (y 0, 10, .inl s_hatches)), ((ad 18), .inl (y 0, 40, .inl s_left)), (ce_lg ad g_size g_rulings g_paid), (ce_ro ad o_number o_gangsInAll o_tonsMoved o_idle o_worked o_rained)] := hD
            exact W.iret (v := r_1) hx hb hr (fun t ht hW => ⟨⟨r_1, (), rfl, hw, mAt.to hP hK hD ht hW⟩, hS.F ht⟩) hS.2.2 dX8_count_95
          · have hw := hw.2 tc4
            by_cases tc5 : p0 = 5
            · have hw := hw.1 tc5
              refine lv_tableIn (off := 95) (tgt := 96) hx hb dX8_count_1 (by rw [tc5]; decide) (by rw [tc5]; decide) (by rw [tc5]; decide) (by decide) ?_
              refine lv_aload_n hx hb dX8_count_96 rfl (lv_at hl 0 rfl) ?_
              refine va_get (ci := 10) (v := .ref (ad 31)) (C := RX8) (T := TX8) (N := 8) hx hb hts inw_X8_count_X8 hown hK hP 0 rfl rfl 6 (by decide) (hts (.fieldLink RX8 55 "DockCall" "round" "LDockCall$Round;") (by decide +kernel)) (fun _ h9 => h9) rfl dX8_count_97 ?_
              refine va_getN (ci := 7) (v := .int o_tonsMoved) (C := RX5) (T := TX5) (N := 11) hx hb hts inw_X8_count_X5 hown hK hP 6 rfl rfl 7 (by decide) (hE.use nwf_RX8_237) (fun _ h9 => h9) rfl dX8_count_100 ?_
              exact W.iret (v := o_tonsMoved) hx hb hr (fun t ht hW => ⟨⟨o_tonsMoved, (), rfl, hw, mAt.to hP hK hD ht hW⟩, hS.F ht⟩) hS.2.2 dX8_count_103
            · have hw := hw.2 tc5
              by_cases tc6 : p0 = 6
              · have hw := hw.1 tc6
                refine lv_tableIn (off := 103) (tgt := 104) hx hb dX8_count_1 (by rw [tc6]; decide) (by rw [tc6]; decide) (by rw [tc6]; decide) (by decide) ?_
                refine lv_aload_n hx hb dX8_count_104 rfl (lv_at hl 0 rfl) ?_
                refine va_get (ci := 10) (v := .ref (ad 31)) (C := RX8) (T := TX8) (N := 8) hx hb hts inw_X8_count_X8 hown hK hP 0 rfl rfl 6 (by decide) (hts (.fieldLink RX8 55 "DockCall" "round" "LDockCall$Round;") (by decide +kernel)) (fun _ h9 => h9) rfl dX8_count_105 ?_
                refine va_getN (ci := 7) (v := .int o_gangsInAll) (C := RX5) (T := TX5) (N := 11) hx hb hts inw_X8_count_X5 hown hK hP 6 rfl rfl 6 (by decide) (hE.use nwf_RX8_240) (fun _ h9 => h9) rfl dX8_count_108 ?_
                exact W.iret (v := o_gangsInAll) hx hb hr (fun t ht hW => ⟨⟨o_gangsInAll, (), rfl, hw, mAt.to hP hK hD ht hW⟩, hS.F ht⟩) hS.2.2 dX8_count_111
              · have hw := hw.2 tc6
                by_cases tc7 : p0 = 7
                · have hw := hw.1 tc7
                  refine lv_tableIn (off := 111) (tgt := 112) hx hb dX8_count_1 (by rw [tc7]; decide) (by rw [tc7]; decide) (by rw [tc7]; decide) (by decide) ?_
                  refine lv_aload_n hx hb dX8_count_112 rfl (lv_at hl 0 rfl) ?_
                  refine va_get (ci := 10) (v := .ref (ad 31)) (C := RX8) (T := TX8) (N := 8) hx hb hts inw_X8_count_X8 hown hK hP 0 rfl rfl 6 (by decide) (hts (.fieldLink RX8 55 "DockCall" "round" "LDockCall$Round;") (by decide +kernel)) (fun _ h9 => h9) rfl dX8_count_113 ?_
                  refine va_getN (ci := 7) (v := .int o_idle) (C := RX5) (T := TX5) (N := 11) hx hb hts inw_X8_count_X5 hown hK hP 6 rfl rfl 8 (by decide) (hE.use nwf_RX8_243) (fun _ h9 => h9) rfl dX8_count_116 ?_
                  exact W.iret (v := o_idle) hx hb hr (fun t ht hW => ⟨⟨o_idle, (), rfl, hw, mAt.to hP hK hD ht hW⟩, hS.F ht⟩) hS.2.2 dX8_count_119
                · have hw := hw.2 tc7
                  by_cases tc8 : p0 = 8
                  · have hw := hw.1 tc8
                    refine lv_tableIn (off := 119) (tgt := 120) hx hb dX8_count_1 (by rw [tc8]; decide) (by rw [tc8]; decide) (by rw [tc8]; decide) (by decide) ?_
                    refine lv_aload_n hx hb dX8_count_120 rfl (lv_at hl 0 rfl) ?_
                    refine va_get (ci := 10) (v := .ref (ad 23)) (C := RX8) (T := TX8) (N := 8) hx hb hts inw_X8_count_X8 hown hK hP 0 rfl rfl 5 (by decide) (hts (.fieldLink RX8 46 "DockCall" "ledger" "LDockCall$Ledger;") (by decide +kernel)) (fun _ h9 => h9) rfl dX8_count_121 ?_
                    refine va_getN (ci := 3) (v := .int g_rulings) (C := RX1) (T := TX1) (N := 10) hx hb hts inw_X8_count_X1 hown hK hP 5 rfl rfl 8 (by decide) (hE.use nwf_RX8_246) (fun _ h9 => h9) rfl dX8_count_124 ?_
                    exact W.iret (v := g_rulings) hx hb hr (fun t ht hW => ⟨⟨g_rulings, (), rfl, hw, mAt.to hP hK hD ht hW⟩, hS.F ht⟩) hS.2.2 dX8_count_127
                  · have hw := hw.2 tc8
                    by_cases tc9 : p0 = 9
                    · have hw := hw.1 tc9
                      refine lv_tableIn (off := 127) (tgt := 128) hx hb dX8_count_1 (by rw [tc9]; decide) (by rw [tc9]; decide) (by rw [tc9]; decide) (by decide) ?_
                      refine lv_aload_n hx hb dX8_count_128 rfl (lv_at hl 0 rfl) ?_
                      refine va_get (ci := 10) (v := .ref (ad 23)) (C := RX8) (T := TX8) (N := 8) hx hb hts inw_X8_count_X8 hown hK hP 0 rfl rfl 5 (by decide) (hts (.fieldLink RX8 46 "DockCall" "ledger" "LDockCall$Ledger;") (by decide +kernel)) (fun _ h9 => h9) rfl dX8_count_129 ?_
                      refine va_getN (ci := 3) (v := .int g_paid) (C := RX1) (T := TX1) (N := 10) hx hb hts inw_X8_count_X1 hown hK hP 5 rfl rfl 9 (by decide) (hE.use nwf_RX8_249) (fun _ h9 => h9) rfl dX8_count_132 ?_
                      exact W.iret (v := g_paid) hx hb hr (fun t ht hW => ⟨⟨g_paid, (), rfl, hw, mAt.to hP hK hD ht hW⟩, hS.F ht⟩) hS.2.2 dX8_count_135
                    · have hw := hw.2 tc9
                      refine lv_tableOut (tgt := 136) hx hb dX8_count_1 (tw_o 9 rfl (by decide) (fun k hk => by rcases (show k = 0 ∨ k = 1 ∨ k = 2 ∨ k = 3 ∨ k = 4 ∨ k = 5 ∨ k = 6 ∨ k = 7 ∨ k = 8 ∨ k = 9 by omega) with rfl | rfl | rfl | rfl | rfl | rfl | rfl | rfl | rfl | rfl <;> first | exact tc0 | exact tc1 | exact tc2 | exact tc3 | exact tc4 | exact tc5 | exact tc6 | exact tc7 | exact tc8 | exact tc9)) (by decide) ?_
                      refine lv_iconst (v := (-1)) hx hb dX8_count_136 (by decide) ?_
                      exact W.iret (v := (-1)) hx hb hr (fun t ht hW => ⟨⟨(-1), (), rfl, hw, mAt.to hP hK hD ht hW⟩, hS.F ht⟩) hS.2.2 dX8_count_137
