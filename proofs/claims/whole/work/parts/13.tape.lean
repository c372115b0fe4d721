theorem inw_X7_putByte_X7 : ∀ w ∈ wsX70, w ∈ wsX7_putByte := fun _ h => List.mem_cons_of_mem _ (List.mem_append_left _ (List.mem_append_right _ h))
def wp_Tape_putByte (t_length : Int32) (t_bytes : Nat → Int32) (p0 : Int32) (Q : Int32 → (Nat → Int32) → Prop) : Prop := ((t_length < 0 → Q t_length t_bytes) ∧ (¬ t_length < 0 → ((400 ≤ t_length → Q t_length t_bytes) ∧ (¬ 400 ≤ t_length → (vp_in t_length 400 ∧ Q (t_length + 1) (upd t_bytes t_length.toNatClampNeg (vp_nar .byte p0.toInt8.toInt32)))))))
set_option maxHeartbeats 4000000 in
set_option maxRecDepth 100000 in
theorem c_Tape_putByte (l : Launch) (D : va_G) (y : Nat → ClassId) (ad : Nat → Nat) (sz : Nat) (t_length : Int32) (t_bytes : Nat → Int32) (p0 : Int32) {Q : Int32 → (Nat → Int32) → Prop} (hw : wp_Tape_putByte t_length t_bytes p0 Q) : Met l yX7_putByte wsX7_putByte ({ frames := 0, cells := 0, slots := 0, locals := 0 }) (va_Pc [.ref (ad 1), .int p0] (mPre D y sz [(ce_tp ad t_length), ((ad 2), .inl (y 1, 400, .inl t_bytes))])) (va_Qv (fun (u : Int32 × (Nat → Int32)) => Q u.1 u.2) (mAt D y (va_A [(ce_tp ad t_length), ((ad 2), .inl (y 1, 400, .inl t_bytes))] sz) (fun (u : Int32 × (Nat → Int32)) => [(ce_tp ad u.1), ((ad 2), .inl (y 1, 400, .inl u.2))])) (va_A [(ce_tp ad t_length), ((ad 2), .inl (y 1, 400, .inl t_bytes))] sz)) 0 0 (va_A [(ce_tp ad t_length), ((ad 2), .inl (y 1, 400, .inl t_bytes))] sz) := by
  unfold wp_Tape_putByte at hw
  refine Met.ofW (cc := cX7_putByte) (maxL := 2) (ret := none) (by decide) rfl ?_
  intro p e s m args below meth c s₁ B hml hv
  obtain ⟨rfl, hsz, hP, hK, hD0, hE⟩ := hv
  have hx := B.exec
  have hb := B.bytes
  have hr := B.returns
  have hts := atoms_spec (ws := wsX7_putByte) B.pre
  have hown : s.vm.findClass RX7 = some m.cls := findClass_of_methodNamed B.named
  have hlocks := B.notSynchronized
  subst hsz
  have hD := hD0.self (sz := s.heap.size)
  generalize hAe : va_A [(ce_tp ad t_length), ((ad 2), .inl (y 1, 400, .inl t_bytes))] s.heap.size = A at hD ⊢
  have hA : ∀ q : Nat, s.heap.size ≤ q → A q := fun q h => by rw [← hAe]; exact Or.inr h
  have hS : va_S A s.heap s.heap [] := va_S.rf
  have hP : va_P D vwCl [(ce_tp ad t_length), ((ad 2), .inl (y 1, 400, .inl t_bytes))] s.heap := hP
  have hl := lv_entry ([.ref (ad 1), .int p0]) (n := 2) (Nat.le_of_ble_eq_true rfl)
  rw [lg_entry_eq]
  generalize (lg_sl ([.ref (ad 1), .int p0]) ++ List.replicate (2 - (lg_sl ([.ref (ad 1), .int p0])).length) Slot.unset).toArray = ls at hl ⊢
  have hl : lv_has ls 2 [(0, .ref (ad 1)), (1, .int p0)] := hl
  refine lv_aload_n hx hb dX7_putByte_0 rfl (lv_at hl 0 rfl) ?_
  refine va_get (ci := 9) (v := .int t_length) (C := RX7) (T := TX7) (N := 2) hx hb hts inw_X7_putByte_X7 hown hK hP 0 rfl rfl 1 (by decide) (hts (.fieldLink RX7 19 "DockCall$Tape" "length" "I") (by decide +kernel)) (fun _ h9 => h9) rfl dX7_putByte_1 ?_
  refine lv_if_lt (tgt := 38) hx hb dX7_putByte_4 (by decide) (fun hc => ?_) (fun hc => ?_)
  · have hw := hw.1 hc
    exact W.vret hx hb hr (fun t ht hW => ⟨⟨(t_length, t_bytes), rfl, hw, mAt.to hP hK hD ht hW⟩, hS.F ht⟩) hS.2.2 dX7_putByte_38
  · have hw := hw.2 hc
    refine lv_aload_n hx hb dX7_putByte_7 rfl (lv_at hl 0 rfl) ?_
    refine va_get (ci := 9) (v := .int t_length) (C := RX7) (T := TX7) (N := 2) hx hb hts inw_X7_putByte_X7 hown hK hP 0 rfl rfl 1 (by decide) (hts (.fieldLink RX7 19 "DockCall$Tape" "length" "I") (by decide +kernel)) (fun _ h9 => h9) rfl dX7_putByte_8 ?_
    refine lv_sipush (v := 400) hx hb dX7_putByte_11 (by decide) ?_
    refine lv_icmp_ge (tgt := 38) hx hb dX7_putByte_14 (by decide) (fun hc => ?_) (fun hc => ?_)
    · have hw := hw.1 hc
      exact W.vret hx hb hr (fun t ht hW => ⟨⟨(t_length, t_bytes), rfl, hw, mAt.to hP hK hD ht hW⟩, hS.F ht⟩) hS.2.2 dX7_putByte_38
    · have hw := hw.2 hc
      refine lv_aload_n hx hb dX7_putByte_17 rfl (lv_at hl 0 rfl) ?_
      refine va_get (ci := 9) (v := .ref (ad 2)) (C := RX7) (T := TX7) (N := 2) hx hb hts inw_X7_putByte_X7 hown hK hP 0 rfl rfl 0 (by decide) (hts (.fieldLink RX7 9 "DockCall$Tape" "bytes" "[B") (by decide +kernel)) (fun _ h9 => h9) rfl dX7_putByte_18 ?_
      refine lv_aload_n hx hb dX7_putByte_21 rfl (lv_at hl 0 rfl) ?_
      refine va_get (ci := 9) (v := .int t_length) (C := RX7) (T := TX7) (N := 2) hx hb hts inw_X7_putByte_X7 hown hK hP 0 rfl rfl 1 (by decide) (hts (.fieldLink RX7 19 "DockCall$Tape" "length" "I") (by decide +kernel)) (fun _ h9 => h9) rfl dX7_putByte_22 ?_
      refine lv_iload_n hx hb dX7_putByte_25 rfl (lv_at hl 1 rfl) ?_
      refine lv_i2b hx hb dX7_putByte_26 rfl ?_
      obtain ⟨hi, hw⟩ := hw
      refine va_bast hx hb hK hP hD hS 1 1 rfl rfl hi dX7_putByte_27 (fun H locs hP hD hS => ?_)
      have hP : va_P D vwCl [(ce_tp ad t_length), ((ad 2), .inl (y 1, 400, .inl (upd t_bytes t_length.toNatClampNeg (vp_nar .byte p0.toInt8.toInt32))))] H := hP
      have hD : va_D A [(ce_tp ad t_length), ((ad 2), .inl (y 1, 400, .inl (upd t_bytes t_length.toNatClampNeg (vp_nar .byte p0.toInt8.toInt32))))] := hD
      refine lv_aload_n hx hb dX7_putByte_28 rfl (lv_at hl 0 rfl) ?_
      refine lv_dup hx hb dX7_putByte_29 rfl ?_
      refine va_get (ci := 9) (v := .int t_length) (C := RX7) (T := TX7) (N := 2) hx hb hts inw_X7_putByte_X7 hown hK hP 0 rfl rfl 1 (by decide) (hts (.fieldLink RX7 19 "DockCall$Tape" "length" "I") (by decide +kernel)) (fun _ h9 => h9) rfl dX7_putByte_30 ?_
      refine lv_iconst (v := 1) hx hb dX7_putByte_33 (by decide) ?_
      refine lv_iadd hx hb dX7_putByte_34 ?_
      refine va_put (ci := 9) (v := .int (t_length + 1)) (ty := .int) (C := RX7) (T := TX7) (N := 2) hx hb hts inw_X7_putByte_X7 tyX7 tyX7_ok nmX7 hown hK hP hD hS 0 rfl rfl 1 (by decide) (hts (.fieldLink RX7 19 "DockCall$Tape" "length" "I") (by decide +kernel)) (fun _ h9 => h9) rfl (by decide +kernel) rfl rfl (Nat.le_of_ble_eq_true rfl) dX7_putByte_35 (fun H locs hP hD hS => ?_)
      have hP : va_P D vwCl [(ce_tp ad (t_length + 1)), ((ad 2), .inl (y 1, 400, .inl (upd t_bytes t_length.toNatClampNeg (vp_nar .byte p0.toInt8.toInt32))))] H := hP
      have hD : va_D A [(ce_tp ad (t_length + 1)), ((ad 2), .inl (y 1, 400, .inl (upd t_bytes t_length.toNatClampNeg (vp_nar .byte p0.toInt8.toInt32))))] := hD
      exact W.vret hx hb hr (fun t ht hW => ⟨⟨(t_length + 1, upd t_bytes t_length.toNatClampNeg (vp_nar .byte p0.toInt8.toInt32)), rfl, hw, mAt.to hP hK hD ht hW⟩, hS.F ht⟩) hS.2.2 dX7_putByte_38
def wp_Tape_putNumber_h3 (v1 : Int32)  (Q : Int32 → (Nat → Int32) → Prop) : Nat → Int32 → Int32 → (Nat → Int32) → Prop
  | 0, _, _, _ => False
  | n + 1, v2, t_length, t_bytes => ((v2 < 0 → Q t_length t_bytes) ∧ (¬ v2 < 0 → (wp_Tape_putByte t_length t_bytes ((v1.toUInt32 >>> (v2.toUInt32 &&& Int32.toUInt32 31)).toInt32) (fun t_length_1 t_bytes_2 => wp_Tape_putNumber_h3 v1 Q n (v2 + (-8)) t_length_1 t_bytes_2))))
def wp_Tape_putNumber (t_length : Int32) (t_bytes : Nat → Int32) (p0 : Int32) (Q : Int32 → (Nat → Int32) → Prop) : Prop := (∃ n' : Nat, wp_Tape_putNumber_h3 p0 Q n' 24 t_length t_bytes)
set_option maxHeartbeats 4000000 in
set_option maxRecDepth 100000 in
theorem c_Tape_putNumber_h3 {p : Program} {l : Launch} {e : Env} {s : State} {m : MethodId} {args : Array Value} {below : List Frame} {meth : Method} {c : Code} {D : va_G} {y : Nat → ClassId} {ad : Nat → Nat} {A : Nat → Prop} (hx : p.tables.exec = Jvm.exec) (hb : c.code = cX7_putNumber) (hr : meth.sig.returnType = none) (hml : c.maxLocals = 3) (hown : s.vm.findClass RX7 = some m.cls) (hts : ∀ w ∈ wsX7_putNumber, w.before args s = true) (hlocks : meth.locks = false) (hK : va_K D vwCl (TY y) s) (hE : EV s) (hA : ∀ q, s.heap.size ≤ q → A q) {v1 : Int32}  {Q : Int32 → (Nat → Int32) → Prop}  : ∀ (n : Nat) (v2 : Int32) (t_length : Int32) (t_bytes : Nat → Int32), wp_Tape_putNumber_h3 v1 Q n v2 t_length t_bytes → ∀ (H : Heap) (locs : List Loc) (ls : Array Slot), va_P D vwCl [(ce_tp ad t_length), ((ad 2), .inl (y 1, 400, .inl t_bytes))] H → va_D A [(ce_tp ad t_length), ((ad 2), .inl (y 1, 400, .inl t_bytes))] → va_S A s.heap H locs → lv_has ls 3 [(2, .int v2), (0, .ref (ad 1)), (1, .int v1)] → W p l e ({ frames := 1, cells := 0, slots := 0, locals := 21 }) s m args below meth c H locs 0 0 (MQ below (va_Qv (fun (u : Int32 × (Nat → Int32)) => Q u.1 u.2) (mAt D y A (fun (u : Int32 × (Nat → Int32)) => [(ce_tp ad u.1), ((ad 2), .inl (y 1, 400, .inl u.2))])) A) args s 0 0 A) (F0 m 3 ls []) := by
  intro n
  induction n with
  | zero => intro v2 t_length t_bytes hw; rw [wp_Tape_putNumber_h3] at hw; exact hw.elim
  | succ n ih =>
    intro v2 t_length t_bytes hw H locs ls hP hD hS hl
    rw [wp_Tape_putNumber_h3] at hw
    refine lv_iload_n hx hb dX7_putNumber_3 rfl (lv_at hl 0 rfl) ?_
    refine lv_if_lt (tgt := 20) hx hb dX7_putNumber_4 (by decide) (fun hc => ?_) (fun hc => ?_)
    · have hw := hw.1 hc
      exact W.vret hx hb hr (fun t ht hW => ⟨⟨(t_length, t_bytes), rfl, hw, mAt.to hP hK hD ht hW⟩, hS.F ht⟩) hS.2.2 dX7_putNumber_20
    · have hw := hw.2 hc
      refine lv_aload_n hx hb dX7_putNumber_7 rfl (lv_at hl 1 rfl) ?_
      refine lv_iload_n hx hb dX7_putNumber_8 rfl (lv_at hl 2 rfl) ?_
      refine lv_iload_n hx hb dX7_putNumber_9 rfl (lv_at hl 0 rfl) ?_
      refine lv_iushr hx hb dX7_putNumber_10 rfl ?_
      refine mx_v (wc := [(ce_tp ad t_length), ((ad 2), .inl (y 1, 400, .inl t_bytes))]) (wr := []) hP hD hS hA [0, 1] [] [0, 1] rfl rfl (by decide) (by decide) (by decide) (fun (u : Int32 × (Nat → Int32)) => [(ce_tp ad u.1), ((ad 2), .inl (y 1, 400, .inl u.2))]) (fun _ => rfl) (va_runV (As := [.int ((v1.toUInt32 >>> (v2.toUInt32 &&& Int32.toUInt32 31)).toInt32)]) (rest := []) ⟨hx, hb, hml, hown, hts⟩ (c_Tape_putByte l D y ad H.size t_length t_bytes ((v1.toUInt32 >>> (v2.toUInt32 &&& Int32.toUInt32 31)).toInt32) hw) (cwV 1 hts gX7_putNumber_X7_putByte rfl rfl rfl (by decide +kernel) ⟨Nat.le_of_ble_eq_true rfl, Nat.le_of_ble_eq_true rfl⟩) ⟨mPre.blind, (va_recv hK hP (ci := 9) (q0 := 0) rfl rfl), mPre.to (hP.sub [0, 1] rfl) hK (hD.sub [0, 1] (by decide) rfl) hE⟩ rfl rfl hl.1 rfl (lv_room (Nat.le_of_ble_eq_true rfl)) dX7_putNumber_11 ⟨Nat.le_of_ble_eq_true rfl, Nat.le_of_ble_eq_true rfl⟩) (fun u H locs hw hP hD hS => ?_)
      obtain ⟨t_length_1, t_bytes_2⟩ := u
      try dsimp only at hw
      have hP : va_P D vwCl [(ce_tp ad t_length_1), ((ad 2), .inl (y 1, 400, .inl t_bytes_2))] H := hP
      have hD : va_D A [(ce_tp ad t_length_1), ((ad 2), .inl (y 1, 400, .inl t_bytes_2))] := hD
      refine lv_iinc (v := v2 + (-8)) (lv' := [(2, .int (v2 + (-8))), (0, .ref (ad 1)), (1, .int v1)]) hx hb dX7_putNumber_14 hl (k := 0) rfl (by first | rfl | decide) (by decide) rfl (fun ls hl => ?_)
      refine lv_goto (tgt := 3) hx hb dX7_putNumber_17 (by decide) ?_
      exact ih (v2 + (-8)) t_length_1 t_bytes_2 hw _ _ _ hP hD hS (lv_sub hl [0, 1, 2] rfl)
set_option maxHeartbeats 4000000 in
set_option maxRecDepth 100000 in
theorem c_Tape_putNumber (l : Launch) (D : va_G) (y : Nat → ClassId) (ad : Nat → Nat) (sz : Nat) (t_length : Int32) (t_bytes : Nat → Int32) (p0 : Int32) {Q : Int32 → (Nat → Int32) → Prop} (hw : wp_Tape_putNumber t_length t_bytes p0 Q) : Met l yX7_putNumber wsX7_putNumber ({ frames := 1, cells := 0, slots := 0, locals := 21 }) (va_Pc [.ref (ad 1), .int p0] (mPre D y sz [(ce_tp ad t_length), ((ad 2), .inl (y 1, 400, .inl t_bytes))])) (va_Qv (fun (u : Int32 × (Nat → Int32)) => Q u.1 u.2) (mAt D y (va_A [(ce_tp ad t_length), ((ad 2), .inl (y 1, 400, .inl t_bytes))] sz) (fun (u : Int32 × (Nat → Int32)) => [(ce_tp ad u.1), ((ad 2), .inl (y 1, 400, .inl u.2))])) (va_A [(ce_tp ad t_length), ((ad 2), .inl (y 1, 400, .inl t_bytes))] sz)) 0 0 (va_A [(ce_tp ad t_length), ((ad 2), .inl (y 1, 400, .inl t_bytes))] sz) := by
  unfold wp_Tape_putNumber at hw
  refine Met.ofW (cc := cX7_putNumber) (maxL := 3) (ret := none) (by decide) rfl ?_
  intro p e s m args below meth c s₁ B hml hv
  obtain ⟨rfl, hsz, hP, hK, hD0, hE⟩ := hv
  have hx := B.exec
  have hb := B.bytes
  have hr := B.returns
  have hts := atoms_spec (ws := wsX7_putNumber) B.pre
  have hown : s.vm.findClass RX7 = some m.cls := findClass_of_methodNamed B.named
  have hlocks := B.notSynchronized
  subst hsz
  have hD := hD0.self (sz := s.heap.size)
  generalize hAe : va_A [(ce_tp ad t_length), ((ad 2), .inl (y 1, 400, .inl t_bytes))] s.heap.size = A at hD ⊢
  have hA : ∀ q : Nat, s.heap.size ≤ q → A q := fun q h => by rw [← hAe]; exact Or.inr h
  have hS : va_S A s.heap s.heap [] := va_S.rf
  have hP : va_P D vwCl [(ce_tp ad t_length), ((ad 2), .inl (y 1, 400, .inl t_bytes))] s.heap := hP
  have hl := lv_entry ([.ref (ad 1), .int p0]) (n := 3) (Nat.le_of_ble_eq_true rfl)
  rw [lg_entry_eq]
  generalize (lg_sl ([.ref (ad 1), .int p0]) ++ List.replicate (3 - (lg_sl ([.ref (ad 1), .int p0])).length) Slot.unset).toArray = ls at hl ⊢
  have hl : lv_has ls 3 [(0, .ref (ad 1)), (1, .int p0)] := hl
  refine lv_bipush (v := 24) hx hb dX7_putNumber_0 (by decide) ?_
  refine lv_istore_n (lv' := [(2, .int 24), (0, .ref (ad 1)), (1, .int p0)]) hx hb dX7_putNumber_2 rfl hl (by decide) rfl (fun ls hl => ?_)
  obtain ⟨n', hw⟩ := hw
  exact c_Tape_putNumber_h3 hx hb hr hml hown hts hlocks hK hE hA  n' 24 t_length t_bytes hw _ _ _ hP hD hS (lv_sub hl [0, 1, 2] rfl)
theorem inw_X7_byteAt_X7 : ∀ w ∈ wsX70, w ∈ wsX7_byteAt := fun _ h => List.mem_cons_of_mem _ (List.mem_append_left _ (List.mem_append_right _ h))
def wp_Tape_byteAt (t_length : Int32) (t_bytes : Nat → Int32) (p0 : Int32) (Q : Int32 → Prop) : Prop := ((p0 < 0 → Q (-1)) ∧ (¬ p0 < 0 → ((t_length ≤ p0 → Q (-1)) ∧ (¬ t_length ≤ p0 → ((400 ≤ p0 → Q (-1)) ∧ (¬ 400 ≤ p0 → (vp_in p0 400 ∧ Q ((t_bytes p0.toNatClampNeg) &&& 255))))))))
set_option maxHeartbeats 4000000 in
set_option maxRecDepth 100000 in
theorem c_Tape_byteAt (l : Launch) (D : va_G) (y : Nat → ClassId) (ad : Nat → Nat) (sz : Nat) (t_length : Int32) (t_bytes : Nat → Int32) (p0 : Int32) {Q : Int32 → Prop} (hw : wp_Tape_byteAt t_length t_bytes p0 Q) : Met l yX7_byteAt wsX7_byteAt ({ frames := 0, cells := 0, slots := 0, locals := 0 }) (va_Pc [.ref (ad 1), .int p0] (mPre D y sz [(ce_tp ad t_length), ((ad 2), .inl (y 1, 400, .inl t_bytes))])) (va_Qi (fun (r : Int32) (u : Unit) => Q r ) (mAt D y (va_A [(ce_tp ad t_length), ((ad 2), .inl (y 1, 400, .inl t_bytes))] sz) (fun (u : Unit) => [(ce_tp ad t_length), ((ad 2), .inl (y 1, 400, .inl t_bytes))])) (va_A [(ce_tp ad t_length), ((ad 2), .inl (y 1, 400, .inl t_bytes))] sz)) 0 0 (va_A [(ce_tp ad t_length), ((ad 2), .inl (y 1, 400, .inl t_bytes))] sz) := by
  unfold wp_Tape_byteAt at hw
  refine Met.ofW (cc := cX7_byteAt) (maxL := 2) (ret := some .int) (by decide) rfl ?_
  intro p e s m args below meth c s₁ B hml hv
  obtain ⟨rfl, hsz, hP, hK, hD0, hE⟩ := hv
  have hx := B.exec
  have hb := B.bytes
  have hr := B.returns
  have hts := atoms_spec (ws := wsX7_byteAt) B.pre
  have hown : s.vm.findClass RX7 = some m.cls := findClass_of_methodNamed B.named
  have hlocks := B.notSynchronized
  subst hsz
  have hD := hD0.self (sz := s.heap.size)
  generalize hAe : va_A [(ce_tp ad t_length), ((ad 2), .inl (y 1, 400, .inl t_bytes))] s.heap.size = A at hD ⊢
  have hA : ∀ q : Nat, s.heap.size ≤ q → A q := fun q h => by rw [← hAe]; exact Or.inr h
  have hS : va_S A s.heap s.heap [] := va_S.rf
  have hP : va_P D vwCl [(ce_tp ad t_length), ((ad 2), .inl (y 1, 400, .inl t_bytes))] s.heap := hP
  have hl := lv_entry ([.ref (ad 1), .int p0]) (n := 2) (Nat.le_of_ble_eq_true rfl)
  rw [lg_entry_eq]
  generalize (lg_sl ([.ref (ad 1), .int p0]) ++ List.replicate (2 - (lg_sl ([.ref (ad 1), .int p0])).length) Slot.unset).toArray = ls at hl ⊢
  have hl : lv_has ls 2 [(0, .ref (ad 1)), (1, .int p0)] := hl
  refine lv_iload_n hx hb dX7_byteAt_0 rfl (lv_at hl 1 rfl) ?_
  refine lv_if_lt (tgt := 32) hx hb dX7_byteAt_1 (by decide) (fun hc => ?_) (fun hc => ?_)
  · have hw := hw.1 hc
    refine lv_iconst (v := (-1)) hx hb dX7_byteAt_32 (by decide) ?_
    exact W.iret (v := (-1)) hx hb hr (fun t ht hW => ⟨⟨(-1), (), rfl, hw, mAt.to hP hK hD ht hW⟩, hS.F ht⟩) hS.2.2 dX7_byteAt_33
  · have hw := hw.2 hc
    refine lv_iload_n hx hb dX7_byteAt_4 rfl (lv_at hl 1 rfl) ?_
    refine lv_aload_n hx hb dX7_byteAt_5 rfl (lv_at hl 0 rfl) ?_
    refine va_get (ci := 9) (v := .int t_length) (C := RX7) (T := TX7) (N := 2) hx hb hts inw_X7_byteAt_X7 hown hK hP 0 rfl rfl 1 (by decide) (hts (.fieldLink RX7 19 "DockCall$Tape" "length" "I") (by decide +kernel)) (fun _ h9 => h9) rfl dX7_byteAt_6 ?_
    refine lv_icmp_ge (tgt := 32) hx hb dX7_byteAt_9 (by decide) (fun hc => ?_) (fun hc => ?_)
    · have hw := hw.1 hc
      refine lv_iconst (v := (-1)) hx hb dX7_byteAt_32 (by decide) ?_
      exact W.iret (v := (-1)) hx hb hr (fun t ht hW => ⟨⟨(-1), (), rfl, hw, mAt.to hP hK hD ht hW⟩, hS.F ht⟩) hS.2.2 dX7_byteAt_33
    · have hw := hw.2 hc
      refine lv_iload_n hx hb dX7_byteAt_12 rfl (lv_at hl 1 rfl) ?_
      refine lv_sipush (v := 400) hx hb dX7_byteAt_13 (by decide) ?_
      refine lv_icmp_ge (tgt := 32) hx hb dX7_byteAt_16 (by decide) (fun hc => ?_) (fun hc => ?_)
      · have hw := hw.1 hc
        refine lv_iconst (v := (-1)) hx hb dX7_byteAt_32 (by decide) ?_
        exact W.iret (v := (-1)) hx hb hr (fun t ht hW => ⟨⟨(-1), (), rfl, hw, mAt.to hP hK hD ht hW⟩, hS.F ht⟩) hS.2.2 dX7_byteAt_33
      · have hw := hw.2 hc
        refine lv_aload_n hx hb dX7_byteAt_19 rfl (lv_at hl 0 rfl) ?_
        refine va_get (ci := 9) (v := .ref (ad 2)) (C := RX7) (T := TX7) (N := 2) hx hb hts inw_X7_byteAt_X7 hown hK hP 0 rfl rfl 0 (by decide) (hts (.fieldLink RX7 9 "DockCall$Tape" "bytes" "[B") (by decide +kernel)) (fun _ h9 => h9) rfl dX7_byteAt_20 ?_
        refine lv_iload_n hx hb dX7_byteAt_23 rfl (lv_at hl 1 rfl) ?_
        obtain ⟨hi, hw⟩ := hw
        refine va_bald hx hb hK hP 1 1 rfl rfl hi dX7_byteAt_24 ?_
        refine lv_sipush (v := 255) hx hb dX7_byteAt_25 (by decide) ?_
        refine lv_iand hx hb dX7_byteAt_28 ?_
        refine lv_goto (tgt := 33) hx hb dX7_byteAt_29 (by decide) ?_
        exact W.iret (v := (t_bytes p0.toNatClampNeg) &&& 255) hx hb hr (fun t ht hW => ⟨⟨(t_bytes p0.toNatClampNeg) &&& 255, (), rfl, hw, mAt.to hP hK hD ht hW⟩, hS.F ht⟩) hS.2.2 dX7_byteAt_33
