theorem inw_X9_isAt_X9 : ∀ w ∈ wsX90, w ∈ wsX9_isAt := fun _ h => List.mem_cons_of_mem _ (List.mem_append_left _ (List.mem_append_right _ h))
def wp_Model_isAt (x_at : Int32) (x_end : Int32) (x_tape : Nat → Int32) (p0 : Int32) (p1 : Int32) (Q : Int32 → Prop) : Prop := ((x_end ≤ x_at → Q 0) ∧ (¬ x_end ≤ x_at → (vp_in x_at 400 ∧ ((x_tape x_at.toNatClampNeg < p0 → Q 0) ∧ (¬ x_tape x_at.toNatClampNeg < p0 → (vp_in x_at 400 ∧ ((p1 < x_tape x_at.toNatClampNeg → Q 0) ∧ (¬ p1 < x_tape x_at.toNatClampNeg → Q 1))))))))
set_option maxHeartbeats 4000000 in
set_option maxRecDepth 100000 in
theorem c_Model_isAt (l : Launch) (D : va_G) (y : Nat → ClassId) (bd : Nat → Nat) (sz : Nat) (x_thrown : Int32) (x_men : Int32) (x_ships : Int32) (x_entries : Int32) (x_rules : Int32) (x_calls : Int32) (x_gangs : Int32) (x_idle : Int32) (x_moved : Int64) (x_paid : Int64) (x_taped : Int32) (x_at : Int32) (x_end : Int32) (x_begin : Int32) (x_faultAt : Int32) (x_wants : Int32) (x_tape : Nat → Int32) (p0 : Int32) (p1 : Int32) {Q : Int32 → Prop} (hw : wp_Model_isAt x_at x_end x_tape p0 p1 Q) : Met l yX9_isAt wsX9_isAt ({ frames := 0, cells := 0, slots := 0, locals := 0 }) (va_Pc [.ref (bd 0), .int p0, .int p1] (mPre D y sz [(ce_xm bd x_thrown x_men x_ships x_entries x_rules x_calls x_gangs x_idle x_moved x_paid x_taped x_at x_end x_begin x_faultAt x_wants), ((bd 21), .inl (y 1, 400, .inl x_tape))])) (va_Qi (fun (r : Int32) (u : Unit) => Q r ) (mAt D y (va_A [(ce_xm bd x_thrown x_men x_ships x_entries x_rules x_calls x_gangs x_idle x_moved x_paid x_taped x_at x_end x_begin x_faultAt x_wants), ((bd 21), .inl (y 1, 400, .inl x_tape))] sz) (fun (u : Unit) => [(ce_xm bd x_thrown x_men x_ships x_entries x_rules x_calls x_gangs x_idle x_moved x_paid x_taped x_at x_end x_begin x_faultAt x_wants), ((bd 21), .inl (y 1, 400, .inl x_tape))])) (va_A [(ce_xm bd x_thrown x_men x_ships x_entries x_rules x_calls x_gangs x_idle x_moved x_paid x_taped x_at x_end x_begin x_faultAt x_wants), ((bd 21), .inl (y 1, 400, .inl x_tape))] sz)) 0 0 (va_A [(ce_xm bd x_thrown x_men x_ships x_entries x_rules x_calls x_gangs x_idle x_moved x_paid x_taped x_at x_end x_begin x_faultAt x_wants), ((bd 21), .inl (y 1, 400, .inl x_tape))] sz) := by
  unfold wp_Model_isAt at hw
  refine Met.ofW (cc := cX9_isAt) (maxL := 3) (ret := some .boolean) (by decide) rfl ?_
  intro p e s m args below meth c s₁ B hml hv
  obtain ⟨rfl, hsz, hP, hK, hD0, hE⟩ := hv
  have hx := B.exec
  have hb := B.bytes
  have hr := B.returns
  have hts := atoms_spec (ws := wsX9_isAt) B.pre
  have hown : s.vm.findClass RX9 = some m.cls := findClass_of_methodNamed B.named
  have hlocks := B.notSynchronized
  subst hsz
  have hD := hD0.self (sz := s.heap.size)
  generalize hAe : va_A [(ce_xm bd x_thrown x_men x_ships x_entries x_rules x_calls x_gangs x_idle x_moved x_paid x_taped x_at x_end x_begin x_faultAt x_wants), ((bd 21), .inl (y 1, 400, .inl x_tape))] s.heap.size = A at hD ⊢
  have hA : ∀ q : Nat, s.heap.size ≤ q → A q := fun q h => by rw [← hAe]; exact Or.inr h
  have hS : va_S A s.heap s.heap [] := va_S.rf
  have hP : va_P D vwCl [(ce_xm bd x_thrown x_men x_ships x_entries x_rules x_calls x_gangs x_idle x_moved x_paid x_taped x_at x_end x_begin x_faultAt x_wants), ((bd 21), .inl (y 1, 400, .inl x_tape))] s.heap := hP
  have hl := lv_entry ([.ref (bd 0), .int p0, .int p1]) (n := 3) (Nat.le_of_ble_eq_true rfl)
  rw [lg_entry_eq]
  generalize (lg_sl ([.ref (bd 0), .int p0, .int p1]) ++ List.replicate (3 - (lg_sl ([.ref (bd 0), .int p0, .int p1])).length) Slot.unset).toArray = ls at hl ⊢
  have hl : lv_has ls 3 [(0, .ref (bd 0)), (1, .int p0), (2, .int p1)] := hl
  refine lv_aload_n hx hb dX9_isAt_0 rfl (lv_at hl 0 rfl) ?_
  refine va_get (ci := 11) (v := .int x_at) (C := RX9) (T := TX9) (N := 47) hx hb hts inw_X9_isAt_X9 hown hK hP 0 rfl rfl 33 (by decide) (hts (.fieldLink RX9 142 "DockCallModel" "at" "I") (by decide +kernel)) (fun _ h9 => h9) rfl dX9_isAt_1 ?_
  refine lv_aload_n hx hb dX9_isAt_4 rfl (lv_at hl 0 rfl) ?_
  refine va_get (ci := 11) (v := .int x_end) (C := RX9) (T := TX9) (N := 47) hx hb hts inw_X9_isAt_X9 hown hK hP 0 rfl rfl 34 (by decide) (hts (.fieldLink RX9 145 "DockCallModel" "end" "I") (by decide +kernel)) (fun _ h9 => h9) rfl dX9_isAt_5 ?_
  refine lv_icmp_ge (tgt := 41) hx hb dX9_isAt_8 (by decide) (fun hc => ?_) (fun hc => ?_)
  · have hw := hw.1 hc
    refine lv_iconst (v := 0) hx hb dX9_isAt_41 (by decide) ?_
    exact W.zret (v := 0) hx hb hr (by decide) (fun t ht hW => ⟨⟨0, (), rfl, hw, mAt.to hP hK hD ht hW⟩, hS.F ht⟩) hS.2.2 dX9_isAt_42
  · have hw := hw.2 hc
    refine lv_aload_n hx hb dX9_isAt_11 rfl (lv_at hl 0 rfl) ?_
    refine va_get (ci := 11) (v := .ref (bd 21)) (C := RX9) (T := TX9) (N := 47) hx hb hts inw_X9_isAt_X9 hown hK hP 0 rfl rfl 30 (by decide) (hts (.fieldLink RX9 71 "DockCallModel" "tape" "[B") (by decide +kernel)) (fun _ h9 => h9) rfl dX9_isAt_12 ?_
    refine lv_aload_n hx hb dX9_isAt_15 rfl (lv_at hl 0 rfl) ?_
    refine va_get (ci := 11) (v := .int x_at) (C := RX9) (T := TX9) (N := 47) hx hb hts inw_X9_isAt_X9 hown hK hP 0 rfl rfl 33 (by decide) (hts (.fieldLink RX9 142 "DockCallModel" "at" "I") (by decide +kernel)) (fun _ h9 => h9) rfl dX9_isAt_16 ?_
    obtain ⟨hi, hw⟩ := hw
    refine va_bald hx hb hK hP 1 1 rfl rfl hi dX9_isAt_19 ?_
    refine lv_iload_n hx hb dX9_isAt_20 rfl (lv_at hl 1 rfl) ?_
    refine lv_icmp_lt (tgt := 41) hx hb dX9_isAt_21 (by decide) (fun hc => ?_) (fun hc => ?_)
    · have hw := hw.1 hc
      refine lv_iconst (v := 0) hx hb dX9_isAt_41 (by decide) ?_
      exact W.zret (v := 0) hx hb hr (by decide) (fun t ht hW => ⟨⟨0, (), rfl, hw, mAt.to hP hK hD ht hW⟩, hS.F ht⟩) hS.2.2 dX9_isAt_42
    · have hw := hw.2 hc
      refine lv_aload_n hx hb dX9_isAt_24 rfl (lv_at hl 0 rfl) ?_
      refine va_get (ci := 11) (v := .ref (bd 21)) (C := RX9) (T := TX9) (N := 47) hx hb hts inw_X9_isAt_X9 hown hK hP 0 rfl rfl 30 (by decide) (hts (.fieldLink RX9 71 "DockCallModel" "tape" "[B") (by decide +kernel)) (fun _ h9 => h9) rfl dX9_isAt_25 ?_
      refine lv_aload_n hx hb dX9_isAt_28 rfl (lv_at hl 0 rfl) ?_
      refine va_get (ci := 11) (v := .int x_at) (C := RX9) (T := TX9) (N := 47) hx hb hts inw_X9_isAt_X9 hown hK hP 0 rfl rfl 33 (by decide) (hts (.fieldLink RX9 142 "DockCallModel" "at" "I") (by decide +kernel)) (fun _ h9 => h9) rfl dX9_isAt_29 ?_
      obtain ⟨hi, hw⟩ := hw
      refine va_bald hx hb hK hP 1 1 rfl rfl hi dX9_isAt_32 ?_
      refine lv_iload_n hx hb dX9_isAt_33 rfl (lv_at hl 2 rfl) ?_
      refine lv_icmp_gt (tgt := 41) hx hb dX9_isAt_34 (by decide) (fun hc => ?_) (fun hc => ?_)
      · have hw := hw.1 hc
        refine lv_iconst (v := 0) hx hb dX9_isAt_41 (by decide) ?_
        exact W.zret (v := 0) hx hb hr (by decide) (fun t ht hW => ⟨⟨0, (), rfl, hw, mAt.to hP hK hD ht hW⟩, hS.F ht⟩) hS.2.2 dX9_isAt_42
      · have hw := hw.2 hc
        refine lv_iconst (v := 1) hx hb dX9_isAt_37 (by decide) ?_
        refine lv_goto (tgt := 42) hx hb dX9_isAt_38 (by decide) ?_
        exact W.zret (v := 1) hx hb hr (by decide) (fun t ht hW => ⟨⟨1, (), rfl, hw, mAt.to hP hK hD ht hW⟩, hS.F ht⟩) hS.2.2 dX9_isAt_42
theorem inw_X9_blanks_X9 : ∀ w ∈ wsX90, w ∈ wsX9_blanks := fun _ h => List.mem_cons_of_mem _ (List.mem_append_left _ (List.mem_append_right _ h))
def wp_Model_blanks_h0 (x_end : Int32) (x_tape : Nat → Int32)  (Q : Int32 → Int32 → Prop) : Nat → Int32 → Prop
  | 0, _ => False
  | n + 1, x_at => (wp_Model_isAt x_at x_end x_tape 32 32 (fun r_1 => ((r_1 = 0 → Q x_at x_at) ∧ (¬ r_1 = 0 → wp_Model_blanks_h0 x_end x_tape Q n (x_at + 1)))))
def wp_Model_blanks (x_at : Int32) (x_end : Int32) (x_tape : Nat → Int32) (Q : Int32 → Int32 → Prop) : Prop := (∃ n' : Nat, wp_Model_blanks_h0 x_end x_tape Q n' x_at)
set_option maxHeartbeats 4000000 in
set_option maxRecDepth 100000 in
theorem c_Model_blanks_h0 {p : Program} {l : Launch} {e : Env} {s : State} {m : MethodId} {args : Array Value} {below : List Frame} {meth : Method} {c : Code} {D : va_G} {y : Nat → ClassId} {bd : Nat → Nat} {A : Nat → Prop} (hx : p.tables.exec = Jvm.exec) (hb : c.code = cX9_blanks) (hr : meth.sig.returnType = none) (hml : c.maxLocals = 1) (hown : s.vm.findClass RX9 = some m.cls) (hts : ∀ w ∈ wsX9_blanks, w.before args s = true) (hlocks : meth.locks = false) (hK : va_K D vwCl (TY y) s) (hE : EV s) (hA : ∀ q, s.heap.size ≤ q → A q) {x_end : Int32} {x_begin : Int32} {x_tape : Nat → Int32} {x_thrown : Int32} {x_men : Int32} {x_ships : Int32} {x_entries : Int32} {x_rules : Int32} {x_calls : Int32} {x_gangs : Int32} {x_idle : Int32} {x_moved : Int64} {x_paid : Int64} {x_taped : Int32} {x_faultAt : Int32} {x_wants : Int32}  {Q : Int32 → Int32 → Prop}  : ∀ (n : Nat) (x_at : Int32), wp_Model_blanks_h0 x_end x_tape Q n x_at → ∀ (H : Heap) (locs : List Loc) (ls : Array Slot), va_P D vwCl [(ce_xm bd x_thrown x_men x_ships x_entries x_rules x_calls x_gangs x_idle x_moved x_paid x_taped x_at x_end x_begin x_faultAt x_wants), ((bd 21), .inl (y 1, 400, .inl x_tape))] H → va_D A [(ce_xm bd x_thrown x_men x_ships x_entries x_rules x_calls x_gangs x_idle x_moved x_paid x_taped x_at x_end x_begin x_faultAt x_wants), ((bd 21), .inl (y 1, 400, .inl x_tape))] → va_S A s.heap H locs → lv_has ls 1 [(0, .ref (bd 0))] → W p l e ({ frames := 1, cells := 0, slots := 0, locals := 22 }) s m args below meth c H locs 0 0 (MQ below (va_Qv (fun (u : Int32 × Int32) => Q u.1 u.2) (mAt D y A (fun (u : Int32 × Int32) => [(ce_xm bd x_thrown x_men x_ships x_entries x_rules x_calls x_gangs x_idle x_moved x_paid x_taped u.1 x_end u.2 x_faultAt x_wants), ((bd 21), .inl (y 1, 400, .inl x_tape))])) A) args s 0 0 A) (F0 m 0 ls []) := by
  intro n
  induction n with
  | zero => intro x_at hw; rw [wp_Model_blanks_h0] at hw; exact hw.elim
  | succ n ih =>
    intro x_at hw H locs ls hP hD hS hl
    rw [wp_Model_blanks_h0] at hw
    refine lv_aload_n hx hb dX9_blanks_0 rfl (lv_at hl 0 rfl) ?_
    refine lv_bipush (v := 32) hx hb dX9_blanks_1 (by decide) ?_
    refine lv_bipush (v := 32) hx hb dX9_blanks_3 (by decide) ?_
    refine mx_i (wc := [(ce_xm bd x_thrown x_men x_ships x_entries x_rules x_calls x_gangs x_idle x_moved x_paid x_taped x_at x_end x_begin x_faultAt x_wants), ((bd 21), .inl (y 1, 400, .inl x_tape))]) (wr := []) hP hD hS hA [0, 1] [] [0, 1] rfl rfl (by decide) (by decide) (by decide) (fun (u : Unit) => [(ce_xm bd x_thrown x_men x_ships x_entries x_rules x_calls x_gangs x_idle x_moved x_paid x_taped x_at x_end x_begin x_faultAt x_wants), ((bd 21), .inl (y 1, 400, .inl x_tape))]) (fun _ => rfl) (va_runV (As := [.int 32, .int 32]) (rest := []) ⟨hx, hb, hml, hown, hts⟩ (c_Model_isAt l D y bd H.size x_thrown x_men x_ships x_entries x_rules x_calls x_gangs x_idle x_moved x_paid x_taped x_at x_end x_begin x_faultAt x_wants x_tape 32 32 hw) (cwV 2 hts gX9_blanks_X9_isAt rfl rfl rfl (by decide +kernel) ⟨Nat.le_of_ble_eq_true rfl, Nat.le_of_ble_eq_true rfl⟩) ⟨mPre.blind, (va_recv hK hP (ci := 11) (q0 := 0) rfl rfl), mPre.to (hP.sub [0, 1] rfl) hK (hD.sub [0, 1] (by decide) rfl) hE⟩ rfl rfl hl.1 rfl (lv_room (Nat.le_of_ble_eq_true rfl)) dX9_blanks_5 ⟨Nat.le_of_ble_eq_true rfl, Nat.le_of_ble_eq_true rfl⟩) (fun r_1 u H locs hw hP hD hS => ?_)
    try dsimp only at hw
    have hP : va_P D vwCl [(ce_xm bd x_thrown x_men x_ships x_entries x_rules x_calls x_gangs x_idle x_moved x_paid x_taped x_at x_end x_begin x_faultAt x_wants), ((bd 21), .inl (y 1, 400, .inl x_tape))] H := hP
    have hD : va_D A [(ce_xm bd x_thrown x_men x_ships x_entries x_rules x_calls x_gangs x_idle x_moved x_paid x_taped x_at x_end x_begin x_faultAt x_wants), ((bd 21), .inl (y 1, 400, .inl x_tape))] := hD
    refine lv_if_eq (tgt := 24) hx hb dX9_blanks_8 (by decide) (fun hc => ?_) (fun hc => ?_)
    · have hw := hw.1 hc
      refine lv_aload_n hx hb dX9_blanks_24 rfl (lv_at hl 0 rfl) ?_
      refine lv_aload_n hx hb dX9_blanks_25 rfl (lv_at hl 0 rfl) ?_
      refine va_get (ci := 11) (v := .int x_at) (C := RX9) (T := TX9) (N := 47) hx hb hts inw_X9_blanks_X9 hown hK hP 0 rfl rfl 33 (by decide) (hts (.fieldLink RX9 142 "DockCallModel" "at" "I") (by decide +kernel)) (fun _ h9 => h9) rfl dX9_blanks_26 ?_
      refine va_put (ci := 11) (v := .int x_at) (ty := .int) (C := RX9) (T := TX9) (N := 47) hx hb hts inw_X9_blanks_X9 tyX9 tyX9_ok nmX9 hown hK hP hD hS 0 rfl rfl 35 (by decide) (hts (.fieldLink RX9 152 "DockCallModel" "begin" "I") (by decide +kernel)) (fun _ h9 => h9) rfl (by decide +kernel) rfl rfl (Nat.le_of_ble_eq_true rfl) dX9_blanks_29 (fun H locs hP hD hS => ?_)
      have hP : va_P D vwCl [(ce_xm bd x_thrown x_men x_ships x_entries x_rules x_calls x_gangs x_idle x_moved x_paid x_taped x_at x_end x_at x_faultAt x_wants), ((bd 21), .inl (y 1, 400, .inl x_tape))] H := hP
      have hD : va_D A [(ce_xm bd x_thrown x_men x_ships x_entries x_rules x_calls x_gangs x_idle x_moved x_paid x_taped x_at x_end x_at x_faultAt x_wants), ((bd 21), .inl (y 1, 400, .inl x_tape))] := hD
      exact W.vret hx hb hr (fun t ht hW => ⟨⟨(x_at, x_at), rfl, hw, mAt.to hP hK hD ht hW⟩, hS.F ht⟩) hS.2.2 dX9_blanks_32
    · have hw := hw.2 hc
      refine lv_aload_n hx hb dX9_blanks_11 rfl (lv_at hl 0 rfl) ?_
      refine lv_dup hx hb dX9_blanks_12 rfl ?_
      refine va_get (ci := 11) (v := .int x_at) (C := RX9) (T := TX9) (N := 47) hx hb hts inw_X9_blanks_X9 hown hK hP 0 rfl rfl 33 (by decide) (hts (.fieldLink RX9 142 "DockCallModel" "at" "I") (by decide +kernel)) (fun _ h9 => h9) rfl dX9_blanks_13 ?_
      refine lv_iconst (v := 1) hx hb dX9_blanks_16 (by decide) ?_
      refine lv_iadd hx hb dX9_blanks_17 ?_
      refine va_put (ci := 11) (v := .int (x_at + 1)) (ty := .int) (C := RX9) (T := TX9) (N := 47) hx hb hts inw_X9_blanks_X9 tyX9 tyX9_ok nmX9 hown hK hP hD hS 0 rfl rfl 33 (by decide) (hts (.fieldLink RX9 142 "DockCallModel" "at" "I") (by decide +kernel)) (fun _ h9 => h9) rfl (by decide +kernel) rfl rfl (Nat.le_of_ble_eq_true rfl) dX9_blanks_18 (fun H locs hP hD hS => ?_)
      have hP : va_P D vwCl [(ce_xm bd x_thrown x_men x_ships x_entries x_rules x_calls x_gangs x_idle x_moved x_paid x_taped (x_at + 1) x_end x_begin x_faultAt x_wants), ((bd 21), .inl (y 1, 400, .inl x_tape))] H := hP
      have hD : va_D A [(ce_xm bd x_thrown x_men x_ships x_entries x_rules x_calls x_gangs x_idle x_moved x_paid x_taped (x_at + 1) x_end x_begin x_faultAt x_wants), ((bd 21), .inl (y 1, 400, .inl x_tape))] := hD
      refine lv_goto (tgt := 0) hx hb dX9_blanks_21 (by decide) ?_
      exact ih (x_at + 1) hw _ _ _ hP hD hS (lv_sub hl [0] rfl)
set_option maxHeartbeats 4000000 in
set_option maxRecDepth 100000 in
theorem c_Model_blanks (l : Launch) (D : va_G) (y : Nat → ClassId) (bd : Nat → Nat) (sz : Nat) (x_thrown : Int32) (x_men : Int32) (x_ships : Int32) (x_entries : Int32) (x_rules : Int32) (x_calls : Int32) (x_gangs : Int32) (x_idle : Int32) (x_moved : Int64) (x_paid : Int64) (x_taped : Int32) (x_at : Int32) (x_end : Int32) (x_begin : Int32) (x_faultAt : Int32) (x_wants : Int32) (x_tape : Nat → Int32)  {Q : Int32 → Int32 → Prop} (hw : wp_Model_blanks x_at x_end x_tape Q) : Met l yX9_blanks wsX9_blanks ({ frames := 1, cells := 0, slots := 0, locals := 22 }) (va_Pc [.ref (bd 0)] (mPre D y sz [(ce_xm bd x_thrown x_men x_ships x_entries x_rules x_calls x_gangs x_idle x_moved x_paid x_taped x_at x_end x_begin x_faultAt x_wants), ((bd 21), .inl (y 1, 400, .inl x_tape))])) (va_Qv (fun (u : Int32 × Int32) => Q u.1 u.2) (mAt D y (va_A [(ce_xm bd x_thrown x_men x_ships x_entries x_rules x_calls x_gangs x_idle x_moved x_paid x_taped x_at x_end x_begin x_faultAt x_wants), ((bd 21), .inl (y 1, 400, .inl x_tape))] sz) (fun (u : Int32 × Int32) => [(ce_xm bd x_thrown x_men x_ships x_entries x_rules x_calls x_gangs x_idle x_moved x_paid x_taped u.1 x_end u.2 x_faultAt x_wants), ((bd 21), .inl (y 1, 400, .inl x_tape))])) (va_A [(ce_xm bd x_thrown x_men x_ships x_entries x_rules x_calls x_gangs x_idle x_moved x_paid x_taped x_at x_end x_begin x_faultAt x_wants), ((bd 21), .inl (y 1, 400, .inl x_tape))] sz)) 0 0 (va_A [(ce_xm bd x_thrown x_men x_ships x_entries x_rules x_calls x_gangs x_idle x_moved x_paid x_taped x_at x_end x_begin x_faultAt x_wants), ((bd 21), .inl (y 1, 400, .inl x_tape))] sz) := by
  unfold wp_Model_blanks at hw
  refine Met.ofW (cc := cX9_blanks) (maxL := 1) (ret := none) (by decide) rfl ?_
  intro p e s m args below meth c s₁ B hml hv
  obtain ⟨rfl, hsz, hP, hK, hD0, hE⟩ := hv
  have hx := B.exec
  have hb := B.bytes
  have hr := B.returns
  have hts := atoms_spec (ws := wsX9_blanks) B.pre
  have hown : s.vm.findClass RX9 = some m.cls := findClass_of_methodNamed B.named
  have hlocks := B.notSynchronized
  subst hsz
  have hD := hD0.self (sz := s.heap.size)
  generalize hAe : va_A [(ce_xm bd x_thrown x_men x_ships x_entries x_rules x_calls x_gangs x_idle x_moved x_paid x_taped x_at x_end x_begin x_faultAt x_wants), ((bd 21), .inl (y 1, 400, .inl x_tape))] s.heap.size = A at hD ⊢
  have hA : ∀ q : Nat, s.heap.size ≤ q → A q := fun q h => by rw [← hAe]; exact Or.inr h
  have hS : va_S A s.heap s.heap [] := va_S.rf
  have hP : va_P D vwCl [(ce_xm bd x_thrown x_men x_ships x_entries x_rules x_calls x_gangs x_idle x_moved x_paid x_taped x_at x_end x_begin x_faultAt x_wants), ((bd 21), .inl (y 1, 400, .inl x_tape))] s.heap := hP
  have hl := lv_entry ([.ref (bd 0)]) (n := 1) (Nat.le_of_ble_eq_true rfl)
  rw [lg_entry_eq]
  generalize (lg_sl ([.ref (bd 0)]) ++ List.replicate (1 - (lg_sl ([.ref (bd 0)])).length) Slot.unset).toArray = ls at hl ⊢
  have hl : lv_has ls 1 [(0, .ref (bd 0))] := hl
  obtain ⟨n', hw⟩ := hw
  exact c_Model_blanks_h0 hx hb hr hml hown hts hlocks hK hE hA  n' x_at hw _ _ _ hP hD hS (lv_sub hl [0] rfl)
theorem inw_X9_readNumber_X9 : ∀ w ∈ wsX90, w ∈ wsX9_readNumber := fun _ h => List.mem_cons_of_mem _ (List.mem_append_left _ (List.mem_append_right _ h))
def wp_Model_readNumber_h6 (v1 : Int32) (v2 : Int32) (x_end : Int32) (x_begin : Int32) (x_tape : Nat → Int32)  (Q : Int32 → Int32 → Int32 → Prop) : Nat → Int32 → Int32 → Prop
  | 0, _, _ => False
  | n + 1, v3, x_at => (wp_Model_isAt x_at x_end x_tape 48 57 (fun r_3 => ((r_3 = 0 → ((x_at = x_begin → Q (-1) x_at x_begin) ∧ (¬ x_at = x_begin → ((4 < x_at - x_begin → Q (-1) x_at x_begin) ∧ (¬ 4 < x_at - x_begin → ((v3 < v1 → Q (-1) x_at x_begin) ∧ (¬ v3 < v1 → ((v3 ≤ v2 → Q v3 x_at x_begin) ∧ (¬ v3 ≤ v2 → Q (-1) x_at x_begin))))))))) ∧ (¬ r_3 = 0 → ((4 ≤ x_at - x_begin → wp_Model_readNumber_h6 v1 v2 x_end x_begin x_tape Q n v3 (x_at + 1)) ∧ (¬ 4 ≤ x_at - x_begin → (vp_in x_at 400 ∧ wp_Model_readNumber_h6 v1 v2 x_end x_begin x_tape Q n (((10 * v3) + (x_tape x_at.toNatClampNeg)) - 48) (x_at + 1))))))))
def wp_Model_readNumber (x_at : Int32) (x_end : Int32) (x_tape : Nat → Int32) (p0 : Int32) (p1 : Int32) (Q : Int32 → Int32 → Int32 → Prop) : Prop := (wp_Model_blanks x_at x_end x_tape (fun x_at_1 x_begin_2 => (∃ n' : Nat, wp_Model_readNumber_h6 p0 p1 x_end x_begin_2 x_tape Q n' 0 x_at_1)))
set_option maxHeartbeats 4000000 in
set_option maxRecDepth 100000 in
theorem c_Model_readNumber_h6 {p : Program} {l : Launch} {e : Env} {s : State} {m : MethodId} {args : Array Value} {below : List Frame} {meth : Method} {c : Code} {D : va_G} {y : Nat → ClassId} {bd : Nat → Nat} {A : Nat → Prop} (hx : p.tables.exec = Jvm.exec) (hb : c.code = cX9_readNumber) (hr : meth.sig.returnType = some .int) (hml : c.maxLocals = 4) (hown : s.vm.findClass RX9 = some m.cls) (hts : ∀ w ∈ wsX9_readNumber, w.before args s = true) (hlocks : meth.locks = false) (hK : va_K D vwCl (TY y) s) (hE : EV s) (hA : ∀ q, s.heap.size ≤ q → A q) {v1 : Int32} {v2 : Int32} {x_end : Int32} {x_begin : Int32} {x_tape : Nat → Int32} {x_thrown : Int32} {x_men : Int32} {x_ships : Int32} {x_entries : Int32} {x_rules : Int32} {x_calls : Int32} {x_gangs : Int32} {x_idle : Int32} {x_moved : Int64} {x_paid : Int64} {x_taped : Int32} {x_faultAt : Int32} {x_wants : Int32}  {Q : Int32 → Int32 → Int32 → Prop}  : ∀ (n : Nat) (v3 : Int32) (x_at : Int32), wp_Model_readNumber_h6 v1 v2 x_end x_begin x_tape Q n v3 x_at → ∀ (H : Heap) (locs : List Loc) (ls : Array Slot), va_P D vwCl [(ce_xm bd x_thrown x_men x_ships x_entries x_rules x_calls x_gangs x_idle x_moved x_paid x_taped x_at x_end x_begin x_faultAt x_wants), ((bd 21), .inl (y 1, 400, .inl x_tape))] H → va_D A [(ce_xm bd x_thrown x_men x_ships x_entries x_rules x_calls x_gangs x_idle x_moved x_paid x_taped x_at x_end x_begin x_faultAt x_wants), ((bd 21), .inl (y 1, 400, .inl x_tape))] → va_S A s.heap H locs → lv_has ls 4 [(3, .int v3), (0, .ref (bd 0)), (1, .int v1), (2, .int v2)] → W p l e ({ frames := 2, cells := 0, slots := 0, locals := 42 }) s m args below meth c H locs 0 0 (MQ below (va_Qi (fun (r : Int32) (u : Int32 × Int32) => Q r u.1 u.2) (mAt D y A (fun (u : Int32 × Int32) => [(ce_xm bd x_thrown x_men x_ships x_entries x_rules x_calls x_gangs x_idle x_moved x_paid x_taped u.1 x_end u.2 x_faultAt x_wants), ((bd 21), .inl (y 1, 400, .inl x_tape))])) A) args s 0 0 A) (F0 m 6 ls []) := by
  intro n
  induction n with
  | zero => intro v3 x_at hw; rw [wp_Model_readNumber_h6] at hw; exact hw.elim
  | succ n ih =>
    intro v3 x_at hw H locs ls hP hD hS hl
    rw [wp_Model_readNumber_h6] at hw
    refine lv_aload_n hx hb dX9_readNumber_6 rfl (lv_at hl 1 rfl) ?_
    refine lv_bipush (v := 48) hx hb dX9_readNumber_7 (by decide) ?_
    refine lv_bipush (v := 57) hx hb dX9_readNumber_9 (by decide) ?_
    refine mx_i (wc := [(ce_xm bd x_thrown x_men x_ships x_entries x_rules x_calls x_gangs x_idle x_moved x_paid x_taped x_at x_end x_begin x_faultAt x_wants), ((bd 21), .inl (y 1, 400, .inl x_tape))]) (wr := []) hP hD hS hA [0, 1] [] [0, 1] rfl rfl (by decide) (by decide) (by decide) (fun (u : Unit) => [(ce_xm bd x_thrown x_men x_ships x_entries x_rules x_calls x_gangs x_idle x_moved x_paid x_taped x_at x_end x_begin x_faultAt x_wants), ((bd 21), .inl (y 1, 400, .inl x_tape))]) (fun _ => rfl) (va_runV (As := [.int 48, .int 57]) (rest := []) ⟨hx, hb, hml, hown, hts⟩ (c_Model_isAt l D y bd H.size x_thrown x_men x_ships x_entries x_rules x_calls x_gangs x_idle x_moved x_paid x_taped x_at x_end x_begin x_faultAt x_wants x_tape 48 57 hw) (cwV 2 hts gX9_readNumber_X9_isAt rfl rfl rfl (by decide +kernel) ⟨Nat.le_of_ble_eq_true rfl, Nat.le_of_ble_eq_true rfl⟩) ⟨mPre.blind, (va_recv hK hP (ci := 11) (q0 := 0) rfl rfl), mPre.to (hP.sub [0, 1] rfl) hK (hD.sub [0, 1] (by decide) rfl) hE⟩ rfl rfl hl.1 rfl (lv_room (Nat.le_of_ble_eq_true rfl)) dX9_readNumber_11 ⟨Nat.le_of_ble_eq_true rfl, Nat.le_of_ble_eq_true rfl⟩) (fun r_3 u H locs hw hP hD hS => ?_)
    try dsimp only at hw
    have hP : va_P D vwCl [(ce_xm bd x_thrown x_men x_ships x_entries x_rules x_calls x_gangs x_idle x_moved x_paid x_taped x_at x_end x_begin x_faultAt x_wants), ((bd 21), .inl (y 1, 400, .inl x_tape))] H := hP
    have hD : va_D A [(ce_xm bd x_thrown x_men x_ships x_entries x_rules x_calls x_gangs x_idle x_moved x_paid x_taped x_at x_end x_begin x_faultAt x_wants), ((bd 21), .inl (y 1, 400, .inl x_tape))] := hD
    refine lv_if_eq (tgt := 65) hx hb dX9_readNumber_14 (by decide) (fun hc => ?_) (fun hc => ?_)
    · have hw := hw.1 hc
      refine lv_aload_n hx hb dX9_readNumber_65 rfl (lv_at hl 1 rfl) ?_
      refine va_get (ci := 11) (v := .int x_at) (C := RX9) (T := TX9) (N := 47) hx hb hts inw_X9_readNumber_X9 hown hK hP 0 rfl rfl 33 (by decide) (hts (.fieldLink RX9 142 "DockCallModel" "at" "I") (by decide +kernel)) (fun _ h9 => h9) rfl dX9_readNumber_66 ?_
      refine lv_aload_n hx hb dX9_readNumber_69 rfl (lv_at hl 1 rfl) ?_
      refine va_get (ci := 11) (v := .int x_begin) (C := RX9) (T := TX9) (N := 47) hx hb hts inw_X9_readNumber_X9 hown hK hP 0 rfl rfl 35 (by decide) (hts (.fieldLink RX9 152 "DockCallModel" "begin" "I") (by decide +kernel)) (fun _ h9 => h9) rfl dX9_readNumber_70 ?_
      refine lv_icmp_eq (tgt := 99) hx hb dX9_readNumber_73 (by decide) (fun hc => ?_) (fun hc => ?_)
      · have hw := hw.1 hc
        refine lv_iconst (v := (-1)) hx hb dX9_readNumber_99 (by decide) ?_
        refine lv_goto (tgt := 104) hx hb dX9_readNumber_100 (by decide) ?_
        exact W.iret (v := (-1)) hx hb hr (fun t ht hW => ⟨⟨(-1), (x_at, x_begin), rfl, hw, mAt.to hP hK hD ht hW⟩, hS.F ht⟩) hS.2.2 dX9_readNumber_104
      · have hw := hw.2 hc
        refine lv_aload_n hx hb dX9_readNumber_76 rfl (lv_at hl 1 rfl) ?_
        refine va_get (ci := 11) (v := .int x_at) (C := RX9) (T := TX9) (N := 47) hx hb hts inw_X9_readNumber_X9 hown hK hP 0 rfl rfl 33 (by decide) (hts (.fieldLink RX9 142 "DockCallModel" "at" "I") (by decide +kernel)) (fun _ h9 => h9) rfl dX9_readNumber_77 ?_
        refine lv_aload_n hx hb dX9_readNumber_80 rfl (lv_at hl 1 rfl) ?_
        refine va_get (ci := 11) (v := .int x_begin) (C := RX9) (T := TX9) (N := 47) hx hb hts inw_X9_readNumber_X9 hown hK hP 0 rfl rfl 35 (by decide) (hts (.fieldLink RX9 152 "DockCallModel" "begin" "I") (by decide +kernel)) (fun _ h9 => h9) rfl dX9_readNumber_81 ?_
        refine lv_isub hx hb dX9_readNumber_84 ?_
        refine lv_iconst (v := 4) hx hb dX9_readNumber_85 (by decide) ?_
        refine lv_icmp_gt (tgt := 99) hx hb dX9_readNumber_86 (by decide) (fun hc => ?_) (fun hc => ?_)
        · have hw := hw.1 hc
          refine lv_iconst (v := (-1)) hx hb dX9_readNumber_99 (by decide) ?_
          refine lv_goto (tgt := 104) hx hb dX9_readNumber_100 (by decide) ?_
          exact W.iret (v := (-1)) hx hb hr (fun t ht hW => ⟨⟨(-1), (x_at, x_begin), rfl, hw, mAt.to hP hK hD ht hW⟩, hS.F ht⟩) hS.2.2 dX9_readNumber_104
        · have hw := hw.2 hc
          refine lv_iload_n hx hb dX9_readNumber_89 rfl (lv_at hl 0 rfl) ?_
          refine lv_iload_n hx hb dX9_readNumber_90 rfl (lv_at hl 2 rfl) ?_
          refine lv_icmp_lt (tgt := 99) hx hb dX9_readNumber_91 (by decide) (fun hc => ?_) (fun hc => ?_)
          · have hw := hw.1 hc
            refine lv_iconst (v := (-1)) hx hb dX9_readNumber_99 (by decide) ?_
            refine lv_goto (tgt := 104) hx hb dX9_readNumber_100 (by decide) ?_
            exact W.iret (v := (-1)) hx hb hr (fun t ht hW => ⟨⟨(-1), (x_at, x_begin), rfl, hw, mAt.to hP hK hD ht hW⟩, hS.F ht⟩) hS.2.2 dX9_readNumber_104
          · have hw := hw.2 hc
            refine lv_iload_n hx hb dX9_readNumber_94 rfl (lv_at hl 0 rfl) ?_
            refine lv_iload_n hx hb dX9_readNumber_95 rfl (lv_at hl 3 rfl) ?_
            refine lv_icmp_le (tgt := 103) hx hb dX9_readNumber_96 (by decide) (fun hc => ?_) (fun hc => ?_)
            · have hw := hw.1 hc
              refine lv_iload_n hx hb dX9_readNumber_103 rfl (lv_at hl 0 rfl) ?_
              exact W.iret (v := v3) hx hb hr (fun t ht hW => ⟨⟨v3, (x_at, x_begin), rfl, hw, mAt.to hP hK hD ht hW⟩, hS.F ht⟩) hS.2.2 dX9_readNumber_104
            · have hw := hw.2 hc
              refine lv_iconst (v := (-1)) hx hb dX9_readNumber_99 (by decide) ?_
              refine lv_goto (tgt := 104) hx hb dX9_readNumber_100 (by decide) ?_
              exact W.iret (v := (-1)) hx hb hr (fun t ht hW => ⟨⟨(-1), (x_at, x_begin), rfl, hw, mAt.to hP hK hD ht hW⟩, hS.F ht⟩) hS.2.2 dX9_readNumber_104
    · have hw := hw.2 hc
      refine lv_aload_n hx hb dX9_readNumber_17 rfl (lv_at hl 1 rfl) ?_
      refine va_get (ci := 11) (v := .int x_at) (C := RX9) (T := TX9) (N := 47) hx hb hts inw_X9_readNumber_X9 hown hK hP 0 rfl rfl 33 (by decide) (hts (.fieldLink RX9 142 "DockCallModel" "at" "I") (by decide +kernel)) (fun _ h9 => h9) rfl dX9_readNumber_18 ?_
      refine lv_aload_n hx hb dX9_readNumber_21 rfl (lv_at hl 1 rfl) ?_
      refine va_get (ci := 11) (v := .int x_begin) (C := RX9) (T := TX9) (N := 47) hx hb hts inw_X9_readNumber_X9 hown hK hP 0 rfl rfl 35 (by decide) (hts (.fieldLink RX9 152 "DockCallModel" "begin" "I") (by decide +kernel)) (fun _ h9 => h9) rfl dX9_readNumber_22 ?_
      refine lv_isub hx hb dX9_readNumber_25 ?_
      refine lv_iconst (v := 4) hx hb dX9_readNumber_26 (by decide) ?_
      refine lv_icmp_ge (tgt := 50) hx hb dX9_readNumber_27 (by decide) (fun hc => ?_) (fun hc => ?_)
      · have hw := hw.1 hc
        refine lv_iload_n hx hb dX9_readNumber_50 rfl (lv_at hl 0 rfl) ?_
        refine lv_istore_n (lv' := [(3, .int v3), (0, .ref (bd 0)), (1, .int v1), (2, .int v2)]) hx hb dX9_readNumber_51 rfl hl (by decide) rfl (fun ls hl => ?_)
        refine lv_aload_n hx hb dX9_readNumber_52 rfl (lv_at hl 1 rfl) ?_
        refine lv_dup hx hb dX9_readNumber_53 rfl ?_
        refine va_get (ci := 11) (v := .int x_at) (C := RX9) (T := TX9) (N := 47) hx hb hts inw_X9_readNumber_X9 hown hK hP 0 rfl rfl 33 (by decide) (hts (.fieldLink RX9 142 "DockCallModel" "at" "I") (by decide +kernel)) (fun _ h9 => h9) rfl dX9_readNumber_54 ?_
        refine lv_iconst (v := 1) hx hb dX9_readNumber_57 (by decide) ?_
        refine lv_iadd hx hb dX9_readNumber_58 ?_
        refine va_put (ci := 11) (v := .int (x_at + 1)) (ty := .int) (C := RX9) (T := TX9) (N := 47) hx hb hts inw_X9_readNumber_X9 tyX9 tyX9_ok nmX9 hown hK hP hD hS 0 rfl rfl 33 (by decide) (hts (.fieldLink RX9 142 "DockCallModel" "at" "I") (by decide +kernel)) (fun _ h9 => h9) rfl (by decide +kernel) rfl rfl (Nat.le_of_ble_eq_true rfl) dX9_readNumber_59 (fun H locs hP hD hS => ?_)
        have hP : va_P D vwCl [(ce_xm bd x_thrown x_men x_ships x_entries x_rules x_calls x_gangs x_idle x_moved x_paid x_taped (x_at + 1) x_end x_begin x_faultAt x_wants), ((bd 21), .inl (y 1, 400, .inl x_tape))] H := hP
        have hD : va_D A [(ce_xm bd x_thrown x_men x_ships x_entries x_rules x_calls x_gangs x_idle x_moved x_paid x_taped (x_at + 1) x_end x_begin x_faultAt x_wants), ((bd 21), .inl (y 1, 400, .inl x_tape))] := hD
        refine lv_goto (tgt := 6) hx hb dX9_readNumber_62 (by decide) ?_
        exact ih v3 (x_at + 1) hw _ _ _ hP hD hS (lv_sub hl [0, 1, 2, 3] rfl)
      · have hw := hw.2 hc
        refine lv_bipush (v := 10) hx hb dX9_readNumber_30 (by decide) ?_
        refine lv_iload_n hx hb dX9_readNumber_32 rfl (lv_at hl 0 rfl) ?_
        refine lv_imul hx hb dX9_readNumber_33 ?_
        refine lv_aload_n hx hb dX9_readNumber_34 rfl (lv_at hl 1 rfl) ?_
        refine va_get (ci := 11) (v := .ref (bd 21)) (C := RX9) (T := TX9) (N := 47) hx hb hts inw_X9_readNumber_X9 hown hK hP 0 rfl rfl 30 (by decide) (hts (.fieldLink RX9 71 "DockCallModel" "tape" "[B") (by decide +kernel)) (fun _ h9 => h9) rfl dX9_readNumber_35 ?_
        refine lv_aload_n hx hb dX9_readNumber_38 rfl (lv_at hl 1 rfl) ?_
        refine va_get (ci := 11) (v := .int x_at) (C := RX9) (T := TX9) (N := 47) hx hb hts inw_X9_readNumber_X9 hown hK hP 0 rfl rfl 33 (by decide) (hts (.fieldLink RX9 142 "DockCallModel" "at" "I") (by decide +kernel)) (fun _ h9 => h9) rfl dX9_readNumber_39 ?_
        obtain ⟨hi, hw⟩ := hw
        refine va_bald hx hb hK hP 1 1 rfl rfl hi dX9_readNumber_42 ?_
        refine lv_iadd hx hb dX9_readNumber_43 ?_
        refine lv_bipush (v := 48) hx hb dX9_readNumber_44 (by decide) ?_
        refine lv_isub hx hb dX9_readNumber_46 ?_
        refine lv_goto (tgt := 51) hx hb dX9_readNumber_47 (by decide) ?_
        refine lv_istore_n (lv' := [(3, .int (((10 * v3) + (x_tape x_at.toNatClampNeg)) - 48)), (0, .ref (bd 0)), (1, .int v1), (2, .int v2)]) hx hb dX9_readNumber_51 rfl hl (by decide) rfl (fun ls hl => ?_)
        refine lv_aload_n hx hb dX9_readNumber_52 rfl (lv_at hl 1 rfl) ?_
        refine lv_dup hx hb dX9_readNumber_53 rfl ?_
        refine va_get (ci := 11) (v := .int x_at) (C := RX9) (T := TX9) (N := 47) hx hb hts inw_X9_readNumber_X9 hown hK hP 0 rfl rfl 33 (by decide) (hts (.fieldLink RX9 142 "DockCallModel" "at" "I") (by decide +kernel)) (fun _ h9 => h9) rfl dX9_readNumber_54 ?_
        refine lv_iconst (v := 1) hx hb dX9_readNumber_57 (by decide) ?_
        refine lv_iadd hx hb dX9_readNumber_58 ?_
        refine va_put (ci := 11) (v := .int (x_at + 1)) (ty := .int) (C := RX9) (T := TX9) (N := 47) hx hb hts inw_X9_readNumber_X9 tyX9 tyX9_ok nmX9 hown hK hP hD hS 0 rfl rfl 33 (by decide) (hts (.fieldLink RX9 142 "DockCallModel" "at" "I") (by decide +kernel)) (fun _ h9 => h9) rfl (by decide +kernel) rfl rfl (Nat.le_of_ble_eq_true rfl) dX9_readNumber_59 (fun H locs hP hD hS => ?_)
        have hP : va_P D vwCl [(ce_xm bd x_thrown x_men x_ships x_entries x_rules x_calls x_gangs x_idle x_moved x_paid x_taped (x_at + 1) x_end x_begin x_faultAt x_wants), ((bd 21), .inl (y 1, 400, .inl x_tape))] H := hP
        have hD : va_D A [(ce_xm bd x_thrown x_men x_ships x_entries x_rules x_calls x_gangs x_idle x_moved x_paid x_taped (x_at + 1) x_end x_begin x_faultAt x_wants), ((bd 21), .inl (y 1, 400, .inl x_tape))] := hD
        refine lv_goto (tgt := 6) hx hb dX9_readNumber_62 (by decide) ?_
        exact ih (((10 * v3) + (x_tape x_at.toNatClampNeg)) - 48) (x_at + 1) hw _ _ _ hP hD hS (lv_sub hl [0, 1, 2, 3] rfl)
set_option maxHeartbeats 4000000 in
set_option maxRecDepth 100000 in
theorem c_Model_readNumber (l : Launch) (D : va_G) (y : Nat → ClassId) (bd : Nat → Nat) (sz : Nat) (x_thrown : Int32) (x_men : Int32) (x_ships : Int32) (x_entries : Int32) (x_rules : Int32) (x_calls : Int32) (x_gangs : Int32) (x_idle : Int32) (x_moved : Int64) (x_paid : Int64) (x_taped : Int32) (x_at : Int32) (x_end : Int32) (x_begin : Int32) (x_faultAt : Int32) (x_wants : Int32) (x_tape : Nat → Int32) (p0 : Int32) (p1 : Int32) {Q : Int32 → Int32 → Int32 → Prop} (hw : wp_Model_readNumber x_at x_end x_tape p0 p1 Q) : Met l yX9_readNumber wsX9_readNumber ({ frames := 2, cells := 0, slots := 0, locals := 42 }) (va_Pc [.ref (bd 0), .int p0, .int p1] (mPre D y sz [(ce_xm bd x_thrown x_men x_ships x_entries x_rules x_calls x_gangs x_idle x_moved x_paid x_taped x_at x_end x_begin x_faultAt x_wants), ((bd 21), .inl (y 1, 400, .inl x_tape))])) (va_Qi (fun (r : Int32) (u : Int32 × Int32) => Q r u.1 u.2) (mAt D y (va_A [(ce_xm bd x_thrown x_men x_ships x_entries x_rules x_calls x_gangs x_idle x_moved x_paid x_taped x_at x_end x_begin x_faultAt x_wants), ((bd 21), .inl (y 1, 400, .inl x_tape))] sz) (fun (u : Int32 × Int32) => [(ce_xm bd x_thrown x_men x_ships x_entries x_rules x_calls x_gangs x_idle x_moved x_paid x_taped u.1 x_end u.2 x_faultAt x_wants), ((bd 21), .inl (y 1, 400, .inl x_tape))])) (va_A [(ce_xm bd x_thrown x_men x_ships x_entries x_rules x_calls x_gangs x_idle x_moved x_paid x_taped x_at x_end x_begin x_faultAt x_wants), ((bd 21), .inl (y 1, 400, .inl x_tape))] sz)) 0 0 (va_A [(ce_xm bd x_thrown x_men x_ships x_entries x_rules x_calls x_gangs x_idle x_moved x_paid x_taped x_at x_end x_begin x_faultAt x_wants), ((bd 21), .inl (y 1, 400, .inl x_tape))] sz) := by
  unfold wp_Model_readNumber at hw
  refine Met.ofW (cc := cX9_readNumber) (maxL := 4) (ret := some .int) (by decide) rfl ?_
  intro p e s m args below meth c s₁ B hml hv
  obtain ⟨rfl, hsz, hP, hK, hD0, hE⟩ := hv
  have hx := B.exec
  have hb := B.bytes
  have hr := B.returns
  have hts := atoms_spec (ws := wsX9_readNumber) B.pre
  have hown : s.vm.findClass RX9 = some m.cls := findClass_of_methodNamed B.named
  have hlocks := B.notSynchronized
  subst hsz
  have hD := hD0.self (sz := s.heap.size)
  generalize hAe : va_A [(ce_xm bd x_thrown x_men x_ships x_entries x_rules x_calls x_gangs x_idle x_moved x_paid x_taped x_at x_end x_begin x_faultAt x_wants), ((bd 21), .inl (y 1, 400, .inl x_tape))] s.heap.size = A at hD ⊢
  have hA : ∀ q : Nat, s.heap.size ≤ q → A q := fun q h => by rw [← hAe]; exact Or.inr h
  have hS : va_S A s.heap s.heap [] := va_S.rf
  have hP : va_P D vwCl [(ce_xm bd x_thrown x_men x_ships x_entries x_rules x_calls x_gangs x_idle x_moved x_paid x_taped x_at x_end x_begin x_faultAt x_wants), ((bd 21), .inl (y 1, 400, .inl x_tape))] s.heap := hP
  have hl := lv_entry ([.ref (bd 0), .int p0, .int p1]) (n := 4) (Nat.le_of_ble_eq_true rfl)
  rw [lg_entry_eq]
  generalize (lg_sl ([.ref (bd 0), .int p0, .int p1]) ++ List.replicate (4 - (lg_sl ([.ref (bd 0), .int p0, .int p1])).length) Slot.unset).toArray = ls at hl ⊢
  have hl : lv_has ls 4 [(0, .ref (bd 0)), (1, .int p0), (2, .int p1)] := hl
  refine lv_aload_n hx hb dX9_readNumber_0 rfl (lv_at hl 0 rfl) ?_
  refine mx_v (wc := [(ce_xm bd x_thrown x_men x_ships x_entries x_rules x_calls x_gangs x_idle x_moved x_paid x_taped x_at x_end x_begin x_faultAt x_wants), ((bd 21), .inl (y 1, 400, .inl x_tape))]) (wr := []) hP hD hS hA [0, 1] [] [0, 1] rfl rfl (by decide) (by decide) (by decide) (fun (u : Int32 × Int32) => [(ce_xm bd x_thrown x_men x_ships x_entries x_rules x_calls x_gangs x_idle x_moved x_paid x_taped u.1 x_end u.2 x_faultAt x_wants), ((bd 21), .inl (y 1, 400, .inl x_tape))]) (fun _ => rfl) (va_runV (As := []) (rest := []) ⟨hx, hb, hml, hown, hts⟩ (c_Model_blanks l D y bd s.heap.size x_thrown x_men x_ships x_entries x_rules x_calls x_gangs x_idle x_moved x_paid x_taped x_at x_end x_begin x_faultAt x_wants x_tape hw) (cwV 0 hts gX9_readNumber_X9_blanks rfl rfl rfl (by decide +kernel) ⟨Nat.le_of_ble_eq_true rfl, Nat.le_of_ble_eq_true rfl⟩) ⟨mPre.blind, (va_recv hK hP (ci := 11) (q0 := 0) rfl rfl), mPre.to (hP.sub [0, 1] rfl) hK (hD.sub [0, 1] (by decide) rfl) hE⟩ rfl rfl hl.1 rfl (lv_room (Nat.le_of_ble_eq_true rfl)) dX9_readNumber_1 ⟨Nat.le_of_ble_eq_true rfl, Nat.le_of_ble_eq_true rfl⟩) (fun u H locs hw hP hD hS => ?_)
  obtain ⟨x_at_1, x_begin_2⟩ := u
  try dsimp only at hw
  have hP : va_P D vwCl [(ce_xm bd x_thrown x_men x_ships x_entries x_rules x_calls x_gangs x_idle x_moved x_paid x_taped x_at_1 x_end x_begin_2 x_faultAt x_wants), ((bd 21), .inl (y 1, 400, .inl x_tape))] H := hP
  have hD : va_D A [(ce_xm bd x_thrown x_men x_ships x_entries x_rules x_calls x_gangs x_idle x_moved x_paid x_taped x_at_1 x_end x_begin_2 x_faultAt x_wants), ((bd 21), .inl (y 1, 400, .inl x_tape))] := hD
  refine lv_iconst (v := 0) hx hb dX9_readNumber_4 (by decide) ?_
  refine lv_istore_n (lv' := [(3, .int 0), (0, .ref (bd 0)), (1, .int p0), (2, .int p1)]) hx hb dX9_readNumber_5 rfl hl (by decide) rfl (fun ls hl => ?_)
  obtain ⟨n', hw⟩ := hw
  exact c_Model_readNumber_h6 hx hb hr hml hown hts hlocks hK hE hA  n' 0 x_at_1 hw _ _ _ hP hD hS (lv_sub hl [0, 1, 2, 3] rfl)
theorem inw_X9_sets_X9 : ∀ w ∈ wsX90, w ∈ wsX9_sets := fun _ h => List.mem_cons_of_mem _ (List.mem_append_left _ (List.mem_append_right _ h))
def wp_Model_sets (x_at : Int32) (x_end : Int32) (x_draft : Nat → Int32) (x_tape : Nat → Int32) (p0 : Int32) (p1 : Int32) (p2 : Int32) (Q : Int32 → Int32 → Int32 → (Nat → Int32) → Prop) : Prop := (wp_Model_readNumber x_at x_end x_tape p1 p2 (fun r_1 x_at_2 x_begin_3 => ((r_1 < 0 → ((r_1 < 0 → Q 0 x_at_2 x_begin_3 x_draft) ∧ (¬ r_1 < 0 → Q 1 x_at_2 x_begin_3 x_draft))) ∧ (¬ r_1 < 0 → (vp_in p0 11 ∧ ((r_1 < 0 → Q 0 x_at_2 x_begin_3 (upd x_draft p0.toNatClampNeg r_1)) ∧ (¬ r_1 < 0 → Q 1 x_at_2 x_begin_3 (upd x_draft p0.toNatClampNeg r_1))))))))
set_option maxHeartbeats 4000000 in
set_option maxRecDepth 100000 in
theorem c_Model_sets (l : Launch) (D : va_G) (y : Nat → ClassId) (bd : Nat → Nat) (sz : Nat) (x_thrown : Int32) (x_men : Int32) (x_ships : Int32) (x_entries : Int32) (x_rules : Int32) (x_calls : Int32) (x_gangs : Int32) (x_idle : Int32) (x_moved : Int64) (x_paid : Int64) (x_taped : Int32) (x_at : Int32) (x_end : Int32) (x_begin : Int32) (x_faultAt : Int32) (x_wants : Int32) (x_draft : Nat → Int32) (x_tape : Nat → Int32) (p0 : Int32) (p1 : Int32) (p2 : Int32) {Q : Int32 → Int32 → Int32 → (Nat → Int32) → Prop} (hw : wp_Model_sets x_at x_end x_draft x_tape p0 p1 p2 Q) : Met l yX9_sets wsX9_sets ({ frames := 3, cells := 0, slots := 0, locals := 65 }) (va_Pc [.ref (bd 0), .int p0, .int p1, .int p2] (mPre D y sz [(ce_xm bd x_thrown x_men x_ships x_entries x_rules x_calls x_gangs x_idle x_moved x_paid x_taped x_at x_end x_begin x_faultAt x_wants), ((bd 14), .inl (y 0, 11, .inl x_draft)), ((bd 21), .inl (y 1, 400, .inl x_tape))])) (va_Qi (fun (r : Int32) (u : Int32 × Int32 × (Nat → Int32)) => Q r u.1 u.2.1 u.2.2) (mAt D y (va_A [(ce_xm bd x_thrown x_men x_ships x_entries x_rules x_calls x_gangs x_idle x_moved x_paid x_taped x_at x_end x_begin x_faultAt x_wants), ((bd 14), .inl (y 0, 11, .inl x_draft)), ((bd 21), .inl (y 1, 400, .inl x_tape))] sz) (fun (u : Int32 × Int32 × (Nat → Int32)) => [(ce_xm bd x_thrown x_men x_ships x_entries x_rules x_calls x_gangs x_idle x_moved x_paid x_taped u.1 x_end u.2.1 x_faultAt x_wants), ((bd 14), .inl (y 0, 11, .inl u.2.2)), ((bd 21), .inl (y 1, 400, .inl x_tape))])) (va_A [(ce_xm bd x_thrown x_men x_ships x_entries x_rules x_calls x_gangs x_idle x_moved x_paid x_taped x_at x_end x_begin x_faultAt x_wants), ((bd 14), .inl (y 0, 11, .inl x_draft)), ((bd 21), .inl (y 1, 400, .inl x_tape))] sz)) 0 0 (va_A [(ce_xm bd x_thrown x_men x_ships x_entries x_rules x_calls x_gangs x_idle x_moved x_paid x_taped x_at x_end x_begin x_faultAt x_wants), ((bd 14), .inl (y 0, 11, .inl x_draft)), ((bd 21), .inl (y 1, 400, .inl x_tape))] sz) := by
  unfold wp_Model_sets at hw
  refine Met.ofW (cc := cX9_sets) (maxL := 5) (ret := some .boolean) (by decide) rfl ?_
  intro p e s m args below meth c s₁ B hml hv
  obtain ⟨rfl, hsz, hP, hK, hD0, hE⟩ := hv
  have hx := B.exec
  have hb := B.bytes
  have hr := B.returns
  have hts := atoms_spec (ws := wsX9_sets) B.pre
  have hown : s.vm.findClass RX9 = some m.cls := findClass_of_methodNamed B.named
  have hlocks := B.notSynchronized
  subst hsz
  have hD := hD0.self (sz := s.heap.size)
  generalize hAe : va_A [(ce_xm bd x_thrown x_men x_ships x_entries x_rules x_calls x_gangs x_idle x_moved x_paid x_taped x_at x_end x_begin x_faultAt x_wants), ((bd 14), .inl (y 0, 11, .inl x_draft)), ((bd 21), .inl (y 1, 400, .inl x_tape))] s.heap.size = A at hD ⊢
  have hA : ∀ q : Nat, s.heap.size ≤ q → A q := fun q h => by rw [← hAe]; exact Or.inr h
  have hS : va_S A s.heap s.heap [] := va_S.rf
  have hP : va_P D vwCl [(ce_xm bd x_thrown x_men x_ships x_entries x_rules x_calls x_gangs x_idle x_moved x_paid x_taped x_at x_end x_begin x_faultAt x_wants), ((bd 14), .inl (y 0, 11, .inl x_draft)), ((bd 21), .inl (y 1, 400, .inl x_tape))] s.heap := hP
  have hl := lv_entry ([.ref (bd 0), .int p0, .int p1, .int p2]) (n := 5) (Nat.le_of_ble_eq_true rfl)
  rw [lg_entry_eq]
  generalize (lg_sl ([.ref (bd 0), .int p0, .int p1, .int p2]) ++ List.replicate (5 - (lg_sl ([.ref (bd 0), .int p0, .int p1, .int p2])).length) Slot.unset).toArray = ls at hl ⊢
  have hl : lv_has ls 5 [(0, .ref (bd 0)), (1, .int p0), (2, .int p1), (3, .int p2)] := hl
  refine lv_aload_n hx hb dX9_sets_0 rfl (lv_at hl 0 rfl) ?_
  refine lv_iload_n hx hb dX9_sets_1 rfl (lv_at hl 2 rfl) ?_
  refine lv_iload_n hx hb dX9_sets_2 rfl (lv_at hl 3 rfl) ?_
  refine mx_i (wc := [(ce_xm bd x_thrown x_men x_ships x_entries x_rules x_calls x_gangs x_idle x_moved x_paid x_taped x_at x_end x_begin x_faultAt x_wants), ((bd 21), .inl (y 1, 400, .inl x_tape))]) (wr := [((bd 14), .inl (y 0, 11, .inl x_draft))]) hP hD hS hA [0, 2] [1] [1, 0, 2] rfl rfl (by decide) (by decide) (by decide) (fun (u : Int32 × Int32) => [(ce_xm bd x_thrown x_men x_ships x_entries x_rules x_calls x_gangs x_idle x_moved x_paid x_taped u.1 x_end u.2 x_faultAt x_wants), ((bd 14), .inl (y 0, 11, .inl x_draft)), ((bd 21), .inl (y 1, 400, .inl x_tape))]) (fun _ => rfl) (va_runV (As := [.int p1, .int p2]) (rest := []) ⟨hx, hb, hml, hown, hts⟩ (c_Model_readNumber l D y bd s.heap.size x_thrown x_men x_ships x_entries x_rules x_calls x_gangs x_idle x_moved x_paid x_taped x_at x_end x_begin x_faultAt x_wants x_tape p1 p2 hw) (cwV 2 hts gX9_sets_X9_readNumber rfl rfl rfl (by decide +kernel) ⟨Nat.le_of_ble_eq_true rfl, Nat.le_of_ble_eq_true rfl⟩) ⟨mPre.blind, (va_recv hK hP (ci := 11) (q0 := 0) rfl rfl), mPre.to (hP.sub [0, 2] rfl) hK (hD.sub [0, 2] (by decide) rfl) hE⟩ rfl rfl hl.1 rfl (lv_room (Nat.le_of_ble_eq_true rfl)) dX9_sets_3 ⟨Nat.le_of_ble_eq_true rfl, Nat.le_of_ble_eq_true rfl⟩) (fun r_1 u H locs hw hP hD hS => ?_)
  obtain ⟨x_at_2, x_begin_3⟩ := u
  try dsimp only at hw
  have hP : va_P D vwCl [(ce_xm bd x_thrown x_men x_ships x_entries x_rules x_calls x_gangs x_idle x_moved x_paid x_taped x_at_2 x_end x_begin_3 x_faultAt x_wants), ((bd 14), .inl (y 0, 11, .inl x_draft)), ((bd 21), .inl (y 1, 400, .inl x_tape))] H := hP
  have hD : va_D A [(ce_xm bd x_thrown x_men x_ships x_entries x_rules x_calls x_gangs x_idle x_moved x_paid x_taped x_at_2 x_end x_begin_3 x_faultAt x_wants), ((bd 14), .inl (y 0, 11, .inl x_draft)), ((bd 21), .inl (y 1, 400, .inl x_tape))] := hD
  refine lv_istore (lv' := [(4, .int r_1), (0, .ref (bd 0)), (1, .int p0), (2, .int p1), (3, .int p2)]) hx hb dX9_sets_6 hl (by decide) rfl (fun ls hl => ?_)
  refine lv_iload hx hb dX9_sets_8 (lv_at hl 0 rfl) ?_
  refine lv_if_lt (tgt := 21) hx hb dX9_sets_10 (by decide) (fun hc => ?_) (fun hc => ?_)
  · have hw := hw.1 hc
    refine lv_iload hx hb dX9_sets_21 (lv_at hl 0 rfl) ?_
    refine lv_if_lt (tgt := 30) hx hb dX9_sets_23 (by decide) (fun hc => ?_) (fun hc => ?_)
    · have hw := hw.1 hc
      refine lv_iconst (v := 0) hx hb dX9_sets_30 (by decide) ?_
      exact W.zret (v := 0) hx hb hr (by decide) (fun t ht hW => ⟨⟨0, (x_at_2, x_begin_3, x_draft), rfl, hw, mAt.to hP hK hD ht hW⟩, hS.F ht⟩) hS.2.2 dX9_sets_31
    · have hw := hw.2 hc
      refine lv_iconst (v := 1) hx hb dX9_sets_26 (by decide) ?_
      refine lv_goto (tgt := 31) hx hb dX9_sets_27 (by decide) ?_
      exact W.zret (v := 1) hx hb hr (by decide) (fun t ht hW => ⟨⟨1, (x_at_2, x_begin_3, x_draft), rfl, hw, mAt.to hP hK hD ht hW⟩, hS.F ht⟩) hS.2.2 dX9_sets_31
  · have hw := hw.2 hc
    refine lv_aload_n hx hb dX9_sets_13 rfl (lv_at hl 1 rfl) ?_
    refine va_get (ci := 11) (v := .ref (bd 14)) (C := RX9) (T := TX9) (N := 47) hx hb hts inw_X9_sets_X9 hown hK hP 0 rfl rfl 16 (by decide) (hts (.fieldLink RX9 50 "DockCallModel" "draft" "[I") (by decide +kernel)) (fun _ h9 => h9) rfl dX9_sets_14 ?_
    refine lv_iload_n hx hb dX9_sets_17 rfl (lv_at hl 2 rfl) ?_
    refine lv_iload hx hb dX9_sets_18 (lv_at hl 0 rfl) ?_
    obtain ⟨hi, hw⟩ := hw
    refine va_iast hx hb hK hP hD hS 1 0 rfl rfl hi dX9_sets_20 (fun H locs hP hD hS => ?_)
    have hP : va_P D vwCl [(ce_xm bd x_thrown x_men x_ships x_entries x_rules x_calls x_gangs x_idle x_moved x_paid x_taped x_at_2 x_end x_begin_3 x_faultAt x_wants), ((bd 14), .inl (y 0, 11, .inl (upd x_draft p0.toNatClampNeg r_1))), ((bd 21), .inl (y 1, 400, .inl x_tape))] H := hP
    have hD : va_D A [(ce_xm bd x_thrown x_men x_ships x_entries x_rules x_calls x_gangs x_idle x_moved x_paid x_taped x_at_2 x_end x_begin_3 x_faultAt x_wants), ((bd 14), .inl (y 0, 11, .inl (upd x_draft p0.toNatClampNeg r_1))), ((bd 21), .inl (y 1, 400, .inl x_tape))] := hD
    refine lv_iload hx hb dX9_sets_21 (lv_at hl 0 rfl) ?_
    refine lv_if_lt (tgt := 30) hx hb dX9_sets_23 (by decide) (fun hc => ?_) (fun hc => ?_)
    · have hw := hw.1 hc
      refine lv_iconst (v := 0) hx hb dX9_sets_30 (by decide) ?_
      exact W.zret (v := 0) hx hb hr (by decide) (fun t ht hW => ⟨⟨0, (x_at_2, x_begin_3, upd x_draft p0.toNatClampNeg r_1), rfl, hw, mAt.to hP hK hD ht hW⟩, hS.F ht⟩) hS.2.2 dX9_sets_31
    · have hw := hw.2 hc
      refine lv_iconst (v := 1) hx hb dX9_sets_26 (by decide) ?_
      refine lv_goto (tgt := 31) hx hb dX9_sets_27 (by decide) ?_
      exact W.zret (v := 1) hx hb hr (by decide) (fun t ht hW => ⟨⟨1, (x_at_2, x_begin_3, upd x_draft p0.toNatClampNeg r_1), rfl, hw, mAt.to hP hK hD ht hW⟩, hS.F ht⟩) hS.2.2 dX9_sets_31
theorem inw_X9_fault_X9 : ∀ w ∈ wsX90, w ∈ wsX9_fault := fun _ h => List.mem_cons_of_mem _ (List.mem_append_right _ h)
def wp_Model_fault (x_faultAt : Int32) (Q : Int32 → Int32 → Prop) : Prop := Q x_faultAt 0
set_option maxHeartbeats 4000000 in
set_option maxRecDepth 100000 in
theorem c_Model_fault (l : Launch) (D : va_G) (y : Nat → ClassId) (bd : Nat → Nat) (sz : Nat) (x_thrown : Int32) (x_men : Int32) (x_ships : Int32) (x_entries : Int32) (x_rules : Int32) (x_calls : Int32) (x_gangs : Int32) (x_idle : Int32) (x_moved : Int64) (x_paid : Int64) (x_taped : Int32) (x_at : Int32) (x_end : Int32) (x_begin : Int32) (x_faultAt : Int32) (x_wants : Int32)  {Q : Int32 → Int32 → Prop} (hw : wp_Model_fault x_faultAt Q) : Met l yX9_fault wsX9_fault ({ frames := 0, cells := 0, slots := 0, locals := 0 }) (va_Pc [.ref (bd 0)] (mPre D y sz [(ce_xm bd x_thrown x_men x_ships x_entries x_rules x_calls x_gangs x_idle x_moved x_paid x_taped x_at x_end x_begin x_faultAt x_wants)])) (va_Qi (fun (r : Int32) (u : Int32) => Q r u) (mAt D y (va_A [(ce_xm bd x_thrown x_men x_ships x_entries x_rules x_calls x_gangs x_idle x_moved x_paid x_taped x_at x_end x_begin x_faultAt x_wants)] sz) (fun (u : Int32) => [(ce_xm bd u x_men x_ships x_entries x_rules x_calls x_gangs x_idle x_moved x_paid x_taped x_at x_end x_begin x_faultAt x_wants)])) (va_A [(ce_xm bd x_thrown x_men x_ships x_entries x_rules x_calls x_gangs x_idle x_moved x_paid x_taped x_at x_end x_begin x_faultAt x_wants)] sz)) 0 0 (va_A [(ce_xm bd x_thrown x_men x_ships x_entries x_rules x_calls x_gangs x_idle x_moved x_paid x_taped x_at x_end x_begin x_faultAt x_wants)] sz) := by
  unfold wp_Model_fault at hw
  refine Met.ofW (cc := cX9_fault) (maxL := 1) (ret := some .int) (by decide) rfl ?_
  intro p e s m args below meth c s₁ B hml hv
  obtain ⟨rfl, hsz, hP, hK, hD0, hE⟩ := hv
  have hx := B.exec
  have hb := B.bytes
  have hr := B.returns
  have hts := atoms_spec (ws := wsX9_fault) B.pre
  have hown : s.vm.findClass RX9 = some m.cls := findClass_of_methodNamed B.named
  have hlocks := B.notSynchronized
  subst hsz
  have hD := hD0.self (sz := s.heap.size)
  generalize hAe : va_A [(ce_xm bd x_thrown x_men x_ships x_entries x_rules x_calls x_gangs x_idle x_moved x_paid x_taped x_at x_end x_begin x_faultAt x_wants)] s.heap.size = A at hD ⊢
  have hA : ∀ q : Nat, s.heap.size ≤ q → A q := fun q h => by rw [← hAe]; exact Or.inr h
  have hS : va_S A s.heap s.heap [] := va_S.rf
  have hP : va_P D vwCl [(ce_xm bd x_thrown x_men x_ships x_entries x_rules x_calls x_gangs x_idle x_moved x_paid x_taped x_at x_end x_begin x_faultAt x_wants)] s.heap := hP
  have hl := lv_entry ([.ref (bd 0)]) (n := 1) (Nat.le_of_ble_eq_true rfl)
  rw [lg_entry_eq]
  generalize (lg_sl ([.ref (bd 0)]) ++ List.replicate (1 - (lg_sl ([.ref (bd 0)])).length) Slot.unset).toArray = ls at hl ⊢
  have hl : lv_has ls 1 [(0, .ref (bd 0))] := hl
  refine lv_aload_n hx hb dX9_fault_0 rfl (lv_at hl 0 rfl) ?_
  refine lv_iconst (v := 0) hx hb dX9_fault_1 (by decide) ?_
  refine va_put (ci := 11) (v := .int 0) (ty := .int) (C := RX9) (T := TX9) (N := 47) hx hb hts inw_X9_fault_X9 tyX9 tyX9_ok nmX9 hown hK hP hD hS 0 rfl rfl 0 (by decide) (hts (.fieldLink RX9 109 "DockCallModel" "thrown" "I") (by decide +kernel)) (fun _ h9 => h9) rfl (by decide +kernel) rfl rfl (Nat.le_of_ble_eq_true rfl) dX9_fault_2 (fun H locs hP hD hS => ?_)
  have hP : va_P D vwCl [(ce_xm bd 0 x_men x_ships x_entries x_rules x_calls x_gangs x_idle x_moved x_paid x_taped x_at x_end x_begin x_faultAt x_wants)] H := hP
  have hD : va_D A [(ce_xm bd 0 x_men x_ships x_entries x_rules x_calls x_gangs x_idle x_moved x_paid x_taped x_at x_end x_begin x_faultAt x_wants)] := hD
  refine lv_aload_n hx hb dX9_fault_5 rfl (lv_at hl 0 rfl) ?_
  refine va_get (ci := 11) (v := .int x_faultAt) (C := RX9) (T := TX9) (N := 47) hx hb hts inw_X9_fault_X9 hown hK hP 0 rfl rfl 36 (by decide) (hts (.fieldLink RX9 78 "DockCallModel" "faultAt" "I") (by decide +kernel)) (fun _ h9 => h9) rfl dX9_fault_6 ?_
  exact W.iret (v := x_faultAt) hx hb hr (fun t ht hW => ⟨⟨x_faultAt, (0), rfl, hw, mAt.to hP hK hD ht hW⟩, hS.F ht⟩) hS.2.2 dX9_fault_9
theorem inw_X9_says_X9 : ∀ w ∈ wsX90, w ∈ wsX9_says := fun _ h => List.mem_cons_of_mem _ (List.mem_append_left _ (List.mem_append_right _ h))
def wp_Model_says (x_says : Nat → Int32) (p0 : Int32) (Q : Int32 → Int32 → Prop) : Prop := (wp_Model_in p0.toInt64 0 10 (fun r_1 => ((r_1 = 0 → (wp_Model_throwsIf 0 1 1 (fun r_4 x_thrown_5 => ((r_4 = 0 → (vp_in p0 11 ∧ Q (x_says p0.toNatClampNeg) x_thrown_5)) ∧ (¬ r_4 = 0 → Q 0 x_thrown_5))))) ∧ (¬ r_1 = 0 → (wp_Model_throwsIf 0 0 1 (fun r_2 x_thrown_3 => ((r_2 = 0 → (vp_in p0 11 ∧ Q (x_says p0.toNatClampNeg) x_thrown_3)) ∧ (¬ r_2 = 0 → Q 0 x_thrown_3))))))))
set_option maxHeartbeats 4000000 in
set_option maxRecDepth 100000 in
theorem c_Model_says (l : Launch) (D : va_G) (y : Nat → ClassId) (bd : Nat → Nat) (sz : Nat) (x_thrown : Int32) (x_men : Int32) (x_ships : Int32) (x_entries : Int32) (x_rules : Int32) (x_calls : Int32) (x_gangs : Int32) (x_idle : Int32) (x_moved : Int64) (x_paid : Int64) (x_taped : Int32) (x_at : Int32) (x_end : Int32) (x_begin : Int32) (x_faultAt : Int32) (x_wants : Int32) (x_says : Nat → Int32) (p0 : Int32) {Q : Int32 → Int32 → Prop} (hw : wp_Model_says x_says p0 Q) : Met l yX9_says wsX9_says ({ frames := 1, cells := 0, slots := 0, locals := 25 }) (va_Pc [.ref (bd 0), .int p0] (mPre D y sz [(ce_xm bd x_thrown x_men x_ships x_entries x_rules x_calls x_gangs x_idle x_moved x_paid x_taped x_at x_end x_begin x_faultAt x_wants), ((bd 13), .inl (y 0, 11, .inl x_says))])) (va_Qi (fun (r : Int32) (u : Int32) => Q r u) (mAt D y (va_A [(ce_xm bd x_thrown x_men x_ships x_entries x_rules x_calls x_gangs x_idle x_moved x_paid x_taped x_at x_end x_begin x_faultAt x_wants), ((bd 13), .inl (y 0, 11, .inl x_says))] sz) (fun (u : Int32) => [(ce_xm bd u x_men x_ships x_entries x_rules x_calls x_gangs x_idle x_moved x_paid x_taped x_at x_end x_begin x_faultAt x_wants), ((bd 13), .inl (y 0, 11, .inl x_says))])) (va_A [(ce_xm bd x_thrown x_men x_ships x_entries x_rules x_calls x_gangs x_idle x_moved x_paid x_taped x_at x_end x_begin x_faultAt x_wants), ((bd 13), .inl (y 0, 11, .inl x_says))] sz)) 0 0 (va_A [(ce_xm bd x_thrown x_men x_ships x_entries x_rules x_calls x_gangs x_idle x_moved x_paid x_taped x_at x_end x_begin x_faultAt x_wants), ((bd 13), .inl (y 0, 11, .inl x_says))] sz) := by
  unfold wp_Model_says at hw
  refine Met.ofW (cc := cX9_says) (maxL := 2) (ret := some .int) (by decide) rfl ?_
  intro p e s m args below meth c s₁ B hml hv
  obtain ⟨rfl, hsz, hP, hK, hD0, hE⟩ := hv
  have hx := B.exec
  have hb := B.bytes
  have hr := B.returns
  have hts := atoms_spec (ws := wsX9_says) B.pre
  have hown : s.vm.findClass RX9 = some m.cls := findClass_of_methodNamed B.named
  have hlocks := B.notSynchronized
  subst hsz
  have hD := hD0.self (sz := s.heap.size)
  generalize hAe : va_A [(ce_xm bd x_thrown x_men x_ships x_entries x_rules x_calls x_gangs x_idle x_moved x_paid x_taped x_at x_end x_begin x_faultAt x_wants), ((bd 13), .inl (y 0, 11, .inl x_says))] s.heap.size = A at hD ⊢
  have hA : ∀ q : Nat, s.heap.size ≤ q → A q := fun q h => by rw [← hAe]; exact Or.inr h
  have hS : va_S A s.heap s.heap [] := va_S.rf
  have hP : va_P D vwCl [(ce_xm bd x_thrown x_men x_ships x_entries x_rules x_calls x_gangs x_idle x_moved x_paid x_taped x_at x_end x_begin x_faultAt x_wants), ((bd 13), .inl (y 0, 11, .inl x_says))] s.heap := hP
  have hl := lv_entry ([.ref (bd 0), .int p0]) (n := 2) (Nat.le_of_ble_eq_true rfl)
  rw [lg_entry_eq]
  generalize (lg_sl ([.ref (bd 0), .int p0]) ++ List.replicate (2 - (lg_sl ([.ref (bd 0), .int p0])).length) Slot.unset).toArray = ls at hl ⊢
  have hl : lv_has ls 2 [(0, .ref (bd 0)), (1, .int p0)] := hl
  refine lv_aload_n hx hb dX9_says_0 rfl (lv_at hl 0 rfl) ?_
  refine lv_iconst (v := 0) hx hb dX9_says_1 (by decide) ?_
  refine va_put (ci := 11) (v := .int 0) (ty := .int) (C := RX9) (T := TX9) (N := 47) hx hb hts inw_X9_says_X9 tyX9 tyX9_ok nmX9 hown hK hP hD hS 0 rfl rfl 0 (by decide) (hts (.fieldLink RX9 109 "DockCallModel" "thrown" "I") (by decide +kernel)) (fun _ h9 => h9) rfl (by decide +kernel) rfl rfl (Nat.le_of_ble_eq_true rfl) dX9_says_2 (fun H locs hP hD hS => ?_)
  have hP : va_P D vwCl [(ce_xm bd 0 x_men x_ships x_entries x_rules x_calls x_gangs x_idle x_moved x_paid x_taped x_at x_end x_begin x_faultAt x_wants), ((bd 13), .inl (y 0, 11, .inl x_says))] H := hP
  have hD : va_D A [(ce_xm bd 0 x_men x_ships x_entries x_rules x_calls x_gangs x_idle x_moved x_paid x_taped x_at x_end x_begin x_faultAt x_wants), ((bd 13), .inl (y 0, 11, .inl x_says))] := hD
  refine lv_aload_n hx hb dX9_says_5 rfl (lv_at hl 0 rfl) ?_
  refine lv_iload_n hx hb dX9_says_6 rfl (lv_at hl 1 rfl) ?_
  refine lv_i2l hx hb dX9_says_7 rfl ?_
  refine lv_lconst (v := 0) hx hb dX9_says_8 (by decide) ?_
  refine lv_ldc2 hx hb hown (hts (.constantLong RX9 211 10) (by decide +kernel)) dX9_says_9 ?_
  refine mx_i (wc := []) (wr := [(ce_xm bd 0 x_men x_ships x_entries x_rules x_calls x_gangs x_idle x_moved x_paid x_taped x_at x_end x_begin x_faultAt x_wants), ((bd 13), .inl (y 0, 11, .inl x_says))]) hP hD hS hA [] [0, 1] [0, 1] rfl rfl (by decide) (by decide) (by decide) (fun (u : Unit) => [(ce_xm bd 0 x_men x_ships x_entries x_rules x_calls x_gangs x_idle x_moved x_paid x_taped x_at x_end x_begin x_faultAt x_wants), ((bd 13), .inl (y 0, 11, .inl x_says))]) (fun _ => rfl) (va_runS (As := [.long p0.toInt64, .long 0, .long 10]) (rest := [.ref (bd 0)]) ⟨hx, hb, hml, hown, hts⟩ (c_Model_in l D y H.size p0.toInt64 0 10 hw) (va_cwS 3 hts gX9_says_X9_in rfl rfl rfl (by decide +kernel) ⟨Nat.le_of_ble_eq_true rfl, Nat.le_of_ble_eq_true rfl⟩) ⟨mPre.blind, mPre.to (hP.sub [] rfl) hK (hD.sub [] (by decide) rfl) hE⟩ rfl rfl hl.1 rfl (lv_room (Nat.le_of_ble_eq_true rfl)) dX9_says_12 ⟨Nat.le_of_ble_eq_true rfl, Nat.le_of_ble_eq_true rfl⟩) (fun r_1 u H locs hw hP hD hS => ?_)
  try dsimp only at hw
  have hP : va_P D vwCl [(ce_xm bd 0 x_men x_ships x_entries x_rules x_calls x_gangs x_idle x_moved x_paid x_taped x_at x_end x_begin x_faultAt x_wants), ((bd 13), .inl (y 0, 11, .inl x_says))] H := hP
  have hD : va_D A [(ce_xm bd 0 x_men x_ships x_entries x_rules x_calls x_gangs x_idle x_moved x_paid x_taped x_at x_end x_begin x_faultAt x_wants), ((bd 13), .inl (y 0, 11, .inl x_says))] := hD
  refine lv_if_ne (tgt := 22) hx hb dX9_says_15 (by decide) (fun hc => ?_) (fun hc => ?_)
  · have hw := hw.2 hc
    refine lv_iconst (v := 0) hx hb dX9_says_22 (by decide) ?_
    refine lv_iconst (v := 1) hx hb dX9_says_23 (by decide) ?_
    refine mx_i (wc := [(ce_xm bd 0 x_men x_ships x_entries x_rules x_calls x_gangs x_idle x_moved x_paid x_taped x_at x_end x_begin x_faultAt x_wants)]) (wr := [((bd 13), .inl (y 0, 11, .inl x_says))]) hP hD hS hA [0] [1] [1, 0] rfl rfl (by decide) (by decide) (by decide) (fun (u : Int32) => [(ce_xm bd u x_men x_ships x_entries x_rules x_calls x_gangs x_idle x_moved x_paid x_taped x_at x_end x_begin x_faultAt x_wants), ((bd 13), .inl (y 0, 11, .inl x_says))]) (fun _ => rfl) (va_runV (As := [.int 0, .int 1]) (rest := []) ⟨hx, hb, hml, hown, hts⟩ (c_Model_throwsIf l D y bd H.size 0 x_men x_ships x_entries x_rules x_calls x_gangs x_idle x_moved x_paid x_taped x_at x_end x_begin x_faultAt x_wants 0 1 hw) (cwV 2 hts gX9_says_X9_throwsIf rfl rfl rfl (by decide +kernel) ⟨Nat.le_of_ble_eq_true rfl, Nat.le_of_ble_eq_true rfl⟩) ⟨mPre.blind, (va_recv hK hP (ci := 11) (q0 := 0) rfl rfl), mPre.to (hP.sub [0] rfl) hK (hD.sub [0] (by decide) rfl) hE⟩ rfl rfl hl.1 rfl (lv_room (Nat.le_of_ble_eq_true rfl)) dX9_says_24 ⟨Nat.le_of_ble_eq_true rfl, Nat.le_of_ble_eq_true rfl⟩) (fun r_2 u H locs hw hP hD hS => ?_)
    obtain ⟨x_thrown_3, rfl⟩ : ∃ z, z = u := ⟨_, rfl⟩
    try dsimp only at hw
    have hP : va_P D vwCl [(ce_xm bd x_thrown_3 x_men x_ships x_entries x_rules x_calls x_gangs x_idle x_moved x_paid x_taped x_at x_end x_begin x_faultAt x_wants), ((bd 13), .inl (y 0, 11, .inl x_says))] H := hP
    have hD : va_D A [(ce_xm bd x_thrown_3 x_men x_ships x_entries x_rules x_calls x_gangs x_idle x_moved x_paid x_taped x_at x_end x_begin x_faultAt x_wants), ((bd 13), .inl (y 0, 11, .inl x_says))] := hD
    refine lv_if_eq (tgt := 34) hx hb dX9_says_27 (by decide) (fun hc => ?_) (fun hc => ?_)
    · have hw := hw.1 hc
      refine lv_aload_n hx hb dX9_says_34 rfl (lv_at hl 0 rfl) ?_
      refine va_get (ci := 11) (v := .ref (bd 13)) (C := RX9) (T := TX9) (N := 47) hx hb hts inw_X9_says_X9 hown hK hP 0 rfl rfl 15 (by decide) (hts (.fieldLink RX9 47 "DockCallModel" "says" "[I") (by decide +kernel)) (fun _ h9 => h9) rfl dX9_says_35 ?_
      refine lv_iload_n hx hb dX9_says_38 rfl (lv_at hl 1 rfl) ?_
      obtain ⟨hi, hw⟩ := hw
      refine va_iald hx hb hK hP 1 0 rfl rfl hi dX9_says_39 ?_
      exact W.iret (v := x_says p0.toNatClampNeg) hx hb hr (fun t ht hW => ⟨⟨x_says p0.toNatClampNeg, (x_thrown_3), rfl, hw, mAt.to hP hK hD ht hW⟩, hS.F ht⟩) hS.2.2 dX9_says_40
    · have hw := hw.2 hc
      refine lv_iconst (v := 0) hx hb dX9_says_30 (by decide) ?_
      refine lv_goto (tgt := 40) hx hb dX9_says_31 (by decide) ?_
      exact W.iret (v := 0) hx hb hr (fun t ht hW => ⟨⟨0, (x_thrown_3), rfl, hw, mAt.to hP hK hD ht hW⟩, hS.F ht⟩) hS.2.2 dX9_says_40
  · have hw := hw.1 hc
    refine lv_iconst (v := 1) hx hb dX9_says_18 (by decide) ?_
    refine lv_goto (tgt := 23) hx hb dX9_says_19 (by decide) ?_
    refine lv_iconst (v := 1) hx hb dX9_says_23 (by decide) ?_
    refine mx_i (wc := [(ce_xm bd 0 x_men x_ships x_entries x_rules x_calls x_gangs x_idle x_moved x_paid x_taped x_at x_end x_begin x_faultAt x_wants)]) (wr := [((bd 13), .inl (y 0, 11, .inl x_says))]) hP hD hS hA [0] [1] [1, 0] rfl rfl (by decide) (by decide) (by decide) (fun (u : Int32) => [(ce_xm bd u x_men x_ships x_entries x_rules x_calls x_gangs x_idle x_moved x_paid x_taped x_at x_end x_begin x_faultAt x_wants), ((bd 13), .inl (y 0, 11, .inl x_says))]) (fun _ => rfl) (va_runV (As := [.int 1, .int 1]) (rest := []) ⟨hx, hb, hml, hown, hts⟩ (c_Model_throwsIf l D y bd H.size 0 x_men x_ships x_entries x_rules x_calls x_gangs x_idle x_moved x_paid x_taped x_at x_end x_begin x_faultAt x_wants 1 1 hw) (cwV 2 hts gX9_says_X9_throwsIf rfl rfl rfl (by decide +kernel) ⟨Nat.le_of_ble_eq_true rfl, Nat.le_of_ble_eq_true rfl⟩) ⟨mPre.blind, (va_recv hK hP (ci := 11) (q0 := 0) rfl rfl), mPre.to (hP.sub [0] rfl) hK (hD.sub [0] (by decide) rfl) hE⟩ rfl rfl hl.1 rfl (lv_room (Nat.le_of_ble_eq_true rfl)) dX9_says_24 ⟨Nat.le_of_ble_eq_true rfl, Nat.le_of_ble_eq_true rfl⟩) (fun r_4 u H locs hw hP hD hS => ?_)
    obtain ⟨x_thrown_5, rfl⟩ : ∃ z, z = u := ⟨_, rfl⟩
    try dsimp only at hw
    have hP : va_P D vwCl [(ce_xm bd x_thrown_5 x_men x_ships x_entries x_rules x_calls x_gangs x_idle x_moved x_paid x_taped x_at x_end x_begin x_faultAt x_wants), ((bd 13), .inl (y 0, 11, .inl x_says))] H := hP
    have hD : va_D A [(ce_xm bd x_thrown_5 x_men x_ships x_entries x_rules x_calls x_gangs x_idle x_moved x_paid x_taped x_at x_end x_begin x_faultAt x_wants), ((bd 13), .inl (y 0, 11, .inl x_says))] := hD
    refine lv_if_eq (tgt := 34) hx hb dX9_says_27 (by decide) (fun hc => ?_) (fun hc => ?_)
    · have hw := hw.1 hc
      refine lv_aload_n hx hb dX9_says_34 rfl (lv_at hl 0 rfl) ?_
      refine va_get (ci := 11) (v := .ref (bd 13)) (C := RX9) (T := TX9) (N := 47) hx hb hts inw_X9_says_X9 hown hK hP 0 rfl rfl 15 (by decide) (hts (.fieldLink RX9 47 "DockCallModel" "says" "[I") (by decide +kernel)) (fun _ h9 => h9) rfl dX9_says_35 ?_
      refine lv_iload_n hx hb dX9_says_38 rfl (lv_at hl 1 rfl) ?_
      obtain ⟨hi, hw⟩ := hw
      refine va_iald hx hb hK hP 1 0 rfl rfl hi dX9_says_39 ?_
      exact W.iret (v := x_says p0.toNatClampNeg) hx hb hr (fun t ht hW => ⟨⟨x_says p0.toNatClampNeg, (x_thrown_5), rfl, hw, mAt.to hP hK hD ht hW⟩, hS.F ht⟩) hS.2.2 dX9_says_40
    · have hw := hw.2 hc
      refine lv_iconst (v := 0) hx hb dX9_says_30 (by decide) ?_
      refine lv_goto (tgt := 40) hx hb dX9_says_31 (by decide) ?_
      exact W.iret (v := 0) hx hb hr (fun t ht hW => ⟨⟨0, (x_thrown_5), rfl, hw, mAt.to hP hK hD ht hW⟩, hS.F ht⟩) hS.2.2 dX9_says_40
