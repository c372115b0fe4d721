def wp_Reader_isLetter (p0 : Int32) (Q : Int32 → Prop) : Prop := ((p0 < 97 → Q 0) ∧ (¬ p0 < 97 → ((122 < p0 → Q 0) ∧ (¬ 122 < p0 → Q 1))))
set_option maxHeartbeats 4000000 in
set_option maxRecDepth 100000 in
theorem c_Reader_isLetter (l : Launch) (D : va_G) (y : Nat → ClassId) (sz : Nat)  (p0 : Int32) {Q : Int32 → Prop} (hw : wp_Reader_isLetter p0 Q) : Met l yX4_isLetter wsX4_isLetter ({ frames := 0, cells := 0, slots := 0, locals := 0 }) (va_Pc [.int p0] (mPre D y sz [])) (va_Qi (fun (r : Int32) (u : Unit) => Q r ) (mAt D y (va_A [] sz) (fun (u : Unit) => [])) (va_A [] sz)) 0 0 (va_A [] sz) := by
  unfold wp_Reader_isLetter at hw
  refine Met.ofW (cc := cX4_isLetter) (maxL := 1) (ret := some .boolean) (by decide) rfl ?_
  intro p e s m args below meth c s₁ B hml hv
  obtain ⟨rfl, hsz, hP, hK, hD0, hE⟩ := hv
  have hx := B.exec
  have hb := B.bytes
  have hr := B.returns
  have hts := atoms_spec (ws := wsX4_isLetter) B.pre
  have hown : s.vm.findClass RX4 = some m.cls := findClass_of_methodNamed B.named
  have hlocks := B.notSynchronized
  subst hsz
  have hD := hD0.self (sz := s.heap.size)
  generalize hAe : va_A [] s.heap.size = A at hD ⊢
  have hA : ∀ q : Nat, s.heap.size ≤ q → A q := fun q h => by rw [← hAe]; exact Or.inr h
  have hS : va_S A s.heap s.heap [] := va_S.rf
  have hP : va_P D vwCl [] s.heap := hP
  have hl := lv_entry ([.int p0]) (n := 1) (Nat.le_of_ble_eq_true rfl)
  rw [lg_entry_eq]
  generalize (lg_sl ([.int p0]) ++ List.replicate (1 - (lg_sl ([.int p0])).length) Slot.unset).toArray = ls at hl ⊢
  have hl : lv_has ls 1 [(0, .int p0)] := hl
  refine lv_iload_n hx hb dX4_isLetter_0 rfl (lv_at hl 0 rfl) ?_
  refine lv_bipush (v := 97) hx hb dX4_isLetter_1 (by decide) ?_
  refine lv_icmp_lt (tgt := 16) hx hb dX4_isLetter_3 (by decide) (fun hc => ?_) (fun hc => ?_)
  · have hw := hw.1 hc
    refine lv_iconst (v := 0) hx hb dX4_isLetter_16 (by decide) ?_
    exact W.zret (v := 0) hx hb hr (by decide) (fun t ht hW => ⟨⟨0, (), rfl, hw, mAt.to hP hK hD ht hW⟩, hS.F ht⟩) hS.2.2 dX4_isLetter_17
  · have hw := hw.2 hc
    refine lv_iload_n hx hb dX4_isLetter_6 rfl (lv_at hl 0 rfl) ?_
    refine lv_bipush (v := 122) hx hb dX4_isLetter_7 (by decide) ?_
    refine lv_icmp_gt (tgt := 16) hx hb dX4_isLetter_9 (by decide) (fun hc => ?_) (fun hc => ?_)
    · have hw := hw.1 hc
      refine lv_iconst (v := 0) hx hb dX4_isLetter_16 (by decide) ?_
      exact W.zret (v := 0) hx hb hr (by decide) (fun t ht hW => ⟨⟨0, (), rfl, hw, mAt.to hP hK hD ht hW⟩, hS.F ht⟩) hS.2.2 dX4_isLetter_17
    · have hw := hw.2 hc
      refine lv_iconst (v := 1) hx hb dX4_isLetter_12 (by decide) ?_
      refine lv_goto (tgt := 17) hx hb dX4_isLetter_13 (by decide) ?_
      exact W.zret (v := 1) hx hb hr (by decide) (fun t ht hW => ⟨⟨1, (), rfl, hw, mAt.to hP hK hD ht hW⟩, hS.F ht⟩) hS.2.2 dX4_isLetter_17
def wp_Reader_isDigit (p0 : Int32) (Q : Int32 → Prop) : Prop := ((p0 < 48 → Q 0) ∧ (¬ p0 < 48 → ((57 < p0 → Q 0) ∧ (¬ 57 < p0 → Q 1))))
set_option maxHeartbeats 4000000 in
set_option maxRecDepth 100000 in
theorem c_Reader_isDigit (l : Launch) (D : va_G) (y : Nat → ClassId) (sz : Nat)  (p0 : Int32) {Q : Int32 → Prop} (hw : wp_Reader_isDigit p0 Q) : Met l yX4_isDigit wsX4_isDigit ({ frames := 0, cells := 0, slots := 0, locals := 0 }) (va_Pc [.int p0] (mPre D y sz [])) (va_Qi (fun (r : Int32) (u : Unit) => Q r ) (mAt D y (va_A [] sz) (fun (u : Unit) => [])) (va_A [] sz)) 0 0 (va_A [] sz) := by
  unfold wp_Reader_isDigit at hw
  refine Met.ofW (cc := cX4_isDigit) (maxL := 1) (ret := some .boolean) (by decide) rfl ?_
  intro p e s m args below meth c s₁ B hml hv
  obtain ⟨rfl, hsz, hP, hK, hD0, hE⟩ := hv
  have hx := B.exec
  have hb := B.bytes
  have hr := B.returns
  have hts := atoms_spec (ws := wsX4_isDigit) B.pre
  have hown : s.vm.findClass RX4 = some m.cls := findClass_of_methodNamed B.named
  have hlocks := B.notSynchronized
  subst hsz
  have hD := hD0.self (sz := s.heap.size)
  generalize hAe : va_A [] s.heap.size = A at hD ⊢
  have hA : ∀ q : Nat, s.heap.size ≤ q → A q := fun q h => by rw [← hAe]; exact Or.inr h
  have hS : va_S A s.heap s.heap [] := va_S.rf
  have hP : va_P D vwCl [] s.heap := hP
  have hl := lv_entry ([.int p0]) (n := 1) (Nat.le_of_ble_eq_true rfl)
  rw [lg_entry_eq]
  generalize (lg_sl ([.int p0]) ++ List.replicate (1 - (lg_sl ([.int p0])).length) Slot.unset).toArray = ls at hl ⊢
  have hl : lv_has ls 1 [(0, .int p0)] := hl
  refine lv_iload_n hx hb dX4_isDigit_0 rfl (lv_at hl 0 rfl) ?_
  refine lv_bipush (v := 48) hx hb dX4_isDigit_1 (by decide) ?_
  refine lv_icmp_lt (tgt := 16) hx hb dX4_isDigit_3 (by decide) (fun hc => ?_) (fun hc => ?_)
  · have hw := hw.1 hc
    refine lv_iconst (v := 0) hx hb dX4_isDigit_16 (by decide) ?_
    exact W.zret (v := 0) hx hb hr (by decide) (fun t ht hW => ⟨⟨0, (), rfl, hw, mAt.to hP hK hD ht hW⟩, hS.F ht⟩) hS.2.2 dX4_isDigit_17
  · have hw := hw.2 hc
    refine lv_iload_n hx hb dX4_isDigit_6 rfl (lv_at hl 0 rfl) ?_
    refine lv_bipush (v := 57) hx hb dX4_isDigit_7 (by decide) ?_
    refine lv_icmp_gt (tgt := 16) hx hb dX4_isDigit_9 (by decide) (fun hc => ?_) (fun hc => ?_)
    · have hw := hw.1 hc
      refine lv_iconst (v := 0) hx hb dX4_isDigit_16 (by decide) ?_
      exact W.zret (v := 0) hx hb hr (by decide) (fun t ht hW => ⟨⟨0, (), rfl, hw, mAt.to hP hK hD ht hW⟩, hS.F ht⟩) hS.2.2 dX4_isDigit_17
    · have hw := hw.2 hc
      refine lv_iconst (v := 1) hx hb dX4_isDigit_12 (by decide) ?_
      refine lv_goto (tgt := 17) hx hb dX4_isDigit_13 (by decide) ?_
      exact W.zret (v := 1) hx hb hr (by decide) (fun t ht hW => ⟨⟨1, (), rfl, hw, mAt.to hP hK hD ht hW⟩, hS.F ht⟩) hS.2.2 dX4_isDigit_17
theorem inw_X4_wrongHere_X4 : ∀ w ∈ wsX40, w ∈ wsX4_wrongHere := fun _ h => List.mem_cons_of_mem _ (List.mem_append_right _ h)
def wp_Reader_wrongHere (p0 : Int32) (Q : Int32 → Int32 → Prop) : Prop := Q (-1) p0
set_option maxHeartbeats 4000000 in
set_option maxRecDepth 100000 in
theorem c_Reader_wrongHere (l : Launch) (D : va_G) (y : Nat → ClassId) (ad : Nat → Nat) (sz : Nat) (e_at : Int32) (e_wrongAt : Int32) (p0 : Int32) {Q : Int32 → Int32 → Prop} (hw : wp_Reader_wrongHere p0 Q) : Met l yX4_wrongHere wsX4_wrongHere ({ frames := 0, cells := 0, slots := 0, locals := 0 }) (va_Pc [.ref (ad 4), .int p0] (mPre D y sz [(ce_rd ad e_at e_wrongAt)])) (va_Qi (fun (r : Int32) (u : Int32) => Q r u) (mAt D y (va_A [(ce_rd ad e_at e_wrongAt)] sz) (fun (u : Int32) => [(ce_rd ad e_at u)])) (va_A [(ce_rd ad e_at e_wrongAt)] sz)) 0 0 (va_A [(ce_rd ad e_at e_wrongAt)] sz) := by
  unfold wp_Reader_wrongHere at hw
  refine Met.ofW (cc := cX4_wrongHere) (maxL := 2) (ret := some .int) (by decide) rfl ?_
  intro p e s m args below meth c s₁ B hml hv
  obtain ⟨rfl, hsz, hP, hK, hD0, hE⟩ := hv
  have hx := B.exec
  have hb := B.bytes
  have hr := B.returns
  have hts := atoms_spec (ws := wsX4_wrongHere) B.pre
  have hown : s.vm.findClass RX4 = some m.cls := findClass_of_methodNamed B.named
  have hlocks := B.notSynchronized
  subst hsz
  have hD := hD0.self (sz := s.heap.size)
  generalize hAe : va_A [(ce_rd ad e_at e_wrongAt)] s.heap.size = A at hD ⊢
  have hA : ∀ q : Nat, s.heap.size ≤ q → A q := fun q h => by rw [← hAe]; exact Or.inr h
  have hS : va_S A s.heap s.heap [] := va_S.rf
  have hP : va_P D vwCl [(ce_rd ad e_at e_wrongAt)] s.heap := hP
  have hl := lv_entry ([.ref (ad 4), .int p0]) (n := 2) (Nat.le_of_ble_eq_true rfl)
  rw [lg_entry_eq]
  generalize (lg_sl ([.ref (ad 4), .int p0]) ++ List.replicate (2 - (lg_sl ([.ref (ad 4), .int p0])).length) Slot.unset).toArray = ls at hl ⊢
  have hl : lv_has ls 2 [(0, .ref (ad 4)), (1, .int p0)] := hl
  refine lv_aload_n hx hb dX4_wrongHere_0 rfl (lv_at hl 0 rfl) ?_
  refine lv_iload_n hx hb dX4_wrongHere_1 rfl (lv_at hl 1 rfl) ?_
  refine va_put (ci := 6) (v := .int p0) (ty := .int) (C := RX4) (T := TX4) (N := 4) hx hb hts inw_X4_wrongHere_X4 tyX4 tyX4_ok nmX4 hown hK hP hD hS 0 rfl rfl 3 (by decide) (hts (.fieldLink RX4 15 "DockCall$Reader" "wrongAt" "I") (by decide +kernel)) (fun _ h9 => h9) rfl (by decide +kernel) rfl rfl (Nat.le_of_ble_eq_true rfl) dX4_wrongHere_2 (fun H locs hP hD hS => ?_)
  have hP : va_P D vwCl [(ce_rd ad e_at p0)] H := hP
  have hD : va_D A [(ce_rd ad e_at p0)] := hD
  refine lv_iconst (v := (-1)) hx hb dX4_wrongHere_5 (by decide) ?_
  exact W.iret (v := (-1)) hx hb hr (fun t ht hW => ⟨⟨(-1), (p0), rfl, hw, mAt.to hP hK hD ht hW⟩, hS.F ht⟩) hS.2.2 dX4_wrongHere_6
theorem inw_X4_skipBlanks_X4 : ∀ w ∈ wsX40, w ∈ wsX4_skipBlanks := fun _ h => List.mem_cons_of_mem _ (List.mem_append_left _ (List.mem_append_left _ (List.mem_append_right _ h)))
theorem inw_X4_skipBlanks_X7 : ∀ w ∈ wsX70, w ∈ wsX4_skipBlanks := fun _ h => List.mem_cons_of_mem _ (List.mem_append_left _ (List.mem_append_right _ h))
def wp_Reader_skipBlanks_h0 (t_length : Int32) (t_bytes : Nat → Int32)  (Q : Int32 → Prop) : Nat → Int32 → Prop
  | 0, _ => False
  | n + 1, e_at => ((t_length ≤ e_at → Q e_at) ∧ (¬ t_length ≤ e_at → (wp_Tape_byteAt t_length t_bytes e_at (fun r_1 => ((r_1 = 32 → wp_Reader_skipBlanks_h0 t_length t_bytes Q n (e_at + 1)) ∧ (¬ r_1 = 32 → Q e_at))))))
def wp_Reader_skipBlanks (t_length : Int32) (t_bytes : Nat → Int32) (e_at : Int32) (Q : Int32 → Prop) : Prop := (∃ n' : Nat, wp_Reader_skipBlanks_h0 t_length t_bytes Q n' e_at)
set_option maxHeartbeats 4000000 in
set_option maxRecDepth 100000 in
theorem c_Reader_skipBlanks_h0 {p : Program} {l : Launch} {e : Env} {s : State} {m : MethodId} {args : Array Value} {below : List Frame} {meth : Method} {c : Code} {D : va_G} {y : Nat → ClassId} {ad : Nat → Nat} {A : Nat → Prop} (hx : p.tables.exec = Jvm.exec) (hb : c.code = cX4_skipBlanks) (hr : meth.sig.returnType = none) (hml : c.maxLocals = 1) (hown : s.vm.findClass RX4 = some m.cls) (hts : ∀ w ∈ wsX4_skipBlanks, w.before args s = true) (hlocks : meth.locks = false) (hK : va_K D vwCl (TY y) s) (hE : EV s) (hA : ∀ q, s.heap.size ≤ q → A q) {t_length : Int32} {t_bytes : Nat → Int32} {e_wrongAt : Int32}  {Q : Int32 → Prop}  : ∀ (n : Nat) (e_at : Int32), wp_Reader_skipBlanks_h0 t_length t_bytes Q n e_at → ∀ (H : Heap) (locs : List Loc) (ls : Array Slot), va_P D vwCl [(ce_tp ad t_length), ((ad 2), .inl (y 1, 400, .inl t_bytes)), (ce_rd ad e_at e_wrongAt)] H → va_D A [(ce_tp ad t_length), ((ad 2), .inl (y 1, 400, .inl t_bytes)), (ce_rd ad e_at e_wrongAt)] → va_S A s.heap H locs → lv_has ls 1 [(0, .ref (ad 4))] → W p l e ({ frames := 1, cells := 0, slots := 0, locals := 21 }) s m args below meth c H locs 0 0 (MQ below (va_Qv (fun (u : Int32) => Q u) (mAt D y A (fun (u : Int32) => [(ce_tp ad t_length), ((ad 2), .inl (y 1, 400, .inl t_bytes)), (ce_rd ad u e_wrongAt)])) A) args s 0 0 A) (F0 m 0 ls []) := by
  intro n
  induction n with
  | zero => intro e_at hw; rw [wp_Reader_skipBlanks_h0] at hw; exact hw.elim
  | succ n ih =>
    intro e_at hw H locs ls hP hD hS hl
    rw [wp_Reader_skipBlanks_h0] at hw
    refine lv_aload_n hx hb dX4_skipBlanks_0 rfl (lv_at hl 0 rfl) ?_
    refine va_get (ci := 6) (v := .int e_at) (C := RX4) (T := TX4) (N := 4) hx hb hts inw_X4_skipBlanks_X4 hown hK hP 2 rfl rfl 2 (by decide) (hts (.fieldLink RX4 29 "DockCall$Reader" "at" "I") (by decide +kernel)) (fun _ h9 => h9) rfl dX4_skipBlanks_1 ?_
    refine lv_aload_n hx hb dX4_skipBlanks_4 rfl (lv_at hl 0 rfl) ?_
    refine va_get (ci := 6) (v := .ref (ad 1)) (C := RX4) (T := TX4) (N := 4) hx hb hts inw_X4_skipBlanks_X4 hown hK hP 2 rfl rfl 0 (by decide) (hts (.fieldLink RX4 19 "DockCall$Reader" "tape" "LDockCall$Tape;") (by decide +kernel)) (fun _ h9 => h9) rfl dX4_skipBlanks_5 ?_
    refine va_getN (ci := 9) (v := .int t_length) (C := RX7) (T := TX7) (N := 2) hx hb hts inw_X4_skipBlanks_X7 hown hK hP 0 rfl rfl 1 (by decide) (hE.use nwf_RX4_39) (fun _ h9 => h9) rfl dX4_skipBlanks_8 ?_
    refine lv_icmp_ge (tgt := 43) hx hb dX4_skipBlanks_11 (by decide) (fun hc => ?_) (fun hc => ?_)
    · have hw := hw.1 hc
      exact W.vret hx hb hr (fun t ht hW => ⟨⟨(e_at), rfl, hw, mAt.to hP hK hD ht hW⟩, hS.F ht⟩) hS.2.2 dX4_skipBlanks_43
    · have hw := hw.2 hc
      refine lv_aload_n hx hb dX4_skipBlanks_14 rfl (lv_at hl 0 rfl) ?_
      refine va_get (ci := 6) (v := .ref (ad 1)) (C := RX4) (T := TX4) (N := 4) hx hb hts inw_X4_skipBlanks_X4 hown hK hP 2 rfl rfl 0 (by decide) (hts (.fieldLink RX4 19 "DockCall$Reader" "tape" "LDockCall$Tape;") (by decide +kernel)) (fun _ h9 => h9) rfl dX4_skipBlanks_15 ?_
      refine lv_aload_n hx hb dX4_skipBlanks_18 rfl (lv_at hl 0 rfl) ?_
      refine va_get (ci := 6) (v := .int e_at) (C := RX4) (T := TX4) (N := 4) hx hb hts inw_X4_skipBlanks_X4 hown hK hP 2 rfl rfl 2 (by decide) (hts (.fieldLink RX4 29 "DockCall$Reader" "at" "I") (by decide +kernel)) (fun _ h9 => h9) rfl dX4_skipBlanks_19 ?_
      refine mx_i (wc := [(ce_tp ad t_length), ((ad 2), .inl (y 1, 400, .inl t_bytes))]) (wr := [(ce_rd ad e_at e_wrongAt)]) hP hD hS hA [0, 1] [2] [1, 2, 0] rfl rfl (by decide) (by decide) (by decide) (fun (u : Unit) => [(ce_tp ad t_length), ((ad 2), .inl (y 1, 400, .inl t_bytes)), (ce_rd ad e_at e_wrongAt)]) (fun _ => rfl) (va_runVN (C := RX7) (As := [.int e_at]) (rest := []) ⟨hx, hb, hml, hown, hts⟩ (c_Tape_byteAt l D y ad H.size t_length t_bytes e_at hw) ⟨va_cnB 1 hts gX4_skipBlanks_X7_byteAt_n44 rfl rfl rfl (hE _ nwm_RX4_44) (hts (.initialized RX7) (by decide +kernel)) (by decide +kernel) ⟨Nat.le_of_ble_eq_true rfl, Nat.le_of_ble_eq_true rfl⟩, (hts (.instanceMethod yX7_byteAt) (by decide +kernel)), (hts (.selects RX7 yX7_byteAt yX7_byteAt) (by decide +kernel))⟩ ⟨mPre.blind, (va_recv hK hP (ci := 9) (q0 := 0) rfl rfl), mPre.to (hP.sub [0, 1] rfl) hK (hD.sub [0, 1] (by decide) rfl) hE⟩ rfl rfl hl.1 rfl (lv_room (Nat.le_of_ble_eq_true rfl)) dX4_skipBlanks_22 ⟨Nat.le_of_ble_eq_true rfl, Nat.le_of_ble_eq_true rfl⟩) (fun r_1 u H locs hw hP hD hS => ?_)
      try dsimp only at hw
      have hP : va_P D vwCl [(ce_tp ad t_length), ((ad 2), .inl (y 1, 400, .inl t_bytes)), (ce_rd ad e_at e_wrongAt)] H := hP
      have hD : va_D A [(ce_tp ad t_length), ((ad 2), .inl (y 1, 400, .inl t_bytes)), (ce_rd ad e_at e_wrongAt)] := hD
      refine lv_bipush (v := 32) hx hb dX4_skipBlanks_25 (by decide) ?_
      refine lv_icmp_ne (tgt := 43) hx hb dX4_skipBlanks_27 (by decide) (fun hc => ?_) (fun hc => ?_)
      · have hw := hw.2 hc
        exact W.vret hx hb hr (fun t ht hW => ⟨⟨(e_at), rfl, hw, mAt.to hP hK hD ht hW⟩, hS.F ht⟩) hS.2.2 dX4_skipBlanks_43
      · have hw := hw.1 hc
        refine lv_aload_n hx hb dX4_skipBlanks_30 rfl (lv_at hl 0 rfl) ?_
        refine lv_dup hx hb dX4_skipBlanks_31 rfl ?_
        refine va_get (ci := 6) (v := .int e_at) (C := RX4) (T := TX4) (N := 4) hx hb hts inw_X4_skipBlanks_X4 hown hK hP 2 rfl rfl 2 (by decide) (hts (.fieldLink RX4 29 "DockCall$Reader" "at" "I") (by decide +kernel)) (fun _ h9 => h9) rfl dX4_skipBlanks_32 ?_
        refine lv_iconst (v := 1) hx hb dX4_skipBlanks_35 (by decide) ?_
        refine lv_iadd hx hb dX4_skipBlanks_36 ?_
        refine va_put (ci := 6) (v := .int (e_at + 1)) (ty := .int) (C := RX4) (T := TX4) (N := 4) hx hb hts inw_X4_skipBlanks_X4 tyX4 tyX4_ok nmX4 hown hK hP hD hS 2 rfl rfl 2 (by decide) (hts (.fieldLink RX4 29 "DockCall$Reader" "at" "I") (by decide +kernel)) (fun _ h9 => h9) rfl (by decide +kernel) rfl rfl (Nat.le_of_ble_eq_true rfl) dX4_skipBlanks_37 (fun H locs hP hD hS => ?_)
        have hP : va_P D vwCl [(ce_tp ad t_length), ((ad 2), .inl (y 1, 400, .inl t_bytes)), (ce_rd ad (e_at + 1) e_wrongAt)] H := hP
        have hD : va_D A [(ce_tp ad t_length), ((ad 2), .inl (y 1, 400, .inl t_bytes)), (ce_rd ad (e_at + 1) e_wrongAt)] := hD
        refine lv_goto (tgt := 0) hx hb dX4_skipBlanks_40 (by decide) ?_
        exact ih (e_at + 1) hw _ _ _ hP hD hS (lv_sub hl [0] rfl)
set_option maxHeartbeats 4000000 in
set_option maxRecDepth 100000 in
theorem c_Reader_skipBlanks (l : Launch) (D : va_G) (y : Nat → ClassId) (ad : Nat → Nat) (sz : Nat) (t_length : Int32) (t_bytes : Nat → Int32) (e_at : Int32) (e_wrongAt : Int32)  {Q : Int32 → Prop} (hw : wp_Reader_skipBlanks t_length t_bytes e_at Q) : Met l yX4_skipBlanks wsX4_skipBlanks ({ frames := 1, cells := 0, slots := 0, locals := 21 }) (va_Pc [.ref (ad 4)] (mPre D y sz [(ce_tp ad t_length), ((ad 2), .inl (y 1, 400, .inl t_bytes)), (ce_rd ad e_at e_wrongAt)])) (va_Qv (fun (u : Int32) => Q u) (mAt D y (va_A [(ce_tp ad t_length), ((ad 2), .inl (y 1, 400, .inl t_bytes)), (ce_rd ad e_at e_wrongAt)] sz) (fun (u : Int32) => [(ce_tp ad t_length), ((ad 2), .inl (y 1, 400, .inl t_bytes)), (ce_rd ad u e_wrongAt)])) (va_A [(ce_tp ad t_length), ((ad 2), .inl (y 1, 400, .inl t_bytes)), (ce_rd ad e_at e_wrongAt)] sz)) 0 0 (va_A [(ce_tp ad t_length), ((ad 2), .inl (y 1, 400, .inl t_bytes)), (ce_rd ad e_at e_wrongAt)] sz) := by
  unfold wp_Reader_skipBlanks at hw
  refine Met.ofW (cc := cX4_skipBlanks) (maxL := 1) (ret := none) (by decide) rfl ?_
  intro p e s m args below meth c s₁ B hml hv
  obtain ⟨rfl, hsz, hP, hK, hD0, hE⟩ := hv
  have hx := B.exec
  have hb := B.bytes
  have hr := B.returns
  have hts := atoms_spec (ws := wsX4_skipBlanks) B.pre
  have hown : s.vm.findClass RX4 = some m.cls := findClass_of_methodNamed B.named
  have hlocks := B.notSynchronized
  subst hsz
  have hD := hD0.self (sz := s.heap.size)
  generalize hAe : va_A [(ce_tp ad t_length), ((ad 2), .inl (y 1, 400, .inl t_bytes)), (ce_rd ad e_at e_wrongAt)] s.heap.size = A at hD ⊢
  have hA : ∀ q : Nat, s.heap.size ≤ q → A q := fun q h => by rw [← hAe]; exact Or.inr h
  have hS : va_S A s.heap s.heap [] := va_S.rf
  have hP : va_P D vwCl [(ce_tp ad t_length), ((ad 2), .inl (y 1, 400, .inl t_bytes)), (ce_rd ad e_at e_wrongAt)] s.heap := hP
  have hl := lv_entry ([.ref (ad 4)]) (n := 1) (Nat.le_of_ble_eq_true rfl)
  rw [lg_entry_eq]
  generalize (lg_sl ([.ref (ad 4)]) ++ List.replicate (1 - (lg_sl ([.ref (ad 4)])).length) Slot.unset).toArray = ls at hl ⊢
  have hl : lv_has ls 1 [(0, .ref (ad 4))] := hl
  obtain ⟨n', hw⟩ := hw
  exact c_Reader_skipBlanks_h0 hx hb hr hml hown hts hlocks hK hE hA  n' e_at hw _ _ _ hP hD hS (lv_sub hl [0] rfl)
theorem inw_X4_wordEnd_X4 : ∀ w ∈ wsX40, w ∈ wsX4_wordEnd := fun _ h => List.mem_cons_of_mem _ (List.mem_append_left _ (List.mem_append_left _ (List.mem_append_right _ h)))
theorem inw_X4_wordEnd_X7 : ∀ w ∈ wsX70, w ∈ wsX4_wordEnd := fun _ h => List.mem_cons_of_mem _ (List.mem_append_left _ (List.mem_append_right _ h))
def wp_Reader_wordEnd_h2 (t_length : Int32) (t_bytes : Nat → Int32)  (Q : Int32 → Prop) : Nat → Int32 → Prop
  | 0, _ => False
  | n + 1, v2 => ((t_length ≤ v2 → Q v2) ∧ (¬ t_length ≤ v2 → (wp_Tape_byteAt t_length t_bytes v2 (fun r_1 => (wp_Reader_isLetter r_1 (fun r_2 => ((r_2 = 0 → Q v2) ∧ (¬ r_2 = 0 → wp_Reader_wordEnd_h2 t_length t_bytes Q n (v2 + 1)))))))))
def wp_Reader_wordEnd (t_length : Int32) (t_bytes : Nat → Int32) (p0 : Int32) (Q : Int32 → Prop) : Prop := (∃ n' : Nat, wp_Reader_wordEnd_h2 t_length t_bytes Q n' p0)
set_option maxHeartbeats 4000000 in
set_option maxRecDepth 100000 in
theorem c_Reader_wordEnd_h2 {p : Program} {l : Launch} {e : Env} {s : State} {m : MethodId} {args : Array Value} {below : List Frame} {meth : Method} {c : Code} {D : va_G} {y : Nat → ClassId} {ad : Nat → Nat} {A : Nat → Prop} (hx : p.tables.exec = Jvm.exec) (hb : c.code = cX4_wordEnd) (hr : meth.sig.returnType = some .int) (hml : c.maxLocals = 3) (hown : s.vm.findClass RX4 = some m.cls) (hts : ∀ w ∈ wsX4_wordEnd, w.before args s = true) (hlocks : meth.locks = false) (hK : va_K D vwCl (TY y) s) (hE : EV s) (hA : ∀ q, s.heap.size ≤ q → A q) {v1 : Int32} {t_length : Int32} {t_bytes : Nat → Int32} {e_at : Int32} {e_wrongAt : Int32}  {Q : Int32 → Prop}  : ∀ (n : Nat) (v2 : Int32), wp_Reader_wordEnd_h2 t_length t_bytes Q n v2 → ∀ (H : Heap) (locs : List Loc) (ls : Array Slot), va_P D vwCl [(ce_tp ad t_length), ((ad 2), .inl (y 1, 400, .inl t_bytes)), (ce_rd ad e_at e_wrongAt)] H → va_D A [(ce_tp ad t_length), ((ad 2), .inl (y 1, 400, .inl t_bytes)), (ce_rd ad e_at e_wrongAt)] → va_S A s.heap H locs → lv_has ls 3 [(2, .int v2), (0, .ref (ad 4)), (1, .int v1)] → W p l e ({ frames := 1, cells := 0, slots := 0, locals := 21 }) s m args below meth c H locs 0 0 (MQ below (va_Qi (fun (r : Int32) (u : Unit) => Q r ) (mAt D y A (fun (u : Unit) => [(ce_tp ad t_length), ((ad 2), .inl (y 1, 400, .inl t_bytes)), (ce_rd ad e_at e_wrongAt)])) A) args s 0 0 A) (F0 m 2 ls []) := by
  intro n
  induction n with
  | zero => intro v2 hw; rw [wp_Reader_wordEnd_h2] at hw; exact hw.elim
  | succ n ih =>
    intro v2 hw H locs ls hP hD hS hl
    rw [wp_Reader_wordEnd_h2] at hw
    refine lv_iload_n hx hb dX4_wordEnd_2 rfl (lv_at hl 0 rfl) ?_
    refine lv_aload_n hx hb dX4_wordEnd_3 rfl (lv_at hl 1 rfl) ?_
    refine va_get (ci := 6) (v := .ref (ad 1)) (C := RX4) (T := TX4) (N := 4) hx hb hts inw_X4_wordEnd_X4 hown hK hP 2 rfl rfl 0 (by decide) (hts (.fieldLink RX4 19 "DockCall$Reader" "tape" "LDockCall$Tape;") (by decide +kernel)) (fun _ h9 => h9) rfl dX4_wordEnd_4 ?_
    refine va_getN (ci := 9) (v := .int t_length) (C := RX7) (T := TX7) (N := 2) hx hb hts inw_X4_wordEnd_X7 hown hK hP 0 rfl rfl 1 (by decide) (hE.use nwf_RX4_39) (fun _ h9 => h9) rfl dX4_wordEnd_7 ?_
    refine lv_icmp_ge (tgt := 33) hx hb dX4_wordEnd_10 (by decide) (fun hc => ?_) (fun hc => ?_)
    · have hw := hw.1 hc
      refine lv_iload_n hx hb dX4_wordEnd_33 rfl (lv_at hl 0 rfl) ?_
      exact W.iret (v := v2) hx hb hr (fun t ht hW => ⟨⟨v2, (), rfl, hw, mAt.to hP hK hD ht hW⟩, hS.F ht⟩) hS.2.2 dX4_wordEnd_34
    · have hw := hw.2 hc
      refine lv_aload_n hx hb dX4_wordEnd_13 rfl (lv_at hl 1 rfl) ?_
      refine va_get (ci := 6) (v := .ref (ad 1)) (C := RX4) (T := TX4) (N := 4) hx hb hts inw_X4_wordEnd_X4 hown hK hP 2 rfl rfl 0 (by decide) (hts (.fieldLink RX4 19 "DockCall$Reader" "tape" "LDockCall$Tape;") (by decide +kernel)) (fun _ h9 => h9) rfl dX4_wordEnd_14 ?_
      refine lv_iload_n hx hb dX4_wordEnd_17 rfl (lv_at hl 0 rfl) ?_
      refine mx_i (wc := [(ce_tp ad t_length), ((ad 2), .inl (y 1, 400, .inl t_bytes))]) (wr := [(ce_rd ad e_at e_wrongAt)]) hP hD hS hA [0, 1] [2] [1, 2, 0] rfl rfl (by decide) (by decide) (by decide) (fun (u : Unit) => [(ce_tp ad t_length), ((ad 2), .inl (y 1, 400, .inl t_bytes)), (ce_rd ad e_at e_wrongAt)]) (fun _ => rfl) (va_runVN (C := RX7) (As := [.int v2]) (rest := []) ⟨hx, hb, hml, hown, hts⟩ (c_Tape_byteAt l D y ad H.size t_length t_bytes v2 hw) ⟨va_cnB 1 hts gX4_wordEnd_X7_byteAt_n44 rfl rfl rfl (hE _ nwm_RX4_44) (hts (.initialized RX7) (by decide +kernel)) (by decide +kernel) ⟨Nat.le_of_ble_eq_true rfl, Nat.le_of_ble_eq_true rfl⟩, (hts (.instanceMethod yX7_byteAt) (by decide +kernel)), (hts (.selects RX7 yX7_byteAt yX7_byteAt) (by decide +kernel))⟩ ⟨mPre.blind, (va_recv hK hP (ci := 9) (q0 := 0) rfl rfl), mPre.to (hP.sub [0, 1] rfl) hK (hD.sub [0, 1] (by decide) rfl) hE⟩ rfl rfl hl.1 rfl (lv_room (Nat.le_of_ble_eq_true rfl)) dX4_wordEnd_18 ⟨Nat.le_of_ble_eq_true rfl, Nat.le_of_ble_eq_true rfl⟩) (fun r_1 u H locs hw hP hD hS => ?_)
      try dsimp only at hw
      have hP : va_P D vwCl [(ce_tp ad t_length), ((ad 2), .inl (y 1, 400, .inl t_bytes)), (ce_rd ad e_at e_wrongAt)] H := hP
      have hD : va_D A [(ce_tp ad t_length), ((ad 2), .inl (y 1, 400, .inl t_bytes)), (ce_rd ad e_at e_wrongAt)] := hD
      refine mx_i (wc := []) (wr := [(ce_tp ad t_length), ((ad 2), .inl (y 1, 400, .inl t_bytes)), (ce_rd ad e_at e_wrongAt)]) hP hD hS hA [] [0, 1, 2] [0, 1, 2] rfl rfl (by decide) (by decide) (by decide) (fun (u : Unit) => [(ce_tp ad t_length), ((ad 2), .inl (y 1, 400, .inl t_bytes)), (ce_rd ad e_at e_wrongAt)]) (fun _ => rfl) (va_runS (As := [.int r_1]) (rest := []) ⟨hx, hb, hml, hown, hts⟩ (c_Reader_isLetter l D y H.size r_1 hw) (va_cwS 1 hts gX4_wordEnd_X4_isLetter rfl rfl rfl (by decide +kernel) ⟨Nat.le_of_ble_eq_true rfl, Nat.le_of_ble_eq_true rfl⟩) ⟨mPre.blind, mPre.to (hP.sub [] rfl) hK (hD.sub [] (by decide) rfl) hE⟩ rfl rfl hl.1 rfl (lv_room (Nat.le_of_ble_eq_true rfl)) dX4_wordEnd_21 ⟨Nat.le_of_ble_eq_true rfl, Nat.le_of_ble_eq_true rfl⟩) (fun r_2 u H locs hw hP hD hS => ?_)
      try dsimp only at hw
      have hP : va_P D vwCl [(ce_tp ad t_length), ((ad 2), .inl (y 1, 400, .inl t_bytes)), (ce_rd ad e_at e_wrongAt)] H := hP
      have hD : va_D A [(ce_tp ad t_length), ((ad 2), .inl (y 1, 400, .inl t_bytes)), (ce_rd ad e_at e_wrongAt)] := hD
      refine lv_if_eq (tgt := 33) hx hb dX4_wordEnd_24 (by decide) (fun hc => ?_) (fun hc => ?_)
      · have hw := hw.1 hc
        refine lv_iload_n hx hb dX4_wordEnd_33 rfl (lv_at hl 0 rfl) ?_
        exact W.iret (v := v2) hx hb hr (fun t ht hW => ⟨⟨v2, (), rfl, hw, mAt.to hP hK hD ht hW⟩, hS.F ht⟩) hS.2.2 dX4_wordEnd_34
      · have hw := hw.2 hc
        refine lv_iinc (v := v2 + 1) (lv' := [(2, .int (v2 + 1)), (0, .ref (ad 4)), (1, .int v1)]) hx hb dX4_wordEnd_27 hl (k := 0) rfl (by first | rfl | decide) (by decide) rfl (fun ls hl => ?_)
        refine lv_goto (tgt := 2) hx hb dX4_wordEnd_30 (by decide) ?_
        exact ih (v2 + 1)  hw _ _ _ hP hD hS (lv_sub hl [0, 1, 2] rfl)
set_option maxHeartbeats 4000000 in
set_option maxRecDepth 100000 in
theorem c_Reader_wordEnd (l : Launch) (D : va_G) (y : Nat → ClassId) (ad : Nat → Nat) (sz : Nat) (t_length : Int32) (t_bytes : Nat → Int32) (e_at : Int32) (e_wrongAt : Int32) (p0 : Int32) {Q : Int32 → Prop} (hw : wp_Reader_wordEnd t_length t_bytes p0 Q) : Met l yX4_wordEnd wsX4_wordEnd ({ frames := 1, cells := 0, slots := 0, locals := 21 }) (va_Pc [.ref (ad 4), .int p0] (mPre D y sz [(ce_tp ad t_length), ((ad 2), .inl (y 1, 400, .inl t_bytes)), (ce_rd ad e_at e_wrongAt)])) (va_Qi (fun (r : Int32) (u : Unit) => Q r ) (mAt D y (va_A [(ce_tp ad t_length), ((ad 2), .inl (y 1, 400, .inl t_bytes)), (ce_rd ad e_at e_wrongAt)] sz) (fun (u : Unit) => [(ce_tp ad t_length), ((ad 2), .inl (y 1, 400, .inl t_bytes)), (ce_rd ad e_at e_wrongAt)])) (va_A [(ce_tp ad t_length), ((ad 2), .inl (y 1, 400, .inl t_bytes)), (ce_rd ad e_at e_wrongAt)] sz)) 0 0 (va_A [(ce_tp ad t_length), ((ad 2), .inl (y 1, 400, .inl t_bytes)), (ce_rd ad e_at e_wrongAt)] sz) := by
  unfold wp_Reader_wordEnd at hw
  refine Met.ofW (cc := cX4_wordEnd) (maxL := 3) (ret := some .int) (by decide) rfl ?_
  intro p e s m args below meth c s₁ B hml hv
  obtain ⟨rfl, hsz, hP, hK, hD0, hE⟩ := hv
  have hx := B.exec
  have hb := B.bytes
  have hr := B.returns
  have hts := atoms_spec (ws := wsX4_wordEnd) B.pre
  have hown : s.vm.findClass RX4 = some m.cls := findClass_of_methodNamed B.named
  have hlocks := B.notSynchronized
  subst hsz
  have hD := hD0.self (sz := s.heap.size)
  generalize hAe : va_A [(ce_tp ad t_length), ((ad 2), .inl (y 1, 400, .inl t_bytes)), (ce_rd ad e_at e_wrongAt)] s.heap.size = A at hD ⊢
  have hA : ∀ q : Nat, s.heap.size ≤ q → A q := fun q h => by rw [← hAe]; exact Or.inr h
  have hS : va_S A s.heap s.heap [] := va_S.rf
  have hP : va_P D vwCl [(ce_tp ad t_length), ((ad 2), .inl (y 1, 400, .inl t_bytes)), (ce_rd ad e_at e_wrongAt)] s.heap := hP
  have hl := lv_entry ([.ref (ad 4), .int p0]) (n := 3) (Nat.le_of_ble_eq_true rfl)
  rw [lg_entry_eq]
  generalize (lg_sl ([.ref (ad 4), .int p0]) ++ List.replicate (3 - (lg_sl ([.ref (ad 4), .int p0])).length) Slot.unset).toArray = ls at hl ⊢
  have hl : lv_has ls 3 [(0, .ref (ad 4)), (1, .int p0)] := hl
  refine lv_iload_n hx hb dX4_wordEnd_0 rfl (lv_at hl 1 rfl) ?_
  refine lv_istore_n (lv' := [(2, .int p0), (0, .ref (ad 4)), (1, .int p0)]) hx hb dX4_wordEnd_1 rfl hl (by decide) rfl (fun ls hl => ?_)
  obtain ⟨n', hw⟩ := hw
  exact c_Reader_wordEnd_h2 hx hb hr hml hown hts hlocks hK hE hA  n' p0 hw _ _ _ hP hD hS (lv_sub hl [0, 1, 2] rfl)
theorem inw_X4_readNumber_X4 : ∀ w ∈ wsX40, w ∈ wsX4_readNumber := fun _ h => List.mem_cons_of_mem _ (List.mem_append_left _ (List.mem_append_left _ (List.mem_append_right _ h)))
def wp_Reader_readNumber_h12 (v1 : Int32) (v2 : Int32) (v3 : Int32) (t_length : Int32) (t_bytes : Nat → Int32) (e_wrongAt : Int32)  (Q : Int32 → Int32 → Int32 → Prop) : Nat → Int32 → Int32 → Prop
  | 0, _, _ => False
  | n + 1, v4, e_at => ((4 < e_at - v3 → ((e_at - v3 < 1 → (wp_Reader_wrongHere v3 (fun r_2 e_wrongAt_3 => Q r_2 e_at e_wrongAt_3))) ∧ (¬ e_at - v3 < 1 → ((4 < e_at - v3 → (wp_Reader_wrongHere v3 (fun r_4 e_wrongAt_5 => Q r_4 e_at e_wrongAt_5))) ∧ (¬ 4 < e_at - v3 → ((v4 < v1 → (wp_Reader_wrongHere v3 (fun r_6 e_wrongAt_7 => Q r_6 e_at e_wrongAt_7))) ∧ (¬ v4 < v1 → ((v4 ≤ v2 → Q v4 e_at e_wrongAt) ∧ (¬ v4 ≤ v2 → (wp_Reader_wrongHere v3 (fun r_8 e_wrongAt_9 => Q r_8 e_at e_wrongAt_9))))))))))) ∧ (¬ 4 < e_at - v3 → (wp_Tape_byteAt t_length t_bytes e_at (fun r_10 => (wp_Reader_isDigit r_10 (fun r_11 => ((r_11 = 0 → ((e_at - v3 < 1 → (wp_Reader_wrongHere v3 (fun r_12 e_wrongAt_13 => Q r_12 e_at e_wrongAt_13))) ∧ (¬ e_at - v3 < 1 → ((4 < e_at - v3 → (wp_Reader_wrongHere v3 (fun r_14 e_wrongAt_15 => Q r_14 e_at e_wrongAt_15))) ∧ (¬ 4 < e_at - v3 → ((v4 < v1 → (wp_Reader_wrongHere v3 (fun r_16 e_wrongAt_17 => Q r_16 e_at e_wrongAt_17))) ∧ (¬ v4 < v1 → ((v4 ≤ v2 → Q v4 e_at e_wrongAt) ∧ (¬ v4 ≤ v2 → (wp_Reader_wrongHere v3 (fun r_18 e_wrongAt_19 => Q r_18 e_at e_wrongAt_19))))))))))) ∧ (¬ r_11 = 0 → (wp_Tape_byteAt t_length t_bytes e_at (fun r_20 => wp_Reader_readNumber_h12 v1 v2 v3 t_length t_bytes e_wrongAt Q n (((v4 * 10) + r_20) - 48) (e_at + 1)))))))))))
def wp_Reader_readNumber (t_length : Int32) (t_bytes : Nat → Int32) (e_at : Int32) (e_wrongAt : Int32) (p0 : Int32) (p1 : Int32) (Q : Int32 → Int32 → Int32 → Prop) : Prop := (wp_Reader_skipBlanks t_length t_bytes e_at (fun e_at_1 => (∃ n' : Nat, wp_Reader_readNumber_h12 p0 p1 e_at_1 t_length t_bytes e_wrongAt Q n' 0 e_at_1)))
set_option maxHeartbeats 4000000 in
set_option maxRecDepth 100000 in
theorem c_Reader_readNumber_h12 {p : Program} {l : Launch} {e : Env} {s : State} {m : MethodId} {args : Array Value} {below : List Frame} {meth : Method} {c : Code} {D : va_G} {y : Nat → ClassId} {ad : Nat → Nat} {A : Nat → Prop} (hx : p.tables.exec = Jvm.exec) (hb : c.code = cX4_readNumber) (hr : meth.sig.returnType = some .int) (hml : c.maxLocals = 6) (hown : s.vm.findClass RX4 = some m.cls) (hts : ∀ w ∈ wsX4_readNumber, w.before args s = true) (hlocks : meth.locks = false) (hK : va_K D vwCl (TY y) s) (hE : EV s) (hA : ∀ q, s.heap.size ≤ q → A q) {v1 : Int32} {v2 : Int32} {v3 : Int32} {t_length : Int32} {t_bytes : Nat → Int32} {e_wrongAt : Int32}  {Q : Int32 → Int32 → Int32 → Prop}  : ∀ (n : Nat) (v4 : Int32) (e_at : Int32), wp_Reader_readNumber_h12 v1 v2 v3 t_length t_bytes e_wrongAt Q n v4 e_at → ∀ (H : Heap) (locs : List Loc) (ls : Array Slot), va_P D vwCl [(ce_tp ad t_length), ((ad 2), .inl (y 1, 400, .inl t_bytes)), (ce_rd ad e_at e_wrongAt)] H → va_D A [(ce_tp ad t_length), ((ad 2), .inl (y 1, 400, .inl t_bytes)), (ce_rd ad e_at e_wrongAt)] → va_S A s.heap H locs → lv_has ls 6 [(4, .int v4), (3, .int v3), (0, .ref (ad 4)), (1, .int v1), (2, .int v2)] → W p l e ({ frames := 2, cells := 0, slots := 0, locals := 41 }) s m args below meth c H locs 0 0 (MQ below (va_Qi (fun (r : Int32) (u : Int32 × Int32) => Q r u.1 u.2) (mAt D y A (fun (u : Int32 × Int32) => [(ce_tp ad t_length), ((ad 2), .inl (y 1, 400, .inl t_bytes)), (ce_rd ad u.1 u.2)])) A) args s 0 0 A) (F0 m 12 ls []) := by
  intro n
  induction n with
  | zero => intro v4 e_at hw; rw [wp_Reader_readNumber_h12] at hw; exact hw.elim
  | succ n ih =>
    intro v4 e_at hw H locs ls hP hD hS hl
    rw [wp_Reader_readNumber_h12] at hw
    refine lv_aload_n hx hb dX4_readNumber_12 rfl (lv_at hl 2 rfl) ?_
    refine va_get (ci := 6) (v := .int e_at) (C := RX4) (T := TX4) (N := 4) hx hb hts inw_X4_readNumber_X4 hown hK hP 2 rfl rfl 2 (by decide) (hts (.fieldLink RX4 29 "DockCall$Reader" "at" "I") (by decide +kernel)) (fun _ h9 => h9) rfl dX4_readNumber_13 ?_
    refine lv_iload_n hx hb dX4_readNumber_16 rfl (lv_at hl 1 rfl) ?_
    refine lv_isub hx hb dX4_readNumber_17 ?_
    refine lv_iconst (v := 4) hx hb dX4_readNumber_18 (by decide) ?_
    refine lv_icmp_gt (tgt := 74) hx hb dX4_readNumber_19 (by decide) (fun hc => ?_) (fun hc => ?_)
    · have hw := hw.1 hc
      refine lv_aload_n hx hb dX4_readNumber_74 rfl (lv_at hl 2 rfl) ?_
      refine va_get (ci := 6) (v := .int e_at) (C := RX4) (T := TX4) (N := 4) hx hb hts inw_X4_readNumber_X4 hown hK hP 2 rfl rfl 2 (by decide) (hts (.fieldLink RX4 29 "DockCall$Reader" "at" "I") (by decide +kernel)) (fun _ h9 => h9) rfl dX4_readNumber_75 ?_
      refine lv_iload_n hx hb dX4_readNumber_78 rfl (lv_at hl 1 rfl) ?_
      refine lv_isub hx hb dX4_readNumber_79 ?_
      refine lv_istore (lv' := [(5, .int (e_at - v3)), (4, .int v4), (3, .int v3), (0, .ref (ad 4)), (1, .int v1), (2, .int v2)]) hx hb dX4_readNumber_80 hl (by decide) rfl (fun ls hl => ?_)
      refine lv_iload hx hb dX4_readNumber_82 (lv_at hl 0 rfl) ?_
      refine lv_iconst (v := 1) hx hb dX4_readNumber_84 (by decide) ?_
      refine lv_icmp_lt (tgt := 106) hx hb dX4_readNumber_85 (by decide) (fun hc => ?_) (fun hc => ?_)
      · have hw := hw.1 hc
        refine lv_aload_n hx hb dX4_readNumber_106 rfl (lv_at hl 3 rfl) ?_
        refine lv_iload_n hx hb dX4_readNumber_107 rfl (lv_at hl 2 rfl) ?_
        refine mx_i (wc := [(ce_rd ad e_at e_wrongAt)]) (wr := [(ce_tp ad t_length), ((ad 2), .inl (y 1, 400, .inl t_bytes))]) hP hD hS hA [2] [0, 1] [0, 1, 2] rfl rfl (by decide) (by decide) (by decide) (fun (u : Int32) => [(ce_tp ad t_length), ((ad 2), .inl (y 1, 400, .inl t_bytes)), (ce_rd ad e_at u)]) (fun _ => rfl) (va_runV (As := [.int v3]) (rest := []) ⟨hx, hb, hml, hown, hts⟩ (c_Reader_wrongHere l D y ad H.size e_at e_wrongAt v3 hw) (cwV 1 hts gX4_readNumber_X4_wrongHere rfl rfl rfl (by decide +kernel) ⟨Nat.le_of_ble_eq_true rfl, Nat.le_of_ble_eq_true rfl⟩) ⟨mPre.blind, (va_recv hK hP (ci := 6) (q0 := 2) rfl rfl), mPre.to (hP.sub [2] rfl) hK (hD.sub [2] (by decide) rfl) hE⟩ rfl rfl hl.1 rfl (lv_room (Nat.le_of_ble_eq_true rfl)) dX4_readNumber_108 ⟨Nat.le_of_ble_eq_true rfl, Nat.le_of_ble_eq_true rfl⟩) (fun r_2 u H locs hw hP hD hS => ?_)
        obtain ⟨e_wrongAt_3, rfl⟩ : ∃ z, z = u := ⟨_, rfl⟩
        try dsimp only at hw
        have hP : va_P D vwCl [(ce_tp ad t_length), ((ad 2), .inl (y 1, 400, .inl t_bytes)), (ce_rd ad e_at e_wrongAt_3)] H := hP
        have hD : va_D A [(ce_tp ad t_length), ((ad 2), .inl (y 1, 400, .inl t_bytes)), (ce_rd ad e_at e_wrongAt_3)] := hD
        exact W.iret (v := r_2) hx hb hr (fun t ht hW => ⟨⟨r_2, (e_at, e_wrongAt_3), rfl, hw, mAt.to hP hK hD ht hW⟩, hS.F ht⟩) hS.2.2 dX4_readNumber_111
      · have hw := hw.2 hc
        refine lv_iload hx hb dX4_readNumber_88 (lv_at hl 0 rfl) ?_
        refine lv_iconst (v := 4) hx hb dX4_readNumber_90 (by decide) ?_
        refine lv_icmp_gt (tgt := 106) hx hb dX4_readNumber_91 (by decide) (fun hc => ?_) (fun hc => ?_)
        · have hw := hw.1 hc
          refine lv_aload_n hx hb dX4_readNumber_106 rfl (lv_at hl 3 rfl) ?_
          refine lv_iload_n hx hb dX4_readNumber_107 rfl (lv_at hl 2 rfl) ?_
          refine mx_i (wc := [(ce_rd ad e_at e_wrongAt)]) (wr := [(ce_tp ad t_length), ((ad 2), .inl (y 1, 400, .inl t_bytes))]) hP hD hS hA [2] [0, 1] [0, 1, 2] rfl rfl (by decide) (by decide) (by decide) (fun (u : Int32) => [(ce_tp ad t_length), ((ad 2), .inl (y 1, 400, .inl t_bytes)), (ce_rd ad e_at u)]) (fun _ => rfl) (va_runV (As := [.int v3]) (rest := []) ⟨hx, hb, hml, hown, hts⟩ (c_Reader_wrongHere l D y ad H.size e_at e_wrongAt v3 hw) (cwV 1 hts gX4_readNumber_X4_wrongHere rfl rfl rfl (by decide +kernel) ⟨Nat.le_of_ble_eq_true rfl, Nat.le_of_ble_eq_true rfl⟩) ⟨mPre.blind, (va_recv hK hP (ci := 6) (q0 := 2) rfl rfl), mPre.to (hP.sub [2] rfl) hK (hD.sub [2] (by decide) rfl) hE⟩ rfl rfl hl.1 rfl (lv_room (Nat.le_of_ble_eq_true rfl)) dX4_readNumber_108 ⟨Nat.le_of_ble_eq_true rfl, Nat.le_of_ble_eq_true rfl⟩) (fun r_4 u H locs hw hP hD hS => ?_)
          obtain ⟨e_wrongAt_5, rfl⟩ : ∃ z, z = u := ⟨_, rfl⟩
          try dsimp only at hw
          have hP : va_P D vwCl [(ce_tp ad t_length), ((ad 2), .inl (y 1, 400, .inl t_bytes)), (ce_rd ad e_at e_wrongAt_5)] H := hP
          have hD : va_D A [(ce_tp ad t_length), ((ad 2), .inl (y 1, 400, .inl t_bytes)), (ce_rd ad e_at e_wrongAt_5)] := hD
          exact W.iret (v := r_4) hx hb hr (fun t ht hW => ⟨⟨r_4, (e_at, e_wrongAt_5), rfl, hw, mAt.to hP hK hD ht hW⟩, hS.F ht⟩) hS.2.2 dX4_readNumber_111
        · have hw := hw.2 hc
          refine lv_iload hx hb dX4_readNumber_94 (lv_at hl 1 rfl) ?_
          refine lv_iload_n hx hb dX4_readNumber_96 rfl (lv_at hl 4 rfl) ?_
          refine lv_icmp_lt (tgt := 106) hx hb dX4_readNumber_97 (by decide) (fun hc => ?_) (fun hc => ?_)
          · have hw := hw.1 hc
            refine lv_aload_n hx hb dX4_readNumber_106 rfl (lv_at hl 3 rfl) ?_
            refine lv_iload_n hx hb dX4_readNumber_107 rfl (lv_at hl 2 rfl) ?_
            refine mx_i (wc := [(ce_rd ad e_at e_wrongAt)]) (wr := [(ce_tp ad t_length), ((ad 2), .inl (y 1, 400, .inl t_bytes))]) hP hD hS hA [2] [0, 1] [0, 1, 2] rfl rfl (by decide) (by decide) (by decide) (fun (u : Int32) => [(ce_tp ad t_length), ((ad 2), .inl (y 1, 400, .inl t_bytes)), (ce_rd ad e_at u)]) (fun _ => rfl) (va_runV (As := [.int v3]) (rest := []) ⟨hx, hb, hml, hown, hts⟩ (c_Reader_wrongHere l D y ad H.size e_at e_wrongAt v3 hw) (cwV 1 hts gX4_readNumber_X4_wrongHere rfl rfl rfl (by decide +kernel) ⟨Nat.le_of_ble_eq_true rfl, Nat.le_of_ble_eq_true rfl⟩) ⟨mPre.blind, (va_recv hK hP (ci := 6) (q0 := 2) rfl rfl), mPre.to (hP.sub [2] rfl) hK (hD.sub [2] (by decide) rfl) hE⟩ rfl rfl hl.1 rfl (lv_room (Nat.le_of_ble_eq_true rfl)) dX4_readNumber_108 ⟨Nat.le_of_ble_eq_true rfl, Nat.le_of_ble_eq_true rfl⟩) (fun r_6 u H locs hw hP hD hS => ?_)
            obtain ⟨e_wrongAt_7, rfl⟩ : ∃ z, z = u := ⟨_, rfl⟩
            try dsimp only at hw
            have hP : va_P D vwCl [(ce_tp ad t_length), ((ad 2), .inl (y 1, 400, .inl t_bytes)), (ce_rd ad e_at e_wrongAt_7)] H := hP
            have hD : va_D A [(ce_tp ad t_length), ((ad 2), .inl (y 1, 400, .inl t_bytes)), (ce_rd ad e_at e_wrongAt_7)] := hD
            exact W.iret (v := r_6) hx hb hr (fun t ht hW => ⟨⟨r_6, (e_at, e_wrongAt_7), rfl, hw, mAt.to hP hK hD ht hW⟩, hS.F ht⟩) hS.2.2 dX4_readNumber_111
          · have hw := hw.2 hc
            refine lv_iload hx hb dX4_readNumber_100 (lv_at hl 1 rfl) ?_
            refine lv_iload_n hx hb dX4_readNumber_102 rfl (lv_at hl 5 rfl) ?_
            refine lv_icmp_le (tgt := 112) hx hb dX4_readNumber_103 (by decide) (fun hc => ?_) (fun hc => ?_)
            · have hw := hw.1 hc
              refine lv_iload hx hb dX4_readNumber_112 (lv_at hl 1 rfl) ?_
              exact W.iret (v := v4) hx hb hr (fun t ht hW => ⟨⟨v4, (e_at, e_wrongAt), rfl, hw, mAt.to hP hK hD ht hW⟩, hS.F ht⟩) hS.2.2 dX4_readNumber_114
            · have hw := hw.2 hc
              refine lv_aload_n hx hb dX4_readNumber_106 rfl (lv_at hl 3 rfl) ?_
              refine lv_iload_n hx hb dX4_readNumber_107 rfl (lv_at hl 2 rfl) ?_
              refine mx_i (wc := [(ce_rd ad e_at e_wrongAt)]) (wr := [(ce_tp ad t_length), ((ad 2), .inl (y 1, 400, .inl t_bytes))]) hP hD hS hA [2] [0, 1] [0, 1, 2] rfl rfl (by decide) (by decide) (by decide) (fun (u : Int32) => [(ce_tp ad t_length), ((ad 2), .inl (y 1, 400, .inl t_bytes)), (ce_rd ad e_at u)]) (fun _ => rfl) (va_runV (As := [.int v3]) (rest := []) ⟨hx, hb, hml, hown, hts⟩ (c_Reader_wrongHere l D y ad H.size e_at e_wrongAt v3 hw) (cwV 1 hts gX4_readNumber_X4_wrongHere rfl rfl rfl (by decide +kernel) ⟨Nat.le_of_ble_eq_true rfl, Nat.le_of_ble_eq_true rfl⟩) ⟨mPre.blind, (va_recv hK hP (ci := 6) (q0 := 2) rfl rfl), mPre.to (hP.sub [2] rfl) hK (hD.sub [2] (by decide) rfl) hE⟩ rfl rfl hl.1 rfl (lv_room (Nat.le_of_ble_eq_true rfl)) dX4_readNumber_108 ⟨Nat.le_of_ble_eq_true rfl, Nat.le_of_ble_eq_true rfl⟩) (fun r_8 u H locs hw hP hD hS => ?_)
              obtain ⟨e_wrongAt_9, rfl⟩ : ∃ z, z = u := ⟨_, rfl⟩
              try dsimp only at hw
              have hP : va_P D vwCl [(ce_tp ad t_length), ((ad 2), .inl (y 1, 400, .inl t_bytes)), (ce_rd ad e_at e_wrongAt_9)] H := hP
              have hD : va_D A [(ce_tp ad t_length), ((ad 2), .inl (y 1, 400, .inl t_bytes)), (ce_rd ad e_at e_wrongAt_9)] := hD
              exact W.iret (v := r_8) hx hb hr (fun t ht hW => ⟨⟨r_8, (e_at, e_wrongAt_9), rfl, hw, mAt.to hP hK hD ht hW⟩, hS.F ht⟩) hS.2.2 dX4_readNumber_111
    · have hw := hw.2 hc
      refine lv_aload_n hx hb dX4_readNumber_22 rfl (lv_at hl 2 rfl) ?_
      refine va_get (ci := 6) (v := .ref (ad 1)) (C := RX4) (T := TX4) (N := 4) hx hb hts inw_X4_readNumber_X4 hown hK hP 2 rfl rfl 0 (by decide) (hts (.fieldLink RX4 19 "DockCall$Reader" "tape" "LDockCall$Tape;") (by decide +kernel)) (fun _ h9 => h9) rfl dX4_readNumber_23 ?_
      refine lv_aload_n hx hb dX4_readNumber_26 rfl (lv_at hl 2 rfl) ?_
      refine va_get (ci := 6) (v := .int e_at) (C := RX4) (T := TX4) (N := 4) hx hb hts inw_X4_readNumber_X4 hown hK hP 2 rfl rfl 2 (by decide) (hts (.fieldLink RX4 29 "DockCall$Reader" "at" "I") (by decide +kernel)) (fun _ h9 => h9) rfl dX4_readNumber_27 ?_
      refine mx_i (wc := [(ce_tp ad t_length), ((ad 2), .inl (y 1, 400, .inl t_bytes))]) (wr := [(ce_rd ad e_at e_wrongAt)]) hP hD hS hA [0, 1] [2] [1, 2, 0] rfl rfl (by decide) (by decide) (by decide) (fun (u : Unit) => [(ce_tp ad t_length), ((ad 2), .inl (y 1, 400, .inl t_bytes)), (ce_rd ad e_at e_wrongAt)]) (fun _ => rfl) (va_runVN (C := RX7) (As := [.int e_at]) (rest := []) ⟨hx, hb, hml, hown, hts⟩ (c_Tape_byteAt l D y ad H.size t_length t_bytes e_at hw) ⟨va_cnB 1 hts gX4_readNumber_X7_byteAt_n44 rfl rfl rfl (hE _ nwm_RX4_44) (hts (.initialized RX7) (by decide +kernel)) (by decide +kernel) ⟨Nat.le_of_ble_eq_true rfl, Nat.le_of_ble_eq_true rfl⟩, (hts (.instanceMethod yX7_byteAt) (by decide +kernel)), (hts (.selects RX7 yX7_byteAt yX7_byteAt) (by decide +kernel))⟩ ⟨mPre.blind, (va_recv hK hP (ci := 9) (q0 := 0) rfl rfl), mPre.to (hP.sub [0, 1] rfl) hK (hD.sub [0, 1] (by decide) rfl) hE⟩ rfl rfl hl.1 rfl (lv_room (Nat.le_of_ble_eq_true rfl)) dX4_readNumber_30 ⟨Nat.le_of_ble_eq_true rfl, Nat.le_of_ble_eq_true rfl⟩) (fun r_10 u H locs hw hP hD hS => ?_)
      try dsimp only at hw
      have hP : va_P D vwCl [(ce_tp ad t_length), ((ad 2), .inl (y 1, 400, .inl t_bytes)), (ce_rd ad e_at e_wrongAt)] H := hP
      have hD : va_D A [(ce_tp ad t_length), ((ad 2), .inl (y 1, 400, .inl t_bytes)), (ce_rd ad e_at e_wrongAt)] := hD
      refine mx_i (wc := []) (wr := [(ce_tp ad t_length), ((ad 2), .inl (y 1, 400, .inl t_bytes)), (ce_rd ad e_at e_wrongAt)]) hP hD hS hA [] [0, 1, 2] [0, 1, 2] rfl rfl (by decide) (by decide) (by decide) (fun (u : Unit) => [(ce_tp ad t_length), ((ad 2), .inl (y 1, 400, .inl t_bytes)), (ce_rd ad e_at e_wrongAt)]) (fun _ => rfl) (va_runS (As := [.int r_10]) (rest := []) ⟨hx, hb, hml, hown, hts⟩ (c_Reader_isDigit l D y H.size r_10 hw) (va_cwS 1 hts gX4_readNumber_X4_isDigit rfl rfl rfl (by decide +kernel) ⟨Nat.le_of_ble_eq_true rfl, Nat.le_of_ble_eq_true rfl⟩) ⟨mPre.blind, mPre.to (hP.sub [] rfl) hK (hD.sub [] (by decide) rfl) hE⟩ rfl rfl hl.1 rfl (lv_room (Nat.le_of_ble_eq_true rfl)) dX4_readNumber_33 ⟨Nat.le_of_ble_eq_true rfl, Nat.le_of_ble_eq_true rfl⟩) (fun r_11 u H locs hw hP hD hS => ?_)
      try dsimp only at hw
      have hP : va_P D vwCl [(ce_tp ad t_length), ((ad 2), .inl (y 1, 400, .inl t_bytes)), (ce_rd ad e_at e_wrongAt)] H := hP
      have hD : va_D A [(ce_tp ad t_length), ((ad 2), .inl (y 1, 400, .inl t_bytes)), (ce_rd ad e_at e_wrongAt)] := hD
      refine lv_if_eq (tgt := 74) hx hb dX4_readNumber_36 (by decide) (fun hc => ?_) (fun hc => ?_)
      · have hw := hw.1 hc
        refine lv_aload_n hx hb dX4_readNumber_74 rfl (lv_at hl 2 rfl) ?_
        refine va_get (ci := 6) (v := .int e_at) (C := RX4) (T := TX4) (N := 4) hx hb hts inw_X4_readNumber_X4 hown hK hP 2 rfl rfl 2 (by decide) (hts (.fieldLink RX4 29 "DockCall$Reader" "at" "I") (by decide +kernel)) (fun _ h9 => h9) rfl dX4_readNumber_75 ?_
        refine lv_iload_n hx hb dX4_readNumber_78 rfl (lv_at hl 1 rfl) ?_
        refine lv_isub hx hb dX4_readNumber_79 ?_
        refine lv_istore (lv' := [(5, .int (e_at - v3)), (4, .int v4), (3, .int v3), (0, .ref (ad 4)), (1, .int v1), (2, .int v2)]) hx hb dX4_readNumber_80 hl (by decide) rfl (fun ls hl => ?_)
        refine lv_iload hx hb dX4_readNumber_82 (lv_at hl 0 rfl) ?_
        refine lv_iconst (v := 1) hx hb dX4_readNumber_84 (by decide) ?_
        refine lv_icmp_lt (tgt := 106) hx hb dX4_readNumber_85 (by decide) (fun hc => ?_) (fun hc => ?_)
        · have hw := hw.1 hc
          refine lv_aload_n hx hb dX4_readNumber_106 rfl (lv_at hl 3 rfl) ?_
          refine lv_iload_n hx hb dX4_readNumber_107 rfl (lv_at hl 2 rfl) ?_
          refine mx_i (wc := [(ce_rd ad e_at e_wrongAt)]) (wr := [(ce_tp ad t_length), ((ad 2), .inl (y 1, 400, .inl t_bytes))]) hP hD hS hA [2] [0, 1] [0, 1, 2] rfl rfl (by decide) (by decide) (by decide) (fun (u : Int32) => [(ce_tp ad t_length), ((ad 2), .inl (y 1, 400, .inl t_bytes)), (ce_rd ad e_at u)]) (fun _ => rfl) (va_runV (As := [.int v3]) (rest := []) ⟨hx, hb, hml, hown, hts⟩ (c_Reader_wrongHere l D y ad H.size e_at e_wrongAt v3 hw) (cwV 1 hts gX4_readNumber_X4_wrongHere rfl rfl rfl (by decide +kernel) ⟨Nat.le_of_ble_eq_true rfl, Nat.le_of_ble_eq_true rfl⟩) ⟨mPre.blind, (va_recv hK hP (ci := 6) (q0 := 2) rfl rfl), mPre.to (hP.sub [2] rfl) hK (hD.sub [2] (by decide) rfl) hE⟩ rfl rfl hl.1 rfl (lv_room (Nat.le_of_ble_eq_true rfl)) dX4_readNumber_108 ⟨Nat.le_of_ble_eq_true rfl, Nat.le_of_ble_eq_true rfl⟩) (fun r_12 u H locs hw hP hD hS => ?_)
          obtain ⟨e_wrongAt_13, rfl⟩ : ∃ z, z = u := ⟨_, rfl⟩
          try dsimp only at hw
          have hP : va_P D vwCl [(ce_tp ad t_length), ((ad 2), .inl (y 1, 400, .inl t_bytes)), (ce_rd ad e_at e_wrongAt_13)] H := hP
          have hD : va_D A [(ce_tp ad t_length), ((ad 2), .inl (y 1, 400, .inl t_bytes)), (ce_rd ad e_at e_wrongAt_13)] := hD
          exact W.iret (v := r_12) hx hb hr (fun t ht hW => ⟨⟨r_12, (e_at, e_wrongAt_13), rfl, hw, mAt.to hP hK hD ht hW⟩, hS.F ht⟩) hS.2.2 dX4_readNumber_111
        · have hw := hw.2 hc
          refine lv_iload hx hb dX4_readNumber_88 (lv_at hl 0 rfl) ?_
          refine lv_iconst (v := 4) hx hb dX4_readNumber_90 (by decide) ?_
          refine lv_icmp_gt (tgt := 106) hx hb dX4_readNumber_91 (by decide) (fun hc => ?_) (fun hc => ?_)
          · have hw := hw.1 hc
            refine lv_aload_n hx hb dX4_readNumber_106 rfl (lv_at hl 3 rfl) ?_
            refine lv_iload_n hx hb dX4_readNumber_107 rfl (lv_at hl 2 rfl) ?_
            refine mx_i (wc := [(ce_rd ad e_at e_wrongAt)]) (wr := [(ce_tp ad t_length), ((ad 2), .inl (y 1, 400, .inl t_bytes))]) hP hD hS hA [2] [0, 1] [0, 1, 2] rfl rfl (by decide) (by decide) (by decide) (fun (u : Int32) => [(ce_tp ad t_length), ((ad 2), .inl (y 1, 400, .inl t_bytes)), (ce_rd ad e_at u)]) (fun _ => rfl) (va_runV (As := [.int v3]) (rest := []) ⟨hx, hb, hml, hown, hts⟩ (c_Reader_wrongHere l D y ad H.size e_at e_wrongAt v3 hw) (cwV 1 hts gX4_readNumber_X4_wrongHere rfl rfl rfl (by decide +kernel) ⟨Nat.le_of_ble_eq_true rfl, Nat.le_of_ble_eq_true rfl⟩) ⟨mPre.blind, (va_recv hK hP (ci := 6) (q0 := 2) rfl rfl), mPre.to (hP.sub [2] rfl) hK (hD.sub [2] (by decide) rfl) hE⟩ rfl rfl hl.1 rfl (lv_room (Nat.le_of_ble_eq_true rfl)) dX4_readNumber_108 ⟨Nat.le_of_ble_eq_true rfl, Nat.le_of_ble_eq_true rfl⟩) (fun r_14 u H locs hw hP hD hS => ?_)
            obtain ⟨e_wrongAt_15, rfl⟩ : ∃ z, z = u := ⟨_, rfl⟩
            try dsimp only at hw
            have hP : va_P D vwCl [(ce_tp ad t_length), ((ad 2), .inl (y 1, 400, .inl t_bytes)), (ce_rd ad e_at e_wrongAt_15)] H := hP
            have hD : va_D A [(ce_tp ad t_length), ((ad 2), .inl (y 1, 400, .inl t_bytes)), (ce_rd ad e_at e_wrongAt_15)] := hD
            exact W.iret (v := r_14) hx hb hr (fun t ht hW => ⟨⟨r_14, (e_at, e_wrongAt_15), rfl, hw, mAt.to hP hK hD ht hW⟩, hS.F ht⟩) hS.2.2 dX4_readNumber_111
          · have hw := hw.2 hc
            refine lv_iload hx hb dX4_readNumber_94 (lv_at hl 1 rfl) ?_
            refine lv_iload_n hx hb dX4_readNumber_96 rfl (lv_at hl 4 rfl) ?_
            refine lv_icmp_lt (tgt := 106) hx hb dX4_readNumber_97 (by decide) (fun hc => ?_) (fun hc => ?_)
            · have hw := hw.1 hc
              refine lv_aload_n hx hb dX4_readNumber_106 rfl (lv_at hl 3 rfl) ?_
              refine lv_iload_n hx hb dX4_readNumber_107 rfl (lv_at hl 2 rfl) ?_
              refine mx_i (wc := [(ce_rd ad e_at e_wrongAt)]) (wr := [(ce_tp ad t_length), ((ad 2), .inl (y 1, 400, .inl t_bytes))]) hP hD hS hA [2] [0, 1] [0, 1, 2] rfl rfl (by decide) (by decide) (by decide) (fun (u : Int32) => [(ce_tp ad t_length), ((ad 2), .inl (y 1, 400, .inl t_bytes)), (ce_rd ad e_at u)]) (fun _ => rfl) (va_runV (As := [.int v3]) (rest := []) ⟨hx, hb, hml, hown, hts⟩ (c_Reader_wrongHere l D y ad H.size e_at e_wrongAt v3 hw) (cwV 1 hts gX4_readNumber_X4_wrongHere rfl rfl rfl (by decide +kernel) ⟨Nat.le_of_ble_eq_true rfl, Nat.le_of_ble_eq_true rfl⟩) ⟨mPre.blind, (va_recv hK hP (ci := 6) (q0 := 2) rfl rfl), mPre.to (hP.sub [2] rfl) hK (hD.sub [2] (by decide) rfl) hE⟩ rfl rfl hl.1 rfl (lv_room (Nat.le_of_ble_eq_true rfl)) dX4_readNumber_108 ⟨Nat.le_of_ble_eq_true rfl, Nat.le_of_ble_eq_true rfl⟩) (fun r_16 u H locs hw hP hD hS => ?_)
              obtain ⟨e_wrongAt_17, rfl⟩ : ∃ z, z = u := ⟨_, rfl⟩
              try dsimp only at hw
              have hP : va_P D vwCl [(ce_tp ad t_length), ((ad 2), .inl (y 1, 400, .inl t_bytes)), (ce_rd ad e_at e_wrongAt_17)] H := hP
              have hD : va_D A [(ce_tp ad t_length), ((ad 2), .inl (y 1, 400, .inl t_bytes)), (ce_rd ad e_at e_wrongAt_17)] := hD
              exact W.iret (v := r_16) hx hb hr (fun t ht hW => ⟨⟨r_16, (e_at, e_wrongAt_17), rfl, hw, mAt.to hP hK hD ht hW⟩, hS.F ht⟩) hS.2.2 dX4_readNumber_111
            · have hw := hw.2 hc
              refine lv_iload hx hb dX4_readNumber_100 (lv_at hl 1 rfl) ?_
              refine lv_iload_n hx hb dX4_readNumber_102 rfl (lv_at hl 5 rfl) ?_
              refine lv_icmp_le (tgt := 112) hx hb dX4_readNumber_103 (by decide) (fun hc => ?_) (fun hc => ?_)
              · have hw := hw.1 hc
                refine lv_iload hx hb dX4_readNumber_112 (lv_at hl 1 rfl) ?_
                exact W.iret (v := v4) hx hb hr (fun t ht hW => ⟨⟨v4, (e_at, e_wrongAt), rfl, hw, mAt.to hP hK hD ht hW⟩, hS.F ht⟩) hS.2.2 dX4_readNumber_114
              · have hw := hw.2 hc
                refine lv_aload_n hx hb dX4_readNumber_106 rfl (lv_at hl 3 rfl) ?_
                refine lv_iload_n hx hb dX4_readNumber_107 rfl (lv_at hl 2 rfl) ?_
                refine mx_i (wc := [(ce_rd ad e_at e_wrongAt)]) (wr := [(ce_tp ad t_length), ((ad 2), .inl (y 1, 400, .inl t_bytes))]) hP hD hS hA [2] [0, 1] [0, 1, 2] rfl rfl (by decide) (by decide) (by decide) (fun (u : Int32) => [(ce_tp ad t_length), ((ad 2), .inl (y 1, 400, .inl t_bytes)), (ce_rd ad e_at u)]) (fun _ => rfl) (va_runV (As := [.int v3]) (rest := []) ⟨hx, hb, hml, hown, hts⟩ (c_Reader_wrongHere l D y ad H.size e_at e_wrongAt v3 hw) (cwV 1 hts gX4_readNumber_X4_wrongHere rfl rfl rfl (by decide +kernel) ⟨Nat.le_of_ble_eq_true rfl, Nat.le_of_ble_eq_true rfl⟩) ⟨mPre.blind, (va_recv hK hP (ci := 6) (q0 := 2) rfl rfl), mPre.to (hP.sub [2] rfl) hK (hD.sub [2] (by decide) rfl) hE⟩ rfl rfl hl.1 rfl (lv_room (Nat.le_of_ble_eq_true rfl)) dX4_readNumber_108 ⟨Nat.le_of_ble_eq_true rfl, Nat.le_of_ble_eq_true rfl⟩) (fun r_18 u H locs hw hP hD hS => ?_)
                obtain ⟨e_wrongAt_19, rfl⟩ : ∃ z, z = u := ⟨_, rfl⟩
                try dsimp only at hw
                have hP : va_P D vwCl [(ce_tp ad t_length), ((ad 2), .inl (y 1, 400, .inl t_bytes)), (ce_rd ad e_at e_wrongAt_19)] H := hP
                have hD : va_D A [(ce_tp ad t_length), ((ad 2), .inl (y 1, 400, .inl t_bytes)), (ce_rd ad e_at e_wrongAt_19)] := hD
                exact W.iret (v := r_18) hx hb hr (fun t ht hW => ⟨⟨r_18, (e_at, e_wrongAt_19), rfl, hw, mAt.to hP hK hD ht hW⟩, hS.F ht⟩) hS.2.2 dX4_readNumber_111
      · have hw := hw.2 hc
        refine lv_iload hx hb dX4_readNumber_39 (lv_at hl 0 rfl) ?_
        refine lv_bipush (v := 10) hx hb dX4_readNumber_41 (by decide) ?_
        refine lv_imul hx hb dX4_readNumber_43 ?_
        refine lv_aload_n hx hb dX4_readNumber_44 rfl (lv_at hl 2 rfl) ?_
        refine va_get (ci := 6) (v := .ref (ad 1)) (C := RX4) (T := TX4) (N := 4) hx hb hts inw_X4_readNumber_X4 hown hK hP 2 rfl rfl 0 (by decide) (hts (.fieldLink RX4 19 "DockCall$Reader" "tape" "LDockCall$Tape;") (by decide +kernel)) (fun _ h9 => h9) rfl dX4_readNumber_45 ?_
        refine lv_aload_n hx hb dX4_readNumber_48 rfl (lv_at hl 2 rfl) ?_
        refine va_get (ci := 6) (v := .int e_at) (C := RX4) (T := TX4) (N := 4) hx hb hts inw_X4_readNumber_X4 hown hK hP 2 rfl rfl 2 (by decide) (hts (.fieldLink RX4 29 "DockCall$Reader" "at" "I") (by decide +kernel)) (fun _ h9 => h9) rfl dX4_readNumber_49 ?_
        refine mx_i (wc := [(ce_tp ad t_length), ((ad 2), .inl (y 1, 400, .inl t_bytes))]) (wr := [(ce_rd ad e_at e_wrongAt)]) hP hD hS hA [0, 1] [2] [1, 2, 0] rfl rfl (by decide) (by decide) (by decide) (fun (u : Unit) => [(ce_tp ad t_length), ((ad 2), .inl (y 1, 400, .inl t_bytes)), (ce_rd ad e_at e_wrongAt)]) (fun _ => rfl) (va_runVN (C := RX7) (As := [.int e_at]) (rest := [.int (v4 * 10)]) ⟨hx, hb, hml, hown, hts⟩ (c_Tape_byteAt l D y ad H.size t_length t_bytes e_at hw) ⟨va_cnB 1 hts gX4_readNumber_X7_byteAt_n44 rfl rfl rfl (hE _ nwm_RX4_44) (hts (.initialized RX7) (by decide +kernel)) (by decide +kernel) ⟨Nat.le_of_ble_eq_true rfl, Nat.le_of_ble_eq_true rfl⟩, (hts (.instanceMethod yX7_byteAt) (by decide +kernel)), (hts (.selects RX7 yX7_byteAt yX7_byteAt) (by decide +kernel))⟩ ⟨mPre.blind, (va_recv hK hP (ci := 9) (q0 := 0) rfl rfl), mPre.to (hP.sub [0, 1] rfl) hK (hD.sub [0, 1] (by decide) rfl) hE⟩ rfl rfl hl.1 rfl (lv_room (Nat.le_of_ble_eq_true rfl)) dX4_readNumber_52 ⟨Nat.le_of_ble_eq_true rfl, Nat.le_of_ble_eq_true rfl⟩) (fun r_20 u H locs hw hP hD hS => ?_)
        try dsimp only at hw
        have hP : va_P D vwCl [(ce_tp ad t_length), ((ad 2), .inl (y 1, 400, .inl t_bytes)), (ce_rd ad e_at e_wrongAt)] H := hP
        have hD : va_D A [(ce_tp ad t_length), ((ad 2), .inl (y 1, 400, .inl t_bytes)), (ce_rd ad e_at e_wrongAt)] := hD
        refine lv_iadd hx hb dX4_readNumber_55 ?_
        refine lv_bipush (v := 48) hx hb dX4_readNumber_56 (by decide) ?_
        refine lv_isub hx hb dX4_readNumber_58 ?_
        refine lv_istore (lv' := [(4, .int (((v4 * 10) + r_20) - 48)), (3, .int v3), (0, .ref (ad 4)), (1, .int v1), (2, .int v2)]) hx hb dX4_readNumber_59 hl (by decide) rfl (fun ls hl => ?_)
        refine lv_aload_n hx hb dX4_readNumber_61 rfl (lv_at hl 2 rfl) ?_
        refine lv_dup hx hb dX4_readNumber_62 rfl ?_
        refine va_get (ci := 6) (v := .int e_at) (C := RX4) (T := TX4) (N := 4) hx hb hts inw_X4_readNumber_X4 hown hK hP 2 rfl rfl 2 (by decide) (hts (.fieldLink RX4 29 "DockCall$Reader" "at" "I") (by decide +kernel)) (fun _ h9 => h9) rfl dX4_readNumber_63 ?_
        refine lv_iconst (v := 1) hx hb dX4_readNumber_66 (by decide) ?_
        refine lv_iadd hx hb dX4_readNumber_67 ?_
        refine va_put (ci := 6) (v := .int (e_at + 1)) (ty := .int) (C := RX4) (T := TX4) (N := 4) hx hb hts inw_X4_readNumber_X4 tyX4 tyX4_ok nmX4 hown hK hP hD hS 2 rfl rfl 2 (by decide) (hts (.fieldLink RX4 29 "DockCall$Reader" "at" "I") (by decide +kernel)) (fun _ h9 => h9) rfl (by decide +kernel) rfl rfl (Nat.le_of_ble_eq_true rfl) dX4_readNumber_68 (fun H locs hP hD hS => ?_)
        have hP : va_P D vwCl [(ce_tp ad t_length), ((ad 2), .inl (y 1, 400, .inl t_bytes)), (ce_rd ad (e_at + 1) e_wrongAt)] H := hP
        have hD : va_D A [(ce_tp ad t_length), ((ad 2), .inl (y 1, 400, .inl t_bytes)), (ce_rd ad (e_at + 1) e_wrongAt)] := hD
        refine lv_goto (tgt := 12) hx hb dX4_readNumber_71 (by decide) ?_
        exact ih (((v4 * 10) + r_20) - 48) (e_at + 1) hw _ _ _ hP hD hS (lv_sub hl [0, 1, 2, 3, 4] rfl)
set_option maxHeartbeats 4000000 in
set_option maxRecDepth 100000 in
theorem c_Reader_readNumber (l : Launch) (D : va_G) (y : Nat → ClassId) (ad : Nat → Nat) (sz : Nat) (t_length : Int32) (t_bytes : Nat → Int32) (e_at : Int32) (e_wrongAt : Int32) (p0 : Int32) (p1 : Int32) {Q : Int32 → Int32 → Int32 → Prop} (hw : wp_Reader_readNumber t_length t_bytes e_at e_wrongAt p0 p1 Q) : Met l yX4_readNumber wsX4_readNumber ({ frames := 2, cells := 0, slots := 0, locals := 41 }) (va_Pc [.ref (ad 4), .int p0, .int p1] (mPre D y sz [(ce_tp ad t_length), ((ad 2), .inl (y 1, 400, .inl t_bytes)), (ce_rd ad e_at e_wrongAt)])) (va_Qi (fun (r : Int32) (u : Int32 × Int32) => Q r u.1 u.2) (mAt D y (va_A [(ce_tp ad t_length), ((ad 2), .inl (y 1, 400, .inl t_bytes)), (ce_rd ad e_at e_wrongAt)] sz) (fun (u : Int32 × Int32) => [(ce_tp ad t_length), ((ad 2), .inl (y 1, 400, .inl t_bytes)), (ce_rd ad u.1 u.2)])) (va_A [(ce_tp ad t_length), ((ad 2), .inl (y 1, 400, .inl t_bytes)), (ce_rd ad e_at e_wrongAt)] sz)) 0 0 (va_A [(ce_tp ad t_length), ((ad 2), .inl (y 1, 400, .inl t_bytes)), (ce_rd ad e_at e_wrongAt)] sz) := by
  unfold wp_Reader_readNumber at hw
  refine Met.ofW (cc := cX4_readNumber) (maxL := 6) (ret := some .int) (by decide) rfl ?_
  intro p e s m args below meth c s₁ B hml hv
  obtain ⟨rfl, hsz, hP, hK, hD0, hE⟩ := hv
  have hx := B.exec
  have hb := B.bytes
  have hr := B.returns
  have hts := atoms_spec (ws := wsX4_readNumber) B.pre
  have hown : s.vm.findClass RX4 = some m.cls := findClass_of_methodNamed B.named
  have hlocks := B.notSynchronized
  subst hsz
  have hD := hD0.self (sz := s.heap.size)
  generalize hAe : va_A [(ce_tp ad t_length), ((ad 2), .inl (y 1, 400, .inl t_bytes)), (ce_rd ad e_at e_wrongAt)] s.heap.size = A at hD ⊢
  have hA : ∀ q : Nat, s.heap.size ≤ q → A q := fun q h => by rw [← hAe]; exact Or.inr h
  have hS : va_S A s.heap s.heap [] := va_S.rf
  have hP : va_P D vwCl [(ce_tp ad t_length), ((ad 2), .inl (y 1, 400, .inl t_bytes)), (ce_rd ad e_at e_wrongAt)] s.heap := hP
  have hl := lv_entry ([.ref (ad 4), .int p0, .int p1]) (n := 6) (Nat.le_of_ble_eq_true rfl)
  rw [lg_entry_eq]
  generalize (lg_sl ([.ref (ad 4), .int p0, .int p1]) ++ List.replicate (6 - (lg_sl ([.ref (ad 4), .int p0, .int p1])).length) Slot.unset).toArray = ls at hl ⊢
  have hl : lv_has ls 6 [(0, .ref (ad 4)), (1, .int p0), (2, .int p1)] := hl
  refine lv_aload_n hx hb dX4_readNumber_0 rfl (lv_at hl 0 rfl) ?_
  refine mx_v (wc := [(ce_tp ad t_length), ((ad 2), .inl (y 1, 400, .inl t_bytes)), (ce_rd ad e_at e_wrongAt)]) (wr := []) hP hD hS hA [0, 1, 2] [] [0, 1, 2] rfl rfl (by decide) (by decide) (by decide) (fun (u : Int32) => [(ce_tp ad t_length), ((ad 2), .inl (y 1, 400, .inl t_bytes)), (ce_rd ad u e_wrongAt)]) (fun _ => rfl) (va_runV (As := []) (rest := []) ⟨hx, hb, hml, hown, hts⟩ (c_Reader_skipBlanks l D y ad s.heap.size t_length t_bytes e_at e_wrongAt hw) (cwV 0 hts gX4_readNumber_X4_skipBlanks rfl rfl rfl (by decide +kernel) ⟨Nat.le_of_ble_eq_true rfl, Nat.le_of_ble_eq_true rfl⟩) ⟨mPre.blind, (va_recv hK hP (ci := 6) (q0 := 2) rfl rfl), mPre.to (hP.sub [0, 1, 2] rfl) hK (hD.sub [0, 1, 2] (by decide) rfl) hE⟩ rfl rfl hl.1 rfl (lv_room (Nat.le_of_ble_eq_true rfl)) dX4_readNumber_1 ⟨Nat.le_of_ble_eq_true rfl, Nat.le_of_ble_eq_true rfl⟩) (fun u H locs hw hP hD hS => ?_)
  obtain ⟨e_at_1, rfl⟩ : ∃ z, z = u := ⟨_, rfl⟩
  try dsimp only at hw
  have hP : va_P D vwCl [(ce_tp ad t_length), ((ad 2), .inl (y 1, 400, .inl t_bytes)), (ce_rd ad e_at_1 e_wrongAt)] H := hP
  have hD : va_D A [(ce_tp ad t_length), ((ad 2), .inl (y 1, 400, .inl t_bytes)), (ce_rd ad e_at_1 e_wrongAt)] := hD
  refine lv_aload_n hx hb dX4_readNumber_4 rfl (lv_at hl 0 rfl) ?_
  refine va_get (ci := 6) (v := .int e_at_1) (C := RX4) (T := TX4) (N := 4) hx hb hts inw_X4_readNumber_X4 hown hK hP 2 rfl rfl 2 (by decide) (hts (.fieldLink RX4 29 "DockCall$Reader" "at" "I") (by decide +kernel)) (fun _ h9 => h9) rfl dX4_readNumber_5 ?_
  refine lv_istore_n (lv' := [(3, .int e_at_1), (0, .ref (ad 4)), (1, .int p0), (2, .int p1)]) hx hb dX4_readNumber_8 rfl hl (by decide) rfl (fun ls hl => ?_)
  refine lv_iconst (v := 0) hx hb dX4_readNumber_9 (by decide) ?_
  refine lv_istore (lv' := [(4, .int 0), (3, .int e_at_1), (0, .ref (ad 4)), (1, .int p0), (2, .int p1)]) hx hb dX4_readNumber_10 hl (by decide) rfl (fun ls hl => ?_)
  obtain ⟨n', hw⟩ := hw
  exact c_Reader_readNumber_h12 hx hb hr hml hown hts hlocks hK hE hA  n' 0 e_at_1 hw _ _ _ hP hD hS (lv_sub hl [0, 1, 2, 3, 4] rfl)
