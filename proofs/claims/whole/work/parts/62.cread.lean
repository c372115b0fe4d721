theorem inw_X4_isWord_X4 : ∀ w ∈ wsX40, w ∈ wsX4_isWord := fun _ h => List.mem_cons_of_mem _ (List.mem_append_left _ (List.mem_append_left _ (List.mem_append_left _ (List.mem_append_right _ h))))
def wp_Reader_isWord_h15 (v1 : Nat) (v2 : Int32) (t_length : Int32) (t_bytes : Nat → Int32)  (Q : Int32 → Prop) : Nat → Int32 → Prop
  | 0, _ => False
  | n + 1, v4 => (wp_Str_length v1 (fun r_2 => ((r_2 ≤ v4 → Q 1) ∧ (¬ r_2 ≤ v4 → (wp_Tape_byteAt t_length t_bytes (v2 + v4) (fun r_3 => (wp_Str_charAt v1 v4 (fun r_4 => ((r_3 = r_4 → wp_Reader_isWord_h15 v1 v2 t_length t_bytes Q n (v4 + 1)) ∧ (¬ r_3 = r_4 → Q 0))))))))))
def wp_Reader_isWord (t_length : Int32) (t_bytes : Nat → Int32) (p0 : Nat) (p1 : Int32) (p2 : Int32) (Q : Int32 → Prop) : Prop := (wp_Str_length p0 (fun r_1 => ((r_1 = p2 - p1 → (∃ n' : Nat, wp_Reader_isWord_h15 p0 p1 t_length t_bytes Q n' 0)) ∧ (¬ r_1 = p2 - p1 → Q 0))))
set_option maxHeartbeats 4000000 in
set_option maxRecDepth 100000 in
theorem c_Reader_isWord_h15 {p : Program} {l : Launch} {e : Env} {s : State} {m : MethodId} {args : Array Value} {below : List Frame} {meth : Method} {c : Code} {D : va_G} {y : Nat → ClassId} {E : Nat → Nat} {ad : Nat → Nat} {A : Nat → Prop} (hx : p.tables.exec = Jvm.exec) (hb : c.code = cX4_isWord) (hr : meth.sig.returnType = some .boolean) (hml : c.maxLocals = 5) (hown : s.vm.findClass RX4 = some m.cls) (hts : ∀ w ∈ wsX4_isWord, w.before args s = true) (hlocks : meth.locks = false) (hK : va_K D vwCl (TY y) s) (hE : EV s) (hA : ∀ q, s.heap.size ≤ q → A q) (hH : HX E A s s.heap) {v1 : Nat} {v2 : Int32} {v3 : Int32} {t_length : Int32} {t_bytes : Nat → Int32} {e_at : Int32} {e_wrongAt : Int32}  {Q : Int32 → Prop}  : ∀ (n : Nat) (v4 : Int32), wp_Reader_isWord_h15 v1 v2 t_length t_bytes Q n v4 → ∀ (H : Heap) (locs : List Loc) (ls : Array Slot), va_P D vwCl [(ce_tp ad t_length), ((ad 2), .inl (y 1, 400, .inl t_bytes)), (ce_rd ad e_at e_wrongAt)] H → va_D A [(ce_tp ad t_length), ((ad 2), .inl (y 1, 400, .inl t_bytes)), (ce_rd ad e_at e_wrongAt)] → va_S A s.heap H locs → lv_has ls 5 [(4, .int v4), (0, .ref (ad 4)), (1, .ref (E v1)), (2, .int v2), (3, .int v3)] → W p l e ({ frames := 4, cells := 0, slots := 0, locals := 85 }) s m args below meth c H locs 0 0 (MQ below (va_Qi (fun (r : Int32) (u : Unit) => Q r ) (mAt D y A (fun (u : Unit) => [(ce_tp ad t_length), ((ad 2), .inl (y 1, 400, .inl t_bytes)), (ce_rd ad e_at e_wrongAt)])) A) args s 0 0 A) (F0 m 15 ls []) := by
  intro n
  induction n with
  | zero => intro v4 hw; rw [wp_Reader_isWord_h15] at hw; exact hw.elim
  | succ n ih =>
    intro v4 hw H locs ls hP hD hS hl
    rw [wp_Reader_isWord_h15] at hw
    refine lv_iload hx hb dX4_isWord_15 (lv_at hl 0 rfl) ?_
    refine lv_aload_n hx hb dX4_isWord_17 rfl (lv_at hl 2 rfl) ?_
    refine mx_i (wc := []) (wr := [(ce_tp ad t_length), ((ad 2), .inl (y 1, 400, .inl t_bytes)), (ce_rd ad e_at e_wrongAt)]) hP hD hS hA [] [0, 1, 2] [0, 1, 2] rfl rfl (by decide) (by decide) (by decide) (fun (u : Unit) => [(ce_tp ad t_length), ((ad 2), .inl (y 1, 400, .inl t_bytes)), (ce_rd ad e_at e_wrongAt)]) (fun _ => rfl) (va_runV (As := []) (rest := [.int v4]) ⟨hx, hb, hml, hown, hts⟩ (c_Str_length l D y E H.size v1 hw) (cwV 0 hts gX4_isWord_J0_length_8abf5 rfl rfl rfl (by decide +kernel) ⟨Nat.le_of_ble_eq_true rfl, Nat.le_of_ble_eq_true rfl⟩) ⟨nPre.blind, (HX.recv (p := p) (l := l) hH hw.1 hS), nPre.to (hP.sub [] rfl) hK (hD.sub [] (by decide) rfl) hE hH hS (va_free (wc := []) hD hS hA [] rfl)⟩ rfl rfl hl.1 rfl (lv_room (Nat.le_of_ble_eq_true rfl)) dX4_isWord_18 ⟨Nat.le_of_ble_eq_true rfl, Nat.le_of_ble_eq_true rfl⟩) (fun r_2 u H locs hw hP hD hS => ?_)
    try dsimp only at hw
    have hP : va_P D vwCl [(ce_tp ad t_length), ((ad 2), .inl (y 1, 400, .inl t_bytes)), (ce_rd ad e_at e_wrongAt)] H := hP
    have hD : va_D A [(ce_tp ad t_length), ((ad 2), .inl (y 1, 400, .inl t_bytes)), (ce_rd ad e_at e_wrongAt)] := hD
    refine lv_icmp_ge (tgt := 52) hx hb dX4_isWord_21 (by decide) (fun hc => ?_) (fun hc => ?_)
    · have hw := hw.1 hc
      refine lv_iconst (v := 1) hx hb dX4_isWord_52 (by decide) ?_
      exact W.zret (v := 1) hx hb hr (by decide) (fun t ht hW => ⟨⟨1, (), rfl, hw, mAt.to hP hK hD ht hW⟩, hS.F ht⟩) hS.2.2 dX4_isWord_53
    · have hw := hw.2 hc
      refine lv_aload_n hx hb dX4_isWord_24 rfl (lv_at hl 1 rfl) ?_
      refine va_get (ci := 6) (v := .ref (ad 1)) (C := RX4) (T := TX4) (N := 4) hx hb hts inw_X4_isWord_X4 hown hK hP 2 rfl rfl 0 (by decide) (hts (.fieldLink RX4 19 "DockCall$Reader" "tape" "LDockCall$Tape;") (by decide +kernel)) (fun _ h9 => h9) rfl dX4_isWord_25 ?_
      refine lv_iload_n hx hb dX4_isWord_28 rfl (lv_at hl 3 rfl) ?_
      refine lv_iload hx hb dX4_isWord_29 (lv_at hl 0 rfl) ?_
      refine lv_iadd hx hb dX4_isWord_31 ?_
      refine mx_i (wc := [(ce_tp ad t_length), ((ad 2), .inl (y 1, 400, .inl t_bytes))]) (wr := [(ce_rd ad e_at e_wrongAt)]) hP hD hS hA [0, 1] [2] [1, 2, 0] rfl rfl (by decide) (by decide) (by decide) (fun (u : Unit) => [(ce_tp ad t_length), ((ad 2), .inl (y 1, 400, .inl t_bytes)), (ce_rd ad e_at e_wrongAt)]) (fun _ => rfl) (va_runVN (C := RX7) (As := [.int (v2 + v4)]) (rest := []) ⟨hx, hb, hml, hown, hts⟩ (c_Tape_byteAt l D y ad H.size t_length t_bytes (v2 + v4) hw) ⟨va_cnB 1 hts gX4_isWord_X7_byteAt_n44 rfl rfl rfl (hE _ nwm_RX4_44) (hts (.initialized RX7) (by decide +kernel)) (by decide +kernel) ⟨Nat.le_of_ble_eq_true rfl, Nat.le_of_ble_eq_true rfl⟩, (hts (.instanceMethod yX7_byteAt) (by decide +kernel)), (hts (.selects RX7 yX7_byteAt yX7_byteAt) (by decide +kernel))⟩ ⟨mPre.blind, (va_recv hK hP (ci := 9) (q0 := 0) rfl rfl), mPre.to (hP.sub [0, 1] rfl) hK (hD.sub [0, 1] (by decide) rfl) hE⟩ rfl rfl hl.1 rfl (lv_room (Nat.le_of_ble_eq_true rfl)) dX4_isWord_32 ⟨Nat.le_of_ble_eq_true rfl, Nat.le_of_ble_eq_true rfl⟩) (fun r_3 u H locs hw hP hD hS => ?_)
      try dsimp only at hw
      have hP : va_P D vwCl [(ce_tp ad t_length), ((ad 2), .inl (y 1, 400, .inl t_bytes)), (ce_rd ad e_at e_wrongAt)] H := hP
      have hD : va_D A [(ce_tp ad t_length), ((ad 2), .inl (y 1, 400, .inl t_bytes)), (ce_rd ad e_at e_wrongAt)] := hD
      refine lv_aload_n hx hb dX4_isWord_35 rfl (lv_at hl 2 rfl) ?_
      refine lv_iload hx hb dX4_isWord_36 (lv_at hl 0 rfl) ?_
      refine mx_i (wc := []) (wr := [(ce_tp ad t_length), ((ad 2), .inl (y 1, 400, .inl t_bytes)), (ce_rd ad e_at e_wrongAt)]) hP hD hS hA [] [0, 1, 2] [0, 1, 2] rfl rfl (by decide) (by decide) (by decide) (fun (u : Unit) => [(ce_tp ad t_length), ((ad 2), .inl (y 1, 400, .inl t_bytes)), (ce_rd ad e_at e_wrongAt)]) (fun _ => rfl) (va_runV (As := [.int v4]) (rest := [.int r_3]) ⟨hx, hb, hml, hown, hts⟩ (c_Str_charAt l D y E H.size v1 v4 hw) (cwV 1 hts gX4_isWord_J0_charAt_5068e rfl rfl rfl (by decide +kernel) ⟨Nat.le_of_ble_eq_true rfl, Nat.le_of_ble_eq_true rfl⟩) ⟨nPre.blind, (HX.recv (p := p) (l := l) hH hw.1 hS), nPre.to (hP.sub [] rfl) hK (hD.sub [] (by decide) rfl) hE hH hS (va_free (wc := []) hD hS hA [] rfl)⟩ rfl rfl hl.1 rfl (lv_room (Nat.le_of_ble_eq_true rfl)) dX4_isWord_38 ⟨Nat.le_of_ble_eq_true rfl, Nat.le_of_ble_eq_true rfl⟩) (fun r_4 u H locs hw hP hD hS => ?_)
      try dsimp only at hw
      have hP : va_P D vwCl [(ce_tp ad t_length), ((ad 2), .inl (y 1, 400, .inl t_bytes)), (ce_rd ad e_at e_wrongAt)] H := hP
      have hD : va_D A [(ce_tp ad t_length), ((ad 2), .inl (y 1, 400, .inl t_bytes)), (ce_rd ad e_at e_wrongAt)] := hD
      refine lv_icmp_eq (tgt := 46) hx hb dX4_isWord_41 (by decide) (fun hc => ?_) (fun hc => ?_)
      · have hw := hw.1 hc
        refine lv_iinc (v := v4 + 1) (lv' := [(4, .int (v4 + 1)), (0, .ref (ad 4)), (1, .ref (E v1)), (2, .int v2), (3, .int v3)]) hx hb dX4_isWord_46 hl (k := 0) rfl (by first | rfl | decide) (by decide) rfl (fun ls hl => ?_)
        refine lv_goto (tgt := 15) hx hb dX4_isWord_49 (by decide) ?_
        exact ih (v4 + 1)  hw _ _ _ hP hD hS (lv_sub hl [0, 1, 2, 3, 4] rfl)
      · have hw := hw.2 hc
        refine lv_iconst (v := 0) hx hb dX4_isWord_44 (by decide) ?_
        exact W.zret (v := 0) hx hb hr (by decide) (fun t ht hW => ⟨⟨0, (), rfl, hw, mAt.to hP hK hD ht hW⟩, hS.F ht⟩) hS.2.2 dX4_isWord_45
set_option maxHeartbeats 4000000 in
set_option maxRecDepth 100000 in
theorem c_Reader_isWord (l : Launch) (D : va_G) (y E : Nat → Nat) (ad : Nat → Nat) (sz : Nat) (t_length : Int32) (t_bytes : Nat → Int32) (e_at : Int32) (e_wrongAt : Int32) (p0 : Nat) (p1 : Int32) (p2 : Int32) {Q : Int32 → Prop} (hw : wp_Reader_isWord t_length t_bytes p0 p1 p2 Q) : Met l yX4_isWord wsX4_isWord ({ frames := 4, cells := 0, slots := 0, locals := 85 }) (va_Pc [.ref (ad 4), .ref (E p0), .int p1, .int p2] (nPre D y E sz [(ce_tp ad t_length), ((ad 2), .inl (y 1, 400, .inl t_bytes)), (ce_rd ad e_at e_wrongAt)])) (va_Qi (fun (r : Int32) (u : Unit) => Q r ) (mAt D y (va_A [(ce_tp ad t_length), ((ad 2), .inl (y 1, 400, .inl t_bytes)), (ce_rd ad e_at e_wrongAt)] sz) (fun (u : Unit) => [(ce_tp ad t_length), ((ad 2), .inl (y 1, 400, .inl t_bytes)), (ce_rd ad e_at e_wrongAt)])) (va_A [(ce_tp ad t_length), ((ad 2), .inl (y 1, 400, .inl t_bytes)), (ce_rd ad e_at e_wrongAt)] sz)) 0 0 (va_A [(ce_tp ad t_length), ((ad 2), .inl (y 1, 400, .inl t_bytes)), (ce_rd ad e_at e_wrongAt)] sz) := by
  unfold wp_Reader_isWord at hw
  refine Met.ofW (cc := cX4_isWord) (maxL := 5) (ret := some .boolean) (by decide) rfl ?_
  intro p e s m args below meth c s₁ B hml hv
  obtain ⟨rfl, ⟨hsz, hP, hK, hD0, hE⟩, hH⟩ := hv
  have hx := B.exec
  have hb := B.bytes
  have hr := B.returns
  have hts := atoms_spec (ws := wsX4_isWord) B.pre
  have hown : s.vm.findClass RX4 = some m.cls := findClass_of_methodNamed B.named
  have hlocks := B.notSynchronized
  subst hsz
  have hD := hD0.self (sz := s.heap.size)
  generalize hAe : va_A [(ce_tp ad t_length), ((ad 2), .inl (y 1, 400, .inl t_bytes)), (ce_rd ad e_at e_wrongAt)] s.heap.size = A at hD hH ⊢
  have hA : ∀ q : Nat, s.heap.size ≤ q → A q := fun q h => by rw [← hAe]; exact Or.inr h
  have hS : va_S A s.heap s.heap [] := va_S.rf
  have hP : va_P D vwCl [(ce_tp ad t_length), ((ad 2), .inl (y 1, 400, .inl t_bytes)), (ce_rd ad e_at e_wrongAt)] s.heap := hP
  have hl := lv_entry ([.ref (ad 4), .ref (E p0), .int p1, .int p2]) (n := 5) (Nat.le_of_ble_eq_true rfl)
  rw [lg_entry_eq]
  generalize (lg_sl ([.ref (ad 4), .ref (E p0), .int p1, .int p2]) ++ List.replicate (5 - (lg_sl ([.ref (ad 4), .ref (E p0), .int p1, .int p2])).length) Slot.unset).toArray = ls at hl ⊢
  have hl : lv_has ls 5 [(0, .ref (ad 4)), (1, .ref (E p0)), (2, .int p1), (3, .int p2)] := hl
  refine lv_aload_n hx hb dX4_isWord_0 rfl (lv_at hl 1 rfl) ?_
  refine mx_i (wc := []) (wr := [(ce_tp ad t_length), ((ad 2), .inl (y 1, 400, .inl t_bytes)), (ce_rd ad e_at e_wrongAt)]) hP hD hS hA [] [0, 1, 2] [0, 1, 2] rfl rfl (by decide) (by decide) (by decide) (fun (u : Unit) => [(ce_tp ad t_length), ((ad 2), .inl (y 1, 400, .inl t_bytes)), (ce_rd ad e_at e_wrongAt)]) (fun _ => rfl) (va_runV (As := []) (rest := []) ⟨hx, hb, hml, hown, hts⟩ (c_Str_length l D y E s.heap.size p0 hw) (cwV 0 hts gX4_isWord_J0_length_8abf5 rfl rfl rfl (by decide +kernel) ⟨Nat.le_of_ble_eq_true rfl, Nat.le_of_ble_eq_true rfl⟩) ⟨nPre.blind, (HX.recv (p := p) (l := l) hH hw.1 hS), nPre.to (hP.sub [] rfl) hK (hD.sub [] (by decide) rfl) hE hH hS (va_free (wc := []) hD hS hA [] rfl)⟩ rfl rfl hl.1 rfl (lv_room (Nat.le_of_ble_eq_true rfl)) dX4_isWord_1 ⟨Nat.le_of_ble_eq_true rfl, Nat.le_of_ble_eq_true rfl⟩) (fun r_1 u H locs hw hP hD hS => ?_)
  try dsimp only at hw
  have hP : va_P D vwCl [(ce_tp ad t_length), ((ad 2), .inl (y 1, 400, .inl t_bytes)), (ce_rd ad e_at e_wrongAt)] H := hP
  have hD : va_D A [(ce_tp ad t_length), ((ad 2), .inl (y 1, 400, .inl t_bytes)), (ce_rd ad e_at e_wrongAt)] := hD
  refine lv_iload_n hx hb dX4_isWord_4 rfl (lv_at hl 3 rfl) ?_
  refine lv_iload_n hx hb dX4_isWord_5 rfl (lv_at hl 2 rfl) ?_
  refine lv_isub hx hb dX4_isWord_6 ?_
  refine lv_icmp_eq (tgt := 12) hx hb dX4_isWord_7 (by decide) (fun hc => ?_) (fun hc => ?_)
  · have hw := hw.1 hc
    refine lv_iconst (v := 0) hx hb dX4_isWord_12 (by decide) ?_
    refine lv_istore (lv' := [(4, .int 0), (0, .ref (ad 4)), (1, .ref (E p0)), (2, .int p1), (3, .int p2)]) hx hb dX4_isWord_13 hl (by decide) rfl (fun ls hl => ?_)
    obtain ⟨n', hw⟩ := hw
    exact c_Reader_isWord_h15 hx hb hr hml hown hts hlocks hK hE hA hH  n' 0 hw _ _ _ hP hD hS (lv_sub hl [0, 1, 2, 3, 4] rfl)
  · have hw := hw.2 hc
    refine lv_iconst (v := 0) hx hb dX4_isWord_10 (by decide) ?_
    exact W.zret (v := 0) hx hb hr (by decide) (fun t ht hW => ⟨⟨0, (), rfl, hw, mAt.to hP hK hD ht hW⟩, hS.F ht⟩) hS.2.2 dX4_isWord_11
def wp_Reader_clauseOf_h11 (v1 : Int32) (v2 : Int32) (v4 : Int32) (t_length : Int32) (t_bytes : Nat → Int32)  (Q : Nat → Prop) : Nat → Int32 → Prop
  | 0, _ => False
  | n + 1, v5 => ((v4 ≤ v5 → Q 8) ∧ (¬ v4 ≤ v5 → (vp_in v5 8 ∧ (v5.toNatClampNeg < 8 ∧ (wp_Reader_isWord t_length t_bytes (cl_w.getD v5.toNatClampNeg 0) v1 v2 (fun r_1 => ((r_1 = 0 → wp_Reader_clauseOf_h11 v1 v2 v4 t_length t_bytes Q n (v5 + 1)) ∧ (¬ r_1 = 0 → (v5.toNatClampNeg < 8 ∧ Q v5.toNatClampNeg)))))))))
def wp_Reader_clauseOf (t_length : Int32) (t_bytes : Nat → Int32) (p0 : Int32) (p1 : Int32) (Q : Nat → Prop) : Prop := (∃ n' : Nat, wp_Reader_clauseOf_h11 p0 p1 8 t_length t_bytes Q n' 0)
set_option maxHeartbeats 4000000 in
set_option maxRecDepth 100000 in
theorem c_Reader_clauseOf_h11 {p : Program} {l : Launch} {e : Env} {s : State} {m : MethodId} {args : Array Value} {below : List Frame} {meth : Method} {c : Code} {D : va_G} {y : Nat → ClassId} {E : Nat → Nat} {ad : Nat → Nat} {A : Nat → Prop} (hx : p.tables.exec = Jvm.exec) (hb : c.code = cX4_clauseOf) (hr : meth.sig.returnType = some (.object "DockCall$Clause")) (hml : c.maxLocals = 7) (hown : s.vm.findClass RX4 = some m.cls) (hts : ∀ w ∈ wsX4_clauseOf, w.before args s = true) (hlocks : meth.locks = false) (hK : va_K D vwCl (TY y) s) (hE : EV s) (hA : ∀ q, s.heap.size ≤ q → A q) (hH : HX E A s s.heap) {v1 : Int32} {v2 : Int32} {v4 : Int32} {t_length : Int32} {t_bytes : Nat → Int32} {e_at : Int32} {e_wrongAt : Int32}  {Q : Nat → Prop}  : ∀ (n : Nat) (v5 : Int32), wp_Reader_clauseOf_h11 v1 v2 v4 t_length t_bytes Q n v5 → ∀ (H : Heap) (locs : List Loc) (ls : Array Slot), va_P D vwCl [(ce_tp ad t_length), ((ad 2), .inl (y 1, 400, .inl t_bytes)), (ce_rd ad e_at e_wrongAt)] H → va_D A [(ce_tp ad t_length), ((ad 2), .inl (y 1, 400, .inl t_bytes)), (ce_rd ad e_at e_wrongAt)] → va_S A s.heap H locs → lv_has ls 7 [(5, .int v5), (4, .int v4), (3, .ref (E 300)), (0, .ref (ad 4)), (1, .int v1), (2, .int v2)] → W p l e ({ frames := 5, cells := 0, slots := 0, locals := 109 }) s m args below meth c H locs 0 0 (MQ below (my_Qg (clv E) (fun (r : Nat) (u : Unit) => Q r ) (mAt D y A (fun (u : Unit) => [(ce_tp ad t_length), ((ad 2), .inl (y 1, 400, .inl t_bytes)), (ce_rd ad e_at e_wrongAt)])) A) args s 0 0 A) (F0 m 11 ls []) := by
  intro n
  induction n with
  | zero => intro v5 hw; rw [wp_Reader_clauseOf_h11] at hw; exact hw.elim
  | succ n ih =>
    intro v5 hw H locs ls hP hD hS hl
    rw [wp_Reader_clauseOf_h11] at hw
    refine lv_iload hx hb dX4_clauseOf_11 (lv_at hl 0 rfl) ?_
    refine lv_iload hx hb dX4_clauseOf_13 (lv_at hl 1 rfl) ?_
    refine lv_icmp_ge (tgt := 47) hx hb dX4_clauseOf_15 (by decide) (fun hc => ?_) (fun hc => ?_)
    · have hw := hw.1 hc
      refine lv_null hx hb dX4_clauseOf_47 ?_
      exact W.aret (v := .null) hx hb hr (Or.inl ⟨_, rfl⟩) (Or.inl rfl) (fun t ht hW => ⟨⟨8, (), rfl, hw, mAt.to hP hK hD ht hW⟩, hS.F ht⟩) hS.2.2 dX4_clauseOf_48
    · have hw := hw.2 hc
      refine lv_aload_n hx hb dX4_clauseOf_18 rfl (lv_at hl 2 rfl) ?_
      refine lv_iload hx hb dX4_clauseOf_19 (lv_at hl 0 rfl) ?_
      obtain ⟨hi, hw⟩ := hw
      refine vb_tq (v := .ref (E (200 + v5.toNatClampNeg))) hx hb hH.table hS hi rfl dX4_clauseOf_21 ?_
      refine lv_astore (lv' := [(6, .ref (E (200 + v5.toNatClampNeg))), (5, .int v5), (4, .int v4), (3, .ref (E 300)), (0, .ref (ad 4)), (1, .int v1), (2, .int v2)]) hx hb dX4_clauseOf_22 hl (by decide) rfl (fun ls hl => ?_)
      refine lv_aload_n hx hb dX4_clauseOf_24 rfl (lv_at hl 4 rfl) ?_
      refine lv_aload hx hb dX4_clauseOf_25 (lv_at hl 0 rfl) ?_
      obtain ⟨hc8, hw⟩ := hw
      refine my_getfN (v := .ref (E (cl_w.getD v5.toNatClampNeg 0))) hx hb (hH.cl hc8).2.1 hS hown (hE.use nwf_RX4_88) (fun _ h9 => h9) dX4_clauseOf_27 ?_
      refine lv_iload_n hx hb dX4_clauseOf_30 rfl (lv_at hl 5 rfl) ?_
      refine lv_iload_n hx hb dX4_clauseOf_31 rfl (lv_at hl 6 rfl) ?_
      refine mx_i (wc := [(ce_tp ad t_length), ((ad 2), .inl (y 1, 400, .inl t_bytes)), (ce_rd ad e_at e_wrongAt)]) (wr := []) hP hD hS hA [0, 1, 2] [] [0, 1, 2] rfl rfl (by decide) (by decide) (by decide) (fun (u : Unit) => [(ce_tp ad t_length), ((ad 2), .inl (y 1, 400, .inl t_bytes)), (ce_rd ad e_at e_wrongAt)]) (fun _ => rfl) (va_runV (As := [.ref (E (cl_w.getD v5.toNatClampNeg 0)), .int v1, .int v2]) (rest := []) ⟨hx, hb, hml, hown, hts⟩ (c_Reader_isWord l D y E ad H.size t_length t_bytes e_at e_wrongAt (cl_w.getD v5.toNatClampNeg 0) v1 v2 hw) (cwV 3 hts gX4_clauseOf_X4_isWord rfl rfl rfl (by decide +kernel) ⟨Nat.le_of_ble_eq_true rfl, Nat.le_of_ble_eq_true rfl⟩) ⟨nPre.blind, (va_recv hK hP (ci := 6) (q0 := 2) rfl rfl), nPre.to (hP.sub [0, 1, 2] rfl) hK (hD.sub [0, 1, 2] (by decide) rfl) hE hH hS (va_free (wc := [(ce_tp ad t_length), ((ad 2), .inl (y 1, 400, .inl t_bytes)), (ce_rd ad e_at e_wrongAt)]) hD hS hA [0, 1, 2] rfl)⟩ rfl rfl hl.1 rfl (lv_room (Nat.le_of_ble_eq_true rfl)) dX4_clauseOf_32 ⟨Nat.le_of_ble_eq_true rfl, Nat.le_of_ble_eq_true rfl⟩) (fun r_1 u H locs hw hP hD hS => ?_)
      try dsimp only at hw
      have hP : va_P D vwCl [(ce_tp ad t_length), ((ad 2), .inl (y 1, 400, .inl t_bytes)), (ce_rd ad e_at e_wrongAt)] H := hP
      have hD : va_D A [(ce_tp ad t_length), ((ad 2), .inl (y 1, 400, .inl t_bytes)), (ce_rd ad e_at e_wrongAt)] := hD
      refine lv_if_eq (tgt := 41) hx hb dX4_clauseOf_35 (by decide) (fun hc => ?_) (fun hc => ?_)
      · have hw := hw.1 hc
        refine lv_iinc (v := v5 + 1) (lv' := [(5, .int (v5 + 1)), (6, .ref (E (200 + v5.toNatClampNeg))), (4, .int v4), (3, .ref (E 300)), (0, .ref (ad 4)), (1, .int v1), (2, .int v2)]) hx hb dX4_clauseOf_41 hl (k := 1) rfl (by first | rfl | decide) (by decide) rfl (fun ls hl => ?_)
        refine lv_goto (tgt := 11) hx hb dX4_clauseOf_44 (by decide) ?_
        exact ih (v5 + 1)  hw _ _ _ hP hD hS (lv_sub hl [0, 2, 3, 4, 5, 6] rfl)
      · have hw := hw.2 hc
        refine lv_aload hx hb dX4_clauseOf_38 (lv_at hl 0 rfl) ?_
        obtain ⟨hc8, hw⟩ := hw
        exact W.aret (v := .ref (E (200 + v5.toNatClampNeg))) hx hb hr (Or.inl ⟨_, rfl⟩) (Or.inr ⟨_, rfl⟩) (fun t ht hW => ⟨⟨v5.toNatClampNeg, (), by rw [clv_lt hc8], hw, mAt.to hP hK hD ht hW⟩, hS.F ht⟩) hS.2.2 dX4_clauseOf_40
set_option maxHeartbeats 4000000 in
set_option maxRecDepth 100000 in
theorem c_Reader_clauseOf (l : Launch) (D : va_G) (y E : Nat → Nat) (ad : Nat → Nat) (sz : Nat) (t_length : Int32) (t_bytes : Nat → Int32) (e_at : Int32) (e_wrongAt : Int32) (p0 : Int32) (p1 : Int32) {Q : Nat → Prop} (hw : wp_Reader_clauseOf t_length t_bytes p0 p1 Q) : Met l yX4_clauseOf wsX4_clauseOf ({ frames := 5, cells := 0, slots := 0, locals := 109 }) (va_Pc [.ref (ad 4), .int p0, .int p1] (nPre D y E sz [(ce_tp ad t_length), ((ad 2), .inl (y 1, 400, .inl t_bytes)), (ce_rd ad e_at e_wrongAt)])) (my_Qg (clv E) (fun (r : Nat) (u : Unit) => Q r ) (mAt D y (va_A [(ce_tp ad t_length), ((ad 2), .inl (y 1, 400, .inl t_bytes)), (ce_rd ad e_at e_wrongAt)] sz) (fun (u : Unit) => [(ce_tp ad t_length), ((ad 2), .inl (y 1, 400, .inl t_bytes)), (ce_rd ad e_at e_wrongAt)])) (va_A [(ce_tp ad t_length), ((ad 2), .inl (y 1, 400, .inl t_bytes)), (ce_rd ad e_at e_wrongAt)] sz)) 0 0 (va_A [(ce_tp ad t_length), ((ad 2), .inl (y 1, 400, .inl t_bytes)), (ce_rd ad e_at e_wrongAt)] sz) := by
  unfold wp_Reader_clauseOf at hw
  refine Met.ofW (cc := cX4_clauseOf) (maxL := 7) (ret := some (.object "DockCall$Clause")) (by decide) rfl ?_
  intro p e s m args below meth c s₁ B hml hv
  obtain ⟨rfl, ⟨hsz, hP, hK, hD0, hE⟩, hH⟩ := hv
  have hx := B.exec
  have hb := B.bytes
  have hr := B.returns
  have hts := atoms_spec (ws := wsX4_clauseOf) B.pre
  have hown : s.vm.findClass RX4 = some m.cls := findClass_of_methodNamed B.named
  have hlocks := B.notSynchronized
  subst hsz
  have hD := hD0.self (sz := s.heap.size)
  generalize hAe : va_A [(ce_tp ad t_length), ((ad 2), .inl (y 1, 400, .inl t_bytes)), (ce_rd ad e_at e_wrongAt)] s.heap.size = A at hD hH ⊢
  have hA : ∀ q : Nat, s.heap.size ≤ q → A q := fun q h => by rw [← hAe]; exact Or.inr h
  have hS : va_S A s.heap s.heap [] := va_S.rf
  have hP : va_P D vwCl [(ce_tp ad t_length), ((ad 2), .inl (y 1, 400, .inl t_bytes)), (ce_rd ad e_at e_wrongAt)] s.heap := hP
  have hl := lv_entry ([.ref (ad 4), .int p0, .int p1]) (n := 7) (Nat.le_of_ble_eq_true rfl)
  rw [lg_entry_eq]
  generalize (lg_sl ([.ref (ad 4), .int p0, .int p1]) ++ List.replicate (7 - (lg_sl ([.ref (ad 4), .int p0, .int p1])).length) Slot.unset).toArray = ls at hl ⊢
  have hl : lv_has ls 7 [(0, .ref (ad 4)), (1, .int p0), (2, .int p1)] := hl
  refine va_gets hx hb hH.clauses hS hown (hts (.fieldLink RX4 84 "DockCall$Reader" "CLAUSES" "[LDockCall$Clause;") (by decide +kernel)) (fun _ h9 => h9) dX4_clauseOf_0 ?_
  refine lv_astore_n (lv' := [(3, .ref (E 300)), (0, .ref (ad 4)), (1, .int p0), (2, .int p1)]) hx hb dX4_clauseOf_3 rfl hl (by decide) rfl (fun ls hl => ?_)
  refine lv_aload_n hx hb dX4_clauseOf_4 rfl (lv_at hl 0 rfl) ?_
  refine va_tlen (v := 8) hx hb hH.table hS (by decide) dX4_clauseOf_5 ?_
  refine lv_istore (lv' := [(4, .int 8), (3, .ref (E 300)), (0, .ref (ad 4)), (1, .int p0), (2, .int p1)]) hx hb dX4_clauseOf_6 hl (by decide) rfl (fun ls hl => ?_)
  refine lv_iconst (v := 0) hx hb dX4_clauseOf_8 (by decide) ?_
  refine lv_istore (lv' := [(5, .int 0), (4, .int 8), (3, .ref (E 300)), (0, .ref (ad 4)), (1, .int p0), (2, .int p1)]) hx hb dX4_clauseOf_9 hl (by decide) rfl (fun ls hl => ?_)
  obtain ⟨n', hw⟩ := hw
  exact c_Reader_clauseOf_h11 hx hb hr hml hown hts hlocks hK hE hA hH  n' 0 hw _ _ _ hP hD hS (lv_sub hl [0, 1, 2, 3, 4, 5] rfl)
theorem inw_X4_readOrder_X4 : ∀ w ∈ wsX40, w ∈ wsX4_readOrder := fun _ h => List.mem_cons_of_mem _ (List.mem_append_left _ (List.mem_append_left _ (List.mem_append_left _ (List.mem_append_right _ h))))
def wp_Reader_readOrder (t_length : Int32) (t_bytes : Nat → Int32) (e_at : Int32) (e_wrongAt : Int32) (Q : Int32 → Int32 → Int32 → Prop) : Prop := (wp_Reader_skipBlanks t_length t_bytes e_at (fun e_at_1 => (wp_Reader_wordEnd t_length t_bytes e_at_1 (fun r_2 => (wp_Reader_isWord t_length t_bytes 8 e_at_1 r_2 (fun r_3 => ((r_3 = 0 → (wp_Reader_isWord t_length t_bytes 9 e_at_1 r_2 (fun r_4 => ((r_4 = 0 → (wp_Reader_isWord t_length t_bytes 10 e_at_1 r_2 (fun r_5 => ((r_5 = 0 → (wp_Reader_wrongHere e_at_1 (fun r_6 e_wrongAt_7 => Q r_6 r_2 e_wrongAt_7))) ∧ (¬ r_5 = 0 → Q 2 r_2 e_wrongAt))))) ∧ (¬ r_4 = 0 → Q 1 r_2 e_wrongAt))))) ∧ (¬ r_3 = 0 → Q 0 r_2 e_wrongAt))))))))
set_option maxHeartbeats 4000000 in
set_option maxRecDepth 100000 in
theorem c_Reader_readOrder (l : Launch) (D : va_G) (y E : Nat → Nat) (ad : Nat → Nat) (sz : Nat) (t_length : Int32) (t_bytes : Nat → Int32) (e_at : Int32) (e_wrongAt : Int32)  {Q : Int32 → Int32 → Int32 → Prop} (hw : wp_Reader_readOrder t_length t_bytes e_at e_wrongAt Q) : Met l yX4_readOrder wsX4_readOrder ({ frames := 5, cells := 0, slots := 0, locals := 109 }) (va_Pc [.ref (ad 4)] (nPre D y E sz [(ce_tp ad t_length), ((ad 2), .inl (y 1, 400, .inl t_bytes)), (ce_rd ad e_at e_wrongAt)])) (va_Qi (fun (r : Int32) (u : Int32 × Int32) => Q r u.1 u.2) (mAt D y (va_A [(ce_tp ad t_length), ((ad 2), .inl (y 1, 400, .inl t_bytes)), (ce_rd ad e_at e_wrongAt)] sz) (fun (u : Int32 × Int32) => [(ce_tp ad t_length), ((ad 2), .inl (y 1, 400, .inl t_bytes)), (ce_rd ad u.1 u.2)])) (va_A [(ce_tp ad t_length), ((ad 2), .inl (y 1, 400, .inl t_bytes)), (ce_rd ad e_at e_wrongAt)] sz)) 0 0 (va_A [(ce_tp ad t_length), ((ad 2), .inl (y 1, 400, .inl t_bytes)), (ce_rd ad e_at e_wrongAt)] sz) := by
  unfold wp_Reader_readOrder at hw
  refine Met.ofW (cc := cX4_readOrder) (maxL := 2) (ret := some .int) (by decide) rfl ?_
  intro p e s m args below meth c s₁ B hml hv
  obtain ⟨rfl, ⟨hsz, hP, hK, hD0, hE⟩, hH⟩ := hv
  have hx := B.exec
  have hb := B.bytes
  have hr := B.returns
  have hts := atoms_spec (ws := wsX4_readOrder) B.pre
  have hown : s.vm.findClass RX4 = some m.cls := findClass_of_methodNamed B.named
  have hlocks := B.notSynchronized
  subst hsz
  have hD := hD0.self (sz := s.heap.size)
  generalize hAe : va_A [(ce_tp ad t_length), ((ad 2), .inl (y 1, 400, .inl t_bytes)), (ce_rd ad e_at e_wrongAt)] s.heap.size = A at hD hH ⊢
  have hA : ∀ q : Nat, s.heap.size ≤ q → A q := fun q h => by rw [← hAe]; exact Or.inr h
  have hS : va_S A s.heap s.heap [] := va_S.rf
  have hP : va_P D vwCl [(ce_tp ad t_length), ((ad 2), .inl (y 1, 400, .inl t_bytes)), (ce_rd ad e_at e_wrongAt)] s.heap := hP
  have hl := lv_entry ([.ref (ad 4)]) (n := 2) (Nat.le_of_ble_eq_true rfl)
  rw [lg_entry_eq]
  generalize (lg_sl ([.ref (ad 4)]) ++ List.replicate (2 - (lg_sl ([.ref (ad 4)])).length) Slot.unset).toArray = ls at hl ⊢
  have hl : lv_has ls 2 [(0, .ref (ad 4))] := hl
  refine lv_aload_n hx hb dX4_readOrder_0 rfl (lv_at hl 0 rfl) ?_
  refine mx_v (wc := [(ce_tp ad t_length), ((ad 2), .inl (y 1, 400, .inl t_bytes)), (ce_rd ad e_at e_wrongAt)]) (wr := []) hP hD hS hA [0, 1, 2] [] [0, 1, 2] rfl rfl (by decide) (by decide) (by decide) (fun (u : Int32) => [(ce_tp ad t_length), ((ad 2), .inl (y 1, 400, .inl t_bytes)), (ce_rd ad u e_wrongAt)]) (fun _ => rfl) (va_runV (As := []) (rest := []) ⟨hx, hb, hml, hown, hts⟩ (c_Reader_skipBlanks l D y ad s.heap.size t_length t_bytes e_at e_wrongAt hw) (cwV 0 hts gX4_readOrder_X4_skipBlanks rfl rfl rfl (by decide +kernel) ⟨Nat.le_of_ble_eq_true rfl, Nat.le_of_ble_eq_true rfl⟩) ⟨mPre.blind, (va_recv hK hP (ci := 6) (q0 := 2) rfl rfl), mPre.to (hP.sub [0, 1, 2] rfl) hK (hD.sub [0, 1, 2] (by decide) rfl) hE⟩ rfl rfl hl.1 rfl (lv_room (Nat.le_of_ble_eq_true rfl)) dX4_readOrder_1 ⟨Nat.le_of_ble_eq_true rfl, Nat.le_of_ble_eq_true rfl⟩) (fun u H locs hw hP hD hS => ?_)
  obtain ⟨e_at_1, rfl⟩ : ∃ z, z = u := ⟨_, rfl⟩
  try dsimp only at hw
  have hP : va_P D vwCl [(ce_tp ad t_length), ((ad 2), .inl (y 1, 400, .inl t_bytes)), (ce_rd ad e_at_1 e_wrongAt)] H := hP
  have hD : va_D A [(ce_tp ad t_length), ((ad 2), .inl (y 1, 400, .inl t_bytes)), (ce_rd ad e_at_1 e_wrongAt)] := hD
  refine lv_aload_n hx hb dX4_readOrder_4 rfl (lv_at hl 0 rfl) ?_
  refine va_get (ci := 6) (v := .int e_at_1) (C := RX4) (T := TX4) (N := 4) hx hb hts inw_X4_readOrder_X4 hown hK hP 2 rfl rfl 2 (by decide) (hts (.fieldLink RX4 29 "DockCall$Reader" "at" "I") (by decide +kernel)) (fun _ h9 => h9) rfl dX4_readOrder_5 ?_
  refine lv_istore_n (lv' := [(1, .int e_at_1), (0, .ref (ad 4))]) hx hb dX4_readOrder_8 rfl hl (by decide) rfl (fun ls hl => ?_)
  refine lv_aload_n hx hb dX4_readOrder_9 rfl (lv_at hl 1 rfl) ?_
  refine lv_aload_n hx hb dX4_readOrder_10 rfl (lv_at hl 1 rfl) ?_
  refine lv_iload_n hx hb dX4_readOrder_11 rfl (lv_at hl 0 rfl) ?_
  refine mx_i (wc := [(ce_tp ad t_length), ((ad 2), .inl (y 1, 400, .inl t_bytes)), (ce_rd ad e_at_1 e_wrongAt)]) (wr := []) hP hD hS hA [0, 1, 2] [] [0, 1, 2] rfl rfl (by decide) (by decide) (by decide) (fun (u : Unit) => [(ce_tp ad t_length), ((ad 2), .inl (y 1, 400, .inl t_bytes)), (ce_rd ad e_at_1 e_wrongAt)]) (fun _ => rfl) (va_runV (As := [.int e_at_1]) (rest := [.ref (ad 4)]) ⟨hx, hb, hml, hown, hts⟩ (c_Reader_wordEnd l D y ad H.size t_length t_bytes e_at_1 e_wrongAt e_at_1 hw) (cwV 1 hts gX4_readOrder_X4_wordEnd rfl rfl rfl (by decide +kernel) ⟨Nat.le_of_ble_eq_true rfl, Nat.le_of_ble_eq_true rfl⟩) ⟨mPre.blind, (va_recv hK hP (ci := 6) (q0 := 2) rfl rfl), mPre.to (hP.sub [0, 1, 2] rfl) hK (hD.sub [0, 1, 2] (by decide) rfl) hE⟩ rfl rfl hl.1 rfl (lv_room (Nat.le_of_ble_eq_true rfl)) dX4_readOrder_12 ⟨Nat.le_of_ble_eq_true rfl, Nat.le_of_ble_eq_true rfl⟩) (fun r_2 u H locs hw hP hD hS => ?_)
  try dsimp only at hw
  have hP : va_P D vwCl [(ce_tp ad t_length), ((ad 2), .inl (y 1, 400, .inl t_bytes)), (ce_rd ad e_at_1 e_wrongAt)] H := hP
  have hD : va_D A [(ce_tp ad t_length), ((ad 2), .inl (y 1, 400, .inl t_bytes)), (ce_rd ad e_at_1 e_wrongAt)] := hD
  refine va_put (ci := 6) (v := .int r_2) (ty := .int) (C := RX4) (T := TX4) (N := 4) hx hb hts inw_X4_readOrder_X4 tyX4 tyX4_ok nmX4 hown hK hP hD hS 2 rfl rfl 2 (by decide) (hts (.fieldLink RX4 29 "DockCall$Reader" "at" "I") (by decide +kernel)) (fun _ h9 => h9) rfl (by decide +kernel) rfl rfl (Nat.le_of_ble_eq_true rfl) dX4_readOrder_15 (fun H locs hP hD hS => ?_)
  have hP : va_P D vwCl [(ce_tp ad t_length), ((ad 2), .inl (y 1, 400, .inl t_bytes)), (ce_rd ad r_2 e_wrongAt)] H := hP
  have hD : va_D A [(ce_tp ad t_length), ((ad 2), .inl (y 1, 400, .inl t_bytes)), (ce_rd ad r_2 e_wrongAt)] := hD
  refine lv_aload_n hx hb dX4_readOrder_18 rfl (lv_at hl 1 rfl) ?_
  refine va_ldcS hx hb hown (xk_R96 hH) dX4_readOrder_19 ?_
  refine lv_iload_n hx hb dX4_readOrder_21 rfl (lv_at hl 0 rfl) ?_
  refine lv_aload_n hx hb dX4_readOrder_22 rfl (lv_at hl 1 rfl) ?_
  refine va_get (ci := 6) (v := .int r_2) (C := RX4) (T := TX4) (N := 4) hx hb hts inw_X4_readOrder_X4 hown hK hP 2 rfl rfl 2 (by decide) (hts (.fieldLink RX4 29 "DockCall$Reader" "at" "I") (by decide +kernel)) (fun _ h9 => h9) rfl dX4_readOrder_23 ?_
  refine mx_i (wc := [(ce_tp ad t_length), ((ad 2), .inl (y 1, 400, .inl t_bytes)), (ce_rd ad r_2 e_wrongAt)]) (wr := []) hP hD hS hA [0, 1, 2] [] [0, 1, 2] rfl rfl (by decide) (by decide) (by decide) (fun (u : Unit) => [(ce_tp ad t_length), ((ad 2), .inl (y 1, 400, .inl t_bytes)), (ce_rd ad r_2 e_wrongAt)]) (fun _ => rfl) (va_runV (As := [.ref (E 8), .int e_at_1, .int r_2]) (rest := []) ⟨hx, hb, hml, hown, hts⟩ (c_Reader_isWord l D y E ad H.size t_length t_bytes r_2 e_wrongAt 8 e_at_1 r_2 hw) (cwV 3 hts gX4_readOrder_X4_isWord rfl rfl rfl (by decide +kernel) ⟨Nat.le_of_ble_eq_true rfl, Nat.le_of_ble_eq_true rfl⟩) ⟨nPre.blind, (va_recv hK hP (ci := 6) (q0 := 2) rfl rfl), nPre.to (hP.sub [0, 1, 2] rfl) hK (hD.sub [0, 1, 2] (by decide) rfl) hE hH hS (va_free (wc := [(ce_tp ad t_length), ((ad 2), .inl (y 1, 400, .inl t_bytes)), (ce_rd ad r_2 e_wrongAt)]) hD hS hA [0, 1, 2] rfl)⟩ rfl rfl hl.1 rfl (lv_room (Nat.le_of_ble_eq_true rfl)) dX4_readOrder_26 ⟨Nat.le_of_ble_eq_true rfl, Nat.le_of_ble_eq_true rfl⟩) (fun r_3 u H locs hw hP hD hS => ?_)
  try dsimp only at hw
  have hP : va_P D vwCl [(ce_tp ad t_length), ((ad 2), .inl (y 1, 400, .inl t_bytes)), (ce_rd ad r_2 e_wrongAt)] H := hP
  have hD : va_D A [(ce_tp ad t_length), ((ad 2), .inl (y 1, 400, .inl t_bytes)), (ce_rd ad r_2 e_wrongAt)] := hD
  refine lv_if_eq (tgt := 34) hx hb dX4_readOrder_29 (by decide) (fun hc => ?_) (fun hc => ?_)
  · have hw := hw.1 hc
    refine lv_aload_n hx hb dX4_readOrder_34 rfl (lv_at hl 1 rfl) ?_
    refine va_ldcS hx hb hown (xk_R98 hH) dX4_readOrder_35 ?_
    refine lv_iload_n hx hb dX4_readOrder_37 rfl (lv_at hl 0 rfl) ?_
    refine lv_aload_n hx hb dX4_readOrder_38 rfl (lv_at hl 1 rfl) ?_
    refine va_get (ci := 6) (v := .int r_2) (C := RX4) (T := TX4) (N := 4) hx hb hts inw_X4_readOrder_X4 hown hK hP 2 rfl rfl 2 (by decide) (hts (.fieldLink RX4 29 "DockCall$Reader" "at" "I") (by decide +kernel)) (fun _ h9 => h9) rfl dX4_readOrder_39 ?_
    refine mx_i (wc := [(ce_tp ad t_length), ((ad 2), .inl (y 1, 400, .inl t_bytes)), (ce_rd ad r_2 e_wrongAt)]) (wr := []) hP hD hS hA [0, 1, 2] [] [0, 1, 2] rfl rfl (by decide) (by decide) (by decide) (fun (u : Unit) => [(ce_tp ad t_length), ((ad 2), .inl (y 1, 400, .inl t_bytes)), (ce_rd ad r_2 e_wrongAt)]) (fun _ => rfl) (va_runV (As := [.ref (E 9), .int e_at_1, .int r_2]) (rest := []) ⟨hx, hb, hml, hown, hts⟩ (c_Reader_isWord l D y E ad H.size t_length t_bytes r_2 e_wrongAt 9 e_at_1 r_2 hw) (cwV 3 hts gX4_readOrder_X4_isWord rfl rfl rfl (by decide +kernel) ⟨Nat.le_of_ble_eq_true rfl, Nat.le_of_ble_eq_true rfl⟩) ⟨nPre.blind, (va_recv hK hP (ci := 6) (q0 := 2) rfl rfl), nPre.to (hP.sub [0, 1, 2] rfl) hK (hD.sub [0, 1, 2] (by decide) rfl) hE hH hS (va_free (wc := [(ce_tp ad t_length), ((ad 2), .inl (y 1, 400, .inl t_bytes)), (ce_rd ad r_2 e_wrongAt)]) hD hS hA [0, 1, 2] rfl)⟩ rfl rfl hl.1 rfl (lv_room (Nat.le_of_ble_eq_true rfl)) dX4_readOrder_42 ⟨Nat.le_of_ble_eq_true rfl, Nat.le_of_ble_eq_true rfl⟩) (fun r_4 u H locs hw hP hD hS => ?_)
    try dsimp only at hw
    have hP : va_P D vwCl [(ce_tp ad t_length), ((ad 2), .inl (y 1, 400, .inl t_bytes)), (ce_rd ad r_2 e_wrongAt)] H := hP
    have hD : va_D A [(ce_tp ad t_length), ((ad 2), .inl (y 1, 400, .inl t_bytes)), (ce_rd ad r_2 e_wrongAt)] := hD
    refine lv_if_eq (tgt := 50) hx hb dX4_readOrder_45 (by decide) (fun hc => ?_) (fun hc => ?_)
    · have hw := hw.1 hc
      refine lv_aload_n hx hb dX4_readOrder_50 rfl (lv_at hl 1 rfl) ?_
      refine va_ldcS hx hb hown (xk_R100 hH) dX4_readOrder_51 ?_
      refine lv_iload_n hx hb dX4_readOrder_53 rfl (lv_at hl 0 rfl) ?_
      refine lv_aload_n hx hb dX4_readOrder_54 rfl (lv_at hl 1 rfl) ?_
      refine va_get (ci := 6) (v := .int r_2) (C := RX4) (T := TX4) (N := 4) hx hb hts inw_X4_readOrder_X4 hown hK hP 2 rfl rfl 2 (by decide) (hts (.fieldLink RX4 29 "DockCall$Reader" "at" "I") (by decide +kernel)) (fun _ h9 => h9) rfl dX4_readOrder_55 ?_
      refine mx_i (wc := [(ce_tp ad t_length), ((ad 2), .inl (y 1, 400, .inl t_bytes)), (ce_rd ad r_2 e_wrongAt)]) (wr := []) hP hD hS hA [0, 1, 2] [] [0, 1, 2] rfl rfl (by decide) (by decide) (by decide) (fun (u : Unit) => [(ce_tp ad t_length), ((ad 2), .inl (y 1, 400, .inl t_bytes)), (ce_rd ad r_2 e_wrongAt)]) (fun _ => rfl) (va_runV (As := [.ref (E 10), .int e_at_1, .int r_2]) (rest := []) ⟨hx, hb, hml, hown, hts⟩ (c_Reader_isWord l D y E ad H.size t_length t_bytes r_2 e_wrongAt 10 e_at_1 r_2 hw) (cwV 3 hts gX4_readOrder_X4_isWord rfl rfl rfl (by decide +kernel) ⟨Nat.le_of_ble_eq_true rfl, Nat.le_of_ble_eq_true rfl⟩) ⟨nPre.blind, (va_recv hK hP (ci := 6) (q0 := 2) rfl rfl), nPre.to (hP.sub [0, 1, 2] rfl) hK (hD.sub [0, 1, 2] (by decide) rfl) hE hH hS (va_free (wc := [(ce_tp ad t_length), ((ad 2), .inl (y 1, 400, .inl t_bytes)), (ce_rd ad r_2 e_wrongAt)]) hD hS hA [0, 1, 2] rfl)⟩ rfl rfl hl.1 rfl (lv_room (Nat.le_of_ble_eq_true rfl)) dX4_readOrder_58 ⟨Nat.le_of_ble_eq_true rfl, Nat.le_of_ble_eq_true rfl⟩) (fun r_5 u H locs hw hP hD hS => ?_)
      try dsimp only at hw
      have hP : va_P D vwCl [(ce_tp ad t_length), ((ad 2), .inl (y 1, 400, .inl t_bytes)), (ce_rd ad r_2 e_wrongAt)] H := hP
      have hD : va_D A [(ce_tp ad t_length), ((ad 2), .inl (y 1, 400, .inl t_bytes)), (ce_rd ad r_2 e_wrongAt)] := hD
      refine lv_if_eq (tgt := 66) hx hb dX4_readOrder_61 (by decide) (fun hc => ?_) (fun hc => ?_)
      · have hw := hw.1 hc
        refine lv_aload_n hx hb dX4_readOrder_66 rfl (lv_at hl 1 rfl) ?_
        refine lv_iload_n hx hb dX4_readOrder_67 rfl (lv_at hl 0 rfl) ?_
        refine mx_i (wc := [(ce_rd ad r_2 e_wrongAt)]) (wr := [(ce_tp ad t_length), ((ad 2), .inl (y 1, 400, .inl t_bytes))]) hP hD hS hA [2] [0, 1] [0, 1, 2] rfl rfl (by decide) (by decide) (by decide) (fun (u : Int32) => [(ce_tp ad t_length), ((ad 2), .inl (y 1, 400, .inl t_bytes)), (ce_rd ad r_2 u)]) (fun _ => rfl) (va_runV (As := [.int e_at_1]) (rest := []) ⟨hx, hb, hml, hown, hts⟩ (c_Reader_wrongHere l D y ad H.size r_2 e_wrongAt e_at_1 hw) (cwV 1 hts gX4_readOrder_X4_wrongHere rfl rfl rfl (by decide +kernel) ⟨Nat.le_of_ble_eq_true rfl, Nat.le_of_ble_eq_true rfl⟩) ⟨mPre.blind, (va_recv hK hP (ci := 6) (q0 := 2) rfl rfl), mPre.to (hP.sub [2] rfl) hK (hD.sub [2] (by decide) rfl) hE⟩ rfl rfl hl.1 rfl (lv_room (Nat.le_of_ble_eq_true rfl)) dX4_readOrder_68 ⟨Nat.le_of_ble_eq_true rfl, Nat.le_of_ble_eq_true rfl⟩) (fun r_6 u H locs hw hP hD hS => ?_)
        obtain ⟨e_wrongAt_7, rfl⟩ : ∃ z, z = u := ⟨_, rfl⟩
        try dsimp only at hw
        have hP : va_P D vwCl [(ce_tp ad t_length), ((ad 2), .inl (y 1, 400, .inl t_bytes)), (ce_rd ad r_2 e_wrongAt_7)] H := hP
        have hD : va_D A [(ce_tp ad t_length), ((ad 2), .inl (y 1, 400, .inl t_bytes)), (ce_rd ad r_2 e_wrongAt_7)] := hD
        exact W.iret (v := r_6) hx hb hr (fun t ht hW => ⟨⟨r_6, (r_2, e_wrongAt_7), rfl, hw, mAt.to hP hK hD ht hW⟩, hS.F ht⟩) hS.2.2 dX4_readOrder_71
      · have hw := hw.2 hc
        refine lv_iconst (v := 2) hx hb dX4_readOrder_64 (by decide) ?_
        exact W.iret (v := 2) hx hb hr (fun t ht hW => ⟨⟨2, (r_2, e_wrongAt), rfl, hw, mAt.to hP hK hD ht hW⟩, hS.F ht⟩) hS.2.2 dX4_readOrder_65
    · have hw := hw.2 hc
      refine lv_iconst (v := 1) hx hb dX4_readOrder_48 (by decide) ?_
      exact W.iret (v := 1) hx hb hr (fun t ht hW => ⟨⟨1, (r_2, e_wrongAt), rfl, hw, mAt.to hP hK hD ht hW⟩, hS.F ht⟩) hS.2.2 dX4_readOrder_49
  · have hw := hw.2 hc
    refine lv_iconst (v := 0) hx hb dX4_readOrder_32 (by decide) ?_
    exact W.iret (v := 0) hx hb hr (fun t ht hW => ⟨⟨0, (r_2, e_wrongAt), rfl, hw, mAt.to hP hK hD ht hW⟩, hS.F ht⟩) hS.2.2 dX4_readOrder_33
theorem inw_X4_readClause_X4 : ∀ w ∈ wsX40, w ∈ wsX4_readClause := fun _ h => List.mem_cons_of_mem _ (List.mem_append_left _ (List.mem_append_left _ (List.mem_append_left _ (List.mem_append_right _ h))))
def wp_Reader_readClause (t_length : Int32) (t_bytes : Nat → Int32) (e_at : Int32) (e_wrongAt : Int32) (e_told : Nat → Int32) (Q : Int32 → Int32 → Int32 → (Nat → Int32) → Prop) : Prop := (wp_Reader_skipBlanks t_length t_bytes e_at (fun e_at_1 => (wp_Reader_wordEnd t_length t_bytes e_at_1 (fun r_2 => (wp_Reader_clauseOf t_length t_bytes e_at_1 r_2 (fun r_3 => ((r_3 < 8 → (r_3 < 8 ∧ (r_3 < 8 ∧ ((r_3 = 1 → (wp_Reader_readNumber t_length t_bytes r_2 e_wrongAt 0 3 (fun r_10 e_at_11 e_wrongAt_12 => ((r_10 = (-1) → Q 0 e_at_11 e_wrongAt_12 e_told) ∧ (¬ r_10 = (-1) → (r_3 < 8 ∧ ((r_3 = 7 → (wp_Reader_readOrder t_length t_bytes e_at_11 e_wrongAt_12 (fun r_16 e_at_17 e_wrongAt_18 => ((r_16 = (-1) → Q 0 e_at_17 e_wrongAt_18 e_told) ∧ (¬ r_16 = (-1) → (((cl_p.getD r_3 0) + r_10 < 0 → Q 0 e_at_17 e_wrongAt_18 e_told) ∧ (¬ (cl_p.getD r_3 0) + r_10 < 0 → (((cl_p.getD r_3 0) + r_10 < 11 → (vp_in ((cl_p.getD r_3 0) + r_10) 11 ∧ Q 1 e_at_17 e_wrongAt_18 (upd e_told ((cl_p.getD r_3 0) + r_10).toNatClampNeg r_16))) ∧ (¬ (cl_p.getD r_3 0) + r_10 < 11 → Q 0 e_at_17 e_wrongAt_18 e_told))))))))) ∧ (¬ r_3 = 7 → (r_3 < 8 ∧ (r_3 < 8 ∧ (wp_Reader_readNumber t_length t_bytes e_at_11 e_wrongAt_12 (cl_l.getD r_3 0) (cl_m.getD r_3 0) (fun r_13 e_at_14 e_wrongAt_15 => ((r_13 = (-1) → Q 0 e_at_14 e_wrongAt_15 e_told) ∧ (¬ r_13 = (-1) → (((cl_p.getD r_3 0) + r_10 < 0 → Q 0 e_at_14 e_wrongAt_15 e_told) ∧ (¬ (cl_p.getD r_3 0) + r_10 < 0 → (((cl_p.getD r_3 0) + r_10 < 11 → (vp_in ((cl_p.getD r_3 0) + r_10) 11 ∧ Q 1 e_at_14 e_wrongAt_15 (upd e_told ((cl_p.getD r_3 0) + r_10).toNatClampNeg r_13))) ∧ (¬ (cl_p.getD r_3 0) + r_10 < 11 → Q 0 e_at_14 e_wrongAt_15 e_told)))))))))))))))))) ∧ (¬ r_3 = 1 → (r_3 < 8 ∧ ((r_3 = 7 → (wp_Reader_readOrder t_length t_bytes r_2 e_wrongAt (fun r_7 e_at_8 e_wrongAt_9 => ((r_7 = (-1) → Q 0 e_at_8 e_wrongAt_9 e_told) ∧ (¬ r_7 = (-1) → ((cl_p.getD r_3 0 < 0 → Q 0 e_at_8 e_wrongAt_9 e_told) ∧ (¬ cl_p.getD r_3 0 < 0 → ((cl_p.getD r_3 0 < 11 → (vp_in (cl_p.getD r_3 0) 11 ∧ Q 1 e_at_8 e_wrongAt_9 (upd e_told (cl_p.getD r_3 0).toNatClampNeg r_7))) ∧ (¬ cl_p.getD r_3 0 < 11 → Q 0 e_at_8 e_wrongAt_9 e_told))))))))) ∧ (¬ r_3 = 7 → (r_3 < 8 ∧ (r_3 < 8 ∧ (wp_Reader_readNumber t_length t_bytes r_2 e_wrongAt (cl_l.getD r_3 0) (cl_m.getD r_3 0) (fun r_4 e_at_5 e_wrongAt_6 => ((r_4 = (-1) → Q 0 e_at_5 e_wrongAt_6 e_told) ∧ (¬ r_4 = (-1) → ((cl_p.getD r_3 0 < 0 → Q 0 e_at_5 e_wrongAt_6 e_told) ∧ (¬ cl_p.getD r_3 0 < 0 → ((cl_p.getD r_3 0 < 11 → (vp_in (cl_p.getD r_3 0) 11 ∧ Q 1 e_at_5 e_wrongAt_6 (upd e_told (cl_p.getD r_3 0).toNatClampNeg r_4))) ∧ (¬ cl_p.getD r_3 0 < 11 → Q 0 e_at_5 e_wrongAt_6 e_told)))))))))))))))))) ∧ (¬ r_3 < 8 → Q 0 e_at_1 e_at_1 e_told))))))))
set_option maxHeartbeats 4000000 in
set_option maxRecDepth 100000 in
theorem c_Reader_readClause (l : Launch) (D : va_G) (y E : Nat → Nat) (ad : Nat → Nat) (sz : Nat) (t_length : Int32) (t_bytes : Nat → Int32) (e_at : Int32) (e_wrongAt : Int32) (e_told : Nat → Int32)  {Q : Int32 → Int32 → Int32 → (Nat → Int32) → Prop} (hw : wp_Reader_readClause t_length t_bytes e_at e_wrongAt e_told Q) : Met l yX4_readClause wsX4_readClause ({ frames := 6, cells := 0, slots := 0, locals := 135 }) (va_Pc [.ref (ad 4)] (nPre D y E sz [(ce_tp ad t_length), ((ad 2), .inl (y 1, 400, .inl t_bytes)), (ce_rd ad e_at e_wrongAt), ((ad 5), .inl (y 0, 11, .inl e_told))])) (va_Qi (fun (r : Int32) (u : Int32 × Int32 × (Nat → Int32)) => Q r u.1 u.2.1 u.2.2) (mAt D y (va_A [(ce_tp ad t_length), ((ad 2), .inl (y 1, 400, .inl t_bytes)), (ce_rd ad e_at e_wrongAt), ((ad 5), .inl (y 0, 11, .inl e_told))] sz) (fun (u : Int32 × Int32 × (Nat → Int32)) => [(ce_tp ad t_length), ((ad 2), .inl (y 1, 400, .inl t_bytes)), (ce_rd ad u.1 u.2.1), ((ad 5), .inl (y 0, 11, .inl u.2.2))])) (va_A [(ce_tp ad t_length), ((ad 2), .inl (y 1, 400, .inl t_bytes)), (ce_rd ad e_at e_wrongAt), ((ad 5), .inl (y 0, 11, .inl e_told))] sz)) 0 0 (va_A [(ce_tp ad t_length), ((ad 2), .inl (y 1, 400, .inl t_bytes)), (ce_rd ad e_at e_wrongAt), ((ad 5), .inl (y 0, 11, .inl e_told))] sz) := by
  unfold wp_Reader_readClause at hw
  refine Met.ofW (cc := cX4_readClause) (maxL := 5) (ret := some .boolean) (by decide) rfl ?_
  intro p e s m args below meth c s₁ B hml hv
  obtain ⟨rfl, ⟨hsz, hP, hK, hD0, hE⟩, hH⟩ := hv
  have hx := B.exec
  have hb := B.bytes
  have hr := B.returns
  have hts := atoms_spec (ws := wsX4_readClause) B.pre
  have hown : s.vm.findClass RX4 = some m.cls := findClass_of_methodNamed B.named
  have hlocks := B.notSynchronized
  subst hsz
  have hD := hD0.self (sz := s.heap.size)
  generalize hAe : va_A [(ce_tp ad t_length), ((ad 2), .inl (y 1, 400, .inl t_bytes)), (ce_rd ad e_at e_wrongAt), ((ad 5), .inl (y 0, 11, .inl e_told))] s.heap.size = A at hD hH ⊢
  have hA : ∀ q : Nat, s.heap.size ≤ q → A q := fun q h => by rw [← hAe]; exact Or.inr h
  have hS : va_S A s.heap s.heap [] := va_S.rf
  have hP : va_P D vwCl [(ce_tp ad t_length), ((ad 2), .inl (y 1, 400, .inl t_bytes)), (ce_rd ad e_at e_wrongAt), ((ad 5), .inl (y 0, 11, .inl e_told))] s.heap := hP
  have hl := lv_entry ([.ref (ad 4)]) (n := 5) (Nat.le_of_ble_eq_true rfl)
  rw [lg_entry_eq]
  generalize (lg_sl ([.ref (ad 4)]) ++ List.replicate (5 - (lg_sl ([.ref (ad 4)])).length) Slot.unset).toArray = ls at hl ⊢
  have hl : lv_has ls 5 [(0, .ref (ad 4))] := hl
  refine lv_aload_n hx hb dX4_readClause_0 rfl (lv_at hl 0 rfl) ?_
  refine mx_v (wc := [(ce_tp ad t_length), ((ad 2), .inl (y 1, 400, .inl t_bytes)), (ce_rd ad e_at e_wrongAt)]) (wr := [((ad 5), .inl (y 0, 11, .inl e_told))]) hP hD hS hA [0, 1, 2] [3] [1, 2, 3, 0] rfl rfl (by decide) (by decide) (by decide) (fun (u : Int32) => [(ce_tp ad t_length), ((ad 2), .inl (y 1, 400, .inl t_bytes)), (ce_rd ad u e_wrongAt), ((ad 5), .inl (y 0, 11, .inl e_told))]) (fun _ => rfl) (va_runV (As := []) (rest := []) ⟨hx, hb, hml, hown, hts⟩ (c_Reader_skipBlanks l D y ad s.heap.size t_length t_bytes e_at e_wrongAt hw) (cwV 0 hts gX4_readClause_X4_skipBlanks rfl rfl rfl (by decide +kernel) ⟨Nat.le_of_ble_eq_true rfl, Nat.le_of_ble_eq_true rfl⟩) ⟨mPre.blind, (va_recv hK hP (ci := 6) (q0 := 2) rfl rfl), mPre.to (hP.sub [0, 1, 2] rfl) hK (hD.sub [0, 1, 2] (by decide) rfl) hE⟩ rfl rfl hl.1 rfl (lv_room (Nat.le_of_ble_eq_true rfl)) dX4_readClause_1 ⟨Nat.le_of_ble_eq_true rfl, Nat.le_of_ble_eq_true rfl⟩) (fun u H locs hw hP hD hS => ?_)
  obtain ⟨e_at_1, rfl⟩ : ∃ z, z = u := ⟨_, rfl⟩
  try dsimp only at hw
  have hP : va_P D vwCl [(ce_tp ad t_length), ((ad 2), .inl (y 1, 400, .inl t_bytes)), (ce_rd ad e_at_1 e_wrongAt), ((ad 5), .inl (y 0, 11, .inl e_told))] H := hP
  have hD : va_D A [(ce_tp ad t_length), ((ad 2), .inl (y 1, 400, .inl t_bytes)), (ce_rd ad e_at_1 e_wrongAt), ((ad 5), .inl (y 0, 11, .inl e_told))] := hD
  refine lv_aload_n hx hb dX4_readClause_4 rfl (lv_at hl 0 rfl) ?_
  refine lv_aload_n hx hb dX4_readClause_5 rfl (lv_at hl 0 rfl) ?_
  refine va_get (ci := 6) (v := .int e_at_1) (C := RX4) (T := TX4) (N := 4) hx hb hts inw_X4_readClause_X4 hown hK hP 2 rfl rfl 2 (by decide) (hts (.fieldLink RX4 29 "DockCall$Reader" "at" "I") (by decide +kernel)) (fun _ h9 => h9) rfl dX4_readClause_6 ?_
  refine mx_i (wc := [(ce_tp ad t_length), ((ad 2), .inl (y 1, 400, .inl t_bytes)), (ce_rd ad e_at_1 e_wrongAt)]) (wr := [((ad 5), .inl (y 0, 11, .inl e_told))]) hP hD hS hA [0, 1, 2] [3] [1, 2, 3, 0] rfl rfl (by decide) (by decide) (by decide) (fun (u : Unit) => [(ce_tp ad t_length), ((ad 2), .inl (y 1, 400, .inl t_bytes)), (ce_rd ad e_at_1 e_wrongAt), ((ad 5), .inl (y 0, 11, .inl e_told))]) (fun _ => rfl) (va_runV (As := [.int e_at_1]) (rest := []) ⟨hx, hb, hml, hown, hts⟩ (c_Reader_wordEnd l D y ad H.size t_length t_bytes e_at_1 e_wrongAt e_at_1 hw) (cwV 1 hts gX4_readClause_X4_wordEnd rfl rfl rfl (by decide +kernel) ⟨Nat.le_of_ble_eq_true rfl, Nat.le_of_ble_eq_true rfl⟩) ⟨mPre.blind, (va_recv hK hP (ci := 6) (q0 := 2) rfl rfl), mPre.to (hP.sub [0, 1, 2] rfl) hK (hD.sub [0, 1, 2] (by decide) rfl) hE⟩ rfl rfl hl.1 rfl (lv_room (Nat.le_of_ble_eq_true rfl)) dX4_readClause_9 ⟨Nat.le_of_ble_eq_true rfl, Nat.le_of_ble_eq_true rfl⟩) (fun r_2 u H locs hw hP hD hS => ?_)
  try dsimp only at hw
  have hP : va_P D vwCl [(ce_tp ad t_length), ((ad 2), .inl (y 1, 400, .inl t_bytes)), (ce_rd ad e_at_1 e_wrongAt), ((ad 5), .inl (y 0, 11, .inl e_told))] H := hP
  have hD : va_D A [(ce_tp ad t_length), ((ad 2), .inl (y 1, 400, .inl t_bytes)), (ce_rd ad e_at_1 e_wrongAt), ((ad 5), .inl (y 0, 11, .inl e_told))] := hD
  refine lv_istore_n (lv' := [(1, .int r_2), (0, .ref (ad 4))]) hx hb dX4_readClause_12 rfl hl (by decide) rfl (fun ls hl => ?_)
  refine lv_aload_n hx hb dX4_readClause_13 rfl (lv_at hl 1 rfl) ?_
  refine lv_aload_n hx hb dX4_readClause_14 rfl (lv_at hl 1 rfl) ?_
  refine va_get (ci := 6) (v := .int e_at_1) (C := RX4) (T := TX4) (N := 4) hx hb hts inw_X4_readClause_X4 hown hK hP 2 rfl rfl 2 (by decide) (hts (.fieldLink RX4 29 "DockCall$Reader" "at" "I") (by decide +kernel)) (fun _ h9 => h9) rfl dX4_readClause_15 ?_
  refine lv_iload_n hx hb dX4_readClause_18 rfl (lv_at hl 0 rfl) ?_
  refine mx_g (wc := [(ce_tp ad t_length), ((ad 2), .inl (y 1, 400, .inl t_bytes)), (ce_rd ad e_at_1 e_wrongAt)]) (wr := [((ad 5), .inl (y 0, 11, .inl e_told))]) hP hD hS hA [0, 1, 2] [3] [1, 2, 3, 0] rfl rfl (by decide) (by decide) (by decide) (fun (u : Unit) => [(ce_tp ad t_length), ((ad 2), .inl (y 1, 400, .inl t_bytes)), (ce_rd ad e_at_1 e_wrongAt), ((ad 5), .inl (y 0, 11, .inl e_told))]) (fun _ => rfl) (va_runV (As := [.int e_at_1, .int r_2]) (rest := []) ⟨hx, hb, hml, hown, hts⟩ (c_Reader_clauseOf l D y E ad H.size t_length t_bytes e_at_1 e_wrongAt e_at_1 r_2 hw) (cwV 2 hts gX4_readClause_X4_clauseOf rfl rfl rfl (by decide +kernel) ⟨Nat.le_of_ble_eq_true rfl, Nat.le_of_ble_eq_true rfl⟩) ⟨nPre.blind, (va_recv hK hP (ci := 6) (q0 := 2) rfl rfl), nPre.to (hP.sub [0, 1, 2] rfl) hK (hD.sub [0, 1, 2] (by decide) rfl) hE hH hS (va_free (wc := [(ce_tp ad t_length), ((ad 2), .inl (y 1, 400, .inl t_bytes)), (ce_rd ad e_at_1 e_wrongAt)]) hD hS hA [0, 1, 2] rfl)⟩ rfl rfl hl.1 rfl (lv_room (Nat.le_of_ble_eq_true rfl)) dX4_readClause_19 ⟨Nat.le_of_ble_eq_true rfl, Nat.le_of_ble_eq_true rfl⟩) (fun r_3 u H locs hw hP hD hS => ?_)
  try dsimp only at hw
  have hP : va_P D vwCl [(ce_tp ad t_length), ((ad 2), .inl (y 1, 400, .inl t_bytes)), (ce_rd ad e_at_1 e_wrongAt), ((ad 5), .inl (y 0, 11, .inl e_told))] H := hP
  have hD : va_D A [(ce_tp ad t_length), ((ad 2), .inl (y 1, 400, .inl t_bytes)), (ce_rd ad e_at_1 e_wrongAt), ((ad 5), .inl (y 0, 11, .inl e_told))] := hD
  by_cases hc8 : r_3 < 8
  · have hw := hw.1 hc8
    rw [clv_lt hc8]
    refine lv_astore_n (lv' := [(2, .ref (E (200 + r_3))), (1, .int r_2), (0, .ref (ad 4))]) hx hb dX4_readClause_22 rfl hl (by decide) rfl (fun ls hl => ?_)
    refine lv_aload_n hx hb dX4_readClause_23 rfl (lv_at hl 0 rfl) ?_
    refine lv_ifnonnull (tgt := 37) hx hb dX4_readClause_24 (by decide) ?_
    refine lv_aload_n hx hb dX4_readClause_37 rfl (lv_at hl 2 rfl) ?_
    refine lv_iload_n hx hb dX4_readClause_38 rfl (lv_at hl 1 rfl) ?_
    refine va_put (ci := 6) (v := .int r_2) (ty := .int) (C := RX4) (T := TX4) (N := 4) hx hb hts inw_X4_readClause_X4 tyX4 tyX4_ok nmX4 hown hK hP hD hS 2 rfl rfl 2 (by decide) (hts (.fieldLink RX4 29 "DockCall$Reader" "at" "I") (by decide +kernel)) (fun _ h9 => h9) rfl (by decide +kernel) rfl rfl (Nat.le_of_ble_eq_true rfl) dX4_readClause_39 (fun H locs hP hD hS => ?_)
    have hP : va_P D vwCl [(ce_tp ad t_length), ((ad 2), .inl (y 1, 400, .inl t_bytes)), (ce_rd ad r_2 e_wrongAt), ((ad 5), .inl (y 0, 11, .inl e_told))] H := hP
    have hD : va_D A [(ce_tp ad t_length), ((ad 2), .inl (y 1, 400, .inl t_bytes)), (ce_rd ad r_2 e_wrongAt), ((ad 5), .inl (y 0, 11, .inl e_told))] := hD
    refine lv_aload_n hx hb dX4_readClause_42 rfl (lv_at hl 0 rfl) ?_
    obtain ⟨hc8, hw⟩ := hw
    refine my_getfN (v := .int (cl_p.getD r_3 0)) hx hb (hH.cl hc8).2.2.1 hS hown (hE.use nwf_RX4_58) (fun _ h9 => h9) dX4_readClause_43 ?_
    refine lv_istore_n (lv' := [(3, .int (cl_p.getD r_3 0)), (2, .ref (E (200 + r_3))), (1, .int r_2), (0, .ref (ad 4))]) hx hb dX4_readClause_46 rfl hl (by decide) rfl (fun ls hl => ?_)
    refine lv_aload_n hx hb dX4_readClause_47 rfl (lv_at hl 1 rfl) ?_
    refine va_gets (v := .ref (E (200 + 1))) hx hb hH.cRATE_OF_SKILL hS hown (hts (.fieldLink RX4 63 "DockCall$Clause" "RATE_OF_SKILL" "LDockCall$Clause;") (by decide +kernel)) (fun _ h9 => h9) dX4_readClause_48 ?_
    obtain ⟨hc8, hw⟩ := hw
    refine lv_acmp_ne (rx := some (E (200 + r_3))) (ry := some (E (200 + 1))) (tgt := 75) hx hb dX4_readClause_51 (by decide) (fun hc => ?_) (fun hc => ?_)
    · have hw := hw.2 (fun q => hc (by rw [q]))
      refine lv_aload_n hx hb dX4_readClause_75 rfl (lv_at hl 1 rfl) ?_
      refine va_gets (v := .ref (E (200 + 7))) hx hb hH.cFIRST_SHIPS hS hown (hts (.fieldLink RX4 71 "DockCall$Clause" "FIRST_SHIPS" "LDockCall$Clause;") (by decide +kernel)) (fun _ h9 => h9) dX4_readClause_76 ?_
      obtain ⟨hc8, hw⟩ := hw
      refine lv_acmp_ne (rx := some (E (200 + r_3))) (ry := some (E (200 + 7))) (tgt := 89) hx hb dX4_readClause_79 (by decide) (fun hc => ?_) (fun hc => ?_)
      · have hw := hw.2 (fun q => hc (by rw [q]))
        refine lv_aload_n hx hb dX4_readClause_89 rfl (lv_at hl 3 rfl) ?_
        refine lv_aload_n hx hb dX4_readClause_90 rfl (lv_at hl 1 rfl) ?_
        obtain ⟨hc8, hw⟩ := hw
        refine my_getfN (v := .int (cl_l.getD r_3 0)) hx hb (hH.cl hc8).2.2.2.1 hS hown (hE.use nwf_RX4_78) (fun _ h9 => h9) dX4_readClause_91 ?_
        refine lv_aload_n hx hb dX4_readClause_94 rfl (lv_at hl 1 rfl) ?_
        obtain ⟨hc8, hw⟩ := hw
        refine my_getfN (v := .int (cl_m.getD r_3 0)) hx hb (hH.cl hc8).2.2.2.2 hS hown (hE.use nwf_RX4_81) (fun _ h9 => h9) dX4_readClause_95 ?_
        refine mx_i (wc := [(ce_tp ad t_length), ((ad 2), .inl (y 1, 400, .inl t_bytes)), (ce_rd ad r_2 e_wrongAt)]) (wr := [((ad 5), .inl (y 0, 11, .inl e_told))]) hP hD hS hA [0, 1, 2] [3] [1, 2, 3, 0] rfl rfl (by decide) (by decide) (by decide) (fun (u : Int32 × Int32) => [(ce_tp ad t_length), ((ad 2), .inl (y 1, 400, .inl t_bytes)), (ce_rd ad u.1 u.2), ((ad 5), .inl (y 0, 11, .inl e_told))]) (fun _ => rfl) (va_runV (As := [.int (cl_l.getD r_3 0), .int (cl_m.getD r_3 0)]) (rest := []) ⟨hx, hb, hml, hown, hts⟩ (c_Reader_readNumber l D y ad H.size t_length t_bytes r_2 e_wrongAt (cl_l.getD r_3 0) (cl_m.getD r_3 0) hw) (cwV 2 hts gX4_readClause_X4_readNumber rfl rfl rfl (by decide +kernel) ⟨Nat.le_of_ble_eq_true rfl, Nat.le_of_ble_eq_true rfl⟩) ⟨mPre.blind, (va_recv hK hP (ci := 6) (q0 := 2) rfl rfl), mPre.to (hP.sub [0, 1, 2] rfl) hK (hD.sub [0, 1, 2] (by decide) rfl) hE⟩ rfl rfl hl.1 rfl (lv_room (Nat.le_of_ble_eq_true rfl)) dX4_readClause_98 ⟨Nat.le_of_ble_eq_true rfl, Nat.le_of_ble_eq_true rfl⟩) (fun r_4 u H locs hw hP hD hS => ?_)
        obtain ⟨e_at_5, e_wrongAt_6⟩ := u
        try dsimp only at hw
        have hP : va_P D vwCl [(ce_tp ad t_length), ((ad 2), .inl (y 1, 400, .inl t_bytes)), (ce_rd ad e_at_5 e_wrongAt_6), ((ad 5), .inl (y 0, 11, .inl e_told))] H := hP
        have hD : va_D A [(ce_tp ad t_length), ((ad 2), .inl (y 1, 400, .inl t_bytes)), (ce_rd ad e_at_5 e_wrongAt_6), ((ad 5), .inl (y 0, 11, .inl e_told))] := hD
        refine lv_istore (lv' := [(4, .int r_4), (3, .int (cl_p.getD r_3 0)), (2, .ref (E (200 + r_3))), (1, .int r_2), (0, .ref (ad 4))]) hx hb dX4_readClause_101 hl (by decide) rfl (fun ls hl => ?_)
        refine lv_iload hx hb dX4_readClause_103 (lv_at hl 0 rfl) ?_
        refine lv_iconst (v := (-1)) hx hb dX4_readClause_105 (by decide) ?_
        refine lv_icmp_eq (tgt := 119) hx hb dX4_readClause_106 (by decide) (fun hc => ?_) (fun hc => ?_)
        · have hw := hw.1 hc
          refine lv_iconst (v := 0) hx hb dX4_readClause_119 (by decide) ?_
          exact W.zret (v := 0) hx hb hr (by decide) (fun t ht hW => ⟨⟨0, (e_at_5, e_wrongAt_6, e_told), rfl, hw, mAt.to hP hK hD ht hW⟩, hS.F ht⟩) hS.2.2 dX4_readClause_120
        · have hw := hw.2 hc
          refine lv_iload_n hx hb dX4_readClause_109 rfl (lv_at hl 1 rfl) ?_
          refine lv_if_lt (tgt := 119) hx hb dX4_readClause_110 (by decide) (fun hc => ?_) (fun hc => ?_)
          · have hw := hw.1 hc
            refine lv_iconst (v := 0) hx hb dX4_readClause_119 (by decide) ?_
            exact W.zret (v := 0) hx hb hr (by decide) (fun t ht hW => ⟨⟨0, (e_at_5, e_wrongAt_6, e_told), rfl, hw, mAt.to hP hK hD ht hW⟩, hS.F ht⟩) hS.2.2 dX4_readClause_120
          · have hw := hw.2 hc
            refine lv_iload_n hx hb dX4_readClause_113 rfl (lv_at hl 1 rfl) ?_
            refine lv_bipush (v := 11) hx hb dX4_readClause_114 (by decide) ?_
            refine lv_icmp_lt (tgt := 121) hx hb dX4_readClause_116 (by decide) (fun hc => ?_) (fun hc => ?_)
            · have hw := hw.1 hc
              refine lv_aload_n hx hb dX4_readClause_121 rfl (lv_at hl 4 rfl) ?_
              refine va_get (ci := 6) (v := .ref (ad 5)) (C := RX4) (T := TX4) (N := 4) hx hb hts inw_X4_readClause_X4 hown hK hP 2 rfl rfl 1 (by decide) (hts (.fieldLink RX4 9 "DockCall$Reader" "told" "[I") (by decide +kernel)) (fun _ h9 => h9) rfl dX4_readClause_122 ?_
              refine lv_iload_n hx hb dX4_readClause_125 rfl (lv_at hl 1 rfl) ?_
              refine lv_iload hx hb dX4_readClause_126 (lv_at hl 0 rfl) ?_
              obtain ⟨hi, hw⟩ := hw
              refine va_iast hx hb hK hP hD hS 3 0 rfl rfl hi dX4_readClause_128 (fun H locs hP hD hS => ?_)
              have hP : va_P D vwCl [(ce_tp ad t_length), ((ad 2), .inl (y 1, 400, .inl t_bytes)), (ce_rd ad e_at_5 e_wrongAt_6), ((ad 5), .inl (y 0, 11, .inl (upd e_told (cl_p.getD r_3 0).toNatClampNeg r_4)))] H := hP
              have hD : va_D A [(ce_tp ad t_length), ((ad 2), .inl (y 1, 400, .inl t_bytes)), (ce_rd ad e_at_5 e_wrongAt_6), ((ad 5), .inl (y 0, 11, .inl (upd e_told (cl_p.getD r_3 0).toNatClampNeg r_4)))] := hD
              refine lv_iconst (v := 1) hx hb dX4_readClause_129 (by decide) ?_
              exact W.zret (v := 1) hx hb hr (by decide) (fun t ht hW => ⟨⟨1, (e_at_5, e_wrongAt_6, upd e_told (cl_p.getD r_3 0).toNatClampNeg r_4), rfl, hw, mAt.to hP hK hD ht hW⟩, hS.F ht⟩) hS.2.2 dX4_readClause_130
            · have hw := hw.2 hc
              refine lv_iconst (v := 0) hx hb dX4_readClause_119 (by decide) ?_
              exact W.zret (v := 0) hx hb hr (by decide) (fun t ht hW => ⟨⟨0, (e_at_5, e_wrongAt_6, e_told), rfl, hw, mAt.to hP hK hD ht hW⟩, hS.F ht⟩) hS.2.2 dX4_readClause_120
      · have hw := hw.1 (hH.clinj hc8 (by decide) (Option.some.inj hc))
        refine lv_aload_n hx hb dX4_readClause_82 rfl (lv_at hl 3 rfl) ?_
        refine mx_i (wc := [(ce_tp ad t_length), ((ad 2), .inl (y 1, 400, .inl t_bytes)), (ce_rd ad r_2 e_wrongAt)]) (wr := [((ad 5), .inl (y 0, 11, .inl e_told))]) hP hD hS hA [0, 1, 2] [3] [1, 2, 3, 0] rfl rfl (by decide) (by decide) (by decide) (fun (u : Int32 × Int32) => [(ce_tp ad t_length), ((ad 2), .inl (y 1, 400, .inl t_bytes)), (ce_rd ad u.1 u.2), ((ad 5), .inl (y 0, 11, .inl e_told))]) (fun _ => rfl) (va_runV (As := []) (rest := []) ⟨hx, hb, hml, hown, hts⟩ (c_Reader_readOrder l D y E ad H.size t_length t_bytes r_2 e_wrongAt hw) (cwV 0 hts gX4_readClause_X4_readOrder rfl rfl rfl (by decide +kernel) ⟨Nat.le_of_ble_eq_true rfl, Nat.le_of_ble_eq_true rfl⟩) ⟨nPre.blind, (va_recv hK hP (ci := 6) (q0 := 2) rfl rfl), nPre.to (hP.sub [0, 1, 2] rfl) hK (hD.sub [0, 1, 2] (by decide) rfl) hE hH hS (va_free (wc := [(ce_tp ad t_length), ((ad 2), .inl (y 1, 400, .inl t_bytes)), (ce_rd ad r_2 e_wrongAt)]) hD hS hA [0, 1, 2] rfl)⟩ rfl rfl hl.1 rfl (lv_room (Nat.le_of_ble_eq_true rfl)) dX4_readClause_83 ⟨Nat.le_of_ble_eq_true rfl, Nat.le_of_ble_eq_true rfl⟩) (fun r_7 u H locs hw hP hD hS => ?_)
        obtain ⟨e_at_8, e_wrongAt_9⟩ := u
        try dsimp only at hw
        have hP : va_P D vwCl [(ce_tp ad t_length), ((ad 2), .inl (y 1, 400, .inl t_bytes)), (ce_rd ad e_at_8 e_wrongAt_9), ((ad 5), .inl (y 0, 11, .inl e_told))] H := hP
        have hD : va_D A [(ce_tp ad t_length), ((ad 2), .inl (y 1, 400, .inl t_bytes)), (ce_rd ad e_at_8 e_wrongAt_9), ((ad 5), .inl (y 0, 11, .inl e_told))] := hD
        refine lv_goto (tgt := 101) hx hb dX4_readClause_86 (by decide) ?_
        refine lv_istore (lv' := [(4, .int r_7), (3, .int (cl_p.getD r_3 0)), (2, .ref (E (200 + r_3))), (1, .int r_2), (0, .ref (ad 4))]) hx hb dX4_readClause_101 hl (by decide) rfl (fun ls hl => ?_)
        refine lv_iload hx hb dX4_readClause_103 (lv_at hl 0 rfl) ?_
        refine lv_iconst (v := (-1)) hx hb dX4_readClause_105 (by decide) ?_
        refine lv_icmp_eq (tgt := 119) hx hb dX4_readClause_106 (by decide) (fun hc => ?_) (fun hc => ?_)
        · have hw := hw.1 hc
          refine lv_iconst (v := 0) hx hb dX4_readClause_119 (by decide) ?_
          exact W.zret (v := 0) hx hb hr (by decide) (fun t ht hW => ⟨⟨0, (e_at_8, e_wrongAt_9, e_told), rfl, hw, mAt.to hP hK hD ht hW⟩, hS.F ht⟩) hS.2.2 dX4_readClause_120
        · have hw := hw.2 hc
          refine lv_iload_n hx hb dX4_readClause_109 rfl (lv_at hl 1 rfl) ?_
          refine lv_if_lt (tgt := 119) hx hb dX4_readClause_110 (by decide) (fun hc => ?_) (fun hc => ?_)
          · have hw := hw.1 hc
            refine lv_iconst (v := 0) hx hb dX4_readClause_119 (by decide) ?_
            exact W.zret (v := 0) hx hb hr (by decide) (fun t ht hW => ⟨⟨0, (e_at_8, e_wrongAt_9, e_told), rfl, hw, mAt.to hP hK hD ht hW⟩, hS.F ht⟩) hS.2.2 dX4_readClause_120
          · have hw := hw.2 hc
            refine lv_iload_n hx hb dX4_readClause_113 rfl (lv_at hl 1 rfl) ?_
            refine lv_bipush (v := 11) hx hb dX4_readClause_114 (by decide) ?_
            refine lv_icmp_lt (tgt := 121) hx hb dX4_readClause_116 (by decide) (fun hc => ?_) (fun hc => ?_)
            · have hw := hw.1 hc
              refine lv_aload_n hx hb dX4_readClause_121 rfl (lv_at hl 4 rfl) ?_
              refine va_get (ci := 6) (v := .ref (ad 5)) (C := RX4) (T := TX4) (N := 4) hx hb hts inw_X4_readClause_X4 hown hK hP 2 rfl rfl 1 (by decide) (hts (.fieldLink RX4 9 "DockCall$Reader" "told" "[I") (by decide +kernel)) (fun _ h9 => h9) rfl dX4_readClause_122 ?_
              refine lv_iload_n hx hb dX4_readClause_125 rfl (lv_at hl 1 rfl) ?_
              refine lv_iload hx hb dX4_readClause_126 (lv_at hl 0 rfl) ?_
              obtain ⟨hi, hw⟩ := hw
              refine va_iast hx hb hK hP hD hS 3 0 rfl rfl hi dX4_readClause_128 (fun H locs hP hD hS => ?_)
              have hP : va_P D vwCl [(ce_tp ad t_length), ((ad 2), .inl (y 1, 400, .inl t_bytes)), (ce_rd ad e_at_8 e_wrongAt_9), ((ad 5), .inl (y 0, 11, .inl (upd e_told (cl_p.getD r_3 0).toNatClampNeg r_7)))] H := hP
              have hD : va_D A [(ce_tp ad t_length), ((ad 2), .inl (y 1, 400, .inl t_bytes)), (ce_rd ad e_at_8 e_wrongAt_9), ((ad 5), .inl (y 0, 11, .inl (upd e_told (cl_p.getD r_3 0).toNatClampNeg r_7)))] := hD
              refine lv_iconst (v := 1) hx hb dX4_readClause_129 (by decide) ?_
              exact W.zret (v := 1) hx hb hr (by decide) (fun t ht hW => ⟨⟨1, (e_at_8, e_wrongAt_9, upd e_told (cl_p.getD r_3 0).toNatClampNeg r_7), rfl, hw, mAt.to hP hK hD ht hW⟩, hS.F ht⟩) hS.2.2 dX4_readClause_130
            · have hw := hw.2 hc
              refine lv_iconst (v := 0) hx hb dX4_readClause_119 (by decide) ?_
              exact W.zret (v := 0) hx hb hr (by decide) (fun t ht hW => ⟨⟨0, (e_at_8, e_wrongAt_9, e_told), rfl, hw, mAt.to hP hK hD ht hW⟩, hS.F ht⟩) hS.2.2 dX4_readClause_120
    · have hw := hw.1 (hH.clinj hc8 (by decide) (Option.some.inj hc))
      refine lv_aload_n hx hb dX4_readClause_54 rfl (lv_at hl 3 rfl) ?_
      refine lv_iconst (v := 0) hx hb dX4_readClause_55 (by decide) ?_
      refine lv_iconst (v := 3) hx hb dX4_readClause_56 (by decide) ?_
      refine mx_i (wc := [(ce_tp ad t_length), ((ad 2), .inl (y 1, 400, .inl t_bytes)), (ce_rd ad r_2 e_wrongAt)]) (wr := [((ad 5), .inl (y 0, 11, .inl e_told))]) hP hD hS hA [0, 1, 2] [3] [1, 2, 3, 0] rfl rfl (by decide) (by decide) (by decide) (fun (u : Int32 × Int32) => [(ce_tp ad t_length), ((ad 2), .inl (y 1, 400, .inl t_bytes)), (ce_rd ad u.1 u.2), ((ad 5), .inl (y 0, 11, .inl e_told))]) (fun _ => rfl) (va_runV (As := [.int 0, .int 3]) (rest := []) ⟨hx, hb, hml, hown, hts⟩ (c_Reader_readNumber l D y ad H.size t_length t_bytes r_2 e_wrongAt 0 3 hw) (cwV 2 hts gX4_readClause_X4_readNumber rfl rfl rfl (by decide +kernel) ⟨Nat.le_of_ble_eq_true rfl, Nat.le_of_ble_eq_true rfl⟩) ⟨mPre.blind, (va_recv hK hP (ci := 6) (q0 := 2) rfl rfl), mPre.to (hP.sub [0, 1, 2] rfl) hK (hD.sub [0, 1, 2] (by decide) rfl) hE⟩ rfl rfl hl.1 rfl (lv_room (Nat.le_of_ble_eq_true rfl)) dX4_readClause_57 ⟨Nat.le_of_ble_eq_true rfl, Nat.le_of_ble_eq_true rfl⟩) (fun r_10 u H locs hw hP hD hS => ?_)
      obtain ⟨e_at_11, e_wrongAt_12⟩ := u
      try dsimp only at hw
      have hP : va_P D vwCl [(ce_tp ad t_length), ((ad 2), .inl (y 1, 400, .inl t_bytes)), (ce_rd ad e_at_11 e_wrongAt_12), ((ad 5), .inl (y 0, 11, .inl e_told))] H := hP
      have hD : va_D A [(ce_tp ad t_length), ((ad 2), .inl (y 1, 400, .inl t_bytes)), (ce_rd ad e_at_11 e_wrongAt_12), ((ad 5), .inl (y 0, 11, .inl e_told))] := hD
      refine lv_istore (lv' := [(4, .int r_10), (3, .int (cl_p.getD r_3 0)), (2, .ref (E (200 + r_3))), (1, .int r_2), (0, .ref (ad 4))]) hx hb dX4_readClause_60 hl (by decide) rfl (fun ls hl => ?_)
      refine lv_iload hx hb dX4_readClause_62 (lv_at hl 0 rfl) ?_
      refine lv_iconst (v := (-1)) hx hb dX4_readClause_64 (by decide) ?_
      refine lv_icmp_ne (tgt := 70) hx hb dX4_readClause_65 (by decide) (fun hc => ?_) (fun hc => ?_)
      · have hw := hw.2 hc
        refine lv_iload_n hx hb dX4_readClause_70 rfl (lv_at hl 1 rfl) ?_
        refine lv_iload hx hb dX4_readClause_71 (lv_at hl 0 rfl) ?_
        refine lv_iadd hx hb dX4_readClause_73 ?_
        refine lv_istore_n (lv' := [(3, .int ((cl_p.getD r_3 0) + r_10)), (4, .int r_10), (2, .ref (E (200 + r_3))), (1, .int r_2), (0, .ref (ad 4))]) hx hb dX4_readClause_74 rfl hl (by decide) rfl (fun ls hl => ?_)
        refine lv_aload_n hx hb dX4_readClause_75 rfl (lv_at hl 2 rfl) ?_
        refine va_gets (v := .ref (E (200 + 7))) hx hb hH.cFIRST_SHIPS hS hown (hts (.fieldLink RX4 71 "DockCall$Clause" "FIRST_SHIPS" "LDockCall$Clause;") (by decide +kernel)) (fun _ h9 => h9) dX4_readClause_76 ?_
        obtain ⟨hc8, hw⟩ := hw
        refine lv_acmp_ne (rx := some (E (200 + r_3))) (ry := some (E (200 + 7))) (tgt := 89) hx hb dX4_readClause_79 (by decide) (fun hc => ?_) (fun hc => ?_)
        · have hw := hw.2 (fun q => hc (by rw [q]))
          refine lv_aload_n hx hb dX4_readClause_89 rfl (lv_at hl 4 rfl) ?_
          refine lv_aload_n hx hb dX4_readClause_90 rfl (lv_at hl 2 rfl) ?_
          obtain ⟨hc8, hw⟩ := hw
          refine my_getfN (v := .int (cl_l.getD r_3 0)) hx hb (hH.cl hc8).2.2.2.1 hS hown (hE.use nwf_RX4_78) (fun _ h9 => h9) dX4_readClause_91 ?_
          refine lv_aload_n hx hb dX4_readClause_94 rfl (lv_at hl 2 rfl) ?_
          obtain ⟨hc8, hw⟩ := hw
          refine my_getfN (v := .int (cl_m.getD r_3 0)) hx hb (hH.cl hc8).2.2.2.2 hS hown (hE.use nwf_RX4_81) (fun _ h9 => h9) dX4_readClause_95 ?_
          refine mx_i (wc := [(ce_tp ad t_length), ((ad 2), .inl (y 1, 400, .inl t_bytes)), (ce_rd ad e_at_11 e_wrongAt_12)]) (wr := [((ad 5), .inl (y 0, 11, .inl e_told))]) hP hD hS hA [0, 1, 2] [3] [1, 2, 3, 0] rfl rfl (by decide) (by decide) (by decide) (fun (u : Int32 × Int32) => [(ce_tp ad t_length), ((ad 2), .inl (y 1, 400, .inl t_bytes)), (ce_rd ad u.1 u.2), ((ad 5), .inl (y 0, 11, .inl e_told))]) (fun _ => rfl) (va_runV (As := [.int (cl_l.getD r_3 0), .int (cl_m.getD r_3 0)]) (rest := []) ⟨hx, hb, hml, hown, hts⟩ (c_Reader_readNumber l D y ad H.size t_length t_bytes e_at_11 e_wrongAt_12 (cl_l.getD r_3 0) (cl_m.getD r_3 0) hw) (cwV 2 hts gX4_readClause_X4_readNumber rfl rfl rfl (by decide +kernel) ⟨Nat.le_of_ble_eq_true rfl, Nat.le_of_ble_eq_true rfl⟩) ⟨mPre.blind, (va_recv hK hP (ci := 6) (q0 := 2) rfl rfl), mPre.to (hP.sub [0, 1, 2] rfl) hK (hD.sub [0, 1, 2] (by decide) rfl) hE⟩ rfl rfl hl.1 rfl (lv_room (Nat.le_of_ble_eq_true rfl)) dX4_readClause_98 ⟨Nat.le_of_ble_eq_true rfl, Nat.le_of_ble_eq_true rfl⟩) (fun r_13 u H locs hw hP hD hS => ?_)
          obtain ⟨e_at_14, e_wrongAt_15⟩ := u
          try dsimp only at hw
          have hP : va_P D vwCl [(ce_tp ad t_length), ((ad 2), .inl (y 1, 400, .inl t_bytes)), (ce_rd ad e_at_14 e_wrongAt_15), ((ad 5), .inl (y 0, 11, .inl e_told))] H := hP
          have hD : va_D A [(ce_tp ad t_length), ((ad 2), .inl (y 1, 400, .inl t_bytes)), (ce_rd ad e_at_14 e_wrongAt_15), ((ad 5), .inl (y 0, 11, .inl e_told))] := hD
          refine lv_istore (lv' := [(4, .int r_13), (3, .int ((cl_p.getD r_3 0) + r_10)), (2, .ref (E (200 + r_3))), (1, .int r_2), (0, .ref (ad 4))]) hx hb dX4_readClause_101 hl (by decide) rfl (fun ls hl => ?_)
          refine lv_iload hx hb dX4_readClause_103 (lv_at hl 0 rfl) ?_
          refine lv_iconst (v := (-1)) hx hb dX4_readClause_105 (by decide) ?_
          refine lv_icmp_eq (tgt := 119) hx hb dX4_readClause_106 (by decide) (fun hc => ?_) (fun hc => ?_)
          · have hw := hw.1 hc
            refine lv_iconst (v := 0) hx hb dX4_readClause_119 (by decide) ?_
            exact W.zret (v := 0) hx hb hr (by decide) (fun t ht hW => ⟨⟨0, (e_at_14, e_wrongAt_15, e_told), rfl, hw, mAt.to hP hK hD ht hW⟩, hS.F ht⟩) hS.2.2 dX4_readClause_120
          · have hw := hw.2 hc
            refine lv_iload_n hx hb dX4_readClause_109 rfl (lv_at hl 1 rfl) ?_
            refine lv_if_lt (tgt := 119) hx hb dX4_readClause_110 (by decide) (fun hc => ?_) (fun hc => ?_)
            · have hw := hw.1 hc
              refine lv_iconst (v := 0) hx hb dX4_readClause_119 (by decide) ?_
              exact W.zret (v := 0) hx hb hr (by decide) (fun t ht hW => ⟨⟨0, (e_at_14, e_wrongAt_15, e_told), rfl, hw, mAt.to hP hK hD ht hW⟩, hS.F ht⟩) hS.2.2 dX4_readClause_120
            · have hw := hw.2 hc
              refine lv_iload_n hx hb dX4_readClause_113 rfl (lv_at hl 1 rfl) ?_
              refine lv_bipush (v := 11) hx hb dX4_readClause_114 (by decide) ?_
              refine lv_icmp_lt (tgt := 121) hx hb dX4_readClause_116 (by decide) (fun hc => ?_) (fun hc => ?_)
              · have hw := hw.1 hc
                refine lv_aload_n hx hb dX4_readClause_121 rfl (lv_at hl 4 rfl) ?_
                refine va_get (ci := 6) (v := .ref (ad 5)) (C := RX4) (T := TX4) (N := 4) hx hb hts inw_X4_readClause_X4 hown hK hP 2 rfl rfl 1 (by decide) (hts (.fieldLink RX4 9 "DockCall$Reader" "told" "[I") (by decide +kernel)) (fun _ h9 => h9) rfl dX4_readClause_122 ?_
                refine lv_iload_n hx hb dX4_readClause_125 rfl (lv_at hl 1 rfl) ?_
                refine lv_iload hx hb dX4_readClause_126 (lv_at hl 0 rfl) ?_
                obtain ⟨hi, hw⟩ := hw
                refine va_iast hx hb hK hP hD hS 3 0 rfl rfl hi dX4_readClause_128 (fun H locs hP hD hS => ?_)
                have hP : va_P D vwCl [(ce_tp ad t_length), ((ad 2), .inl (y 1, 400, .inl t_bytes)), (ce_rd ad e_at_14 e_wrongAt_15), ((ad 5), .inl (y 0, 11, .inl (upd e_told ((cl_p.getD r_3 0) + r_10).toNatClampNeg r_13)))] H := hP
                have hD : va_D A [(ce_tp ad t_length), ((ad 2), .inl (y 1, 400, .inl t_bytes)), (ce_rd ad e_at_14 e_wrongAt_15), ((ad 5), .inl (y 0, 11, .inl (upd e_told ((cl_p.getD r_3 0) + r_10).toNatClampNeg r_13)))] := hD
                refine lv_iconst (v := 1) hx hb dX4_readClause_129 (by decide) ?_
                exact W.zret (v := 1) hx hb hr (by decide) (fun t ht hW => ⟨⟨1, (e_at_14, e_wrongAt_15, upd e_told ((cl_p.getD r_3 0) + r_10).toNatClampNeg r_13), rfl, hw, mAt.to hP hK hD ht hW⟩, hS.F ht⟩) hS.2.2 dX4_readClause_130
              · have hw := hw.2 hc
                refine lv_iconst (v := 0) hx hb dX4_readClause_119 (by decide) ?_
                exact W.zret (v := 0) hx hb hr (by decide) (fun t ht hW => ⟨⟨0, (e_at_14, e_wrongAt_15, e_told), rfl, hw, mAt.to hP hK hD ht hW⟩, hS.F ht⟩) hS.2.2 dX4_readClause_120
        · have hw := hw.1 (hH.clinj hc8 (by decide) (Option.some.inj hc))
          refine lv_aload_n hx hb dX4_readClause_82 rfl (lv_at hl 4 rfl) ?_
          refine mx_i (wc := [(ce_tp ad t_length), ((ad 2), .inl (y 1, 400, .inl t_bytes)), (ce_rd ad e_at_11 e_wrongAt_12)]) (wr := [((ad 5), .inl (y 0, 11, .inl e_told))]) hP hD hS hA [0, 1, 2] [3] [1, 2, 3, 0] rfl rfl (by decide) (by decide) (by decide) (fun (u : Int32 × Int32) => [(ce_tp ad t_length), ((ad 2), .inl (y 1, 400, .inl t_bytes)), (ce_rd ad u.1 u.2), ((ad 5), .inl (y 0, 11, .inl e_told))]) (fun _ => rfl) (va_runV (As := []) (rest := []) ⟨hx, hb, hml, hown, hts⟩ (c_Reader_readOrder l D y E ad H.size t_length t_bytes e_at_11 e_wrongAt_12 hw) (cwV 0 hts gX4_readClause_X4_readOrder rfl rfl rfl (by decide +kernel) ⟨Nat.le_of_ble_eq_true rfl, Nat.le_of_ble_eq_true rfl⟩) ⟨nPre.blind, (va_recv hK hP (ci := 6) (q0 := 2) rfl rfl), nPre.to (hP.sub [0, 1, 2] rfl) hK (hD.sub [0, 1, 2] (by decide) rfl) hE hH hS (va_free (wc := [(ce_tp ad t_length), ((ad 2), .inl (y 1, 400, .inl t_bytes)), (ce_rd ad e_at_11 e_wrongAt_12)]) hD hS hA [0, 1, 2] rfl)⟩ rfl rfl hl.1 rfl (lv_room (Nat.le_of_ble_eq_true rfl)) dX4_readClause_83 ⟨Nat.le_of_ble_eq_true rfl, Nat.le_of_ble_eq_true rfl⟩) (fun r_16 u H locs hw hP hD hS => ?_)
          obtain ⟨e_at_17, e_wrongAt_18⟩ := u
          try dsimp only at hw
          have hP : va_P D vwCl [(ce_tp ad t_length), ((ad 2), .inl (y 1, 400, .inl t_bytes)), (ce_rd ad e_at_17 e_wrongAt_18), ((ad 5), .inl (y 0, 11, .inl e_told))] H := hP
          have hD : va_D A [(ce_tp ad t_length), ((ad 2), .inl (y 1, 400, .inl t_bytes)), (ce_rd ad e_at_17 e_wrongAt_18), ((ad 5), .inl (y 0, 11, .inl e_told))] := hD
          refine lv_goto (tgt := 101) hx hb dX4_readClause_86 (by decide) ?_
          refine lv_istore (lv' := [(4, .int r_16), (3, .int ((cl_p.getD r_3 0) + r_10)), (2, .ref (E (200 + r_3))), (1, .int r_2), (0, .ref (ad 4))]) hx hb dX4_readClause_101 hl (by decide) rfl (fun ls hl => ?_)
          refine lv_iload hx hb dX4_readClause_103 (lv_at hl 0 rfl) ?_
          refine lv_iconst (v := (-1)) hx hb dX4_readClause_105 (by decide) ?_
          refine lv_icmp_eq (tgt := 119) hx hb dX4_readClause_106 (by decide) (fun hc => ?_) (fun hc => ?_)
          · have hw := hw.1 hc
            refine lv_iconst (v := 0) hx hb dX4_readClause_119 (by decide) ?_
            exact W.zret (v := 0) hx hb hr (by decide) (fun t ht hW => ⟨⟨0, (e_at_17, e_wrongAt_18, e_told), rfl, hw, mAt.to hP hK hD ht hW⟩, hS.F ht⟩) hS.2.2 dX4_readClause_120
          · have hw := hw.2 hc
            refine lv_iload_n hx hb dX4_readClause_109 rfl (lv_at hl 1 rfl) ?_
            refine lv_if_lt (tgt := 119) hx hb dX4_readClause_110 (by decide) (fun hc => ?_) (fun hc => ?_)
            · have hw := hw.1 hc
              refine lv_iconst (v := 0) hx hb dX4_readClause_119 (by decide) ?_
              exact W.zret (v := 0) hx hb hr (by decide) (fun t ht hW => ⟨⟨0, (e_at_17, e_wrongAt_18, e_told), rfl, hw, mAt.to hP hK hD ht hW⟩, hS.F ht⟩) hS.2.2 dX4_readClause_120
            · have hw := hw.2 hc
              refine lv_iload_n hx hb dX4_readClause_113 rfl (lv_at hl 1 rfl) ?_
              refine lv_bipush (v := 11) hx hb dX4_readClause_114 (by decide) ?_
              refine lv_icmp_lt (tgt := 121) hx hb dX4_readClause_116 (by decide) (fun hc => ?_) (fun hc => ?_)
              · have hw := hw.1 hc
                refine lv_aload_n hx hb dX4_readClause_121 rfl (lv_at hl 4 rfl) ?_
                refine va_get (ci := 6) (v := .ref (ad 5)) (C := RX4) (T := TX4) (N := 4) hx hb hts inw_X4_readClause_X4 hown hK hP 2 rfl rfl 1 (by decide) (hts (.fieldLink RX4 9 "DockCall$Reader" "told" "[I") (by decide +kernel)) (fun _ h9 => h9) rfl dX4_readClause_122 ?_
                refine lv_iload_n hx hb dX4_readClause_125 rfl (lv_at hl 1 rfl) ?_
                refine lv_iload hx hb dX4_readClause_126 (lv_at hl 0 rfl) ?_
                obtain ⟨hi, hw⟩ := hw
                refine va_iast hx hb hK hP hD hS 3 0 rfl rfl hi dX4_readClause_128 (fun H locs hP hD hS => ?_)
                have hP : va_P D vwCl [(ce_tp ad t_length), ((ad 2), .inl (y 1, 400, .inl t_bytes)), (ce_rd ad e_at_17 e_wrongAt_18), ((ad 5), .inl (y 0, 11, .inl (upd e_told ((cl_p.getD r_3 0) + r_10).toNatClampNeg r_16)))] H := hP
                have hD : va_D A [(ce_tp ad t_length), ((ad 2), .inl (y 1, 400, .inl t_bytes)), (ce_rd ad e_at_17 e_wrongAt_18), ((ad 5), .inl (y 0, 11, .inl (upd e_told ((cl_p.getD r_3 0) + r_10).toNatClampNeg r_16)))] := hD
                refine lv_iconst (v := 1) hx hb dX4_readClause_129 (by decide) ?_
                exact W.zret (v := 1) hx hb hr (by decide) (fun t ht hW => ⟨⟨1, (e_at_17, e_wrongAt_18, upd e_told ((cl_p.getD r_3 0) + r_10).toNatClampNeg r_16), rfl, hw, mAt.to hP hK hD ht hW⟩, hS.F ht⟩) hS.2.2 dX4_readClause_130
              · have hw := hw.2 hc
                refine lv_iconst (v := 0) hx hb dX4_readClause_119 (by decide) ?_
                exact W.zret (v := 0) hx hb hr (by decide) (fun t ht hW => ⟨⟨0, (e_at_17, e_wrongAt_18, e_told), rfl, hw, mAt.to hP hK hD ht hW⟩, hS.F ht⟩) hS.2.2 dX4_readClause_120
      · have hw := hw.1 hc
        refine lv_iconst (v := 0) hx hb dX4_readClause_68 (by decide) ?_
        exact W.zret (v := 0) hx hb hr (by decide) (fun t ht hW => ⟨⟨0, (e_at_11, e_wrongAt_12, e_told), rfl, hw, mAt.to hP hK hD ht hW⟩, hS.F ht⟩) hS.2.2 dX4_readClause_69
  · have hw := hw.2 hc8
    rw [clv_ge hc8]
    refine lv_astore_nN (lv' := [(2, .null), (1, .int r_2), (0, .ref (ad 4))]) hx hb dX4_readClause_22 rfl hl (by decide) rfl (fun ls hl => ?_)
    refine lv_aload_nN hx hb dX4_readClause_23 rfl (lv_at hl 0 rfl) ?_
    refine lv_ifnonnullN hx hb dX4_readClause_24 ?_
    refine lv_aload_n hx hb dX4_readClause_27 rfl (lv_at hl 2 rfl) ?_
    refine lv_aload_n hx hb dX4_readClause_28 rfl (lv_at hl 2 rfl) ?_
    refine va_get (ci := 6) (v := .int e_at_1) (C := RX4) (T := TX4) (N := 4) hx hb hts inw_X4_readClause_X4 hown hK hP 2 rfl rfl 2 (by decide) (hts (.fieldLink RX4 29 "DockCall$Reader" "at" "I") (by decide +kernel)) (fun _ h9 => h9) rfl dX4_readClause_29 ?_
    refine va_put (ci := 6) (v := .int e_at_1) (ty := .int) (C := RX4) (T := TX4) (N := 4) hx hb hts inw_X4_readClause_X4 tyX4 tyX4_ok nmX4 hown hK hP hD hS 2 rfl rfl 3 (by decide) (hts (.fieldLink RX4 15 "DockCall$Reader" "wrongAt" "I") (by decide +kernel)) (fun _ h9 => h9) rfl (by decide +kernel) rfl rfl (Nat.le_of_ble_eq_true rfl) dX4_readClause_32 (fun H locs hP hD hS => ?_)
    have hP : va_P D vwCl [(ce_tp ad t_length), ((ad 2), .inl (y 1, 400, .inl t_bytes)), (ce_rd ad e_at_1 e_at_1), ((ad 5), .inl (y 0, 11, .inl e_told))] H := hP
    have hD : va_D A [(ce_tp ad t_length), ((ad 2), .inl (y 1, 400, .inl t_bytes)), (ce_rd ad e_at_1 e_at_1), ((ad 5), .inl (y 0, 11, .inl e_told))] := hD
    refine lv_iconst (v := 0) hx hb dX4_readClause_35 (by decide) ?_
    exact W.zret (v := 0) hx hb hr (by decide) (fun t ht hW => ⟨⟨0, (e_at_1, e_at_1, e_told), rfl, hw, mAt.to hP hK hD ht hW⟩, hS.F ht⟩) hS.2.2 dX4_readClause_36
theorem inw_X4_readText_X4 : ∀ w ∈ wsX40, w ∈ wsX4_readText := fun _ h => List.mem_cons_of_mem _ (List.mem_append_left _ (List.mem_append_left _ (List.mem_append_left _ (List.mem_append_right _ h))))
theorem inw_X4_readText_X7 : ∀ w ∈ wsX70, w ∈ wsX4_readText := fun _ h => List.mem_cons_of_mem _ (List.mem_append_left _ (List.mem_append_left _ (List.mem_append_right _ h)))
def wp_Reader_readText_h24 (t_length : Int32) (t_bytes : Nat → Int32)  (Q : Int32 → Int32 → Int32 → (Nat → Int32) → Prop) : Nat → Int32 → Int32 → Int32 → (Nat → Int32) → Prop
  | 0, _, _, _, _ => False
  | n + 1, v2, e_at, e_wrongAt, e_told => ((400 < v2 → (wp_Reader_wrongHere e_at (fun r_1 e_wrongAt_2 => Q r_1 e_at e_wrongAt_2 e_told))) ∧ (¬ 400 < v2 → (wp_Reader_readClause t_length t_bytes e_at e_wrongAt e_told (fun r_3 e_at_4 e_wrongAt_5 e_told_6 => ((r_3 = 0 → Q (-1) e_at_4 e_wrongAt_5 e_told_6) ∧ (¬ r_3 = 0 → (wp_Reader_skipBlanks t_length t_bytes e_at_4 (fun e_at_7 => ((e_at_7 = t_length → Q v2 e_at_7 e_wrongAt_5 e_told_6) ∧ (¬ e_at_7 = t_length → (wp_Tape_byteAt t_length t_bytes e_at_7 (fun r_8 => ((r_8 = 59 → wp_Reader_readText_h24 t_length t_bytes Q n (v2 + 1) (e_at_7 + 1) e_wrongAt_5 e_told_6) ∧ (¬ r_8 = 59 → (wp_Reader_wrongHere e_at_7 (fun r_9 e_wrongAt_10 => Q r_9 e_at_7 e_wrongAt_10 e_told_6))))))))))))))))
def wp_Reader_readText (t_length : Int32) (t_bytes : Nat → Int32) (ag : Nat → Int32) (e_told : Nat → Int32) (Q : Int32 → Int32 → Int32 → (Nat → Int32) → Prop) : Prop := (∃ n' : Nat, wp_Reader_readText_h24 t_length t_bytes Q n' 1 0 (-1) (va_cpy ag e_told (0 : Int32).toNatClampNeg (0 : Int32).toNatClampNeg (11 : Int32).toNatClampNeg))
set_option maxHeartbeats 4000000 in
set_option maxRecDepth 100000 in
theorem c_Reader_readText_h24 {p : Program} {l : Launch} {e : Env} {s : State} {m : MethodId} {args : Array Value} {below : List Frame} {meth : Method} {c : Code} {D : va_G} {y : Nat → ClassId} {E : Nat → Nat} {ad : Nat → Nat} {A : Nat → Prop} (hx : p.tables.exec = Jvm.exec) (hb : c.code = cX4_readText) (hr : meth.sig.returnType = some .int) (hml : c.maxLocals = 3) (hown : s.vm.findClass RX4 = some m.cls) (hts : ∀ w ∈ wsX4_readText, w.before args s = true) (hlocks : meth.locks = false) (hK : va_K D vwCl (TY y) s) (hE : EV s) (hA : ∀ q, s.heap.size ≤ q → A q) (hH : HX E A s s.heap) {t_length : Int32} {t_bytes : Nat → Int32} {ag : Nat → Int32}  {Q : Int32 → Int32 → Int32 → (Nat → Int32) → Prop}  : ∀ (n : Nat) (v2 : Int32) (e_at : Int32) (e_wrongAt : Int32) (e_told : Nat → Int32), wp_Reader_readText_h24 t_length t_bytes Q n v2 e_at e_wrongAt e_told → ∀ (H : Heap) (locs : List Loc) (ls : Array Slot), va_P D vwCl [(ce_tp ad t_length), ((ad 2), .inl (y 1, 400, .inl t_bytes)), ((ad 3), .inl (y 0, 11, .inl ag)), (ce_rd ad e_at e_wrongAt), ((ad 5), .inl (y 0, 11, .inl e_told))] H → va_D A [(ce_tp ad t_length), ((ad 2), .inl (y 1, 400, .inl t_bytes)), ((ad 3), .inl (y 0, 11, .inl ag)), (ce_rd ad e_at e_wrongAt), ((ad 5), .inl (y 0, 11, .inl e_told))] → va_S A s.heap H locs → lv_has ls 3 [(2, .int v2), (0, .ref (ad 4)), (1, .ref (ad 3))] → W p l e ({ frames := 7, cells := 0, slots := 0, locals := 159 }) s m args below meth c H locs 0 0 (MQ below (va_Qi (fun (r : Int32) (u : Int32 × Int32 × (Nat → Int32)) => Q r u.1 u.2.1 u.2.2) (mAt D y A (fun (u : Int32 × Int32 × (Nat → Int32)) => [(ce_tp ad t_length), ((ad 2), .inl (y 1, 400, .inl t_bytes)), ((ad 3), .inl (y 0, 11, .inl ag)), (ce_rd ad u.1 u.2.1), ((ad 5), .inl (y 0, 11, .inl u.2.2))])) A) args s 0 0 A) (F0 m 24 ls []) := by
  intro n
  induction n with
  | zero => intro v2 e_at e_wrongAt e_told hw; rw [wp_Reader_readText_h24] at hw; exact hw.elim
  | succ n ih =>
    intro v2 e_at e_wrongAt e_told hw H locs ls hP hD hS hl
    rw [wp_Reader_readText_h24] at hw
    refine lv_iload_n hx hb dX4_readText_24 rfl (lv_at hl 0 rfl) ?_
    refine lv_sipush (v := 400) hx hb dX4_readText_25 (by decide) ?_
    refine lv_icmp_gt (tgt := 101) hx hb dX4_readText_28 (by decide) (fun hc => ?_) (fun hc => ?_)
    · have hw := hw.1 hc
      refine lv_aload_n hx hb dX4_readText_101 rfl (lv_at hl 1 rfl) ?_
      refine lv_aload_n hx hb dX4_readText_102 rfl (lv_at hl 1 rfl) ?_
      refine va_get (ci := 6) (v := .int e_at) (C := RX4) (T := TX4) (N := 4) hx hb hts inw_X4_readText_X4 hown hK hP 3 rfl rfl 2 (by decide) (hts (.fieldLink RX4 29 "DockCall$Reader" "at" "I") (by decide +kernel)) (fun _ h9 => h9) rfl dX4_readText_103 ?_
      refine mx_i (wc := [(ce_rd ad e_at e_wrongAt)]) (wr := [(ce_tp ad t_length), ((ad 2), .inl (y 1, 400, .inl t_bytes)), ((ad 3), .inl (y 0, 11, .inl ag)), ((ad 5), .inl (y 0, 11, .inl e_told))]) hP hD hS hA [3] [0, 1, 2, 4] [0, 1, 2, 4, 3] rfl rfl (by decide) (by decide) (by decide) (fun (u : Int32) => [(ce_tp ad t_length), ((ad 2), .inl (y 1, 400, .inl t_bytes)), ((ad 3), .inl (y 0, 11, .inl ag)), (ce_rd ad e_at u), ((ad 5), .inl (y 0, 11, .inl e_told))]) (fun _ => rfl) (va_runV (As := [.int e_at]) (rest := []) ⟨hx, hb, hml, hown, hts⟩ (c_Reader_wrongHere l D y ad H.size e_at e_wrongAt e_at hw) (cwV 1 hts gX4_readText_X4_wrongHere rfl rfl rfl (by decide +kernel) ⟨Nat.le_of_ble_eq_true rfl, Nat.le_of_ble_eq_true rfl⟩) ⟨mPre.blind, (va_recv hK hP (ci := 6) (q0 := 3) rfl rfl), mPre.to (hP.sub [3] rfl) hK (hD.sub [3] (by decide) rfl) hE⟩ rfl rfl hl.1 rfl (lv_room (Nat.le_of_ble_eq_true rfl)) dX4_readText_106 ⟨Nat.le_of_ble_eq_true rfl, Nat.le_of_ble_eq_true rfl⟩) (fun r_1 u H locs hw hP hD hS => ?_)
      obtain ⟨e_wrongAt_2, rfl⟩ : ∃ z, z = u := ⟨_, rfl⟩
      try dsimp only at hw
      have hP : va_P D vwCl [(ce_tp ad t_length), ((ad 2), .inl (y 1, 400, .inl t_bytes)), ((ad 3), .inl (y 0, 11, .inl ag)), (ce_rd ad e_at e_wrongAt_2), ((ad 5), .inl (y 0, 11, .inl e_told))] H := hP
      have hD : va_D A [(ce_tp ad t_length), ((ad 2), .inl (y 1, 400, .inl t_bytes)), ((ad 3), .inl (y 0, 11, .inl ag)), (ce_rd ad e_at e_wrongAt_2), ((ad 5), .inl (y 0, 11, .inl e_told))] := hD
      exact W.iret (v := r_1) hx hb hr (fun t ht hW => ⟨⟨r_1, (e_at, e_wrongAt_2, e_told), rfl, hw, mAt.to hP hK hD ht hW⟩, hS.F ht⟩) hS.2.2 dX4_readText_109
    · have hw := hw.2 hc
      refine lv_aload_n hx hb dX4_readText_31 rfl (lv_at hl 1 rfl) ?_
      refine mx_i (wc := [(ce_tp ad t_length), ((ad 2), .inl (y 1, 400, .inl t_bytes)), (ce_rd ad e_at e_wrongAt), ((ad 5), .inl (y 0, 11, .inl e_told))]) (wr := [((ad 3), .inl (y 0, 11, .inl ag))]) hP hD hS hA [0, 1, 3, 4] [2] [1, 2, 0, 3, 4] rfl rfl (by decide) (by decide) (by decide) (fun (u : Int32 × Int32 × (Nat → Int32)) => [(ce_tp ad t_length), ((ad 2), .inl (y 1, 400, .inl t_bytes)), ((ad 3), .inl (y 0, 11, .inl ag)), (ce_rd ad u.1 u.2.1), ((ad 5), .inl (y 0, 11, .inl u.2.2))]) (fun _ => rfl) (va_runV (As := []) (rest := []) ⟨hx, hb, hml, hown, hts⟩ (c_Reader_readClause l D y E ad H.size t_length t_bytes e_at e_wrongAt e_told hw) (cwV 0 hts gX4_readText_X4_readClause rfl rfl rfl (by decide +kernel) ⟨Nat.le_of_ble_eq_true rfl, Nat.le_of_ble_eq_true rfl⟩) ⟨nPre.blind, (va_recv hK hP (ci := 6) (q0 := 3) rfl rfl), nPre.to (hP.sub [0, 1, 3, 4] rfl) hK (hD.sub [0, 1, 3, 4] (by decide) rfl) hE hH hS (va_free (wc := [(ce_tp ad t_length), ((ad 2), .inl (y 1, 400, .inl t_bytes)), (ce_rd ad e_at e_wrongAt), ((ad 5), .inl (y 0, 11, .inl e_told))]) hD hS hA [0, 1, 3, 4] rfl)⟩ rfl rfl hl.1 rfl (lv_room (Nat.le_of_ble_eq_true rfl)) dX4_readText_32 ⟨Nat.le_of_ble_eq_true rfl, Nat.le_of_ble_eq_true rfl⟩) (fun r_3 u H locs hw hP hD hS => ?_)
      obtain ⟨e_at_4, e_wrongAt_5, e_told_6⟩ := u
      try dsimp only at hw
      have hP : va_P D vwCl [(ce_tp ad t_length), ((ad 2), .inl (y 1, 400, .inl t_bytes)), ((ad 3), .inl (y 0, 11, .inl ag)), (ce_rd ad e_at_4 e_wrongAt_5), ((ad 5), .inl (y 0, 11, .inl e_told_6))] H := hP
      have hD : va_D A [(ce_tp ad t_length), ((ad 2), .inl (y 1, 400, .inl t_bytes)), ((ad 3), .inl (y 0, 11, .inl ag)), (ce_rd ad e_at_4 e_wrongAt_5), ((ad 5), .inl (y 0, 11, .inl e_told_6))] := hD
      refine lv_if_ne (tgt := 40) hx hb dX4_readText_35 (by decide) (fun hc => ?_) (fun hc => ?_)
      · have hw := hw.2 hc
        refine lv_aload_n hx hb dX4_readText_40 rfl (lv_at hl 1 rfl) ?_
        refine mx_v (wc := [(ce_tp ad t_length), ((ad 2), .inl (y 1, 400, .inl t_bytes)), (ce_rd ad e_at_4 e_wrongAt_5)]) (wr := [((ad 3), .inl (y 0, 11, .inl ag)), ((ad 5), .inl (y 0, 11, .inl e_told_6))]) hP hD hS hA [0, 1, 3] [2, 4] [2, 3, 0, 4, 1] rfl rfl (by decide) (by decide) (by decide) (fun (u : Int32) => [(ce_tp ad t_length), ((ad 2), .inl (y 1, 400, .inl t_bytes)), ((ad 3), .inl (y 0, 11, .inl ag)), (ce_rd ad u e_wrongAt_5), ((ad 5), .inl (y 0, 11, .inl e_told_6))]) (fun _ => rfl) (va_runV (As := []) (rest := []) ⟨hx, hb, hml, hown, hts⟩ (c_Reader_skipBlanks l D y ad H.size t_length t_bytes e_at_4 e_wrongAt_5 hw) (cwV 0 hts gX4_readText_X4_skipBlanks rfl rfl rfl (by decide +kernel) ⟨Nat.le_of_ble_eq_true rfl, Nat.le_of_ble_eq_true rfl⟩) ⟨mPre.blind, (va_recv hK hP (ci := 6) (q0 := 3) rfl rfl), mPre.to (hP.sub [0, 1, 3] rfl) hK (hD.sub [0, 1, 3] (by decide) rfl) hE⟩ rfl rfl hl.1 rfl (lv_room (Nat.le_of_ble_eq_true rfl)) dX4_readText_41 ⟨Nat.le_of_ble_eq_true rfl, Nat.le_of_ble_eq_true rfl⟩) (fun u H locs hw hP hD hS => ?_)
        obtain ⟨e_at_7, rfl⟩ : ∃ z, z = u := ⟨_, rfl⟩
        try dsimp only at hw
        have hP : va_P D vwCl [(ce_tp ad t_length), ((ad 2), .inl (y 1, 400, .inl t_bytes)), ((ad 3), .inl (y 0, 11, .inl ag)), (ce_rd ad e_at_7 e_wrongAt_5), ((ad 5), .inl (y 0, 11, .inl e_told_6))] H := hP
        have hD : va_D A [(ce_tp ad t_length), ((ad 2), .inl (y 1, 400, .inl t_bytes)), ((ad 3), .inl (y 0, 11, .inl ag)), (ce_rd ad e_at_7 e_wrongAt_5), ((ad 5), .inl (y 0, 11, .inl e_told_6))] := hD
        refine lv_aload_n hx hb dX4_readText_44 rfl (lv_at hl 1 rfl) ?_
        refine va_get (ci := 6) (v := .int e_at_7) (C := RX4) (T := TX4) (N := 4) hx hb hts inw_X4_readText_X4 hown hK hP 3 rfl rfl 2 (by decide) (hts (.fieldLink RX4 29 "DockCall$Reader" "at" "I") (by decide +kernel)) (fun _ h9 => h9) rfl dX4_readText_45 ?_
        refine lv_aload_n hx hb dX4_readText_48 rfl (lv_at hl 1 rfl) ?_
        refine va_get (ci := 6) (v := .ref (ad 1)) (C := RX4) (T := TX4) (N := 4) hx hb hts inw_X4_readText_X4 hown hK hP 3 rfl rfl 0 (by decide) (hts (.fieldLink RX4 19 "DockCall$Reader" "tape" "LDockCall$Tape;") (by decide +kernel)) (fun _ h9 => h9) rfl dX4_readText_49 ?_
        refine va_getN (ci := 9) (v := .int t_length) (C := RX7) (T := TX7) (N := 2) hx hb hts inw_X4_readText_X7 hown hK hP 0 rfl rfl 1 (by decide) (hE.use nwf_RX4_39) (fun _ h9 => h9) rfl dX4_readText_52 ?_
        refine lv_icmp_ne (tgt := 60) hx hb dX4_readText_55 (by decide) (fun hc => ?_) (fun hc => ?_)
        · have hw := hw.2 hc
          refine lv_aload_n hx hb dX4_readText_60 rfl (lv_at hl 1 rfl) ?_
          refine va_get (ci := 6) (v := .ref (ad 1)) (C := RX4) (T := TX4) (N := 4) hx hb hts inw_X4_readText_X4 hown hK hP 3 rfl rfl 0 (by decide) (hts (.fieldLink RX4 19 "DockCall$Reader" "tape" "LDockCall$Tape;") (by decide +kernel)) (fun _ h9 => h9) rfl dX4_readText_61 ?_
          refine lv_aload_n hx hb dX4_readText_64 rfl (lv_at hl 1 rfl) ?_
          refine va_get (ci := 6) (v := .int e_at_7) (C := RX4) (T := TX4) (N := 4) hx hb hts inw_X4_readText_X4 hown hK hP 3 rfl rfl 2 (by decide) (hts (.fieldLink RX4 29 "DockCall$Reader" "at" "I") (by decide +kernel)) (fun _ h9 => h9) rfl dX4_readText_65 ?_
          refine mx_i (wc := [(ce_tp ad t_length), ((ad 2), .inl (y 1, 400, .inl t_bytes))]) (wr := [((ad 3), .inl (y 0, 11, .inl ag)), (ce_rd ad e_at_7 e_wrongAt_5), ((ad 5), .inl (y 0, 11, .inl e_told_6))]) hP hD hS hA [0, 1] [2, 3, 4] [3, 4, 0, 1, 2] rfl rfl (by decide) (by decide) (by decide) (fun (u : Unit) => [(ce_tp ad t_length), ((ad 2), .inl (y 1, 400, .inl t_bytes)), ((ad 3), .inl (y 0, 11, .inl ag)), (ce_rd ad e_at_7 e_wrongAt_5), ((ad 5), .inl (y 0, 11, .inl e_told_6))]) (fun _ => rfl) (va_runVN (C := RX7) (As := [.int e_at_7]) (rest := []) ⟨hx, hb, hml, hown, hts⟩ (c_Tape_byteAt l D y ad H.size t_length t_bytes e_at_7 hw) ⟨va_cnB 1 hts gX4_readText_X7_byteAt_n44 rfl rfl rfl (hE _ nwm_RX4_44) (hts (.initialized RX7) (by decide +kernel)) (by decide +kernel) ⟨Nat.le_of_ble_eq_true rfl, Nat.le_of_ble_eq_true rfl⟩, (hts (.instanceMethod yX7_byteAt) (by decide +kernel)), (hts (.selects RX7 yX7_byteAt yX7_byteAt) (by decide +kernel))⟩ ⟨mPre.blind, (va_recv hK hP (ci := 9) (q0 := 0) rfl rfl), mPre.to (hP.sub [0, 1] rfl) hK (hD.sub [0, 1] (by decide) rfl) hE⟩ rfl rfl hl.1 rfl (lv_room (Nat.le_of_ble_eq_true rfl)) dX4_readText_68 ⟨Nat.le_of_ble_eq_true rfl, Nat.le_of_ble_eq_true rfl⟩) (fun r_8 u H locs hw hP hD hS => ?_)
          try dsimp only at hw
          have hP : va_P D vwCl [(ce_tp ad t_length), ((ad 2), .inl (y 1, 400, .inl t_bytes)), ((ad 3), .inl (y 0, 11, .inl ag)), (ce_rd ad e_at_7 e_wrongAt_5), ((ad 5), .inl (y 0, 11, .inl e_told_6))] H := hP
          have hD : va_D A [(ce_tp ad t_length), ((ad 2), .inl (y 1, 400, .inl t_bytes)), ((ad 3), .inl (y 0, 11, .inl ag)), (ce_rd ad e_at_7 e_wrongAt_5), ((ad 5), .inl (y 0, 11, .inl e_told_6))] := hD
          refine lv_bipush (v := 59) hx hb dX4_readText_71 (by decide) ?_
          refine lv_icmp_eq (tgt := 85) hx hb dX4_readText_73 (by decide) (fun hc => ?_) (fun hc => ?_)
          · have hw := hw.1 hc
            refine lv_aload_n hx hb dX4_readText_85 rfl (lv_at hl 1 rfl) ?_
            refine lv_dup hx hb dX4_readText_86 rfl ?_
            refine va_get (ci := 6) (v := .int e_at_7) (C := RX4) (T := TX4) (N := 4) hx hb hts inw_X4_readText_X4 hown hK hP 3 rfl rfl 2 (by decide) (hts (.fieldLink RX4 29 "DockCall$Reader" "at" "I") (by decide +kernel)) (fun _ h9 => h9) rfl dX4_readText_87 ?_
            refine lv_iconst (v := 1) hx hb dX4_readText_90 (by decide) ?_
            refine lv_iadd hx hb dX4_readText_91 ?_
            refine va_put (ci := 6) (v := .int (e_at_7 + 1)) (ty := .int) (C := RX4) (T := TX4) (N := 4) hx hb hts inw_X4_readText_X4 tyX4 tyX4_ok nmX4 hown hK hP hD hS 3 rfl rfl 2 (by decide) (hts (.fieldLink RX4 29 "DockCall$Reader" "at" "I") (by decide +kernel)) (fun _ h9 => h9) rfl (by decide +kernel) rfl rfl (Nat.le_of_ble_eq_true rfl) dX4_readText_92 (fun H locs hP hD hS => ?_)
            have hP : va_P D vwCl [(ce_tp ad t_length), ((ad 2), .inl (y 1, 400, .inl t_bytes)), ((ad 3), .inl (y 0, 11, .inl ag)), (ce_rd ad (e_at_7 + 1) e_wrongAt_5), ((ad 5), .inl (y 0, 11, .inl e_told_6))] H := hP
            have hD : va_D A [(ce_tp ad t_length), ((ad 2), .inl (y 1, 400, .inl t_bytes)), ((ad 3), .inl (y 0, 11, .inl ag)), (ce_rd ad (e_at_7 + 1) e_wrongAt_5), ((ad 5), .inl (y 0, 11, .inl e_told_6))] := hD
            refine lv_iinc (v := v2 + 1) (lv' := [(2, .int (v2 + 1)), (0, .ref (ad 4)), (1, .ref (ad 3))]) hx hb dX4_readText_95 hl (k := 0) rfl (by first | rfl | decide) (by decide) rfl (fun ls hl => ?_)
            refine lv_goto (tgt := 24) hx hb dX4_readText_98 (by decide) ?_
            exact ih (v2 + 1) (e_at_7 + 1) e_wrongAt_5 e_told_6 hw _ _ _ hP hD hS (lv_sub hl [0, 1, 2] rfl)
          · have hw := hw.2 hc
            refine lv_aload_n hx hb dX4_readText_76 rfl (lv_at hl 1 rfl) ?_
            refine lv_aload_n hx hb dX4_readText_77 rfl (lv_at hl 1 rfl) ?_
            refine va_get (ci := 6) (v := .int e_at_7) (C := RX4) (T := TX4) (N := 4) hx hb hts inw_X4_readText_X4 hown hK hP 3 rfl rfl 2 (by decide) (hts (.fieldLink RX4 29 "DockCall$Reader" "at" "I") (by decide +kernel)) (fun _ h9 => h9) rfl dX4_readText_78 ?_
            refine mx_i (wc := [(ce_rd ad e_at_7 e_wrongAt_5)]) (wr := [(ce_tp ad t_length), ((ad 2), .inl (y 1, 400, .inl t_bytes)), ((ad 3), .inl (y 0, 11, .inl ag)), ((ad 5), .inl (y 0, 11, .inl e_told_6))]) hP hD hS hA [3] [0, 1, 2, 4] [0, 1, 2, 4, 3] rfl rfl (by decide) (by decide) (by decide) (fun (u : Int32) => [(ce_tp ad t_length), ((ad 2), .inl (y 1, 400, .inl t_bytes)), ((ad 3), .inl (y 0, 11, .inl ag)), (ce_rd ad e_at_7 u), ((ad 5), .inl (y 0, 11, .inl e_told_6))]) (fun _ => rfl) (va_runV (As := [.int e_at_7]) (rest := []) ⟨hx, hb, hml, hown, hts⟩ (c_Reader_wrongHere l D y ad H.size e_at_7 e_wrongAt_5 e_at_7 hw) (cwV 1 hts gX4_readText_X4_wrongHere rfl rfl rfl (by decide +kernel) ⟨Nat.le_of_ble_eq_true rfl, Nat.le_of_ble_eq_true rfl⟩) ⟨mPre.blind, (va_recv hK hP (ci := 6) (q0 := 3) rfl rfl), mPre.to (hP.sub [3] rfl) hK (hD.sub [3] (by decide) rfl) hE⟩ rfl rfl hl.1 rfl (lv_room (Nat.le_of_ble_eq_true rfl)) dX4_readText_81 ⟨Nat.le_of_ble_eq_true rfl, Nat.le_of_ble_eq_true rfl⟩) (fun r_9 u H locs hw hP hD hS => ?_)
            obtain ⟨e_wrongAt_10, rfl⟩ : ∃ z, z = u := ⟨_, rfl⟩
            try dsimp only at hw
            have hP : va_P D vwCl [(ce_tp ad t_length), ((ad 2), .inl (y 1, 400, .inl t_bytes)), ((ad 3), .inl (y 0, 11, .inl ag)), (ce_rd ad e_at_7 e_wrongAt_10), ((ad 5), .inl (y 0, 11, .inl e_told_6))] H := hP
            have hD : va_D A [(ce_tp ad t_length), ((ad 2), .inl (y 1, 400, .inl t_bytes)), ((ad 3), .inl (y 0, 11, .inl ag)), (ce_rd ad e_at_7 e_wrongAt_10), ((ad 5), .inl (y 0, 11, .inl e_told_6))] := hD
            exact W.iret (v := r_9) hx hb hr (fun t ht hW => ⟨⟨r_9, (e_at_7, e_wrongAt_10, e_told_6), rfl, hw, mAt.to hP hK hD ht hW⟩, hS.F ht⟩) hS.2.2 dX4_readText_84
        · have hw := hw.1 hc
          refine lv_iload_n hx hb dX4_readText_58 rfl (lv_at hl 0 rfl) ?_
          exact W.iret (v := v2) hx hb hr (fun t ht hW => ⟨⟨v2, (e_at_7, e_wrongAt_5, e_told_6), rfl, hw, mAt.to hP hK hD ht hW⟩, hS.F ht⟩) hS.2.2 dX4_readText_59
      · have hw := hw.1 hc
        refine lv_iconst (v := (-1)) hx hb dX4_readText_38 (by decide) ?_
        exact W.iret (v := (-1)) hx hb hr (fun t ht hW => ⟨⟨(-1), (e_at_4, e_wrongAt_5, e_told_6), rfl, hw, mAt.to hP hK hD ht hW⟩, hS.F ht⟩) hS.2.2 dX4_readText_39
set_option maxHeartbeats 4000000 in
set_option maxRecDepth 100000 in
theorem c_Reader_readText (l : Launch) (D : va_G) (y E : Nat → Nat) (ad : Nat → Nat) (sz : Nat) (t_length : Int32) (t_bytes : Nat → Int32) (ag : Nat → Int32) (e_at : Int32) (e_wrongAt : Int32) (e_told : Nat → Int32)  {Q : Int32 → Int32 → Int32 → (Nat → Int32) → Prop} (hw : wp_Reader_readText t_length t_bytes ag e_told Q) : Met l yX4_readText wsX4_readText ({ frames := 7, cells := 0, slots := 0, locals := 159 }) (va_Pc [.ref (ad 4), .ref (ad 3)] (nPre D y E sz [(ce_tp ad t_length), ((ad 2), .inl (y 1, 400, .inl t_bytes)), ((ad 3), .inl (y 0, 11, .inl ag)), (ce_rd ad e_at e_wrongAt), ((ad 5), .inl (y 0, 11, .inl e_told))])) (va_Qi (fun (r : Int32) (u : Int32 × Int32 × (Nat → Int32)) => Q r u.1 u.2.1 u.2.2) (mAt D y (va_A [(ce_tp ad t_length), ((ad 2), .inl (y 1, 400, .inl t_bytes)), ((ad 3), .inl (y 0, 11, .inl ag)), (ce_rd ad e_at e_wrongAt), ((ad 5), .inl (y 0, 11, .inl e_told))] sz) (fun (u : Int32 × Int32 × (Nat → Int32)) => [(ce_tp ad t_length), ((ad 2), .inl (y 1, 400, .inl t_bytes)), ((ad 3), .inl (y 0, 11, .inl ag)), (ce_rd ad u.1 u.2.1), ((ad 5), .inl (y 0, 11, .inl u.2.2))])) (va_A [(ce_tp ad t_length), ((ad 2), .inl (y 1, 400, .inl t_bytes)), ((ad 3), .inl (y 0, 11, .inl ag)), (ce_rd ad e_at e_wrongAt), ((ad 5), .inl (y 0, 11, .inl e_told))] sz)) 0 0 (va_A [(ce_tp ad t_length), ((ad 2), .inl (y 1, 400, .inl t_bytes)), ((ad 3), .inl (y 0, 11, .inl ag)), (ce_rd ad e_at e_wrongAt), ((ad 5), .inl (y 0, 11, .inl e_told))] sz) := by
  unfold wp_Reader_readText at hw
  refine Met.ofW (cc := cX4_readText) (maxL := 3) (ret := some .int) (by decide) rfl ?_
  intro p e s m args below meth c s₁ B hml hv
  obtain ⟨rfl, ⟨hsz, hP, hK, hD0, hE⟩, hH⟩ := hv
  have hx := B.exec
  have hb := B.bytes
  have hr := B.returns
  have hts := atoms_spec (ws := wsX4_readText) B.pre
  have hown : s.vm.findClass RX4 = some m.cls := findClass_of_methodNamed B.named
  have hlocks := B.notSynchronized
  subst hsz
  have hD := hD0.self (sz := s.heap.size)
  generalize hAe : va_A [(ce_tp ad t_length), ((ad 2), .inl (y 1, 400, .inl t_bytes)), ((ad 3), .inl (y 0, 11, .inl ag)), (ce_rd ad e_at e_wrongAt), ((ad 5), .inl (y 0, 11, .inl e_told))] s.heap.size = A at hD hH ⊢
  have hA : ∀ q : Nat, s.heap.size ≤ q → A q := fun q h => by rw [← hAe]; exact Or.inr h
  have hS : va_S A s.heap s.heap [] := va_S.rf
  have hP : va_P D vwCl [(ce_tp ad t_length), ((ad 2), .inl (y 1, 400, .inl t_bytes)), ((ad 3), .inl (y 0, 11, .inl ag)), (ce_rd ad e_at e_wrongAt), ((ad 5), .inl (y 0, 11, .inl e_told))] s.heap := hP
  have hl := lv_entry ([.ref (ad 4), .ref (ad 3)]) (n := 3) (Nat.le_of_ble_eq_true rfl)
  rw [lg_entry_eq]
  generalize (lg_sl ([.ref (ad 4), .ref (ad 3)]) ++ List.replicate (3 - (lg_sl ([.ref (ad 4), .ref (ad 3)])).length) Slot.unset).toArray = ls at hl ⊢
  have hl : lv_has ls 3 [(0, .ref (ad 4)), (1, .ref (ad 3))] := hl
  refine lv_aload_n hx hb dX4_readText_0 rfl (lv_at hl 1 rfl) ?_
  refine lv_iconst (v := 0) hx hb dX4_readText_1 (by decide) ?_
  refine lv_aload_n hx hb dX4_readText_2 rfl (lv_at hl 0 rfl) ?_
  refine va_get (ci := 6) (v := .ref (ad 5)) (C := RX4) (T := TX4) (N := 4) hx hb hts inw_X4_readText_X4 hown hK hP 3 rfl rfl 1 (by decide) (hts (.fieldLink RX4 9 "DockCall$Reader" "told" "[I") (by decide +kernel)) (fun _ h9 => h9) rfl dX4_readText_3 ?_
  refine lv_iconst (v := 0) hx hb dX4_readText_6 (by decide) ?_
  refine lv_bipush (v := 11) hx hb dX4_readText_7 (by decide) ?_
  refine va_copyi (ty := .int) hx hb (by rw [hml]; exact hl.1.symm) hown (hts (.methodLink RX4 23 arraycopyName) (by decide +kernel)) (hts (.native arraycopyName) (by decide +kernel)) (hts (.static arraycopyName) (by decide +kernel)) (hts (.initialized "java/lang/System") (by decide +kernel)) hK hP hD hS 2 4 0 0 rfl rfl rfl rfl rfl (by decide) (by decide) (by decide) (by decide) (by decide) (fun _ _ => rfl) (Nat.le_of_ble_eq_true rfl) (by decide +kernel) dX4_readText_9 (fun H locs hP hD hS => ?_)
  have hP : va_P D vwCl [(ce_tp ad t_length), ((ad 2), .inl (y 1, 400, .inl t_bytes)), ((ad 3), .inl (y 0, 11, .inl ag)), (ce_rd ad e_at e_wrongAt), ((ad 5), .inl (y 0, 11, .inl (va_cpy ag e_told (0 : Int32).toNatClampNeg (0 : Int32).toNatClampNeg (11 : Int32).toNatClampNeg)))] H := hP
  have hD : va_D A [(ce_tp ad t_length), ((ad 2), .inl (y 1, 400, .inl t_bytes)), ((ad 3), .inl (y 0, 11, .inl ag)), (ce_rd ad e_at e_wrongAt), ((ad 5), .inl (y 0, 11, .inl (va_cpy ag e_told (0 : Int32).toNatClampNeg (0 : Int32).toNatClampNeg (11 : Int32).toNatClampNeg)))] := hD
  refine lv_aload_n hx hb dX4_readText_12 rfl (lv_at hl 0 rfl) ?_
  refine lv_iconst (v := 0) hx hb dX4_readText_13 (by decide) ?_
  refine va_put (ci := 6) (v := .int 0) (ty := .int) (C := RX4) (T := TX4) (N := 4) hx hb hts inw_X4_readText_X4 tyX4 tyX4_ok nmX4 hown hK hP hD hS 3 rfl rfl 2 (by decide) (hts (.fieldLink RX4 29 "DockCall$Reader" "at" "I") (by decide +kernel)) (fun _ h9 => h9) rfl (by decide +kernel) rfl rfl (Nat.le_of_ble_eq_true rfl) dX4_readText_14 (fun H locs hP hD hS => ?_)
  have hP : va_P D vwCl [(ce_tp ad t_length), ((ad 2), .inl (y 1, 400, .inl t_bytes)), ((ad 3), .inl (y 0, 11, .inl ag)), (ce_rd ad 0 e_wrongAt), ((ad 5), .inl (y 0, 11, .inl (va_cpy ag e_told (0 : Int32).toNatClampNeg (0 : Int32).toNatClampNeg (11 : Int32).toNatClampNeg)))] H := hP
  have hD : va_D A [(ce_tp ad t_length), ((ad 2), .inl (y 1, 400, .inl t_bytes)), ((ad 3), .inl (y 0, 11, .inl ag)), (ce_rd ad 0 e_wrongAt), ((ad 5), .inl (y 0, 11, .inl (va_cpy ag e_told (0 : Int32).toNatClampNeg (0 : Int32).toNatClampNeg (11 : Int32).toNatClampNeg)))] := hD
  refine lv_aload_n hx hb dX4_readText_17 rfl (lv_at hl 0 rfl) ?_
  refine lv_iconst (v := (-1)) hx hb dX4_readText_18 (by decide) ?_
  refine va_put (ci := 6) (v := .int (-1)) (ty := .int) (C := RX4) (T := TX4) (N := 4) hx hb hts inw_X4_readText_X4 tyX4 tyX4_ok nmX4 hown hK hP hD hS 3 rfl rfl 3 (by decide) (hts (.fieldLink RX4 15 "DockCall$Reader" "wrongAt" "I") (by decide +kernel)) (fun _ h9 => h9) rfl (by decide +kernel) rfl rfl (Nat.le_of_ble_eq_true rfl) dX4_readText_19 (fun H locs hP hD hS => ?_)
  have hP : va_P D vwCl [(ce_tp ad t_length), ((ad 2), .inl (y 1, 400, .inl t_bytes)), ((ad 3), .inl (y 0, 11, .inl ag)), (ce_rd ad 0 (-1)), ((ad 5), .inl (y 0, 11, .inl (va_cpy ag e_told (0 : Int32).toNatClampNeg (0 : Int32).toNatClampNeg (11 : Int32).toNatClampNeg)))] H := hP
  have hD : va_D A [(ce_tp ad t_length), ((ad 2), .inl (y 1, 400, .inl t_bytes)), ((ad 3), .inl (y 0, 11, .inl ag)), (ce_rd ad 0 (-1)), ((ad 5), .inl (y 0, 11, .inl (va_cpy ag e_told (0 : Int32).toNatClampNeg (0 : Int32).toNatClampNeg (11 : Int32).toNatClampNeg)))] := hD
  refine lv_iconst (v := 1) hx hb dX4_readText_22 (by decide) ?_
  refine lv_istore_n (lv' := [(2, .int 1), (0, .ref (ad 4)), (1, .ref (ad 3))]) hx hb dX4_readText_23 rfl hl (by decide) rfl (fun ls hl => ?_)
  obtain ⟨n', hw⟩ := hw
  exact c_Reader_readText_h24 hx hb hr hml hown hts hlocks hK hE hA hH  n' 1 0 (-1) (va_cpy ag e_told (0 : Int32).toNatClampNeg (0 : Int32).toNatClampNeg (11 : Int32).toNatClampNeg) hw _ _ _ hP hD hS (lv_sub hl [0, 1, 2] rfl)
