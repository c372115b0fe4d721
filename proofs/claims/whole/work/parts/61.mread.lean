/-! Methods that read the words and the clauses: rows for them. -/
/-- a clause, or none -/
def clv (E : Nat → Nat) (r : Nat) : Value := if r < 8 then .ref (E (200 + r)) else .null
theorem clv_lt {E : Nat → Nat} {r : Nat} (h : r < 8) : clv E r = .ref (E (200 + r)) := if_pos h
theorem clv_ge {E : Nat → Nat} {r : Nat} (h : ¬ r < 8) : clv E r = .null := if_neg h
theorem HX.cl {E : Nat → Nat} {A : Nat → Prop} {s : State} {H : Heap} (h : HX E A s H) {i : Nat} (hi : i < 8) : va_O "DockCall$Clause" (E (200 + i)) A s H ∧ va_OF "DockCall$Clause" "word" "Ljava/lang/String;" (.ref (E (cl_w.getD i 0))) (E (200 + i)) A s H ∧ va_OF "DockCall$Clause" "place" "I" (.int (cl_p.getD i 0)) (E (200 + i)) A s H ∧ va_OF "DockCall$Clause" "least" "I" (.int (cl_l.getD i 0)) (E (200 + i)) A s H ∧ va_OF "DockCall$Clause" "most" "I" (.int (cl_m.getD i 0)) (E (200 + i)) A s H := h.2.2.2.2.2.2.1 i hi
theorem HX.clinj {E : Nat → Nat} {A : Nat → Prop} {s : State} {H : Heap} (h : HX E A s H) {i j : Nat} (hi : i < 8) (hj : j < 8) (e : E (200 + i) = E (200 + j)) : i = j := h.2.2.1 i j hi hj e
theorem HX.clauses {E : Nat → Nat} {A : Nat → Prop} {s : State} {H : Heap} (h : HX E A s H) : va_Z "DockCall$Reader" "CLAUSES" "[LDockCall$Clause;" (.ref (E 300)) A s H := h.2.2.2.2.2.2.2.1
theorem HX.table {E : Nat → Nat} {A : Nat → Prop} {s : State} {H : Heap} (h : HX E A s H) : va_T (.object "DockCall$Clause") (E 300) 8 (fun j => .ref (E (200 + j))) A s H := h.2.2.2.2.2.2.2.2.1
theorem HX.cRATE_OF_SKILL {E : Nat → Nat} {A : Nat → Prop} {s : State} {H : Heap} (h : HX E A s H) : va_Z "DockCall$Clause" "RATE_OF_SKILL" "LDockCall$Clause;" (.ref (E (200 + 1))) A s H := h.2.2.2.2.2.2.2.2.2.1
theorem HX.cFIRST_SHIPS {E : Nat → Nat} {A : Nat → Prop} {s : State} {H : Heap} (h : HX E A s H) : va_Z "DockCall$Clause" "FIRST_SHIPS" "LDockCall$Clause;" (.ref (E (200 + 7))) A s H := h.2.2.2.2.2.2.2.2.2.2.1
/-- an answer that is a value by its number -/
def my_Qg {S : Type} (V : Nat → Value) (post : Nat → S → Prop) (B : S → State → Prop) (A : Nat → Prop) : Array Value → State → Outcome → State → Prop := fun _ st oc t => (∃ (r : Nat) (u : S), oc = .returned (some (V r)) ∧ post r u ∧ B u t) ∧ va_F A st t
section
variable {p : Program} {l : Launch} {e : Env} {R : Room} {s : State} {m : MethodId} {args : Array Value} {below : List Frame} {meth : Method} {c : Code} {H : Heap} {locs : List Loc} {cells slots : Nat} {Q : State → Prop}
variable {pc : Nat} {ls : Array Slot} {rest st0 : List Value} {a : Array Value} {A : Nat → Prop} {H0 : Heap} {D : va_G} {y : Nat → ClassId} {ws wc wr : va_W}
theorem mx_g {S : Type} {V : Nat → Value} {post : Nat → S → Prop} {w1 : S → va_W} (hP : va_P D vwCl ws H) (hD : va_D A ws) (hS : va_S A H0 H locs) (hA : ∀ q, H0.size ≤ q → A q) (isC isR perm : List Nat) (hC : isC.map (fun i => ws[i]?) = wc.map some) (hR : isR.map (fun i => ws[i]?) = wr.map some) (hn : va_nd isR = true) (hdis : ∀ i ∈ isR, i ∉ isC) (hpn : va_nd perm = true) (wn : S → va_W) (hperm : ∀ u, perm.map (fun i => (wr ++ w1 u)[i]?) = (wn u).map some)
    (hr : va_Run p l e R s m args below meth c H locs cells slots 0 0 (F0 m pc ls st0) rest (my_Qg V post (mAt D y (va_A wc H.size) w1) (va_A wc H.size) a) (va_A wc H.size))
    (kk : ∀ (r : Nat) (u : S) (H1 : Heap) (locs1 : List Loc), post r u → va_P D vwCl (wn u) H1 → va_D A (wn u) → va_S A H0 H1 locs1 → W p l e R s m args below meth c H1 locs1 cells slots Q (F0 m (pc + 3) ls (V r :: rest))) : W p l e R s m args below meth c H locs cells slots Q (F0 m pc ls st0) := by
  have hF := va_free (wc := wc) hD hS hA isC hC
  intro T hT X
  obtain ⟨v, st₀, t, T', L, h0, X', hL, e1, e2, ⟨⟨r, u, hv, hp, hb⟩, hz, hk⟩, st⟩ := hr T hT X
  cases hv
  rw [h0] at hz hk
  have hS1 : va_S A H0 T'.heap (locs ++ L) := ⟨Nat.le_trans hS.1 (by rw [e1]; exact hz), fun q h1 h2 => by rw [e1, hk q (Nat.lt_of_lt_of_le h1 hS.1) (fun z => h2 (hF q z))]; exact hS.2.1 q h1 h2, fun q hq => (List.mem_append.mp hq).elim (fun h => hS.2.2 q h) (fun h => hF _ (hL q h))⟩
  obtain ⟨hP2, hD2⟩ := mx_back hP hD hS hA isC isR perm hC hR hn hdis hpn wn hperm e1.symm (fun q h1 h2 => by rw [e1]; exact hk q h1 h2) hb
  obtain ⟨t2, a1, b1⟩ := kk r u T'.heap (locs ++ L) hp hP2 hD2 hS1 T' rfl X'
  exact ⟨t2, st t2 a1, b1⟩
end
theorem inw_X9_isWord_X9 : ∀ w ∈ wsX90, w ∈ wsX9_isWord := fun _ h => List.mem_cons_of_mem _ (List.mem_append_left _ (List.mem_append_left _ (List.mem_append_right _ h)))
def wp_Model_isWord_h24 (v1 : Nat) (x_begin : Int32) (x_tape : Nat → Int32)  (Q : Int32 → Prop) : Nat → Int32 → Int32 → Prop
  | 0, _, _ => False
  | n + 1, v2, v3 => ((v2 = 0 → (narrow .boolean (.int v2) = .int v2 ∧ Q v2)) ∧ (¬ v2 = 0 → (wp_Str_length v1 (fun r_2 => ((r_2 ≤ v3 → (narrow .boolean (.int v2) = .int v2 ∧ Q v2)) ∧ (¬ r_2 ≤ v3 → (vp_in (x_begin + v3) 400 ∧ (wp_Str_charAt v1 v3 (fun r_3 => ((x_tape (x_begin + v3).toNatClampNeg = r_3 → wp_Model_isWord_h24 v1 x_begin x_tape Q n 1 (v3 + 1)) ∧ (¬ x_tape (x_begin + v3).toNatClampNeg = r_3 → wp_Model_isWord_h24 v1 x_begin x_tape Q n 0 (v3 + 1))))))))))))
def wp_Model_isWord (x_at : Int32) (x_begin : Int32) (x_tape : Nat → Int32) (p0 : Nat) (Q : Int32 → Prop) : Prop := (wp_Str_length p0 (fun r_1 => ((x_at - x_begin = r_1 → (∃ n' : Nat, wp_Model_isWord_h24 p0 x_begin x_tape Q n' 1 0)) ∧ (¬ x_at - x_begin = r_1 → (∃ n' : Nat, wp_Model_isWord_h24 p0 x_begin x_tape Q n' 0 0)))))
set_option maxHeartbeats 4000000 in
set_option maxRecDepth 100000 in
theorem c_Model_isWord_h24 {p : Program} {l : Launch} {e : Env} {s : State} {m : MethodId} {args : Array Value} {below : List Frame} {meth : Method} {c : Code} {D : va_G} {y : Nat → ClassId} {E : Nat → Nat} {bd : Nat → Nat} {A : Nat → Prop} (hx : p.tables.exec = Jvm.exec) (hb : c.code = cX9_isWord) (hr : meth.sig.returnType = some .boolean) (hml : c.maxLocals = 4) (hown : s.vm.findClass RX9 = some m.cls) (hts : ∀ w ∈ wsX9_isWord, w.before args s = true) (hlocks : meth.locks = false) (hK : va_K D vwCl (TY y) s) (hE : EV s) (hA : ∀ q, s.heap.size ≤ q → A q) (hH : HX E A s s.heap) {v1 : Nat} {x_at : Int32} {x_begin : Int32} {x_tape : Nat → Int32} {x_thrown : Int32} {x_men : Int32} {x_ships : Int32} {x_entries : Int32} {x_rules : Int32} {x_calls : Int32} {x_gangs : Int32} {x_idle : Int32} {x_moved : Int64} {x_paid : Int64} {x_taped : Int32} {x_end : Int32} {x_faultAt : Int32} {x_wants : Int32}  {Q : Int32 → Prop}  : ∀ (n : Nat) (v2 : Int32) (v3 : Int32), wp_Model_isWord_h24 v1 x_begin x_tape Q n v2 v3 → ∀ (H : Heap) (locs : List Loc) (ls : Array Slot), va_P D vwCl [(ce_xm bd x_thrown x_men x_ships x_entries x_rules x_calls x_gangs x_idle x_moved x_paid x_taped x_at x_end x_begin x_faultAt x_wants), ((bd 21), .inl (y 1, 400, .inl x_tape))] H → va_D A [(ce_xm bd x_thrown x_men x_ships x_entries x_rules x_calls x_gangs x_idle x_moved x_paid x_taped x_at x_end x_begin x_faultAt x_wants), ((bd 21), .inl (y 1, 400, .inl x_tape))] → va_S A s.heap H locs → lv_has ls 4 [(3, .int v3), (2, .int v2), (0, .ref (bd 0)), (1, .ref (E v1))] → W p l e ({ frames := 4, cells := 0, slots := 0, locals := 85 }) s m args below meth c H locs 0 0 (MQ below (va_Qi (fun (r : Int32) (u : Unit) => Q r ) (mAt D y A (fun (u : Unit) => [(ce_xm bd x_thrown x_men x_ships x_entries x_rules x_calls x_gangs x_idle x_moved x_paid x_taped x_at x_end x_begin x_faultAt x_wants), ((bd 21), .inl (y 1, 400, .inl x_tape))])) A) args s 0 0 A) (F0 m 24 ls []) := by
  intro n
  induction n with
  | zero => intro v2 v3 hw; rw [wp_Model_isWord_h24] at hw; exact hw.elim
  | succ n ih =>
    intro v2 v3 hw H locs ls hP hD hS hl
    rw [wp_Model_isWord_h24] at hw
    refine lv_iload_n hx hb dX9_isWord_24 rfl (lv_at hl 1 rfl) ?_
    refine lv_if_eq (tgt := 67) hx hb dX9_isWord_25 (by decide) (fun hc => ?_) (fun hc => ?_)
    · have hw := hw.1 hc
      refine lv_iload_n hx hb dX9_isWord_67 rfl (lv_at hl 1 rfl) ?_
      obtain ⟨hn, hw⟩ := hw
      exact W.zret (v := v2) hx hb hr hn (fun t ht hW => ⟨⟨v2, (), rfl, hw, mAt.to hP hK hD ht hW⟩, hS.F ht⟩) hS.2.2 dX9_isWord_68
    · have hw := hw.2 hc
      refine lv_iload_n hx hb dX9_isWord_28 rfl (lv_at hl 0 rfl) ?_
      refine lv_aload_n hx hb dX9_isWord_29 rfl (lv_at hl 3 rfl) ?_
      refine mx_i (wc := []) (wr := [(ce_xm bd x_thrown x_men x_ships x_entries x_rules x_calls x_gangs x_idle x_moved x_paid x_taped x_at x_end x_begin x_faultAt x_wants), ((bd 21), .inl (y 1, 400, .inl x_tape))]) hP hD hS hA [] [0, 1] [0, 1] rfl rfl (by decide) (by decide) (by decide) (fun (u : Unit) => [(ce_xm bd x_thrown x_men x_ships x_entries x_rules x_calls x_gangs x_idle x_moved x_paid x_taped x_at x_end x_begin x_faultAt x_wants), ((bd 21), .inl (y 1, 400, .inl x_tape))]) (fun _ => rfl) (va_runV (As := []) (rest := [.int v3]) ⟨hx, hb, hml, hown, hts⟩ (c_Str_length l D y E H.size v1 hw) (cwV 0 hts gX9_isWord_J0_length_8abf5 rfl rfl rfl (by decide +kernel) ⟨Nat.le_of_ble_eq_true rfl, Nat.le_of_ble_eq_true rfl⟩) ⟨nPre.blind, (HX.recv (p := p) (l := l) hH hw.1 hS), nPre.to (hP.sub [] rfl) hK (hD.sub [] (by decide) rfl) hE hH hS (va_free (wc := []) hD hS hA [] rfl)⟩ rfl rfl hl.1 rfl (lv_room (Nat.le_of_ble_eq_true rfl)) dX9_isWord_30 ⟨Nat.le_of_ble_eq_true rfl, Nat.le_of_ble_eq_true rfl⟩) (fun r_2 u H locs hw hP hD hS => ?_)
      try dsimp only at hw
      have hP : va_P D vwCl [(ce_xm bd x_thrown x_men x_ships x_entries x_rules x_calls x_gangs x_idle x_moved x_paid x_taped x_at x_end x_begin x_faultAt x_wants), ((bd 21), .inl (y 1, 400, .inl x_tape))] H := hP
      have hD : va_D A [(ce_xm bd x_thrown x_men x_ships x_entries x_rules x_calls x_gangs x_idle x_moved x_paid x_taped x_at x_end x_begin x_faultAt x_wants), ((bd 21), .inl (y 1, 400, .inl x_tape))] := hD
      refine lv_icmp_ge (tgt := 67) hx hb dX9_isWord_33 (by decide) (fun hc => ?_) (fun hc => ?_)
      · have hw := hw.1 hc
        refine lv_iload_n hx hb dX9_isWord_67 rfl (lv_at hl 1 rfl) ?_
        obtain ⟨hn, hw⟩ := hw
        exact W.zret (v := v2) hx hb hr hn (fun t ht hW => ⟨⟨v2, (), rfl, hw, mAt.to hP hK hD ht hW⟩, hS.F ht⟩) hS.2.2 dX9_isWord_68
      · have hw := hw.2 hc
        refine lv_aload_n hx hb dX9_isWord_36 rfl (lv_at hl 2 rfl) ?_
        refine va_get (ci := 11) (v := .ref (bd 21)) (C := RX9) (T := TX9) (N := 47) hx hb hts inw_X9_isWord_X9 hown hK hP 0 rfl rfl 30 (by decide) (hts (.fieldLink RX9 71 "DockCallModel" "tape" "[B") (by decide +kernel)) (fun _ h9 => h9) rfl dX9_isWord_37 ?_
        refine lv_aload_n hx hb dX9_isWord_40 rfl (lv_at hl 2 rfl) ?_
        refine va_get (ci := 11) (v := .int x_begin) (C := RX9) (T := TX9) (N := 47) hx hb hts inw_X9_isWord_X9 hown hK hP 0 rfl rfl 35 (by decide) (hts (.fieldLink RX9 152 "DockCallModel" "begin" "I") (by decide +kernel)) (fun _ h9 => h9) rfl dX9_isWord_41 ?_
        refine lv_iload_n hx hb dX9_isWord_44 rfl (lv_at hl 0 rfl) ?_
        refine lv_iadd hx hb dX9_isWord_45 ?_
        obtain ⟨hi, hw⟩ := hw
        refine va_bald hx hb hK hP 1 1 rfl rfl hi dX9_isWord_46 ?_
        refine lv_aload_n hx hb dX9_isWord_47 rfl (lv_at hl 3 rfl) ?_
        refine lv_iload_n hx hb dX9_isWord_48 rfl (lv_at hl 0 rfl) ?_
        refine mx_i (wc := []) (wr := [(ce_xm bd x_thrown x_men x_ships x_entries x_rules x_calls x_gangs x_idle x_moved x_paid x_taped x_at x_end x_begin x_faultAt x_wants), ((bd 21), .inl (y 1, 400, .inl x_tape))]) hP hD hS hA [] [0, 1] [0, 1] rfl rfl (by decide) (by decide) (by decide) (fun (u : Unit) => [(ce_xm bd x_thrown x_men x_ships x_entries x_rules x_calls x_gangs x_idle x_moved x_paid x_taped x_at x_end x_begin x_faultAt x_wants), ((bd 21), .inl (y 1, 400, .inl x_tape))]) (fun _ => rfl) (va_runV (As := [.int v3]) (rest := [.int (x_tape (x_begin + v3).toNatClampNeg)]) ⟨hx, hb, hml, hown, hts⟩ (c_Str_charAt l D y E H.size v1 v3 hw) (cwV 1 hts gX9_isWord_J0_charAt_5068e rfl rfl rfl (by decide +kernel) ⟨Nat.le_of_ble_eq_true rfl, Nat.le_of_ble_eq_true rfl⟩) ⟨nPre.blind, (HX.recv (p := p) (l := l) hH hw.1 hS), nPre.to (hP.sub [] rfl) hK (hD.sub [] (by decide) rfl) hE hH hS (va_free (wc := []) hD hS hA [] rfl)⟩ rfl rfl hl.1 rfl (lv_room (Nat.le_of_ble_eq_true rfl)) dX9_isWord_49 ⟨Nat.le_of_ble_eq_true rfl, Nat.le_of_ble_eq_true rfl⟩) (fun r_3 u H locs hw hP hD hS => ?_)
        try dsimp only at hw
        have hP : va_P D vwCl [(ce_xm bd x_thrown x_men x_ships x_entries x_rules x_calls x_gangs x_idle x_moved x_paid x_taped x_at x_end x_begin x_faultAt x_wants), ((bd 21), .inl (y 1, 400, .inl x_tape))] H := hP
        have hD : va_D A [(ce_xm bd x_thrown x_men x_ships x_entries x_rules x_calls x_gangs x_idle x_moved x_paid x_taped x_at x_end x_begin x_faultAt x_wants), ((bd 21), .inl (y 1, 400, .inl x_tape))] := hD
        refine lv_icmp_ne (tgt := 59) hx hb dX9_isWord_52 (by decide) (fun hc => ?_) (fun hc => ?_)
        · have hw := hw.2 hc
          refine lv_iconst (v := 0) hx hb dX9_isWord_59 (by decide) ?_
          refine lv_istore_n (lv' := [(2, .int 0), (3, .int v3), (0, .ref (bd 0)), (1, .ref (E v1))]) hx hb dX9_isWord_60 rfl hl (by decide) rfl (fun ls hl => ?_)
          refine lv_iinc (v := v3 + 1) (lv' := [(3, .int (v3 + 1)), (2, .int 0), (0, .ref (bd 0)), (1, .ref (E v1))]) hx hb dX9_isWord_61 hl (k := 1) rfl (by first | rfl | decide) (by decide) rfl (fun ls hl => ?_)
          refine lv_goto (tgt := 24) hx hb dX9_isWord_64 (by decide) ?_
          exact ih 0 (v3 + 1)  hw _ _ _ hP hD hS (lv_sub hl [0, 1, 2, 3] rfl)
        · have hw := hw.1 hc
          refine lv_iconst (v := 1) hx hb dX9_isWord_55 (by decide) ?_
          refine lv_goto (tgt := 60) hx hb dX9_isWord_56 (by decide) ?_
          refine lv_istore_n (lv' := [(2, .int 1), (3, .int v3), (0, .ref (bd 0)), (1, .ref (E v1))]) hx hb dX9_isWord_60 rfl hl (by decide) rfl (fun ls hl => ?_)
          refine lv_iinc (v := v3 + 1) (lv' := [(3, .int (v3 + 1)), (2, .int 1), (0, .ref (bd 0)), (1, .ref (E v1))]) hx hb dX9_isWord_61 hl (k := 1) rfl (by first | rfl | decide) (by decide) rfl (fun ls hl => ?_)
          refine lv_goto (tgt := 24) hx hb dX9_isWord_64 (by decide) ?_
          exact ih 1 (v3 + 1)  hw _ _ _ hP hD hS (lv_sub hl [0, 1, 2, 3] rfl)
set_option maxHeartbeats 4000000 in
set_option maxRecDepth 100000 in
theorem c_Model_isWord (l : Launch) (D : va_G) (y E : Nat → Nat) (bd : Nat → Nat) (sz : Nat) (x_thrown : Int32) (x_men : Int32) (x_ships : Int32) (x_entries : Int32) (x_rules : Int32) (x_calls : Int32) (x_gangs : Int32) (x_idle : Int32) (x_moved : Int64) (x_paid : Int64) (x_taped : Int32) (x_at : Int32) (x_end : Int32) (x_begin : Int32) (x_faultAt : Int32) (x_wants : Int32) (x_tape : Nat → Int32) (p0 : Nat) {Q : Int32 → Prop} (hw : wp_Model_isWord x_at x_begin x_tape p0 Q) : Met l yX9_isWord wsX9_isWord ({ frames := 4, cells := 0, slots := 0, locals := 85 }) (va_Pc [.ref (bd 0), .ref (E p0)] (nPre D y E sz [(ce_xm bd x_thrown x_men x_ships x_entries x_rules x_calls x_gangs x_idle x_moved x_paid x_taped x_at x_end x_begin x_faultAt x_wants), ((bd 21), .inl (y 1, 400, .inl x_tape))])) (va_Qi (fun (r : Int32) (u : Unit) => Q r ) (mAt D y (va_A [(ce_xm bd x_thrown x_men x_ships x_entries x_rules x_calls x_gangs x_idle x_moved x_paid x_taped x_at x_end x_begin x_faultAt x_wants), ((bd 21), .inl (y 1, 400, .inl x_tape))] sz) (fun (u : Unit) => [(ce_xm bd x_thrown x_men x_ships x_entries x_rules x_calls x_gangs x_idle x_moved x_paid x_taped x_at x_end x_begin x_faultAt x_wants), ((bd 21), .inl (y 1, 400, .inl x_tape))])) (va_A [(ce_xm bd x_thrown x_men x_ships x_entries x_rules x_calls x_gangs x_idle x_moved x_paid x_taped x_at x_end x_begin x_faultAt x_wants), ((bd 21), .inl (y 1, 400, .inl x_tape))] sz)) 0 0 (va_A [(ce_xm bd x_thrown x_men x_ships x_entries x_rules x_calls x_gangs x_idle x_moved x_paid x_taped x_at x_end x_begin x_faultAt x_wants), ((bd 21), .inl (y 1, 400, .inl x_tape))] sz) := by
  unfold wp_Model_isWord at hw
  refine Met.ofW (cc := cX9_isWord) (maxL := 4) (ret := some .boolean) (by decide) rfl ?_
  intro p e s m args below meth c s₁ B hml hv
  obtain ⟨rfl, ⟨hsz, hP, hK, hD0, hE⟩, hH⟩ := hv
  have hx := B.exec
  have hb := B.bytes
  have hr := B.returns
  have hts := atoms_spec (ws := wsX9_isWord) B.pre
  have hown : s.vm.findClass RX9 = some m.cls := findClass_of_methodNamed B.named
  have hlocks := B.notSynchronized
  subst hsz
  have hD := hD0.self (sz := s.heap.size)
  generalize hAe : va_A [(ce_xm bd x_thrown x_men x_ships x_entries x_rules x_calls x_gangs x_idle x_moved x_paid x_taped x_at x_end x_begin x_faultAt x_wants), ((bd 21), .inl (y 1, 400, .inl x_tape))] s.heap.size = A at hD hH ⊢
  have hA : ∀ q : Nat, s.heap.size ≤ q → A q := fun q h => by rw [← hAe]; exact Or.inr h
  have hS : va_S A s.heap s.heap [] := va_S.rf
  have hP : va_P D vwCl [(ce_xm bd x_thrown x_men x_ships x_entries x_rules x_calls x_gangs x_idle x_moved x_paid x_taped x_at x_end x_begin x_faultAt x_wants), ((bd 21), .inl (y 1, 400, .inl x_tape))] s.heap := hP
  have hl := lv_entry ([.ref (bd 0), .ref (E p0)]) (n := 4) (Nat.le_of_ble_eq_true rfl)
  rw [lg_entry_eq]
  generalize (lg_sl ([.ref (bd 0), .ref (E p0)]) ++ List.replicate (4 - (lg_sl ([.ref (bd 0), .ref (E p0)])).length) Slot.unset).toArray = ls at hl ⊢
  have hl : lv_has ls 4 [(0, .ref (bd 0)), (1, .ref (E p0))] := hl
  refine lv_aload_n hx hb dX9_isWord_0 rfl (lv_at hl 0 rfl) ?_
  refine va_get (ci := 11) (v := .int x_at) (C := RX9) (T := TX9) (N := 47) hx hb hts inw_X9_isWord_X9 hown hK hP 0 rfl rfl 33 (by decide) (hts (.fieldLink RX9 142 "DockCallModel" "at" "I") (by decide +kernel)) (fun _ h9 => h9) rfl dX9_isWord_1 ?_
  refine lv_aload_n hx hb dX9_isWord_4 rfl (lv_at hl 0 rfl) ?_
  refine va_get (ci := 11) (v := .int x_begin) (C := RX9) (T := TX9) (N := 47) hx hb hts inw_X9_isWord_X9 hown hK hP 0 rfl rfl 35 (by decide) (hts (.fieldLink RX9 152 "DockCallModel" "begin" "I") (by decide +kernel)) (fun _ h9 => h9) rfl dX9_isWord_5 ?_
  refine lv_isub hx hb dX9_isWord_8 ?_
  refine lv_aload_n hx hb dX9_isWord_9 rfl (lv_at hl 1 rfl) ?_
  refine mx_i (wc := []) (wr := [(ce_xm bd x_thrown x_men x_ships x_entries x_rules x_calls x_gangs x_idle x_moved x_paid x_taped x_at x_end x_begin x_faultAt x_wants), ((bd 21), .inl (y 1, 400, .inl x_tape))]) hP hD hS hA [] [0, 1] [0, 1] rfl rfl (by decide) (by decide) (by decide) (fun (u : Unit) => [(ce_xm bd x_thrown x_men x_ships x_entries x_rules x_calls x_gangs x_idle x_moved x_paid x_taped x_at x_end x_begin x_faultAt x_wants), ((bd 21), .inl (y 1, 400, .inl x_tape))]) (fun _ => rfl) (va_runV (As := []) (rest := [.int (x_at - x_begin)]) ⟨hx, hb, hml, hown, hts⟩ (c_Str_length l D y E s.heap.size p0 hw) (cwV 0 hts gX9_isWord_J0_length_8abf5 rfl rfl rfl (by decide +kernel) ⟨Nat.le_of_ble_eq_true rfl, Nat.le_of_ble_eq_true rfl⟩) ⟨nPre.blind, (HX.recv (p := p) (l := l) hH hw.1 hS), nPre.to (hP.sub [] rfl) hK (hD.sub [] (by decide) rfl) hE hH hS (va_free (wc := []) hD hS hA [] rfl)⟩ rfl rfl hl.1 rfl (lv_room (Nat.le_of_ble_eq_true rfl)) dX9_isWord_10 ⟨Nat.le_of_ble_eq_true rfl, Nat.le_of_ble_eq_true rfl⟩) (fun r_1 u H locs hw hP hD hS => ?_)
  try dsimp only at hw
  have hP : va_P D vwCl [(ce_xm bd x_thrown x_men x_ships x_entries x_rules x_calls x_gangs x_idle x_moved x_paid x_taped x_at x_end x_begin x_faultAt x_wants), ((bd 21), .inl (y 1, 400, .inl x_tape))] H := hP
  have hD : va_D A [(ce_xm bd x_thrown x_men x_ships x_entries x_rules x_calls x_gangs x_idle x_moved x_paid x_taped x_at x_end x_begin x_faultAt x_wants), ((bd 21), .inl (y 1, 400, .inl x_tape))] := hD
  refine lv_icmp_ne (tgt := 20) hx hb dX9_isWord_13 (by decide) (fun hc => ?_) (fun hc => ?_)
  · have hw := hw.2 hc
    refine lv_iconst (v := 0) hx hb dX9_isWord_20 (by decide) ?_
    refine lv_istore_n (lv' := [(2, .int 0), (0, .ref (bd 0)), (1, .ref (E p0))]) hx hb dX9_isWord_21 rfl hl (by decide) rfl (fun ls hl => ?_)
    refine lv_iconst (v := 0) hx hb dX9_isWord_22 (by decide) ?_
    refine lv_istore_n (lv' := [(3, .int 0), (2, .int 0), (0, .ref (bd 0)), (1, .ref (E p0))]) hx hb dX9_isWord_23 rfl hl (by decide) rfl (fun ls hl => ?_)
    obtain ⟨n', hw⟩ := hw
    exact c_Model_isWord_h24 hx hb hr hml hown hts hlocks hK hE hA hH  n' 0 0 hw _ _ _ hP hD hS (lv_sub hl [0, 1, 2, 3] rfl)
  · have hw := hw.1 hc
    refine lv_iconst (v := 1) hx hb dX9_isWord_16 (by decide) ?_
    refine lv_goto (tgt := 21) hx hb dX9_isWord_17 (by decide) ?_
    refine lv_istore_n (lv' := [(2, .int 1), (0, .ref (bd 0)), (1, .ref (E p0))]) hx hb dX9_isWord_21 rfl hl (by decide) rfl (fun ls hl => ?_)
    refine lv_iconst (v := 0) hx hb dX9_isWord_22 (by decide) ?_
    refine lv_istore_n (lv' := [(3, .int 0), (2, .int 1), (0, .ref (bd 0)), (1, .ref (E p0))]) hx hb dX9_isWord_23 rfl hl (by decide) rfl (fun ls hl => ?_)
    obtain ⟨n', hw⟩ := hw
    exact c_Model_isWord_h24 hx hb hr hml hown hts hlocks hK hE hA hH  n' 1 0 hw _ _ _ hP hD hS (lv_sub hl [0, 1, 2, 3] rfl)
def wp_Model_word (p0 : Int32) (Q : Nat → Prop) : Prop := ((p0 = 0 → Q 0) ∧ (¬ p0 = 0 → ((p0 = 1 → Q 1) ∧ (¬ p0 = 1 → ((p0 = 2 → Q 2) ∧ (¬ p0 = 2 → ((p0 = 3 → Q 3) ∧ (¬ p0 = 3 → ((p0 = 4 → Q 4) ∧ (¬ p0 = 4 → ((p0 = 5 → Q 5) ∧ (¬ p0 = 5 → ((p0 = 6 → Q 6) ∧ (¬ p0 = 6 → ((p0 = 7 → Q 7) ∧ (¬ p0 = 7 → ((p0 = 8 → Q 8) ∧ (¬ p0 = 8 → ((p0 = 9 → Q 9) ∧ (¬ p0 = 9 → Q 10))))))))))))))))))))
set_option maxHeartbeats 4000000 in
set_option maxRecDepth 100000 in
theorem c_Model_word (l : Launch) (D : va_G) (y E : Nat → Nat) (sz : Nat)  (p0 : Int32) {Q : Nat → Prop} (hw : wp_Model_word p0 Q) : Met l yX9_word wsX9_word ({ frames := 0, cells := 0, slots := 0, locals := 0 }) (va_Pc [.int p0] (nPre D y E sz [])) (my_Qg (fun (z : Nat) => Value.ref (E z)) (fun (r : Nat) (u : Unit) => Q r ) (mAt D y (va_A [] sz) (fun (u : Unit) => [])) (va_A [] sz)) 0 0 (va_A [] sz) := by
  unfold wp_Model_word at hw
  refine Met.ofW (cc := cX9_word) (maxL := 1) (ret := some (.object "java/lang/String")) (by decide) rfl ?_
  intro p e s m args below meth c s₁ B hml hv
  obtain ⟨rfl, ⟨hsz, hP, hK, hD0, hE⟩, hH⟩ := hv
  have hx := B.exec
  have hb := B.bytes
  have hr := B.returns
  have hts := atoms_spec (ws := wsX9_word) B.pre
  have hown : s.vm.findClass RX9 = some m.cls := findClass_of_methodNamed B.named
  have hlocks := B.notSynchronized
  subst hsz
  have hD := hD0.self (sz := s.heap.size)
  generalize hAe : va_A [] s.heap.size = A at hD hH ⊢
  have hA : ∀ q : Nat, s.heap.size ≤ q → A q := fun q h => by rw [← hAe]; exact Or.inr h
  have hS : va_S A s.heap s.heap [] := va_S.rf
  have hP : va_P D vwCl [] s.heap := hP
  have hl := lv_entry ([.int p0]) (n := 1) (Nat.le_of_ble_eq_true rfl)
  rw [lg_entry_eq]
  generalize (lg_sl ([.int p0]) ++ List.replicate (1 - (lg_sl ([.int p0])).length) Slot.unset).toArray = ls at hl ⊢
  have hl : lv_has ls 1 [(0, .int p0)] := hl
  refine lv_iload_n hx hb dX9_word_0 rfl (lv_at hl 0 rfl) ?_
  by_cases tc0 : p0 = 0
  · have hw := hw.1 tc0
    refine lv_tableIn (off := 55) (tgt := 56) hx hb dX9_word_1 (by rw [tc0]; decide) (by rw [tc0]; decide) (by rw [tc0]; decide) (by decide) ?_
    refine va_ldcS hx hb hown (xk_M165 hH) dX9_word_56 ?_
    exact W.aret (v := .ref (E 0)) hx hb hr (Or.inl ⟨_, rfl⟩) (Or.inr ⟨_, rfl⟩) (fun t ht hW => ⟨⟨0, (), rfl, hw, mAt.to hP hK hD ht hW⟩, hS.F ht⟩) hS.2.2 dX9_word_58
  · have hw := hw.2 tc0
    by_cases tc1 : p0 = 1
    · have hw := hw.1 tc1
      refine lv_tableIn (off := 58) (tgt := 59) hx hb dX9_word_1 (by rw [tc1]; decide) (by rw [tc1]; decide) (by rw [tc1]; decide) (by decide) ?_
      refine va_ldcS hx hb hown (xk_M166 hH) dX9_word_59 ?_
      exact W.aret (v := .ref (E 1)) hx hb hr (Or.inl ⟨_, rfl⟩) (Or.inr ⟨_, rfl⟩) (fun t ht hW => ⟨⟨1, (), rfl, hw, mAt.to hP hK hD ht hW⟩, hS.F ht⟩) hS.2.2 dX9_word_61
    · have hw := hw.2 tc1
      by_cases tc2 : p0 = 2
      · have hw := hw.1 tc2
        refine lv_tableIn (off := 61) (tgt := 62) hx hb dX9_word_1 (by rw [tc2]; decide) (by rw [tc2]; decide) (by rw [tc2]; decide) (by decide) ?_
        refine va_ldcS hx hb hown (xk_M168 hH) dX9_word_62 ?_
        exact W.aret (v := .ref (E 2)) hx hb hr (Or.inl ⟨_, rfl⟩) (Or.inr ⟨_, rfl⟩) (fun t ht hW => ⟨⟨2, (), rfl, hw, mAt.to hP hK hD ht hW⟩, hS.F ht⟩) hS.2.2 dX9_word_64
      · have hw := hw.2 tc2
        by_cases tc3 : p0 = 3
        · have hw := hw.1 tc3
          refine lv_tableIn (off := 64) (tgt := 65) hx hb dX9_word_1 (by rw [tc3]; decide) (by rw [tc3]; decide) (by rw [tc3]; decide) (by decide) ?_
          refine va_ldcS hx hb hown (xk_M170 hH) dX9_word_65 ?_
          exact W.aret (v := .ref (E 3)) hx hb hr (Or.inl ⟨_, rfl⟩) (Or.inr ⟨_, rfl⟩) (fun t ht hW => ⟨⟨3, (), rfl, hw, mAt.to hP hK hD ht hW⟩, hS.F ht⟩) hS.2.2 dX9_word_67
        · have hw := hw.2 tc3
          by_cases tc4 : p0 = 4
          · have hw := hw.1 tc4
            refine lv_tableIn (off := 67) (tgt := 68) hx hb dX9_word_1 (by rw [tc4]; decide) (by rw [tc4]; decide) (by rw [tc4]; decide) (by decide) ?_
            refine va_ldcS hx hb hown (xk_M172 hH) dX9_word_68 ?_
            exact W.aret (v := .ref (E 4)) hx hb hr (Or.inl ⟨_, rfl⟩) (Or.inr ⟨_, rfl⟩) (fun t ht hW => ⟨⟨4, (), rfl, hw, mAt.to hP hK hD ht hW⟩, hS.F ht⟩) hS.2.2 dX9_word_70
          · have hw := hw.2 tc4
            by_cases tc5 : p0 = 5
            · have hw := hw.1 tc5
              refine lv_tableIn (off := 70) (tgt := 71) hx hb dX9_word_1 (by rw [tc5]; decide) (by rw [tc5]; decide) (by rw [tc5]; decide) (by decide) ?_
              refine va_ldcS hx hb hown (xk_M174 hH) dX9_word_71 ?_
              exact W.aret (v := .ref (E 5)) hx hb hr (Or.inl ⟨_, rfl⟩) (Or.inr ⟨_, rfl⟩) (fun t ht hW => ⟨⟨5, (), rfl, hw, mAt.to hP hK hD ht hW⟩, hS.F ht⟩) hS.2.2 dX9_word_73
            · have hw := hw.2 tc5
              by_cases tc6 : p0 = 6
              · have hw := hw.1 tc6
                refine lv_tableIn (off := 73) (tgt := 74) hx hb dX9_word_1 (by rw [tc6]; decide) (by rw [tc6]; decide) (by rw [tc6]; decide) (by decide) ?_
                refine va_ldcS hx hb hown (xk_M176 hH) dX9_word_74 ?_
                exact W.aret (v := .ref (E 6)) hx hb hr (Or.inl ⟨_, rfl⟩) (Or.inr ⟨_, rfl⟩) (fun t ht hW => ⟨⟨6, (), rfl, hw, mAt.to hP hK hD ht hW⟩, hS.F ht⟩) hS.2.2 dX9_word_76
              · have hw := hw.2 tc6
                by_cases tc7 : p0 = 7
                · have hw := hw.1 tc7
                  refine lv_tableIn (off := 76) (tgt := 77) hx hb dX9_word_1 (by rw [tc7]; decide) (by rw [tc7]; decide) (by rw [tc7]; decide) (by decide) ?_
                  refine va_ldcS hx hb hown (xk_M178 hH) dX9_word_77 ?_
                  exact W.aret (v := .ref (E 7)) hx hb hr (Or.inl ⟨_, rfl⟩) (Or.inr ⟨_, rfl⟩) (fun t ht hW => ⟨⟨7, (), rfl, hw, mAt.to hP hK hD ht hW⟩, hS.F ht⟩) hS.2.2 dX9_word_79
                · have hw := hw.2 tc7
                  by_cases tc8 : p0 = 8
                  · have hw := hw.1 tc8
                    refine lv_tableIn (off := 79) (tgt := 80) hx hb dX9_word_1 (by rw [tc8]; decide) (by rw [tc8]; decide) (by rw [tc8]; decide) (by decide) ?_
                    refine va_ldcS hx hb hown (xk_M180 hH) dX9_word_80 ?_
                    exact W.aret (v := .ref (E 8)) hx hb hr (Or.inl ⟨_, rfl⟩) (Or.inr ⟨_, rfl⟩) (fun t ht hW => ⟨⟨8, (), rfl, hw, mAt.to hP hK hD ht hW⟩, hS.F ht⟩) hS.2.2 dX9_word_82
                  · have hw := hw.2 tc8
                    by_cases tc9 : p0 = 9
                    · have hw := hw.1 tc9
                      refine lv_tableIn (off := 82) (tgt := 83) hx hb dX9_word_1 (by rw [tc9]; decide) (by rw [tc9]; decide) (by rw [tc9]; decide) (by decide) ?_
                      refine va_ldcS hx hb hown (xk_M182 hH) dX9_word_83 ?_
                      exact W.aret (v := .ref (E 9)) hx hb hr (Or.inl ⟨_, rfl⟩) (Or.inr ⟨_, rfl⟩) (fun t ht hW => ⟨⟨9, (), rfl, hw, mAt.to hP hK hD ht hW⟩, hS.F ht⟩) hS.2.2 dX9_word_85
                    · have hw := hw.2 tc9
                      refine lv_tableOut (tgt := 86) hx hb dX9_word_1 (tw_o 9 rfl (by decide) (fun k hk => by rcases (show k = 0 ∨ k = 1 ∨ k = 2 ∨ k = 3 ∨ k = 4 ∨ k = 5 ∨ k = 6 ∨ k = 7 ∨ k = 8 ∨ k = 9 by omega) with rfl | rfl | rfl | rfl | rfl | rfl | rfl | rfl | rfl | rfl <;> first | exact tc0 | exact tc1 | exact tc2 | exact tc3 | exact tc4 | exact tc5 | exact tc6 | exact tc7 | exact tc8 | exact tc9)) (by decide) ?_
                      refine va_ldcS hx hb hown (xk_M183 hH) dX9_word_86 ?_
                      exact W.aret (v := .ref (E 10)) hx hb hr (Or.inl ⟨_, rfl⟩) (Or.inr ⟨_, rfl⟩) (fun t ht hW => ⟨⟨10, (), rfl, hw, mAt.to hP hK hD ht hW⟩, hS.F ht⟩) hS.2.2 dX9_word_88
theorem inw_X9_readWord_X9 : ∀ w ∈ wsX90, w ∈ wsX9_readWord := fun _ h => List.mem_cons_of_mem _ (List.mem_append_left _ (List.mem_append_left _ (List.mem_append_right _ h)))
def wp_Model_readWord_h30 (v2 : Int32) (x_at : Int32) (x_begin : Int32) (x_tape : Nat → Int32)  (Q : Int32 → Int32 → Int32 → Prop) : Nat → Int32 → Prop
  | 0, _ => False
  | n + 1, v3 => ((v2 < v3 → Q (-1) x_at x_begin) ∧ (¬ v2 < v3 → (wp_Model_word v3 (fun r_4 => (wp_Model_isWord x_at x_begin x_tape r_4 (fun r_5 => ((r_5 = 0 → wp_Model_readWord_h30 v2 x_at x_begin x_tape Q n (v3 + 1)) ∧ (¬ r_5 = 0 → Q v3 x_at x_begin))))))))
def wp_Model_readWord_h4 (v1 : Int32) (v2 : Int32) (x_end : Int32) (x_begin : Int32) (x_tape : Nat → Int32)  (Q : Int32 → Int32 → Int32 → Prop) : Nat → Int32 → Prop
  | 0, _ => False
  | n + 1, x_at => (wp_Model_isAt x_at x_end x_tape 97 122 (fun r_3 => ((r_3 = 0 → (∃ n' : Nat, wp_Model_readWord_h30 v2 x_at x_begin x_tape Q n' v1)) ∧ (¬ r_3 = 0 → wp_Model_readWord_h4 v1 v2 x_end x_begin x_tape Q n (x_at + 1)))))
def wp_Model_readWord (x_at : Int32) (x_end : Int32) (x_tape : Nat → Int32) (p0 : Int32) (p1 : Int32) (Q : Int32 → Int32 → Int32 → Prop) : Prop := (wp_Model_blanks x_at x_end x_tape (fun x_at_1 x_begin_2 => (∃ n' : Nat, wp_Model_readWord_h4 p0 p1 x_end x_begin_2 x_tape Q n' x_at_1)))
set_option maxHeartbeats 4000000 in
set_option maxRecDepth 100000 in
theorem c_Model_readWord_h30 {p : Program} {l : Launch} {e : Env} {s : State} {m : MethodId} {args : Array Value} {below : List Frame} {meth : Method} {c : Code} {D : va_G} {y : Nat → ClassId} {E : Nat → Nat} {bd : Nat → Nat} {A : Nat → Prop} (hx : p.tables.exec = Jvm.exec) (hb : c.code = cX9_readWord) (hr : meth.sig.returnType = some .int) (hml : c.maxLocals = 4) (hown : s.vm.findClass RX9 = some m.cls) (hts : ∀ w ∈ wsX9_readWord, w.before args s = true) (hlocks : meth.locks = false) (hK : va_K D vwCl (TY y) s) (hE : EV s) (hA : ∀ q, s.heap.size ≤ q → A q) (hH : HX E A s s.heap) {v1 : Int32} {v2 : Int32} {x_at : Int32} {x_end : Int32} {x_begin : Int32} {x_tape : Nat → Int32} {x_thrown : Int32} {x_men : Int32} {x_ships : Int32} {x_entries : Int32} {x_rules : Int32} {x_calls : Int32} {x_gangs : Int32} {x_idle : Int32} {x_moved : Int64} {x_paid : Int64} {x_taped : Int32} {x_faultAt : Int32} {x_wants : Int32}  {Q : Int32 → Int32 → Int32 → Prop}  : ∀ (n : Nat) (v3 : Int32), wp_Model_readWord_h30 v2 x_at x_begin x_tape Q n v3 → ∀ (H : Heap) (locs : List Loc) (ls : Array Slot), va_P D vwCl [(ce_xm bd x_thrown x_men x_ships x_entries x_rules x_calls x_gangs x_idle x_moved x_paid x_taped x_at x_end x_begin x_faultAt x_wants), ((bd 21), .inl (y 1, 400, .inl x_tape))] H → va_D A [(ce_xm bd x_thrown x_men x_ships x_entries x_rules x_calls x_gangs x_idle x_moved x_paid x_taped x_at x_end x_begin x_faultAt x_wants), ((bd 21), .inl (y 1, 400, .inl x_tape))] → va_S A s.heap H locs → lv_has ls 4 [(3, .int v3), (0, .ref (bd 0)), (1, .int v1), (2, .int v2)] → W p l e ({ frames := 5, cells := 0, slots := 0, locals := 108 }) s m args below meth c H locs 0 0 (MQ below (va_Qi (fun (r : Int32) (u : Int32 × Int32) => Q r u.1 u.2) (mAt D y A (fun (u : Int32 × Int32) => [(ce_xm bd x_thrown x_men x_ships x_entries x_rules x_calls x_gangs x_idle x_moved x_paid x_taped u.1 x_end u.2 x_faultAt x_wants), ((bd 21), .inl (y 1, 400, .inl x_tape))])) A) args s 0 0 A) (F0 m 30 ls []) := by
  intro n
  induction n with
  | zero => intro v3 hw; rw [wp_Model_readWord_h30] at hw; exact hw.elim
  | succ n ih =>
    intro v3 hw H locs ls hP hD hS hl
    rw [wp_Model_readWord_h30] at hw
    refine lv_iload_n hx hb dX9_readWord_30 rfl (lv_at hl 0 rfl) ?_
    refine lv_iload_n hx hb dX9_readWord_31 rfl (lv_at hl 3 rfl) ?_
    refine lv_icmp_gt (tgt := 54) hx hb dX9_readWord_32 (by decide) (fun hc => ?_) (fun hc => ?_)
    · have hw := hw.1 hc
      refine lv_iconst (v := (-1)) hx hb dX9_readWord_54 (by decide) ?_
      exact W.iret (v := (-1)) hx hb hr (fun t ht hW => ⟨⟨(-1), (x_at, x_begin), rfl, hw, mAt.to hP hK hD ht hW⟩, hS.F ht⟩) hS.2.2 dX9_readWord_55
    · have hw := hw.2 hc
      refine lv_aload_n hx hb dX9_readWord_35 rfl (lv_at hl 1 rfl) ?_
      refine lv_iload_n hx hb dX9_readWord_36 rfl (lv_at hl 0 rfl) ?_
      refine mx_g (wc := []) (wr := [(ce_xm bd x_thrown x_men x_ships x_entries x_rules x_calls x_gangs x_idle x_moved x_paid x_taped x_at x_end x_begin x_faultAt x_wants), ((bd 21), .inl (y 1, 400, .inl x_tape))]) hP hD hS hA [] [0, 1] [0, 1] rfl rfl (by decide) (by decide) (by decide) (fun (u : Unit) => [(ce_xm bd x_thrown x_men x_ships x_entries x_rules x_calls x_gangs x_idle x_moved x_paid x_taped x_at x_end x_begin x_faultAt x_wants), ((bd 21), .inl (y 1, 400, .inl x_tape))]) (fun _ => rfl) (va_runS (As := [.int v3]) (rest := [.ref (bd 0)]) ⟨hx, hb, hml, hown, hts⟩ (c_Model_word l D y E H.size v3 hw) (va_cwS 1 hts gX9_readWord_X9_word rfl rfl rfl (by decide +kernel) ⟨Nat.le_of_ble_eq_true rfl, Nat.le_of_ble_eq_true rfl⟩) ⟨nPre.blind, nPre.to (hP.sub [] rfl) hK (hD.sub [] (by decide) rfl) hE hH hS (va_free (wc := []) hD hS hA [] rfl)⟩ rfl rfl hl.1 rfl (lv_room (Nat.le_of_ble_eq_true rfl)) dX9_readWord_37 ⟨Nat.le_of_ble_eq_true rfl, Nat.le_of_ble_eq_true rfl⟩) (fun r_4 u H locs hw hP hD hS => ?_)
      try dsimp only at hw
      have hP : va_P D vwCl [(ce_xm bd x_thrown x_men x_ships x_entries x_rules x_calls x_gangs x_idle x_moved x_paid x_taped x_at x_end x_begin x_faultAt x_wants), ((bd 21), .inl (y 1, 400, .inl x_tape))] H := hP
      have hD : va_D A [(ce_xm bd x_thrown x_men x_ships x_entries x_rules x_calls x_gangs x_idle x_moved x_paid x_taped x_at x_end x_begin x_faultAt x_wants), ((bd 21), .inl (y 1, 400, .inl x_tape))] := hD
      refine mx_i (wc := [(ce_xm bd x_thrown x_men x_ships x_entries x_rules x_calls x_gangs x_idle x_moved x_paid x_taped x_at x_end x_begin x_faultAt x_wants), ((bd 21), .inl (y 1, 400, .inl x_tape))]) (wr := []) hP hD hS hA [0, 1] [] [0, 1] rfl rfl (by decide) (by decide) (by decide) (fun (u : Unit) => [(ce_xm bd x_thrown x_men x_ships x_entries x_rules x_calls x_gangs x_idle x_moved x_paid x_taped x_at x_end x_begin x_faultAt x_wants), ((bd 21), .inl (y 1, 400, .inl x_tape))]) (fun _ => rfl) (va_runV (As := [.ref (E r_4)]) (rest := []) ⟨hx, hb, hml, hown, hts⟩ (c_Model_isWord l D y E bd H.size x_thrown x_men x_ships x_entries x_rules x_calls x_gangs x_idle x_moved x_paid x_taped x_at x_end x_begin x_faultAt x_wants x_tape r_4 hw) (cwV 1 hts gX9_readWord_X9_isWord rfl rfl rfl (by decide +kernel) ⟨Nat.le_of_ble_eq_true rfl, Nat.le_of_ble_eq_true rfl⟩) ⟨nPre.blind, (va_recv hK hP (ci := 11) (q0 := 0) rfl rfl), nPre.to (hP.sub [0, 1] rfl) hK (hD.sub [0, 1] (by decide) rfl) hE hH hS (va_free (wc := [(ce_xm bd x_thrown x_men x_ships x_entries x_rules x_calls x_gangs x_idle x_moved x_paid x_taped x_at x_end x_begin x_faultAt x_wants), ((bd 21), .inl (y 1, 400, .inl x_tape))]) hD hS hA [0, 1] rfl)⟩ rfl rfl hl.1 rfl (lv_room (Nat.le_of_ble_eq_true rfl)) dX9_readWord_40 ⟨Nat.le_of_ble_eq_true rfl, Nat.le_of_ble_eq_true rfl⟩) (fun r_5 u H locs hw hP hD hS => ?_)
      try dsimp only at hw
      have hP : va_P D vwCl [(ce_xm bd x_thrown x_men x_ships x_entries x_rules x_calls x_gangs x_idle x_moved x_paid x_taped x_at x_end x_begin x_faultAt x_wants), ((bd 21), .inl (y 1, 400, .inl x_tape))] H := hP
      have hD : va_D A [(ce_xm bd x_thrown x_men x_ships x_entries x_rules x_calls x_gangs x_idle x_moved x_paid x_taped x_at x_end x_begin x_faultAt x_wants), ((bd 21), .inl (y 1, 400, .inl x_tape))] := hD
      refine lv_if_eq (tgt := 48) hx hb dX9_readWord_43 (by decide) (fun hc => ?_) (fun hc => ?_)
      · have hw := hw.1 hc
        refine lv_iinc (v := v3 + 1) (lv' := [(3, .int (v3 + 1)), (0, .ref (bd 0)), (1, .int v1), (2, .int v2)]) hx hb dX9_readWord_48 hl (k := 0) rfl (by first | rfl | decide) (by decide) rfl (fun ls hl => ?_)
        refine lv_goto (tgt := 30) hx hb dX9_readWord_51 (by decide) ?_
        exact ih (v3 + 1)  hw _ _ _ hP hD hS (lv_sub hl [0, 1, 2, 3] rfl)
      · have hw := hw.2 hc
        refine lv_iload_n hx hb dX9_readWord_46 rfl (lv_at hl 0 rfl) ?_
        exact W.iret (v := v3) hx hb hr (fun t ht hW => ⟨⟨v3, (x_at, x_begin), rfl, hw, mAt.to hP hK hD ht hW⟩, hS.F ht⟩) hS.2.2 dX9_readWord_47
set_option maxHeartbeats 4000000 in
set_option maxRecDepth 100000 in
theorem c_Model_readWord_h4 {p : Program} {l : Launch} {e : Env} {s : State} {m : MethodId} {args : Array Value} {below : List Frame} {meth : Method} {c : Code} {D : va_G} {y : Nat → ClassId} {E : Nat → Nat} {bd : Nat → Nat} {A : Nat → Prop} (hx : p.tables.exec = Jvm.exec) (hb : c.code = cX9_readWord) (hr : meth.sig.returnType = some .int) (hml : c.maxLocals = 4) (hown : s.vm.findClass RX9 = some m.cls) (hts : ∀ w ∈ wsX9_readWord, w.before args s = true) (hlocks : meth.locks = false) (hK : va_K D vwCl (TY y) s) (hE : EV s) (hA : ∀ q, s.heap.size ≤ q → A q) (hH : HX E A s s.heap) {v1 : Int32} {v2 : Int32} {x_end : Int32} {x_begin : Int32} {x_tape : Nat → Int32} {x_thrown : Int32} {x_men : Int32} {x_ships : Int32} {x_entries : Int32} {x_rules : Int32} {x_calls : Int32} {x_gangs : Int32} {x_idle : Int32} {x_moved : Int64} {x_paid : Int64} {x_taped : Int32} {x_faultAt : Int32} {x_wants : Int32}  {Q : Int32 → Int32 → Int32 → Prop}  : ∀ (n : Nat) (x_at : Int32), wp_Model_readWord_h4 v1 v2 x_end x_begin x_tape Q n x_at → ∀ (H : Heap) (locs : List Loc) (ls : Array Slot), va_P D vwCl [(ce_xm bd x_thrown x_men x_ships x_entries x_rules x_calls x_gangs x_idle x_moved x_paid x_taped x_at x_end x_begin x_faultAt x_wants), ((bd 21), .inl (y 1, 400, .inl x_tape))] H → va_D A [(ce_xm bd x_thrown x_men x_ships x_entries x_rules x_calls x_gangs x_idle x_moved x_paid x_taped x_at x_end x_begin x_faultAt x_wants), ((bd 21), .inl (y 1, 400, .inl x_tape))] → va_S A s.heap H locs → lv_has ls 4 [(0, .ref (bd 0)), (1, .int v1), (2, .int v2)] → W p l e ({ frames := 5, cells := 0, slots := 0, locals := 108 }) s m args below meth c H locs 0 0 (MQ below (va_Qi (fun (r : Int32) (u : Int32 × Int32) => Q r u.1 u.2) (mAt D y A (fun (u : Int32 × Int32) => [(ce_xm bd x_thrown x_men x_ships x_entries x_rules x_calls x_gangs x_idle x_moved x_paid x_taped u.1 x_end u.2 x_faultAt x_wants), ((bd 21), .inl (y 1, 400, .inl x_tape))])) A) args s 0 0 A) (F0 m 4 ls []) := by
  intro n
  induction n with
  | zero => intro x_at hw; rw [wp_Model_readWord_h4] at hw; exact hw.elim
  | succ n ih =>
    intro x_at hw H locs ls hP hD hS hl
    rw [wp_Model_readWord_h4] at hw
    refine lv_aload_n hx hb dX9_readWord_4 rfl (lv_at hl 0 rfl) ?_
    refine lv_bipush (v := 97) hx hb dX9_readWord_5 (by decide) ?_
    refine lv_bipush (v := 122) hx hb dX9_readWord_7 (by decide) ?_
    refine mx_i (wc := [(ce_xm bd x_thrown x_men x_ships x_entries x_rules x_calls x_gangs x_idle x_moved x_paid x_taped x_at x_end x_begin x_faultAt x_wants), ((bd 21), .inl (y 1, 400, .inl x_tape))]) (wr := []) hP hD hS hA [0, 1] [] [0, 1] rfl rfl (by decide) (by decide) (by decide) (fun (u : Unit) => [(ce_xm bd x_thrown x_men x_ships x_entries x_rules x_calls x_gangs x_idle x_moved x_paid x_taped x_at x_end x_begin x_faultAt x_wants), ((bd 21), .inl (y 1, 400, .inl x_tape))]) (fun _ => rfl) (va_runV (As := [.int 97, .int 122]) (rest := []) ⟨hx, hb, hml, hown, hts⟩ (c_Model_isAt l D y bd H.size x_thrown x_men x_ships x_entries x_rules x_calls x_gangs x_idle x_moved x_paid x_taped x_at x_end x_begin x_faultAt x_wants x_tape 97 122 hw) (cwV 2 hts gX9_readWord_X9_isAt rfl rfl rfl (by decide +kernel) ⟨Nat.le_of_ble_eq_true rfl, Nat.le_of_ble_eq_true rfl⟩) ⟨mPre.blind, (va_recv hK hP (ci := 11) (q0 := 0) rfl rfl), mPre.to (hP.sub [0, 1] rfl) hK (hD.sub [0, 1] (by decide) rfl) hE⟩ rfl rfl hl.1 rfl (lv_room (Nat.le_of_ble_eq_true rfl)) dX9_readWord_9 ⟨Nat.le_of_ble_eq_true rfl, Nat.le_of_ble_eq_true rfl⟩) (fun r_3 u H locs hw hP hD hS => ?_)
    try dsimp only at hw
    have hP : va_P D vwCl [(ce_xm bd x_thrown x_men x_ships x_entries x_rules x_calls x_gangs x_idle x_moved x_paid x_taped x_at x_end x_begin x_faultAt x_wants), ((bd 21), .inl (y 1, 400, .inl x_tape))] H := hP
    have hD : va_D A [(ce_xm bd x_thrown x_men x_ships x_entries x_rules x_calls x_gangs x_idle x_moved x_paid x_taped x_at x_end x_begin x_faultAt x_wants), ((bd 21), .inl (y 1, 400, .inl x_tape))] := hD
    refine lv_if_eq (tgt := 28) hx hb dX9_readWord_12 (by decide) (fun hc => ?_) (fun hc => ?_)
    · have hw := hw.1 hc
      refine lv_iload_n hx hb dX9_readWord_28 rfl (lv_at hl 1 rfl) ?_
      refine lv_istore_n (lv' := [(3, .int v1), (0, .ref (bd 0)), (1, .int v1), (2, .int v2)]) hx hb dX9_readWord_29 rfl hl (by decide) rfl (fun ls hl => ?_)
      obtain ⟨n', hw⟩ := hw
      exact c_Model_readWord_h30 hx hb hr hml hown hts hlocks hK hE hA hH  n' v1 hw _ _ _ hP hD hS (lv_sub hl [0, 1, 2, 3] rfl)
    · have hw := hw.2 hc
      refine lv_aload_n hx hb dX9_readWord_15 rfl (lv_at hl 0 rfl) ?_
      refine lv_dup hx hb dX9_readWord_16 rfl ?_
      refine va_get (ci := 11) (v := .int x_at) (C := RX9) (T := TX9) (N := 47) hx hb hts inw_X9_readWord_X9 hown hK hP 0 rfl rfl 33 (by decide) (hts (.fieldLink RX9 142 "DockCallModel" "at" "I") (by decide +kernel)) (fun _ h9 => h9) rfl dX9_readWord_17 ?_
      refine lv_iconst (v := 1) hx hb dX9_readWord_20 (by decide) ?_
      refine lv_iadd hx hb dX9_readWord_21 ?_
      refine va_put (ci := 11) (v := .int (x_at + 1)) (ty := .int) (C := RX9) (T := TX9) (N := 47) hx hb hts inw_X9_readWord_X9 tyX9 tyX9_ok nmX9 hown hK hP hD hS 0 rfl rfl 33 (by decide) (hts (.fieldLink RX9 142 "DockCallModel" "at" "I") (by decide +kernel)) (fun _ h9 => h9) rfl (by decide +kernel) rfl rfl (Nat.le_of_ble_eq_true rfl) dX9_readWord_22 (fun H locs hP hD hS => ?_)
      have hP : va_P D vwCl [(ce_xm bd x_thrown x_men x_ships x_entries x_rules x_calls x_gangs x_idle x_moved x_paid x_taped (x_at + 1) x_end x_begin x_faultAt x_wants), ((bd 21), .inl (y 1, 400, .inl x_tape))] H := hP
      have hD : va_D A [(ce_xm bd x_thrown x_men x_ships x_entries x_rules x_calls x_gangs x_idle x_moved x_paid x_taped (x_at + 1) x_end x_begin x_faultAt x_wants), ((bd 21), .inl (y 1, 400, .inl x_tape))] := hD
      refine lv_goto (tgt := 4) hx hb dX9_readWord_25 (by decide) ?_
      exact ih (x_at + 1) hw _ _ _ hP hD hS (lv_sub hl [0, 1, 2] rfl)
set_option maxHeartbeats 4000000 in
set_option maxRecDepth 100000 in
theorem c_Model_readWord (l : Launch) (D : va_G) (y E : Nat → Nat) (bd : Nat → Nat) (sz : Nat) (x_thrown : Int32) (x_men : Int32) (x_ships : Int32) (x_entries : Int32) (x_rules : Int32) (x_calls : Int32) (x_gangs : Int32) (x_idle : Int32) (x_moved : Int64) (x_paid : Int64) (x_taped : Int32) (x_at : Int32) (x_end : Int32) (x_begin : Int32) (x_faultAt : Int32) (x_wants : Int32) (x_tape : Nat → Int32) (p0 : Int32) (p1 : Int32) {Q : Int32 → Int32 → Int32 → Prop} (hw : wp_Model_readWord x_at x_end x_tape p0 p1 Q) : Met l yX9_readWord wsX9_readWord ({ frames := 5, cells := 0, slots := 0, locals := 108 }) (va_Pc [.ref (bd 0), .int p0, .int p1] (nPre D y E sz [(ce_xm bd x_thrown x_men x_ships x_entries x_rules x_calls x_gangs x_idle x_moved x_paid x_taped x_at x_end x_begin x_faultAt x_wants), ((bd 21), .inl (y 1, 400, .inl x_tape))])) (va_Qi (fun (r : Int32) (u : Int32 × Int32) => Q r u.1 u.2) (mAt D y (va_A [(ce_xm bd x_thrown x_men x_ships x_entries x_rules x_calls x_gangs x_idle x_moved x_paid x_taped x_at x_end x_begin x_faultAt x_wants), ((bd 21), .inl (y 1, 400, .inl x_tape))] sz) (fun (u : Int32 × Int32) => [(ce_xm bd x_thrown x_men x_ships x_entries x_rules x_calls x_gangs x_idle x_moved x_paid x_taped u.1 x_end u.2 x_faultAt x_wants), ((bd 21), .inl (y 1, 400, .inl x_tape))])) (va_A [(ce_xm bd x_thrown x_men x_ships x_entries x_rules x_calls x_gangs x_idle x_moved x_paid x_taped x_at x_end x_begin x_faultAt x_wants), ((bd 21), .inl (y 1, 400, .inl x_tape))] sz)) 0 0 (va_A [(ce_xm bd x_thrown x_men x_ships x_entries x_rules x_calls x_gangs x_idle x_moved x_paid x_taped x_at x_end x_begin x_faultAt x_wants), ((bd 21), .inl (y 1, 400, .inl x_tape))] sz) := by
  unfold wp_Model_readWord at hw
  refine Met.ofW (cc := cX9_readWord) (maxL := 4) (ret := some .int) (by decide) rfl ?_
  intro p e s m args below meth c s₁ B hml hv
  obtain ⟨rfl, ⟨hsz, hP, hK, hD0, hE⟩, hH⟩ := hv
  have hx := B.exec
  have hb := B.bytes
  have hr := B.returns
  have hts := atoms_spec (ws := wsX9_readWord) B.pre
  have hown : s.vm.findClass RX9 = some m.cls := findClass_of_methodNamed B.named
  have hlocks := B.notSynchronized
  subst hsz
  have hD := hD0.self (sz := s.heap.size)
  generalize hAe : va_A [(ce_xm bd x_thrown x_men x_ships x_entries x_rules x_calls x_gangs x_idle x_moved x_paid x_taped x_at x_end x_begin x_faultAt x_wants), ((bd 21), .inl (y 1, 400, .inl x_tape))] s.heap.size = A at hD hH ⊢
  have hA : ∀ q : Nat, s.heap.size ≤ q → A q := fun q h => by rw [← hAe]; exact Or.inr h
  have hS : va_S A s.heap s.heap [] := va_S.rf
  have hP : va_P D vwCl [(ce_xm bd x_thrown x_men x_ships x_entries x_rules x_calls x_gangs x_idle x_moved x_paid x_taped x_at x_end x_begin x_faultAt x_wants), ((bd 21), .inl (y 1, 400, .inl x_tape))] s.heap := hP
  have hl := lv_entry ([.ref (bd 0), .int p0, .int p1]) (n := 4) (Nat.le_of_ble_eq_true rfl)
  rw [lg_entry_eq]
  generalize (lg_sl ([.ref (bd 0), .int p0, .int p1]) ++ List.replicate (4 - (lg_sl ([.ref (bd 0), .int p0, .int p1])).length) Slot.unset).toArray = ls at hl ⊢
  have hl : lv_has ls 4 [(0, .ref (bd 0)), (1, .int p0), (2, .int p1)] := hl
  refine lv_aload_n hx hb dX9_readWord_0 rfl (lv_at hl 0 rfl) ?_
  refine mx_v (wc := [(ce_xm bd x_thrown x_men x_ships x_entries x_rules x_calls x_gangs x_idle x_moved x_paid x_taped x_at x_end x_begin x_faultAt x_wants), ((bd 21), .inl (y 1, 400, .inl x_tape))]) (wr := []) hP hD hS hA [0, 1] [] [0, 1] rfl rfl (by decide) (by decide) (by decide) (fun (u : Int32 × Int32) => [(ce_xm bd x_thrown x_men x_ships x_entries x_rules x_calls x_gangs x_idle x_moved x_paid x_taped u.1 x_end u.2 x_faultAt x_wants), ((bd 21), .inl (y 1, 400, .inl x_tape))]) (fun _ => rfl) (va_runV (As := []) (rest := []) ⟨hx, hb, hml, hown, hts⟩ (c_Model_blanks l D y bd s.heap.size x_thrown x_men x_ships x_entries x_rules x_calls x_gangs x_idle x_moved x_paid x_taped x_at x_end x_begin x_faultAt x_wants x_tape hw) (cwV 0 hts gX9_readWord_X9_blanks rfl rfl rfl (by decide +kernel) ⟨Nat.le_of_ble_eq_true rfl, Nat.le_of_ble_eq_true rfl⟩) ⟨mPre.blind, (va_recv hK hP (ci := 11) (q0 := 0) rfl rfl), mPre.to (hP.sub [0, 1] rfl) hK (hD.sub [0, 1] (by decide) rfl) hE⟩ rfl rfl hl.1 rfl (lv_room (Nat.le_of_ble_eq_true rfl)) dX9_readWord_1 ⟨Nat.le_of_ble_eq_true rfl, Nat.le_of_ble_eq_true rfl⟩) (fun u H locs hw hP hD hS => ?_)
  obtain ⟨x_at_1, x_begin_2⟩ := u
  try dsimp only at hw
  have hP : va_P D vwCl [(ce_xm bd x_thrown x_men x_ships x_entries x_rules x_calls x_gangs x_idle x_moved x_paid x_taped x_at_1 x_end x_begin_2 x_faultAt x_wants), ((bd 21), .inl (y 1, 400, .inl x_tape))] H := hP
  have hD : va_D A [(ce_xm bd x_thrown x_men x_ships x_entries x_rules x_calls x_gangs x_idle x_moved x_paid x_taped x_at_1 x_end x_begin_2 x_faultAt x_wants), ((bd 21), .inl (y 1, 400, .inl x_tape))] := hD
  obtain ⟨n', hw⟩ := hw
  exact c_Model_readWord_h4 hx hb hr hml hown hts hlocks hK hE hA hH  n' x_at_1 hw _ _ _ hP hD hS (lv_sub hl [0, 1, 2] rfl)
theorem inw_X9_readClause_X9 : ∀ w ∈ wsX90, w ∈ wsX9_readClause := fun _ h => List.mem_cons_of_mem _ (List.mem_append_left _ (List.mem_append_left _ (List.mem_append_right _ h)))
def wp_Model_readClause (x_at : Int32) (x_end : Int32) (x_draft : Nat → Int32) (x_tape : Nat → Int32) (Q : Int32 → Int32 → Int32 → (Nat → Int32) → Prop) : Prop := (wp_Model_readWord x_at x_end x_tape 0 7 (fun r_1 x_at_2 x_begin_3 => ((r_1 = 0 → (wp_Model_sets x_at_2 x_end x_draft x_tape 0 1 8 (fun r_4 x_at_5 x_begin_6 x_draft_7 => (narrow .boolean (.int r_4) = .int r_4 ∧ Q r_4 x_at_5 x_begin_6 x_draft_7)))) ∧ (¬ r_1 = 0 → ((r_1 = 1 → (wp_Model_sets x_at_2 x_end x_draft x_tape 1 1 12 (fun r_8 x_at_9 x_begin_10 x_draft_11 => (narrow .boolean (.int r_8) = .int r_8 ∧ Q r_8 x_at_9 x_begin_10 x_draft_11)))) ∧ (¬ r_1 = 1 → ((r_1 = 2 → (wp_Model_sets x_at_2 x_end x_draft x_tape 2 0 20 (fun r_12 x_at_13 x_begin_14 x_draft_15 => (narrow .boolean (.int r_12) = .int r_12 ∧ Q r_12 x_at_13 x_begin_14 x_draft_15)))) ∧ (¬ r_1 = 2 → ((r_1 = 3 → (wp_Model_sets x_at_2 x_end x_draft x_tape 3 0 1000 (fun r_16 x_at_17 x_begin_18 x_draft_19 => (narrow .boolean (.int r_16) = .int r_16 ∧ Q r_16 x_at_17 x_begin_18 x_draft_19)))) ∧ (¬ r_1 = 3 → ((r_1 = 4 → (wp_Model_sets x_at_2 x_end x_draft x_tape 4 0 100 (fun r_20 x_at_21 x_begin_22 x_draft_23 => (narrow .boolean (.int r_20) = .int r_20 ∧ Q r_20 x_at_21 x_begin_22 x_draft_23)))) ∧ (¬ r_1 = 4 → ((r_1 = 5 → (wp_Model_sets x_at_2 x_end x_draft x_tape 5 0 4 (fun r_24 x_at_25 x_begin_26 x_draft_27 => (narrow .boolean (.int r_24) = .int r_24 ∧ Q r_24 x_at_25 x_begin_26 x_draft_27)))) ∧ (¬ r_1 = 5 → ((r_1 = 6 → (wp_Model_readWord x_at_2 x_end x_tape 8 10 (fun r_28 x_at_29 x_begin_30 => ((r_28 < 0 → Q 0 x_at_29 x_begin_30 (upd x_draft (6 : Int32).toNatClampNeg (r_28 - 8))) ∧ (¬ r_28 < 0 → Q 1 x_at_29 x_begin_30 (upd x_draft (6 : Int32).toNatClampNeg (r_28 - 8))))))) ∧ (¬ r_1 = 6 → ((r_1 = 7 → (wp_Model_readNumber x_at_2 x_end x_tape 0 3 (fun r_31 x_at_32 x_begin_33 => ((r_31 < 0 → Q 0 x_at_32 x_begin_33 x_draft) ∧ (¬ r_31 < 0 → (wp_Model_sets x_at_32 x_end x_draft x_tape (7 + r_31) 1 500 (fun r_34 x_at_35 x_begin_36 x_draft_37 => ((r_34 = 0 → Q 0 x_at_35 x_begin_36 x_draft_37) ∧ (¬ r_34 = 0 → Q 1 x_at_35 x_begin_36 x_draft_37))))))))) ∧ (¬ r_1 = 7 → Q 0 x_at_2 x_begin_3 x_draft))))))))))))))))))
set_option maxHeartbeats 4000000 in
set_option maxRecDepth 100000 in
theorem c_Model_readClause (l : Launch) (D : va_G) (y E : Nat → Nat) (bd : Nat → Nat) (sz : Nat) (x_thrown : Int32) (x_men : Int32) (x_ships : Int32) (x_entries : Int32) (x_rules : Int32) (x_calls : Int32) (x_gangs : Int32) (x_idle : Int32) (x_moved : Int64) (x_paid : Int64) (x_taped : Int32) (x_at : Int32) (x_end : Int32) (x_begin : Int32) (x_faultAt : Int32) (x_wants : Int32) (x_draft : Nat → Int32) (x_tape : Nat → Int32)  {Q : Int32 → Int32 → Int32 → (Nat → Int32) → Prop} (hw : wp_Model_readClause x_at x_end x_draft x_tape Q) : Met l yX9_readClause wsX9_readClause ({ frames := 6, cells := 0, slots := 0, locals := 131 }) (va_Pc [.ref (bd 0)] (nPre D y E sz [(ce_xm bd x_thrown x_men x_ships x_entries x_rules x_calls x_gangs x_idle x_moved x_paid x_taped x_at x_end x_begin x_faultAt x_wants), ((bd 14), .inl (y 0, 11, .inl x_draft)), ((bd 21), .inl (y 1, 400, .inl x_tape))])) (va_Qi (fun (r : Int32) (u : Int32 × Int32 × (Nat → Int32)) => Q r u.1 u.2.1 u.2.2) (mAt D y (va_A [(ce_xm bd x_thrown x_men x_ships x_entries x_rules x_calls x_gangs x_idle x_moved x_paid x_taped x_at x_end x_begin x_faultAt x_wants), ((bd 14), .inl (y 0, 11, .inl x_draft)), ((bd 21), .inl (y 1, 400, .inl x_tape))] sz) (fun (u : Int32 × Int32 × (Nat → Int32)) => [(ce_xm bd x_thrown x_men x_ships x_entries x_rules x_calls x_gangs x_idle x_moved x_paid x_taped u.1 x_end u.2.1 x_faultAt x_wants), ((bd 14), .inl (y 0, 11, .inl u.2.2)), ((bd 21), .inl (y 1, 400, .inl x_tape))])) (va_A [(ce_xm bd x_thrown x_men x_ships x_entries x_rules x_calls x_gangs x_idle x_moved x_paid x_taped x_at x_end x_begin x_faultAt x_wants), ((bd 14), .inl (y 0, 11, .inl x_draft)), ((bd 21), .inl (y 1, 400, .inl x_tape))] sz)) 0 0 (va_A [(ce_xm bd x_thrown x_men x_ships x_entries x_rules x_calls x_gangs x_idle x_moved x_paid x_taped x_at x_end x_begin x_faultAt x_wants), ((bd 14), .inl (y 0, 11, .inl x_draft)), ((bd 21), .inl (y 1, 400, .inl x_tape))] sz) := by
  unfold wp_Model_readClause at hw
  refine Met.ofW (cc := cX9_readClause) (maxL := 3) (ret := some .boolean) (by decide) rfl ?_
  intro p e s m args below meth c s₁ B hml hv
  obtain ⟨rfl, ⟨hsz, hP, hK, hD0, hE⟩, hH⟩ := hv
  have hx := B.exec
  have hb := B.bytes
  have hr := B.returns
  have hts := atoms_spec (ws := wsX9_readClause) B.pre
  have hown : s.vm.findClass RX9 = some m.cls := findClass_of_methodNamed B.named
  have hlocks := B.notSynchronized
  subst hsz
  have hD := hD0.self (sz := s.heap.size)
  generalize hAe : va_A [(ce_xm bd x_thrown x_men x_ships x_entries x_rules x_calls x_gangs x_idle x_moved x_paid x_taped x_at x_end x_begin x_faultAt x_wants), ((bd 14), .inl (y 0, 11, .inl x_draft)), ((bd 21), .inl (y 1, 400, .inl x_tape))] s.heap.size = A at hD hH ⊢
  have hA : ∀ q : Nat, s.heap.size ≤ q → A q := fun q h => by rw [← hAe]; exact Or.inr h
  have hS : va_S A s.heap s.heap [] := va_S.rf
  have hP : va_P D vwCl [(ce_xm bd x_thrown x_men x_ships x_entries x_rules x_calls x_gangs x_idle x_moved x_paid x_taped x_at x_end x_begin x_faultAt x_wants), ((bd 14), .inl (y 0, 11, .inl x_draft)), ((bd 21), .inl (y 1, 400, .inl x_tape))] s.heap := hP
  have hl := lv_entry ([.ref (bd 0)]) (n := 3) (Nat.le_of_ble_eq_true rfl)
  rw [lg_entry_eq]
  generalize (lg_sl ([.ref (bd 0)]) ++ List.replicate (3 - (lg_sl ([.ref (bd 0)])).length) Slot.unset).toArray = ls at hl ⊢
  have hl : lv_has ls 3 [(0, .ref (bd 0))] := hl
  refine lv_aload_n hx hb dX9_readClause_0 rfl (lv_at hl 0 rfl) ?_
  refine lv_iconst (v := 0) hx hb dX9_readClause_1 (by decide) ?_
  refine lv_bipush (v := 7) hx hb dX9_readClause_2 (by decide) ?_
  refine mx_i (wc := [(ce_xm bd x_thrown x_men x_ships x_entries x_rules x_calls x_gangs x_idle x_moved x_paid x_taped x_at x_end x_begin x_faultAt x_wants), ((bd 21), .inl (y 1, 400, .inl x_tape))]) (wr := [((bd 14), .inl (y 0, 11, .inl x_draft))]) hP hD hS hA [0, 2] [1] [1, 0, 2] rfl rfl (by decide) (by decide) (by decide) (fun (u : Int32 × Int32) => [(ce_xm bd x_thrown x_men x_ships x_entries x_rules x_calls x_gangs x_idle x_moved x_paid x_taped u.1 x_end u.2 x_faultAt x_wants), ((bd 14), .inl (y 0, 11, .inl x_draft)), ((bd 21), .inl (y 1, 400, .inl x_tape))]) (fun _ => rfl) (va_runV (As := [.int 0, .int 7]) (rest := []) ⟨hx, hb, hml, hown, hts⟩ (c_Model_readWord l D y E bd s.heap.size x_thrown x_men x_ships x_entries x_rules x_calls x_gangs x_idle x_moved x_paid x_taped x_at x_end x_begin x_faultAt x_wants x_tape 0 7 hw) (cwV 2 hts gX9_readClause_X9_readWord rfl rfl rfl (by decide +kernel) ⟨Nat.le_of_ble_eq_true rfl, Nat.le_of_ble_eq_true rfl⟩) ⟨nPre.blind, (va_recv hK hP (ci := 11) (q0 := 0) rfl rfl), nPre.to (hP.sub [0, 2] rfl) hK (hD.sub [0, 2] (by decide) rfl) hE hH hS (va_free (wc := [(ce_xm bd x_thrown x_men x_ships x_entries x_rules x_calls x_gangs x_idle x_moved x_paid x_taped x_at x_end x_begin x_faultAt x_wants), ((bd 21), .inl (y 1, 400, .inl x_tape))]) hD hS hA [0, 2] rfl)⟩ rfl rfl hl.1 rfl (lv_room (Nat.le_of_ble_eq_true rfl)) dX9_readClause_4 ⟨Nat.le_of_ble_eq_true rfl, Nat.le_of_ble_eq_true rfl⟩) (fun r_1 u H locs hw hP hD hS => ?_)
  obtain ⟨x_at_2, x_begin_3⟩ := u
  try dsimp only at hw
  have hP : va_P D vwCl [(ce_xm bd x_thrown x_men x_ships x_entries x_rules x_calls x_gangs x_idle x_moved x_paid x_taped x_at_2 x_end x_begin_3 x_faultAt x_wants), ((bd 14), .inl (y 0, 11, .inl x_draft)), ((bd 21), .inl (y 1, 400, .inl x_tape))] H := hP
  have hD : va_D A [(ce_xm bd x_thrown x_men x_ships x_entries x_rules x_calls x_gangs x_idle x_moved x_paid x_taped x_at_2 x_end x_begin_3 x_faultAt x_wants), ((bd 14), .inl (y 0, 11, .inl x_draft)), ((bd 21), .inl (y 1, 400, .inl x_tape))] := hD
  refine lv_istore_n (lv' := [(1, .int r_1), (0, .ref (bd 0))]) hx hb dX9_readClause_7 rfl hl (by decide) rfl (fun ls hl => ?_)
  refine lv_iload_n hx hb dX9_readClause_8 rfl (lv_at hl 0 rfl) ?_
  by_cases tc0 : r_1 = 0
  · have hw := hw.1 tc0
    refine lv_tableIn (off := 47) (tgt := 56) hx hb dX9_readClause_9 (by rw [tc0]; decide) (by rw [tc0]; decide) (by rw [tc0]; decide) (by decide) ?_
    refine lv_aload_n hx hb dX9_readClause_56 rfl (lv_at hl 1 rfl) ?_
    refine lv_iconst (v := 0) hx hb dX9_readClause_57 (by decide) ?_
    refine lv_iconst (v := 1) hx hb dX9_readClause_58 (by decide) ?_
    refine lv_bipush (v := 8) hx hb dX9_readClause_59 (by decide) ?_
    refine mx_i (wc := [(ce_xm bd x_thrown x_men x_ships x_entries x_rules x_calls x_gangs x_idle x_moved x_paid x_taped x_at_2 x_end x_begin_3 x_faultAt x_wants), ((bd 14), .inl (y 0, 11, .inl x_draft)), ((bd 21), .inl (y 1, 400, .inl x_tape))]) (wr := []) hP hD hS hA [0, 1, 2] [] [0, 1, 2] rfl rfl (by decide) (by decide) (by decide) (fun (u : Int32 × Int32 × (Nat → Int32)) => [(ce_xm bd x_thrown x_men x_ships x_entries x_rules x_calls x_gangs x_idle x_moved x_paid x_taped u.1 x_end u.2.1 x_faultAt x_wants), ((bd 14), .inl (y 0, 11, .inl u.2.2)), ((bd 21), .inl (y 1, 400, .inl x_tape))]) (fun _ => rfl) (va_runV (As := [.int 0, .int 1, .int 8]) (rest := []) ⟨hx, hb, hml, hown, hts⟩ (c_Model_sets l D y bd H.size x_thrown x_men x_ships x_entries x_rules x_calls x_gangs x_idle x_moved x_paid x_taped x_at_2 x_end x_begin_3 x_faultAt x_wants x_draft x_tape 0 1 8 hw) (cwV 3 hts gX9_readClause_X9_sets rfl rfl rfl (by decide +kernel) ⟨Nat.le_of_ble_eq_true rfl, Nat.le_of_ble_eq_true rfl⟩) ⟨mPre.blind, (va_recv hK hP (ci := 11) (q0 := 0) rfl rfl), mPre.to (hP.sub [0, 1, 2] rfl) hK (hD.sub [0, 1, 2] (by decide) rfl) hE⟩ rfl rfl hl.1 rfl (lv_room (Nat.le_of_ble_eq_true rfl)) dX9_readClause_61 ⟨Nat.le_of_ble_eq_true rfl, Nat.le_of_ble_eq_true rfl⟩) (fun r_4 u H locs hw hP hD hS => ?_)
    obtain ⟨x_at_5, x_begin_6, x_draft_7⟩ := u
    try dsimp only at hw
    have hP : va_P D vwCl [(ce_xm bd x_thrown x_men x_ships x_entries x_rules x_calls x_gangs x_idle x_moved x_paid x_taped x_at_5 x_end x_begin_6 x_faultAt x_wants), ((bd 14), .inl (y 0, 11, .inl x_draft_7)), ((bd 21), .inl (y 1, 400, .inl x_tape))] H := hP
    have hD : va_D A [(ce_xm bd x_thrown x_men x_ships x_entries x_rules x_calls x_gangs x_idle x_moved x_paid x_taped x_at_5 x_end x_begin_6 x_faultAt x_wants), ((bd 14), .inl (y 0, 11, .inl x_draft_7)), ((bd 21), .inl (y 1, 400, .inl x_tape))] := hD
    obtain ⟨hn, hw⟩ := hw
    exact W.zret (v := r_4) hx hb hr hn (fun t ht hW => ⟨⟨r_4, (x_at_5, x_begin_6, x_draft_7), rfl, hw, mAt.to hP hK hD ht hW⟩, hS.F ht⟩) hS.2.2 dX9_readClause_64
  · have hw := hw.2 tc0
    by_cases tc1 : r_1 = 1
    · have hw := hw.1 tc1
      refine lv_tableIn (off := 56) (tgt := 65) hx hb dX9_readClause_9 (by rw [tc1]; decide) (by rw [tc1]; decide) (by rw [tc1]; decide) (by decide) ?_
      refine lv_aload_n hx hb dX9_readClause_65 rfl (lv_at hl 1 rfl) ?_
      refine lv_iconst (v := 1) hx hb dX9_readClause_66 (by decide) ?_
      refine lv_iconst (v := 1) hx hb dX9_readClause_67 (by decide) ?_
      refine lv_bipush (v := 12) hx hb dX9_readClause_68 (by decide) ?_
      refine mx_i (wc := [(ce_xm bd x_thrown x_men x_ships x_entries x_rules x_calls x_gangs x_idle x_moved x_paid x_taped x_at_2 x_end x_begin_3 x_faultAt x_wants), ((bd 14), .inl (y 0, 11, .inl x_draft)), ((bd 21), .inl (y 1, 400, .inl x_tape))]) (wr := []) hP hD hS hA [0, 1, 2] [] [0, 1, 2] rfl rfl (by decide) (by decide) (by decide) (fun (u : Int32 × Int32 × (Nat → Int32)) => [(ce_xm bd x_thrown x_men x_ships x_entries x_rules x_calls x_gangs x_idle x_moved x_paid x_taped u.1 x_end u.2.1 x_faultAt x_wants), ((bd 14), .inl (y 0, 11, .inl u.2.2)), ((bd 21), .inl (y 1, 400, .inl x_tape))]) (fun _ => rfl) (va_runV (As := [.int 1, .int 1, .int 12]) (rest := []) ⟨hx, hb, hml, hown, hts⟩ (c_Model_sets l D y bd H.size x_thrown x_men x_ships x_entries x_rules x_calls x_gangs x_idle x_moved x_paid x_taped x_at_2 x_end x_begin_3 x_faultAt x_wants x_draft x_tape 1 1 12 hw) (cwV 3 hts gX9_readClause_X9_sets rfl rfl rfl (by decide +kernel) ⟨Nat.le_of_ble_eq_true rfl, Nat.le_of_ble_eq_true rfl⟩) ⟨mPre.blind, (va_recv hK hP (ci := 11) (q0 := 0) rfl rfl), mPre.to (hP.sub [0, 1, 2] rfl) hK (hD.sub [0, 1, 2] (by decide) rfl) hE⟩ rfl rfl hl.1 rfl (lv_room (Nat.le_of_ble_eq_true rfl)) dX9_readClause_70 ⟨Nat.le_of_ble_eq_true rfl, Nat.le_of_ble_eq_true rfl⟩) (fun r_8 u H locs hw hP hD hS => ?_)
      obtain ⟨x_at_9, x_begin_10, x_draft_11⟩ := u
      try dsimp only at hw
      have hP : va_P D vwCl [(ce_xm bd x_thrown x_men x_ships x_entries x_rules x_calls x_gangs x_idle x_moved x_paid x_taped x_at_9 x_end x_begin_10 x_faultAt x_wants), ((bd 14), .inl (y 0, 11, .inl x_draft_11)), ((bd 21), .inl (y 1, 400, .inl x_tape))] H := hP
      have hD : va_D A [(ce_xm bd x_thrown x_men x_ships x_entries x_rules x_calls x_gangs x_idle x_moved x_paid x_taped x_at_9 x_end x_begin_10 x_faultAt x_wants), ((bd 14), .inl (y 0, 11, .inl x_draft_11)), ((bd 21), .inl (y 1, 400, .inl x_tape))] := hD
      obtain ⟨hn, hw⟩ := hw
      exact W.zret (v := r_8) hx hb hr hn (fun t ht hW => ⟨⟨r_8, (x_at_9, x_begin_10, x_draft_11), rfl, hw, mAt.to hP hK hD ht hW⟩, hS.F ht⟩) hS.2.2 dX9_readClause_73
    · have hw := hw.2 tc1
      by_cases tc2 : r_1 = 2
      · have hw := hw.1 tc2
        refine lv_tableIn (off := 65) (tgt := 74) hx hb dX9_readClause_9 (by rw [tc2]; decide) (by rw [tc2]; decide) (by rw [tc2]; decide) (by decide) ?_
        refine lv_aload_n hx hb dX9_readClause_74 rfl (lv_at hl 1 rfl) ?_
        refine lv_iconst (v := 2) hx hb dX9_readClause_75 (by decide) ?_
        refine lv_iconst (v := 0) hx hb dX9_readClause_76 (by decide) ?_
        refine lv_bipush (v := 20) hx hb dX9_readClause_77 (by decide) ?_
        refine mx_i (wc := [(ce_xm bd x_thrown x_men x_ships x_entries x_rules x_calls x_gangs x_idle x_moved x_paid x_taped x_at_2 x_end x_begin_3 x_faultAt x_wants), ((bd 14), .inl (y 0, 11, .inl x_draft)), ((bd 21), .inl (y 1, 400, .inl x_tape))]) (wr := []) hP hD hS hA [0, 1, 2] [] [0, 1, 2] rfl rfl (by decide) (by decide) (by decide) (fun (u : Int32 × Int32 × (Nat → Int32)) => [(ce_xm bd x_thrown x_men x_ships x_entries x_rules x_calls x_gangs x_idle x_moved x_paid x_taped u.1 x_end u.2.1 x_faultAt x_wants), ((bd 14), .inl (y 0, 11, .inl u.2.2)), ((bd 21), .inl (y 1, 400, .inl x_tape))]) (fun _ => rfl) (va_runV (As := [.int 2, .int 0, .int 20]) (rest := []) ⟨hx, hb, hml, hown, hts⟩ (c_Model_sets l D y bd H.size x_thrown x_men x_ships x_entries x_rules x_calls x_gangs x_idle x_moved x_paid x_taped x_at_2 x_end x_begin_3 x_faultAt x_wants x_draft x_tape 2 0 20 hw) (cwV 3 hts gX9_readClause_X9_sets rfl rfl rfl (by decide +kernel) ⟨Nat.le_of_ble_eq_true rfl, Nat.le_of_ble_eq_true rfl⟩) ⟨mPre.blind, (va_recv hK hP (ci := 11) (q0 := 0) rfl rfl), mPre.to (hP.sub [0, 1, 2] rfl) hK (hD.sub [0, 1, 2] (by decide) rfl) hE⟩ rfl rfl hl.1 rfl (lv_room (Nat.le_of_ble_eq_true rfl)) dX9_readClause_79 ⟨Nat.le_of_ble_eq_true rfl, Nat.le_of_ble_eq_true rfl⟩) (fun r_12 u H locs hw hP hD hS => ?_)
        obtain ⟨x_at_13, x_begin_14, x_draft_15⟩ := u
        try dsimp only at hw
        have hP : va_P D vwCl [(ce_xm bd x_thrown x_men x_ships x_entries x_rules x_calls x_gangs x_idle x_moved x_paid x_taped x_at_13 x_end x_begin_14 x_faultAt x_wants), ((bd 14), .inl (y 0, 11, .inl x_draft_15)), ((bd 21), .inl (y 1, 400, .inl x_tape))] H := hP
        have hD : va_D A [(ce_xm bd x_thrown x_men x_ships x_entries x_rules x_calls x_gangs x_idle x_moved x_paid x_taped x_at_13 x_end x_begin_14 x_faultAt x_wants), ((bd 14), .inl (y 0, 11, .inl x_draft_15)), ((bd 21), .inl (y 1, 400, .inl x_tape))] := hD
        obtain ⟨hn, hw⟩ := hw
        exact W.zret (v := r_12) hx hb hr hn (fun t ht hW => ⟨⟨r_12, (x_at_13, x_begin_14, x_draft_15), rfl, hw, mAt.to hP hK hD ht hW⟩, hS.F ht⟩) hS.2.2 dX9_readClause_82
      · have hw := hw.2 tc2
        by_cases tc3 : r_1 = 3
        · have hw := hw.1 tc3
          refine lv_tableIn (off := 74) (tgt := 83) hx hb dX9_readClause_9 (by rw [tc3]; decide) (by rw [tc3]; decide) (by rw [tc3]; decide) (by decide) ?_
          refine lv_aload_n hx hb dX9_readClause_83 rfl (lv_at hl 1 rfl) ?_
          refine lv_iconst (v := 3) hx hb dX9_readClause_84 (by decide) ?_
          refine lv_iconst (v := 0) hx hb dX9_readClause_85 (by decide) ?_
          refine lv_sipush (v := 1000) hx hb dX9_readClause_86 (by decide) ?_
          refine mx_i (wc := [(ce_xm bd x_thrown x_men x_ships x_entries x_rules x_calls x_gangs x_idle x_moved x_paid x_taped x_at_2 x_end x_begin_3 x_faultAt x_wants), ((bd 14), .inl (y 0, 11, .inl x_draft)), ((bd 21), .inl (y 1, 400, .inl x_tape))]) (wr := []) hP hD hS hA [0, 1, 2] [] [0, 1, 2] rfl rfl (by decide) (by decide) (by decide) (fun (u : Int32 × Int32 × (Nat → Int32)) => [(ce_xm bd x_thrown x_men x_ships x_entries x_rules x_calls x_gangs x_idle x_moved x_paid x_taped u.1 x_end u.2.1 x_faultAt x_wants), ((bd 14), .inl (y 0, 11, .inl u.2.2)), ((bd 21), .inl (y 1, 400, .inl x_tape))]) (fun _ => rfl) (va_runV (As := [.int 3, .int 0, .int 1000]) (rest := []) ⟨hx, hb, hml, hown, hts⟩ (c_Model_sets l D y bd H.size x_thrown x_men x_ships x_entries x_rules x_calls x_gangs x_idle x_moved x_paid x_taped x_at_2 x_end x_begin_3 x_faultAt x_wants x_draft x_tape 3 0 1000 hw) (cwV 3 hts gX9_readClause_X9_sets rfl rfl rfl (by decide +kernel) ⟨Nat.le_of_ble_eq_true rfl, Nat.le_of_ble_eq_true rfl⟩) ⟨mPre.blind, (va_recv hK hP (ci := 11) (q0 := 0) rfl rfl), mPre.to (hP.sub [0, 1, 2] rfl) hK (hD.sub [0, 1, 2] (by decide) rfl) hE⟩ rfl rfl hl.1 rfl (lv_room (Nat.le_of_ble_eq_true rfl)) dX9_readClause_89 ⟨Nat.le_of_ble_eq_true rfl, Nat.le_of_ble_eq_true rfl⟩) (fun r_16 u H locs hw hP hD hS => ?_)
          obtain ⟨x_at_17, x_begin_18, x_draft_19⟩ := u
          try dsimp only at hw
          have hP : va_P D vwCl [(ce_xm bd x_thrown x_men x_ships x_entries x_rules x_calls x_gangs x_idle x_moved x_paid x_taped x_at_17 x_end x_begin_18 x_faultAt x_wants), ((bd 14), .inl (y 0, 11, .inl x_draft_19)), ((bd 21), .inl (y 1, 400, .inl x_tape))] H := hP
          have hD : va_D A [(ce_xm bd x_thrown x_men x_ships x_entries x_rules x_calls x_gangs x_idle x_moved x_paid x_taped x_at_17 x_end x_begin_18 x_faultAt x_wants), ((bd 14), .inl (y 0, 11, .inl x_draft_19)), ((bd 21), .inl (y 1, 400, .inl x_tape))] := hD
          obtain ⟨hn, hw⟩ := hw
          exact W.zret (v := r_16) hx hb hr hn (fun t ht hW => ⟨⟨r_16, (x_at_17, x_begin_18, x_draft_19), rfl, hw, mAt.to hP hK hD ht hW⟩, hS.F ht⟩) hS.2.2 dX9_readClause_92
        · have hw := hw.2 tc3
          by_cases tc4 : r_1 = 4
          · have hw := hw.1 tc4
            refine lv_tableIn (off := 84) (tgt := 93) hx hb dX9_readClause_9 (by rw [tc4]; decide) (by rw [tc4]; decide) (by rw [tc4]; decide) (by decide) ?_
            refine lv_aload_n hx hb dX9_readClause_93 rfl (lv_at hl 1 rfl) ?_
            refine lv_iconst (v := 4) hx hb dX9_readClause_94 (by decide) ?_
            refine lv_iconst (v := 0) hx hb dX9_readClause_95 (by decide) ?_
            refine lv_bipush (v := 100) hx hb dX9_readClause_96 (by decide) ?_
            refine mx_i (wc := [(ce_xm bd x_thrown x_men x_ships x_entries x_rules x_calls x_gangs x_idle x_moved x_paid x_taped x_at_2 x_end x_begin_3 x_faultAt x_wants), ((bd 14), .inl (y 0, 11, .inl x_draft)), ((bd 21), .inl (y 1, 400, .inl x_tape))]) (wr := []) hP hD hS hA [0, 1, 2] [] [0, 1, 2] rfl rfl (by decide) (by decide) (by decide) (fun (u : Int32 × Int32 × (Nat → Int32)) => [(ce_xm bd x_thrown x_men x_ships x_entries x_rules x_calls x_gangs x_idle x_moved x_paid x_taped u.1 x_end u.2.1 x_faultAt x_wants), ((bd 14), .inl (y 0, 11, .inl u.2.2)), ((bd 21), .inl (y 1, 400, .inl x_tape))]) (fun _ => rfl) (va_runV (As := [.int 4, .int 0, .int 100]) (rest := []) ⟨hx, hb, hml, hown, hts⟩ (c_Model_sets l D y bd H.size x_thrown x_men x_ships x_entries x_rules x_calls x_gangs x_idle x_moved x_paid x_taped x_at_2 x_end x_begin_3 x_faultAt x_wants x_draft x_tape 4 0 100 hw) (cwV 3 hts gX9_readClause_X9_sets rfl rfl rfl (by decide +kernel) ⟨Nat.le_of_ble_eq_true rfl, Nat.le_of_ble_eq_true rfl⟩) ⟨mPre.blind, (va_recv hK hP (ci := 11) (q0 := 0) rfl rfl), mPre.to (hP.sub [0, 1, 2] rfl) hK (hD.sub [0, 1, 2] (by decide) rfl) hE⟩ rfl rfl hl.1 rfl (lv_room (Nat.le_of_ble_eq_true rfl)) dX9_readClause_98 ⟨Nat.le_of_ble_eq_true rfl, Nat.le_of_ble_eq_true rfl⟩) (fun r_20 u H locs hw hP hD hS => ?_)
            obtain ⟨x_at_21, x_begin_22, x_draft_23⟩ := u
            try dsimp only at hw
            have hP : va_P D vwCl [(ce_xm bd x_thrown x_men x_ships x_entries x_rules x_calls x_gangs x_idle x_moved x_paid x_taped x_at_21 x_end x_begin_22 x_faultAt x_wants), ((bd 14), .inl (y 0, 11, .inl x_draft_23)), ((bd 21), .inl (y 1, 400, .inl x_tape))] H := hP
            have hD : va_D A [(ce_xm bd x_thrown x_men x_ships x_entries x_rules x_calls x_gangs x_idle x_moved x_paid x_taped x_at_21 x_end x_begin_22 x_faultAt x_wants), ((bd 14), .inl (y 0, 11, .inl x_draft_23)), ((bd 21), .inl (y 1, 400, .inl x_tape))] := hD
            obtain ⟨hn, hw⟩ := hw
            exact W.zret (v := r_20) hx hb hr hn (fun t ht hW => ⟨⟨r_20, (x_at_21, x_begin_22, x_draft_23), rfl, hw, mAt.to hP hK hD ht hW⟩, hS.F ht⟩) hS.2.2 dX9_readClause_101
          · have hw := hw.2 tc4
            by_cases tc5 : r_1 = 5
            · have hw := hw.1 tc5
              refine lv_tableIn (off := 93) (tgt := 102) hx hb dX9_readClause_9 (by rw [tc5]; decide) (by rw [tc5]; decide) (by rw [tc5]; decide) (by decide) ?_
              refine lv_aload_n hx hb dX9_readClause_102 rfl (lv_at hl 1 rfl) ?_
              refine lv_iconst (v := 5) hx hb dX9_readClause_103 (by decide) ?_
              refine lv_iconst (v := 0) hx hb dX9_readClause_104 (by decide) ?_
              refine lv_iconst (v := 4) hx hb dX9_readClause_105 (by decide) ?_
              refine mx_i (wc := [(ce_xm bd x_thrown x_men x_ships x_entries x_rules x_calls x_gangs x_idle x_moved x_paid x_taped x_at_2 x_end x_begin_3 x_faultAt x_wants), ((bd 14), .inl (y 0, 11, .inl x_draft)), ((bd 21), .inl (y 1, 400, .inl x_tape))]) (wr := []) hP hD hS hA [0, 1, 2] [] [0, 1, 2] rfl rfl (by decide) (by decide) (by decide) (fun (u : Int32 × Int32 × (Nat → Int32)) => [(ce_xm bd x_thrown x_men x_ships x_entries x_rules x_calls x_gangs x_idle x_moved x_paid x_taped u.1 x_end u.2.1 x_faultAt x_wants), ((bd 14), .inl (y 0, 11, .inl u.2.2)), ((bd 21), .inl (y 1, 400, .inl x_tape))]) (fun _ => rfl) (va_runV (As := [.int 5, .int 0, .int 4]) (rest := []) ⟨hx, hb, hml, hown, hts⟩ (c_Model_sets l D y bd H.size x_thrown x_men x_ships x_entries x_rules x_calls x_gangs x_idle x_moved x_paid x_taped x_at_2 x_end x_begin_3 x_faultAt x_wants x_draft x_tape 5 0 4 hw) (cwV 3 hts gX9_readClause_X9_sets rfl rfl rfl (by decide +kernel) ⟨Nat.le_of_ble_eq_true rfl, Nat.le_of_ble_eq_true rfl⟩) ⟨mPre.blind, (va_recv hK hP (ci := 11) (q0 := 0) rfl rfl), mPre.to (hP.sub [0, 1, 2] rfl) hK (hD.sub [0, 1, 2] (by decide) rfl) hE⟩ rfl rfl hl.1 rfl (lv_room (Nat.le_of_ble_eq_true rfl)) dX9_readClause_106 ⟨Nat.le_of_ble_eq_true rfl, Nat.le_of_ble_eq_true rfl⟩) (fun r_24 u H locs hw hP hD hS => ?_)
              obtain ⟨x_at_25, x_begin_26, x_draft_27⟩ := u
              try dsimp only at hw
              have hP : va_P D vwCl [(ce_xm bd x_thrown x_men x_ships x_entries x_rules x_calls x_gangs x_idle x_moved x_paid x_taped x_at_25 x_end x_begin_26 x_faultAt x_wants), ((bd 14), .inl (y 0, 11, .inl x_draft_27)), ((bd 21), .inl (y 1, 400, .inl x_tape))] H := hP
              have hD : va_D A [(ce_xm bd x_thrown x_men x_ships x_entries x_rules x_calls x_gangs x_idle x_moved x_paid x_taped x_at_25 x_end x_begin_26 x_faultAt x_wants), ((bd 14), .inl (y 0, 11, .inl x_draft_27)), ((bd 21), .inl (y 1, 400, .inl x_tape))] := hD
              obtain ⟨hn, hw⟩ := hw
              exact W.zret (v := r_24) hx hb hr hn (fun t ht hW => ⟨⟨r_24, (x_at_25, x_begin_26, x_draft_27), rfl, hw, mAt.to hP hK hD ht hW⟩, hS.F ht⟩) hS.2.2 dX9_readClause_109
            · have hw := hw.2 tc5
              by_cases tc6 : r_1 = 6
              · have hw := hw.1 tc6
                refine lv_tableIn (off := 101) (tgt := 110) hx hb dX9_readClause_9 (by rw [tc6]; decide) (by rw [tc6]; decide) (by rw [tc6]; decide) (by decide) ?_
                refine lv_aload_n hx hb dX9_readClause_110 rfl (lv_at hl 1 rfl) ?_
                refine lv_bipush (v := 8) hx hb dX9_readClause_111 (by decide) ?_
                refine lv_bipush (v := 10) hx hb dX9_readClause_113 (by decide) ?_
                refine mx_i (wc := [(ce_xm bd x_thrown x_men x_ships x_entries x_rules x_calls x_gangs x_idle x_moved x_paid x_taped x_at_2 x_end x_begin_3 x_faultAt x_wants), ((bd 21), .inl (y 1, 400, .inl x_tape))]) (wr := [((bd 14), .inl (y 0, 11, .inl x_draft))]) hP hD hS hA [0, 2] [1] [1, 0, 2] rfl rfl (by decide) (by decide) (by decide) (fun (u : Int32 × Int32) => [(ce_xm bd x_thrown x_men x_ships x_entries x_rules x_calls x_gangs x_idle x_moved x_paid x_taped u.1 x_end u.2 x_faultAt x_wants), ((bd 14), .inl (y 0, 11, .inl x_draft)), ((bd 21), .inl (y 1, 400, .inl x_tape))]) (fun _ => rfl) (va_runV (As := [.int 8, .int 10]) (rest := []) ⟨hx, hb, hml, hown, hts⟩ (c_Model_readWord l D y E bd H.size x_thrown x_men x_ships x_entries x_rules x_calls x_gangs x_idle x_moved x_paid x_taped x_at_2 x_end x_begin_3 x_faultAt x_wants x_tape 8 10 hw) (cwV 2 hts gX9_readClause_X9_readWord rfl rfl rfl (by decide +kernel) ⟨Nat.le_of_ble_eq_true rfl, Nat.le_of_ble_eq_true rfl⟩) ⟨nPre.blind, (va_recv hK hP (ci := 11) (q0 := 0) rfl rfl), nPre.to (hP.sub [0, 2] rfl) hK (hD.sub [0, 2] (by decide) rfl) hE hH hS (va_free (wc := [(ce_xm bd x_thrown x_men x_ships x_entries x_rules x_calls x_gangs x_idle x_moved x_paid x_taped x_at_2 x_end x_begin_3 x_faultAt x_wants), ((bd 21), .inl (y 1, 400, .inl x_tape))]) hD hS hA [0, 2] rfl)⟩ rfl rfl hl.1 rfl (lv_room (Nat.le_of_ble_eq_true rfl)) dX9_readClause_115 ⟨Nat.le_of_ble_eq_true rfl, Nat.le_of_ble_eq_true rfl⟩) (fun r_28 u H locs hw hP hD hS => ?_)
                obtain ⟨x_at_29, x_begin_30⟩ := u
                try dsimp only at hw
                have hP : va_P D vwCl [(ce_xm bd x_thrown x_men x_ships x_entries x_rules x_calls x_gangs x_idle x_moved x_paid x_taped x_at_29 x_end x_begin_30 x_faultAt x_wants), ((bd 14), .inl (y 0, 11, .inl x_draft)), ((bd 21), .inl (y 1, 400, .inl x_tape))] H := hP
                have hD : va_D A [(ce_xm bd x_thrown x_men x_ships x_entries x_rules x_calls x_gangs x_idle x_moved x_paid x_taped x_at_29 x_end x_begin_30 x_faultAt x_wants), ((bd 14), .inl (y 0, 11, .inl x_draft)), ((bd 21), .inl (y 1, 400, .inl x_tape))] := hD
                refine lv_istore_n (lv' := [(2, .int r_28), (1, .int r_1), (0, .ref (bd 0))]) hx hb dX9_readClause_118 rfl hl (by decide) rfl (fun ls hl => ?_)
                refine lv_aload_n hx hb dX9_readClause_119 rfl (lv_at hl 2 rfl) ?_
                refine va_get (ci := 11) (v := .ref (bd 14)) (C := RX9) (T := TX9) (N := 47) hx hb hts inw_X9_readClause_X9 hown hK hP 0 rfl rfl 16 (by decide) (hts (.fieldLink RX9 50 "DockCallModel" "draft" "[I") (by decide +kernel)) (fun _ h9 => h9) rfl dX9_readClause_120 ?_
                refine lv_bipush (v := 6) hx hb dX9_readClause_123 (by decide) ?_
                refine lv_iload_n hx hb dX9_readClause_125 rfl (lv_at hl 0 rfl) ?_
                refine lv_bipush (v := 8) hx hb dX9_readClause_126 (by decide) ?_
                refine lv_isub hx hb dX9_readClause_128 ?_
                refine va_iast hx hb hK hP hD hS 1 0 rfl rfl (by unfold vp_in; decide) dX9_readClause_129 (fun H locs hP hD hS => ?_)
                have hP : va_P D vwCl [(ce_xm bd x_thrown x_men x_ships x_entries x_rules x_calls x_gangs x_idle x_moved x_paid x_taped x_at_29 x_end x_begin_30 x_faultAt x_wants), ((bd 14), .inl (y 0, 11, .inl (upd x_draft (6 : Int32).toNatClampNeg (r_28 - 8)))), ((bd 21), .inl (y 1, 400, .inl x_tape))] H := hP
                have hD : va_D A [(ce_xm bd x_thrown x_men x_ships x_entries x_rules x_calls x_gangs x_idle x_moved x_paid x_taped x_at_29 x_end x_begin_30 x_faultAt x_wants), ((bd 14), .inl (y 0, 11, .inl (upd x_draft (6 : Int32).toNatClampNeg (r_28 - 8)))), ((bd 21), .inl (y 1, 400, .inl x_tape))] := hD
                refine lv_iload_n hx hb dX9_readClause_130 rfl (lv_at hl 0 rfl) ?_
                refine lv_if_lt (tgt := 138) hx hb dX9_readClause_131 (by decide) (fun hc => ?_) (fun hc => ?_)
                · have hw := hw.1 hc
                  refine lv_iconst (v := 0) hx hb dX9_readClause_138 (by decide) ?_
                  exact W.zret (v := 0) hx hb hr (by decide) (fun t ht hW => ⟨⟨0, (x_at_29, x_begin_30, upd x_draft (6 : Int32).toNatClampNeg (r_28 - 8)), rfl, hw, mAt.to hP hK hD ht hW⟩, hS.F ht⟩) hS.2.2 dX9_readClause_139
                · have hw := hw.2 hc
                  refine lv_iconst (v := 1) hx hb dX9_readClause_134 (by decide) ?_
                  refine lv_goto (tgt := 139) hx hb dX9_readClause_135 (by decide) ?_
                  exact W.zret (v := 1) hx hb hr (by decide) (fun t ht hW => ⟨⟨1, (x_at_29, x_begin_30, upd x_draft (6 : Int32).toNatClampNeg (r_28 - 8)), rfl, hw, mAt.to hP hK hD ht hW⟩, hS.F ht⟩) hS.2.2 dX9_readClause_139
              · have hw := hw.2 tc6
                by_cases tc7 : r_1 = 7
                · have hw := hw.1 tc7
                  refine lv_tableIn (off := 131) (tgt := 140) hx hb dX9_readClause_9 (by rw [tc7]; decide) (by rw [tc7]; decide) (by rw [tc7]; decide) (by decide) ?_
                  refine lv_aload_n hx hb dX9_readClause_140 rfl (lv_at hl 1 rfl) ?_
                  refine lv_iconst (v := 0) hx hb dX9_readClause_141 (by decide) ?_
                  refine lv_iconst (v := 3) hx hb dX9_readClause_142 (by decide) ?_
                  refine mx_i (wc := [(ce_xm bd x_thrown x_men x_ships x_entries x_rules x_calls x_gangs x_idle x_moved x_paid x_taped x_at_2 x_end x_begin_3 x_faultAt x_wants), ((bd 21), .inl (y 1, 400, .inl x_tape))]) (wr := [((bd 14), .inl (y 0, 11, .inl x_draft))]) hP hD hS hA [0, 2] [1] [1, 0, 2] rfl rfl (by decide) (by decide) (by decide) (fun (u : Int32 × Int32) => [(ce_xm bd x_thrown x_men x_ships x_entries x_rules x_calls x_gangs x_idle x_moved x_paid x_taped u.1 x_end u.2 x_faultAt x_wants), ((bd 14), .inl (y 0, 11, .inl x_draft)), ((bd 21), .inl (y 1, 400, .inl x_tape))]) (fun _ => rfl) (va_runV (As := [.int 0, .int 3]) (rest := []) ⟨hx, hb, hml, hown, hts⟩ (c_Model_readNumber l D y bd H.size x_thrown x_men x_ships x_entries x_rules x_calls x_gangs x_idle x_moved x_paid x_taped x_at_2 x_end x_begin_3 x_faultAt x_wants x_tape 0 3 hw) (cwV 2 hts gX9_readClause_X9_readNumber rfl rfl rfl (by decide +kernel) ⟨Nat.le_of_ble_eq_true rfl, Nat.le_of_ble_eq_true rfl⟩) ⟨mPre.blind, (va_recv hK hP (ci := 11) (q0 := 0) rfl rfl), mPre.to (hP.sub [0, 2] rfl) hK (hD.sub [0, 2] (by decide) rfl) hE⟩ rfl rfl hl.1 rfl (lv_room (Nat.le_of_ble_eq_true rfl)) dX9_readClause_143 ⟨Nat.le_of_ble_eq_true rfl, Nat.le_of_ble_eq_true rfl⟩) (fun r_31 u H locs hw hP hD hS => ?_)
                  obtain ⟨x_at_32, x_begin_33⟩ := u
                  try dsimp only at hw
                  have hP : va_P D vwCl [(ce_xm bd x_thrown x_men x_ships x_entries x_rules x_calls x_gangs x_idle x_moved x_paid x_taped x_at_32 x_end x_begin_33 x_faultAt x_wants), ((bd 14), .inl (y 0, 11, .inl x_draft)), ((bd 21), .inl (y 1, 400, .inl x_tape))] H := hP
                  have hD : va_D A [(ce_xm bd x_thrown x_men x_ships x_entries x_rules x_calls x_gangs x_idle x_moved x_paid x_taped x_at_32 x_end x_begin_33 x_faultAt x_wants), ((bd 14), .inl (y 0, 11, .inl x_draft)), ((bd 21), .inl (y 1, 400, .inl x_tape))] := hD
                  refine lv_istore_n (lv' := [(2, .int r_31), (1, .int r_1), (0, .ref (bd 0))]) hx hb dX9_readClause_146 rfl hl (by decide) rfl (fun ls hl => ?_)
                  refine lv_iload_n hx hb dX9_readClause_147 rfl (lv_at hl 0 rfl) ?_
                  refine lv_if_lt (tgt := 170) hx hb dX9_readClause_148 (by decide) (fun hc => ?_) (fun hc => ?_)
                  · have hw := hw.1 hc
                    refine lv_iconst (v := 0) hx hb dX9_readClause_170 (by decide) ?_
                    exact W.zret (v := 0) hx hb hr (by decide) (fun t ht hW => ⟨⟨0, (x_at_32, x_begin_33, x_draft), rfl, hw, mAt.to hP hK hD ht hW⟩, hS.F ht⟩) hS.2.2 dX9_readClause_171
                  · have hw := hw.2 hc
                    refine lv_aload_n hx hb dX9_readClause_151 rfl (lv_at hl 2 rfl) ?_
                    refine lv_bipush (v := 7) hx hb dX9_readClause_152 (by decide) ?_
                    refine lv_iload_n hx hb dX9_readClause_154 rfl (lv_at hl 0 rfl) ?_
                    refine lv_iadd hx hb dX9_readClause_155 ?_
                    refine lv_iconst (v := 1) hx hb dX9_readClause_156 (by decide) ?_
                    refine lv_sipush (v := 500) hx hb dX9_readClause_157 (by decide) ?_
                    refine mx_i (wc := [(ce_xm bd x_thrown x_men x_ships x_entries x_rules x_calls x_gangs x_idle x_moved x_paid x_taped x_at_32 x_end x_begin_33 x_faultAt x_wants), ((bd 14), .inl (y 0, 11, .inl x_draft)), ((bd 21), .inl (y 1, 400, .inl x_tape))]) (wr := []) hP hD hS hA [0, 1, 2] [] [0, 1, 2] rfl rfl (by decide) (by decide) (by decide) (fun (u : Int32 × Int32 × (Nat → Int32)) => [(ce_xm bd x_thrown x_men x_ships x_entries x_rules x_calls x_gangs x_idle x_moved x_paid x_taped u.1 x_end u.2.1 x_faultAt x_wants), ((bd 14), .inl (y 0, 11, .inl u.2.2)), ((bd 21), .inl (y 1, 400, .inl x_tape))]) (fun _ => rfl) (va_runV (As := [.int (7 + r_31), .int 1, .int 500]) (rest := []) ⟨hx, hb, hml, hown, hts⟩ (c_Model_sets l D y bd H.size x_thrown x_men x_ships x_entries x_rules x_calls x_gangs x_idle x_moved x_paid x_taped x_at_32 x_end x_begin_33 x_faultAt x_wants x_draft x_tape (7 + r_31) 1 500 hw) (cwV 3 hts gX9_readClause_X9_sets rfl rfl rfl (by decide +kernel) ⟨Nat.le_of_ble_eq_true rfl, Nat.le_of_ble_eq_true rfl⟩) ⟨mPre.blind, (va_recv hK hP (ci := 11) (q0 := 0) rfl rfl), mPre.to (hP.sub [0, 1, 2] rfl) hK (hD.sub [0, 1, 2] (by decide) rfl) hE⟩ rfl rfl hl.1 rfl (lv_room (Nat.le_of_ble_eq_true rfl)) dX9_readClause_160 ⟨Nat.le_of_ble_eq_true rfl, Nat.le_of_ble_eq_true rfl⟩) (fun r_34 u H locs hw hP hD hS => ?_)
                    obtain ⟨x_at_35, x_begin_36, x_draft_37⟩ := u
                    try dsimp only at hw
                    have hP : va_P D vwCl [(ce_xm bd x_thrown x_men x_ships x_entries x_rules x_calls x_gangs x_idle x_moved x_paid x_taped x_at_35 x_end x_begin_36 x_faultAt x_wants), ((bd 14), .inl (y 0, 11, .inl x_draft_37)), ((bd 21), .inl (y 1, 400, .inl x_tape))] H := hP
                    have hD : va_D A [(ce_xm bd x_thrown x_men x_ships x_entries x_rules x_calls x_gangs x_idle x_moved x_paid x_taped x_at_35 x_end x_begin_36 x_faultAt x_wants), ((bd 14), .inl (y 0, 11, .inl x_draft_37)), ((bd 21), .inl (y 1, 400, .inl x_tape))] := hD
                    refine lv_if_eq (tgt := 170) hx hb dX9_readClause_163 (by decide) (fun hc => ?_) (fun hc => ?_)
                    · have hw := hw.1 hc
                      refine lv_iconst (v := 0) hx hb dX9_readClause_170 (by decide) ?_
                      exact W.zret (v := 0) hx hb hr (by decide) (fun t ht hW => ⟨⟨0, (x_at_35, x_begin_36, x_draft_37), rfl, hw, mAt.to hP hK hD ht hW⟩, hS.F ht⟩) hS.2.2 dX9_readClause_171
                    · have hw := hw.2 hc
                      refine lv_iconst (v := 1) hx hb dX9_readClause_166 (by decide) ?_
                      refine lv_goto (tgt := 171) hx hb dX9_readClause_167 (by decide) ?_
                      exact W.zret (v := 1) hx hb hr (by decide) (fun t ht hW => ⟨⟨1, (x_at_35, x_begin_36, x_draft_37), rfl, hw, mAt.to hP hK hD ht hW⟩, hS.F ht⟩) hS.2.2 dX9_readClause_171
                · have hw := hw.2 tc7
                  refine lv_tableOut (tgt := 172) hx hb dX9_readClause_9 (tw_o 7 rfl (by decide) (fun k hk => by rcases (show k = 0 ∨ k = 1 ∨ k = 2 ∨ k = 3 ∨ k = 4 ∨ k = 5 ∨ k = 6 ∨ k = 7 by omega) with rfl | rfl | rfl | rfl | rfl | rfl | rfl | rfl <;> first | exact tc0 | exact tc1 | exact tc2 | exact tc3 | exact tc4 | exact tc5 | exact tc6 | exact tc7)) (by decide) ?_
                  refine lv_iconst (v := 0) hx hb dX9_readClause_172 (by decide) ?_
                  exact W.zret (v := 0) hx hb hr (by decide) (fun t ht hW => ⟨⟨0, (x_at_2, x_begin_3, x_draft), rfl, hw, mAt.to hP hK hD ht hW⟩, hS.F ht⟩) hS.2.2 dX9_readClause_173
theorem inw_X9_agree_X9 : ∀ w ∈ wsX90, w ∈ wsX9_agree := fun _ h => List.mem_cons_of_mem _ (List.mem_append_left _ (List.mem_append_left _ (List.mem_append_right _ h)))
def wp_Model_agree_h166 (v1 : Int32) (x_thrown : Int32) (x_taped : Int32) (x_at : Int32) (x_end : Int32) (x_begin : Int32) (x_faultAt : Int32) (x_draft : Nat → Int32)  (Q : Int32 → Int32 → Int32 → Int32 → Int32 → Int32 → Int32 → (Nat → Int32) → (Nat → Int32) → Prop) : Nat → Int32 → (Nat → Int32) → Prop
  | 0, _, _ => False
  | n + 1, v4, x_says => ((11 ≤ v4 → Q v1 x_thrown x_taped x_at x_end x_begin x_faultAt x_says x_draft) ∧ (¬ 11 ≤ v4 → (vp_in v4 11 ∧ (vp_in v4 11 ∧ wp_Model_agree_h166 v1 x_thrown x_taped x_at x_end x_begin x_faultAt x_draft Q n (v4 + 1) (upd x_says v4.toNatClampNeg (x_draft v4.toNatClampNeg))))))
def wp_Model_agree_h55 (x_thrown : Int32) (x_taped : Int32) (x_end : Int32) (x_says : Nat → Int32) (x_tape : Nat → Int32)  (Q : Int32 → Int32 → Int32 → Int32 → Int32 → Int32 → Int32 → (Nat → Int32) → (Nat → Int32) → Prop) : Nat → Int32 → Int32 → Int32 → Int32 → Int32 → (Nat → Int32) → Prop
  | 0, _, _, _, _, _, _ => False
  | n + 1, v1, v2, v3, x_at, x_begin, x_draft => ((v2 = 0 → ((v2 = 0 → ((v2 = 0 → (wp_Model_throwsIf x_thrown 1 1 (fun r_3 x_thrown_4 => ((r_3 = 0 → (∃ n' : Nat, wp_Model_agree_h166 v1 x_thrown_4 x_taped x_at x_end x_begin x_begin x_draft Q n' 0 x_says)) ∧ (¬ r_3 = 0 → Q 0 x_thrown_4 x_taped x_at x_end x_begin x_begin x_says x_draft))))) ∧ (¬ v2 = 0 → (wp_Model_throwsIf x_thrown 0 1 (fun r_1 x_thrown_2 => ((r_1 = 0 → (∃ n' : Nat, wp_Model_agree_h166 v1 x_thrown_2 x_taped x_at x_end x_begin x_begin x_draft Q n' 0 x_says)) ∧ (¬ r_1 = 0 → Q 0 x_thrown_2 x_taped x_at x_end x_begin x_begin x_says x_draft))))))) ∧ (¬ v2 = 0 → ((v2 = 0 → (wp_Model_throwsIf x_thrown 1 1 (fun r_7 x_thrown_8 => ((r_7 = 0 → (∃ n' : Nat, wp_Model_agree_h166 v1 x_thrown_8 x_taped x_at x_end x_begin (-1) x_draft Q n' 0 x_says)) ∧ (¬ r_7 = 0 → Q 0 x_thrown_8 x_taped x_at x_end x_begin (-1) x_says x_draft))))) ∧ (¬ v2 = 0 → (wp_Model_throwsIf x_thrown 0 1 (fun r_5 x_thrown_6 => ((r_5 = 0 → (∃ n' : Nat, wp_Model_agree_h166 v1 x_thrown_6 x_taped x_at x_end x_begin (-1) x_draft Q n' 0 x_says)) ∧ (¬ r_5 = 0 → Q 0 x_thrown_6 x_taped x_at x_end x_begin (-1) x_says x_draft))))))))) ∧ (¬ v2 = 0 → ((v3 = 0 → ((v2 = 0 → ((v2 = 0 → (wp_Model_throwsIf x_thrown 1 1 (fun r_11 x_thrown_12 => ((r_11 = 0 → (∃ n' : Nat, wp_Model_agree_h166 v1 x_thrown_12 x_taped x_at x_end x_begin x_begin x_draft Q n' 0 x_says)) ∧ (¬ r_11 = 0 → Q 0 x_thrown_12 x_taped x_at x_end x_begin x_begin x_says x_draft))))) ∧ (¬ v2 = 0 → (wp_Model_throwsIf x_thrown 0 1 (fun r_9 x_thrown_10 => ((r_9 = 0 → (∃ n' : Nat, wp_Model_agree_h166 v1 x_thrown_10 x_taped x_at x_end x_begin x_begin x_draft Q n' 0 x_says)) ∧ (¬ r_9 = 0 → Q 0 x_thrown_10 x_taped x_at x_end x_begin x_begin x_says x_draft))))))) ∧ (¬ v2 = 0 → ((v2 = 0 → (wp_Model_throwsIf x_thrown 1 1 (fun r_15 x_thrown_16 => ((r_15 = 0 → (∃ n' : Nat, wp_Model_agree_h166 v1 x_thrown_16 x_taped x_at x_end x_begin (-1) x_draft Q n' 0 x_says)) ∧ (¬ r_15 = 0 → Q 0 x_thrown_16 x_taped x_at x_end x_begin (-1) x_says x_draft))))) ∧ (¬ v2 = 0 → (wp_Model_throwsIf x_thrown 0 1 (fun r_13 x_thrown_14 => ((r_13 = 0 → (∃ n' : Nat, wp_Model_agree_h166 v1 x_thrown_14 x_taped x_at x_end x_begin (-1) x_draft Q n' 0 x_says)) ∧ (¬ r_13 = 0 → Q 0 x_thrown_14 x_taped x_at x_end x_begin (-1) x_says x_draft))))))))) ∧ (¬ v3 = 0 → (wp_Model_readClause x_at x_end x_draft x_tape (fun r_17 x_at_18 x_begin_19 x_draft_20 => ((r_17 = 0 → ((r_17 = 0 → ((r_17 = 0 → (wp_Model_throwsIf x_thrown 1 1 (fun r_26 x_thrown_27 => ((r_26 = 0 → (∃ n' : Nat, wp_Model_agree_h166 v1 x_thrown_27 x_taped x_at_18 x_end x_begin_19 x_begin_19 x_draft_20 Q n' 0 x_says)) ∧ (¬ r_26 = 0 → Q 0 x_thrown_27 x_taped x_at_18 x_end x_begin_19 x_begin_19 x_says x_draft_20))))) ∧ (¬ r_17 = 0 → (wp_Model_throwsIf x_thrown 0 1 (fun r_24 x_thrown_25 => ((r_24 = 0 → (∃ n' : Nat, wp_Model_agree_h166 v1 x_thrown_25 x_taped x_at_18 x_end x_begin_19 x_begin_19 x_draft_20 Q n' 0 x_says)) ∧ (¬ r_24 = 0 → Q 0 x_thrown_25 x_taped x_at_18 x_end x_begin_19 x_begin_19 x_says x_draft_20))))))) ∧ (¬ r_17 = 0 → ((r_17 = 0 → (wp_Model_throwsIf x_thrown 1 1 (fun r_30 x_thrown_31 => ((r_30 = 0 → (∃ n' : Nat, wp_Model_agree_h166 v1 x_thrown_31 x_taped x_at_18 x_end x_begin_19 (-1) x_draft_20 Q n' 0 x_says)) ∧ (¬ r_30 = 0 → Q 0 x_thrown_31 x_taped x_at_18 x_end x_begin_19 (-1) x_says x_draft_20))))) ∧ (¬ r_17 = 0 → (wp_Model_throwsIf x_thrown 0 1 (fun r_28 x_thrown_29 => ((r_28 = 0 → (∃ n' : Nat, wp_Model_agree_h166 v1 x_thrown_29 x_taped x_at_18 x_end x_begin_19 (-1) x_draft_20 Q n' 0 x_says)) ∧ (¬ r_28 = 0 → Q 0 x_thrown_29 x_taped x_at_18 x_end x_begin_19 (-1) x_says x_draft_20))))))))) ∧ (¬ r_17 = 0 → (wp_Model_blanks x_at_18 x_end x_tape (fun x_at_21 x_begin_22 => (wp_Model_isAt x_at_21 x_end x_tape 59 59 (fun r_23 => ((r_23 = 0 → ((x_at_21 = x_end → wp_Model_agree_h55 x_thrown x_taped x_end x_says x_tape Q n (v1 + 1) 1 r_23 x_at_21 x_begin_22 x_draft_20) ∧ (¬ x_at_21 = x_end → wp_Model_agree_h55 x_thrown x_taped x_end x_says x_tape Q n (v1 + 1) 0 r_23 x_at_21 x_begin_22 x_draft_20))) ∧ (¬ r_23 = 0 → wp_Model_agree_h55 x_thrown x_taped x_end x_says x_tape Q n (v1 + 1) r_17 r_23 (x_at_21 + 1) x_begin_22 x_draft_20))))))))))))))
def wp_Model_agree_h25 (x_thrown : Int32) (x_taped : Int32) (x_at : Int32) (x_end : Int32) (x_begin : Int32) (x_says : Nat → Int32) (x_tape : Nat → Int32)  (Q : Int32 → Int32 → Int32 → Int32 → Int32 → Int32 → Int32 → (Nat → Int32) → (Nat → Int32) → Prop) : Nat → Int32 → (Nat → Int32) → Prop
  | 0, _, _ => False
  | n + 1, v1, x_draft => ((11 ≤ v1 → (∃ n' : Nat, wp_Model_agree_h55 x_thrown x_taped x_end x_says x_tape Q n' 0 1 1 x_at x_begin x_draft)) ∧ (¬ 11 ≤ v1 → (vp_in v1 11 ∧ (vp_in v1 11 ∧ wp_Model_agree_h25 x_thrown x_taped x_at x_end x_begin x_says x_tape Q n (v1 + 1) (upd x_draft v1.toNatClampNeg (x_says v1.toNatClampNeg))))))
def wp_Model_agree (x_taped : Int32) (x_begin : Int32) (x_says : Nat → Int32) (x_draft : Nat → Int32) (x_tape : Nat → Int32) (Q : Int32 → Int32 → Int32 → Int32 → Int32 → Int32 → Int32 → (Nat → Int32) → (Nat → Int32) → Prop) : Prop := (∃ n' : Nat, wp_Model_agree_h25 0 0 0 x_taped x_begin x_says x_tape Q n' 0 x_draft)
set_option maxHeartbeats 4000000 in
set_option maxRecDepth 100000 in
theorem c_Model_agree_h166 {p : Program} {l : Launch} {e : Env} {s : State} {m : MethodId} {args : Array Value} {below : List Frame} {meth : Method} {c : Code} {D : va_G} {y : Nat → ClassId} {E : Nat → Nat} {bd : Nat → Nat} {A : Nat → Prop} (hx : p.tables.exec = Jvm.exec) (hb : c.code = cX9_agree) (hr : meth.sig.returnType = some .int) (hml : c.maxLocals = 5) (hown : s.vm.findClass RX9 = some m.cls) (hts : ∀ w ∈ wsX9_agree, w.before args s = true) (hlocks : meth.locks = false) (hK : va_K D vwCl (TY y) s) (hE : EV s) (hA : ∀ q, s.heap.size ≤ q → A q) (hH : HX E A s s.heap) {v1 : Int32} {v2 : Int32} {v3 : Int32} {x_thrown : Int32} {x_taped : Int32} {x_at : Int32} {x_end : Int32} {x_begin : Int32} {x_faultAt : Int32} {x_draft : Nat → Int32} {x_tape : Nat → Int32} {x_men : Int32} {x_ships : Int32} {x_entries : Int32} {x_rules : Int32} {x_calls : Int32} {x_gangs : Int32} {x_idle : Int32} {x_moved : Int64} {x_paid : Int64} {x_wants : Int32}  {Q : Int32 → Int32 → Int32 → Int32 → Int32 → Int32 → Int32 → (Nat → Int32) → (Nat → Int32) → Prop}  : ∀ (n : Nat) (v4 : Int32) (x_says : Nat → Int32), wp_Model_agree_h166 v1 x_thrown x_taped x_at x_end x_begin x_faultAt x_draft Q n v4 x_says → ∀ (H : Heap) (locs : List Loc) (ls : Array Slot), va_P D vwCl [(ce_xm bd x_thrown x_men x_ships x_entries x_rules x_calls x_gangs x_idle x_moved x_paid x_taped x_at x_end x_begin x_faultAt x_wants), ((bd 13), .inl (y 0, 11, .inl x_says)), ((bd 14), .inl (y 0, 11, .inl x_draft)), ((bd 21), .inl (y 1, 400, .inl x_tape))] H → va_D A [(ce_xm bd x_thrown x_men x_ships x_entries x_rules x_calls x_gangs x_idle x_moved x_paid x_taped x_at x_end x_begin x_faultAt x_wants), ((bd 13), .inl (y 0, 11, .inl x_says)), ((bd 14), .inl (y 0, 11, .inl x_draft)), ((bd 21), .inl (y 1, 400, .inl x_tape))] → va_S A s.heap H locs → lv_has ls 5 [(4, .int v4), (3, .int v3), (2, .int v2), (1, .int v1), (0, .ref (bd 0))] → W p l e ({ frames := 7, cells := 0, slots := 0, locals := 153 }) s m args below meth c H locs 0 0 (MQ below (va_Qi (fun (r : Int32) (u : Int32 × Int32 × Int32 × Int32 × Int32 × Int32 × (Nat → Int32) × (Nat → Int32)) => Q r u.1 u.2.1 u.2.2.1 u.2.2.2.1 u.2.2.2.2.1 u.2.2.2.2.2.1 u.2.2.2.2.2.2.1 u.2.2.2.2.2.2.2) (mAt D y A (fun (u : Int32 × Int32 × Int32 × Int32 × Int32 × Int32 × (Nat → Int32) × (Nat → Int32)) => [(ce_xm bd u.1 x_men x_ships x_entries x_rules x_calls x_gangs x_idle x_moved x_paid u.2.1 u.2.2.1 u.2.2.2.1 u.2.2.2.2.1 u.2.2.2.2.2.1 x_wants), ((bd 13), .inl (y 0, 11, .inl u.2.2.2.2.2.2.1)), ((bd 14), .inl (y 0, 11, .inl u.2.2.2.2.2.2.2)), ((bd 21), .inl (y 1, 400, .inl x_tape))])) A) args s 0 0 A) (F0 m 166 ls []) := by
  intro n
  induction n with
  | zero => intro v4 x_says hw; rw [wp_Model_agree_h166] at hw; exact hw.elim
  | succ n ih =>
    intro v4 x_says hw H locs ls hP hD hS hl
    rw [wp_Model_agree_h166] at hw
    refine lv_iload hx hb dX9_agree_166 (lv_at hl 0 rfl) ?_
    refine lv_bipush (v := 11) hx hb dX9_agree_168 (by decide) ?_
    refine lv_icmp_ge (tgt := 193) hx hb dX9_agree_170 (by decide) (fun hc => ?_) (fun hc => ?_)
    · have hw := hw.1 hc
      refine lv_iload_n hx hb dX9_agree_193 rfl (lv_at hl 3 rfl) ?_
      exact W.iret (v := v1) hx hb hr (fun t ht hW => ⟨⟨v1, (x_thrown, x_taped, x_at, x_end, x_begin, x_faultAt, x_says, x_draft), rfl, hw, mAt.to hP hK hD ht hW⟩, hS.F ht⟩) hS.2.2 dX9_agree_194
    · have hw := hw.2 hc
      refine lv_aload_n hx hb dX9_agree_173 rfl (lv_at hl 4 rfl) ?_
      refine va_get (ci := 11) (v := .ref (bd 13)) (C := RX9) (T := TX9) (N := 47) hx hb hts inw_X9_agree_X9 hown hK hP 0 rfl rfl 15 (by decide) (hts (.fieldLink RX9 47 "DockCallModel" "says" "[I") (by decide +kernel)) (fun _ h9 => h9) rfl dX9_agree_174 ?_
      refine lv_iload hx hb dX9_agree_177 (lv_at hl 0 rfl) ?_
      refine lv_aload_n hx hb dX9_agree_179 rfl (lv_at hl 4 rfl) ?_
      refine va_get (ci := 11) (v := .ref (bd 14)) (C := RX9) (T := TX9) (N := 47) hx hb hts inw_X9_agree_X9 hown hK hP 0 rfl rfl 16 (by decide) (hts (.fieldLink RX9 50 "DockCallModel" "draft" "[I") (by decide +kernel)) (fun _ h9 => h9) rfl dX9_agree_180 ?_
      refine lv_iload hx hb dX9_agree_183 (lv_at hl 0 rfl) ?_
      obtain ⟨hi, hw⟩ := hw
      refine va_iald hx hb hK hP 2 0 rfl rfl hi dX9_agree_185 ?_
      obtain ⟨hi, hw⟩ := hw
      refine va_iast hx hb hK hP hD hS 1 0 rfl rfl hi dX9_agree_186 (fun H locs hP hD hS => ?_)
      have hP : va_P D vwCl [(ce_xm bd x_thrown x_men x_ships x_entries x_rules x_calls x_gangs x_idle x_moved x_paid x_taped x_at x_end x_begin x_faultAt x_wants), ((bd 13), .inl (y 0, 11, .inl (upd x_says v4.toNatClampNeg (x_draft v4.toNatClampNeg)))), ((bd 14), .inl (y 0, 11, .inl x_draft)), ((bd 21), .inl (y 1, 400, .inl x_tape))] H := hP
      have hD : va_D A [(ce_xm bd x_thrown x_men x_ships x_entries x_rules x_calls x_gangs x_idle x_moved x_paid x_taped x_at x_end x_begin x_faultAt x_wants), ((bd 13), .inl (y 0, 11, .inl (upd x_says v4.toNatClampNeg (x_draft v4.toNatClampNeg)))), ((bd 14), .inl (y 0, 11, .inl x_draft)), ((bd 21), .inl (y 1, 400, .inl x_tape))] := hD
      refine lv_iinc (v := v4 + 1) (lv' := [(4, .int (v4 + 1)), (3, .int v3), (2, .int v2), (1, .int v1), (0, .ref (bd 0))]) hx hb dX9_agree_187 hl (k := 0) rfl (by first | rfl | decide) (by decide) rfl (fun ls hl => ?_)
      refine lv_goto (tgt := 166) hx hb dX9_agree_190 (by decide) ?_
      exact ih (v4 + 1) (upd x_says v4.toNatClampNeg (x_draft v4.toNatClampNeg)) hw _ _ _ hP hD hS (lv_sub hl [0, 1, 2, 3, 4] rfl)
set_option maxHeartbeats 4000000 in
set_option maxRecDepth 100000 in
theorem c_Model_agree_h55 {p : Program} {l : Launch} {e : Env} {s : State} {m : MethodId} {args : Array Value} {below : List Frame} {meth : Method} {c : Code} {D : va_G} {y : Nat → ClassId} {E : Nat → Nat} {bd : Nat → Nat} {A : Nat → Prop} (hx : p.tables.exec = Jvm.exec) (hb : c.code = cX9_agree) (hr : meth.sig.returnType = some .int) (hml : c.maxLocals = 5) (hown : s.vm.findClass RX9 = some m.cls) (hts : ∀ w ∈ wsX9_agree, w.before args s = true) (hlocks : meth.locks = false) (hK : va_K D vwCl (TY y) s) (hE : EV s) (hA : ∀ q, s.heap.size ≤ q → A q) (hH : HX E A s s.heap) {x_thrown : Int32} {x_taped : Int32} {x_end : Int32} {x_faultAt : Int32} {x_says : Nat → Int32} {x_tape : Nat → Int32} {x_men : Int32} {x_ships : Int32} {x_entries : Int32} {x_rules : Int32} {x_calls : Int32} {x_gangs : Int32} {x_idle : Int32} {x_moved : Int64} {x_paid : Int64} {x_wants : Int32}  {Q : Int32 → Int32 → Int32 → Int32 → Int32 → Int32 → Int32 → (Nat → Int32) → (Nat → Int32) → Prop}  : ∀ (n : Nat) (v1 : Int32) (v2 : Int32) (v3 : Int32) (x_at : Int32) (x_begin : Int32) (x_draft : Nat → Int32), wp_Model_agree_h55 x_thrown x_taped x_end x_says x_tape Q n v1 v2 v3 x_at x_begin x_draft → ∀ (H : Heap) (locs : List Loc) (ls : Array Slot), va_P D vwCl [(ce_xm bd x_thrown x_men x_ships x_entries x_rules x_calls x_gangs x_idle x_moved x_paid x_taped x_at x_end x_begin x_faultAt x_wants), ((bd 13), .inl (y 0, 11, .inl x_says)), ((bd 14), .inl (y 0, 11, .inl x_draft)), ((bd 21), .inl (y 1, 400, .inl x_tape))] H → va_D A [(ce_xm bd x_thrown x_men x_ships x_entries x_rules x_calls x_gangs x_idle x_moved x_paid x_taped x_at x_end x_begin x_faultAt x_wants), ((bd 13), .inl (y 0, 11, .inl x_says)), ((bd 14), .inl (y 0, 11, .inl x_draft)), ((bd 21), .inl (y 1, 400, .inl x_tape))] → va_S A s.heap H locs → lv_has ls 5 [(3, .int v3), (2, .int v2), (1, .int v1), (0, .ref (bd 0))] → W p l e ({ frames := 7, cells := 0, slots := 0, locals := 153 }) s m args below meth c H locs 0 0 (MQ below (va_Qi (fun (r : Int32) (u : Int32 × Int32 × Int32 × Int32 × Int32 × Int32 × (Nat → Int32) × (Nat → Int32)) => Q r u.1 u.2.1 u.2.2.1 u.2.2.2.1 u.2.2.2.2.1 u.2.2.2.2.2.1 u.2.2.2.2.2.2.1 u.2.2.2.2.2.2.2) (mAt D y A (fun (u : Int32 × Int32 × Int32 × Int32 × Int32 × Int32 × (Nat → Int32) × (Nat → Int32)) => [(ce_xm bd u.1 x_men x_ships x_entries x_rules x_calls x_gangs x_idle x_moved x_paid u.2.1 u.2.2.1 u.2.2.2.1 u.2.2.2.2.1 u.2.2.2.2.2.1 x_wants), ((bd 13), .inl (y 0, 11, .inl u.2.2.2.2.2.2.1)), ((bd 14), .inl (y 0, 11, .inl u.2.2.2.2.2.2.2)), ((bd 21), .inl (y 1, 400, .inl x_tape))])) A) args s 0 0 A) (F0 m 55 ls []) := by
  intro n
  induction n with
  | zero => intro v1 v2 v3 x_at x_begin x_draft hw; rw [wp_Model_agree_h55] at hw; exact hw.elim
  | succ n ih =>
    intro v1 v2 v3 x_at x_begin x_draft hw H locs ls hP hD hS hl
    rw [wp_Model_agree_h55] at hw
    refine lv_iload_n hx hb dX9_agree_55 rfl (lv_at hl 1 rfl) ?_
    refine lv_if_eq (tgt := 128) hx hb dX9_agree_56 (by decide) (fun hc => ?_) (fun hc => ?_)
    · have hw := hw.1 hc
      refine lv_aload_n hx hb dX9_agree_128 rfl (lv_at hl 3 rfl) ?_
      refine lv_iload_n hx hb dX9_agree_129 rfl (lv_at hl 1 rfl) ?_
      refine lv_if_eq (tgt := 137) hx hb dX9_agree_130 (by decide) (fun hc => ?_) (fun hc => ?_)
      · have hw := hw.1 hc
        refine lv_aload_n hx hb dX9_agree_137 rfl (lv_at hl 3 rfl) ?_
        refine va_get (ci := 11) (v := .int x_begin) (C := RX9) (T := TX9) (N := 47) hx hb hts inw_X9_agree_X9 hown hK hP 0 rfl rfl 35 (by decide) (hts (.fieldLink RX9 152 "DockCallModel" "begin" "I") (by decide +kernel)) (fun _ h9 => h9) rfl dX9_agree_138 ?_
        refine va_put (ci := 11) (v := .int x_begin) (ty := .int) (C := RX9) (T := TX9) (N := 47) hx hb hts inw_X9_agree_X9 tyX9 tyX9_ok nmX9 hown hK hP hD hS 0 rfl rfl 36 (by decide) (hts (.fieldLink RX9 78 "DockCallModel" "faultAt" "I") (by decide +kernel)) (fun _ h9 => h9) rfl (by decide +kernel) rfl rfl (Nat.le_of_ble_eq_true rfl) dX9_agree_141 (fun H locs hP hD hS => ?_)
        have hP : va_P D vwCl [(ce_xm bd x_thrown x_men x_ships x_entries x_rules x_calls x_gangs x_idle x_moved x_paid x_taped x_at x_end x_begin x_begin x_wants), ((bd 13), .inl (y 0, 11, .inl x_says)), ((bd 14), .inl (y 0, 11, .inl x_draft)), ((bd 21), .inl (y 1, 400, .inl x_tape))] H := hP
        have hD : va_D A [(ce_xm bd x_thrown x_men x_ships x_entries x_rules x_calls x_gangs x_idle x_moved x_paid x_taped x_at x_end x_begin x_begin x_wants), ((bd 13), .inl (y 0, 11, .inl x_says)), ((bd 14), .inl (y 0, 11, .inl x_draft)), ((bd 21), .inl (y 1, 400, .inl x_tape))] := hD
        refine lv_aload_n hx hb dX9_agree_144 rfl (lv_at hl 3 rfl) ?_
        refine lv_iload_n hx hb dX9_agree_145 rfl (lv_at hl 1 rfl) ?_
        refine lv_if_ne (tgt := 153) hx hb dX9_agree_146 (by decide) (fun hc => ?_) (fun hc => ?_)
        · have hw := hw.2 hc
          refine lv_iconst (v := 0) hx hb dX9_agree_153 (by decide) ?_
          refine lv_iconst (v := 1) hx hb dX9_agree_154 (by decide) ?_
          refine mx_i (wc := [(ce_xm bd x_thrown x_men x_ships x_entries x_rules x_calls x_gangs x_idle x_moved x_paid x_taped x_at x_end x_begin x_begin x_wants)]) (wr := [((bd 13), .inl (y 0, 11, .inl x_says)), ((bd 14), .inl (y 0, 11, .inl x_draft)), ((bd 21), .inl (y 1, 400, .inl x_tape))]) hP hD hS hA [0] [1, 2, 3] [3, 0, 1, 2] rfl rfl (by decide) (by decide) (by decide) (fun (u : Int32) => [(ce_xm bd u x_men x_ships x_entries x_rules x_calls x_gangs x_idle x_moved x_paid x_taped x_at x_end x_begin x_begin x_wants), ((bd 13), .inl (y 0, 11, .inl x_says)), ((bd 14), .inl (y 0, 11, .inl x_draft)), ((bd 21), .inl (y 1, 400, .inl x_tape))]) (fun _ => rfl) (va_runV (As := [.int 0, .int 1]) (rest := []) ⟨hx, hb, hml, hown, hts⟩ (c_Model_throwsIf l D y bd H.size x_thrown x_men x_ships x_entries x_rules x_calls x_gangs x_idle x_moved x_paid x_taped x_at x_end x_begin x_begin x_wants 0 1 hw) (cwV 2 hts gX9_agree_X9_throwsIf rfl rfl rfl (by decide +kernel) ⟨Nat.le_of_ble_eq_true rfl, Nat.le_of_ble_eq_true rfl⟩) ⟨mPre.blind, (va_recv hK hP (ci := 11) (q0 := 0) rfl rfl), mPre.to (hP.sub [0] rfl) hK (hD.sub [0] (by decide) rfl) hE⟩ rfl rfl hl.1 rfl (lv_room (Nat.le_of_ble_eq_true rfl)) dX9_agree_155 ⟨Nat.le_of_ble_eq_true rfl, Nat.le_of_ble_eq_true rfl⟩) (fun r_1 u H locs hw hP hD hS => ?_)
          obtain ⟨x_thrown_2, rfl⟩ : ∃ z, z = u := ⟨_, rfl⟩
          try dsimp only at hw
          have hP : va_P D vwCl [(ce_xm bd x_thrown_2 x_men x_ships x_entries x_rules x_calls x_gangs x_idle x_moved x_paid x_taped x_at x_end x_begin x_begin x_wants), ((bd 13), .inl (y 0, 11, .inl x_says)), ((bd 14), .inl (y 0, 11, .inl x_draft)), ((bd 21), .inl (y 1, 400, .inl x_tape))] H := hP
          have hD : va_D A [(ce_xm bd x_thrown_2 x_men x_ships x_entries x_rules x_calls x_gangs x_idle x_moved x_paid x_taped x_at x_end x_begin x_begin x_wants), ((bd 13), .inl (y 0, 11, .inl x_says)), ((bd 14), .inl (y 0, 11, .inl x_draft)), ((bd 21), .inl (y 1, 400, .inl x_tape))] := hD
          refine lv_if_eq (tgt := 163) hx hb dX9_agree_158 (by decide) (fun hc => ?_) (fun hc => ?_)
          · have hw := hw.1 hc
            refine lv_iconst (v := 0) hx hb dX9_agree_163 (by decide) ?_
            refine lv_istore (lv' := [(4, .int 0), (3, .int v3), (2, .int v2), (1, .int v1), (0, .ref (bd 0))]) hx hb dX9_agree_164 hl (by decide) rfl (fun ls hl => ?_)
            obtain ⟨n', hw⟩ := hw
            exact c_Model_agree_h166 hx hb hr hml hown hts hlocks hK hE hA hH  n' 0 x_says hw _ _ _ hP hD hS (lv_sub hl [0, 1, 2, 3, 4] rfl)
          · have hw := hw.2 hc
            refine lv_iconst (v := 0) hx hb dX9_agree_161 (by decide) ?_
            exact W.iret (v := 0) hx hb hr (fun t ht hW => ⟨⟨0, (x_thrown_2, x_taped, x_at, x_end, x_begin, x_begin, x_says, x_draft), rfl, hw, mAt.to hP hK hD ht hW⟩, hS.F ht⟩) hS.2.2 dX9_agree_162
        · have hw := hw.1 hc
          refine lv_iconst (v := 1) hx hb dX9_agree_149 (by decide) ?_
          refine lv_goto (tgt := 154) hx hb dX9_agree_150 (by decide) ?_
          refine lv_iconst (v := 1) hx hb dX9_agree_154 (by decide) ?_
          refine mx_i (wc := [(ce_xm bd x_thrown x_men x_ships x_entries x_rules x_calls x_gangs x_idle x_moved x_paid x_taped x_at x_end x_begin x_begin x_wants)]) (wr := [((bd 13), .inl (y 0, 11, .inl x_says)), ((bd 14), .inl (y 0, 11, .inl x_draft)), ((bd 21), .inl (y 1, 400, .inl x_tape))]) hP hD hS hA [0] [1, 2, 3] [3, 0, 1, 2] rfl rfl (by decide) (by decide) (by decide) (fun (u : Int32) => [(ce_xm bd u x_men x_ships x_entries x_rules x_calls x_gangs x_idle x_moved x_paid x_taped x_at x_end x_begin x_begin x_wants), ((bd 13), .inl (y 0, 11, .inl x_says)), ((bd 14), .inl (y 0, 11, .inl x_draft)), ((bd 21), .inl (y 1, 400, .inl x_tape))]) (fun _ => rfl) (va_runV (As := [.int 1, .int 1]) (rest := []) ⟨hx, hb, hml, hown, hts⟩ (c_Model_throwsIf l D y bd H.size x_thrown x_men x_ships x_entries x_rules x_calls x_gangs x_idle x_moved x_paid x_taped x_at x_end x_begin x_begin x_wants 1 1 hw) (cwV 2 hts gX9_agree_X9_throwsIf rfl rfl rfl (by decide +kernel) ⟨Nat.le_of_ble_eq_true rfl, Nat.le_of_ble_eq_true rfl⟩) ⟨mPre.blind, (va_recv hK hP (ci := 11) (q0 := 0) rfl rfl), mPre.to (hP.sub [0] rfl) hK (hD.sub [0] (by decide) rfl) hE⟩ rfl rfl hl.1 rfl (lv_room (Nat.le_of_ble_eq_true rfl)) dX9_agree_155 ⟨Nat.le_of_ble_eq_true rfl, Nat.le_of_ble_eq_true rfl⟩) (fun r_3 u H locs hw hP hD hS => ?_)
          obtain ⟨x_thrown_4, rfl⟩ : ∃ z, z = u := ⟨_, rfl⟩
          try dsimp only at hw
          have hP : va_P D vwCl [(ce_xm bd x_thrown_4 x_men x_ships x_entries x_rules x_calls x_gangs x_idle x_moved x_paid x_taped x_at x_end x_begin x_begin x_wants), ((bd 13), .inl (y 0, 11, .inl x_says)), ((bd 14), .inl (y 0, 11, .inl x_draft)), ((bd 21), .inl (y 1, 400, .inl x_tape))] H := hP
          have hD : va_D A [(ce_xm bd x_thrown_4 x_men x_ships x_entries x_rules x_calls x_gangs x_idle x_moved x_paid x_taped x_at x_end x_begin x_begin x_wants), ((bd 13), .inl (y 0, 11, .inl x_says)), ((bd 14), .inl (y 0, 11, .inl x_draft)), ((bd 21), .inl (y 1, 400, .inl x_tape))] := hD
          refine lv_if_eq (tgt := 163) hx hb dX9_agree_158 (by decide) (fun hc => ?_) (fun hc => ?_)
          · have hw := hw.1 hc
            refine lv_iconst (v := 0) hx hb dX9_agree_163 (by decide) ?_
            refine lv_istore (lv' := [(4, .int 0), (3, .int v3), (2, .int v2), (1, .int v1), (0, .ref (bd 0))]) hx hb dX9_agree_164 hl (by decide) rfl (fun ls hl => ?_)
            obtain ⟨n', hw⟩ := hw
            exact c_Model_agree_h166 hx hb hr hml hown hts hlocks hK hE hA hH  n' 0 x_says hw _ _ _ hP hD hS (lv_sub hl [0, 1, 2, 3, 4] rfl)
          · have hw := hw.2 hc
            refine lv_iconst (v := 0) hx hb dX9_agree_161 (by decide) ?_
            exact W.iret (v := 0) hx hb hr (fun t ht hW => ⟨⟨0, (x_thrown_4, x_taped, x_at, x_end, x_begin, x_begin, x_says, x_draft), rfl, hw, mAt.to hP hK hD ht hW⟩, hS.F ht⟩) hS.2.2 dX9_agree_162
      · have hw := hw.2 hc
        refine lv_iconst (v := (-1)) hx hb dX9_agree_133 (by decide) ?_
        refine lv_goto (tgt := 141) hx hb dX9_agree_134 (by decide) ?_
        refine va_put (ci := 11) (v := .int (-1)) (ty := .int) (C := RX9) (T := TX9) (N := 47) hx hb hts inw_X9_agree_X9 tyX9 tyX9_ok nmX9 hown hK hP hD hS 0 rfl rfl 36 (by decide) (hts (.fieldLink RX9 78 "DockCallModel" "faultAt" "I") (by decide +kernel)) (fun _ h9 => h9) rfl (by decide +kernel) rfl rfl (Nat.le_of_ble_eq_true rfl) dX9_agree_141 (fun H locs hP hD hS => ?_)
        have hP : va_P D vwCl [(ce_xm bd x_thrown x_men x_ships x_entries x_rules x_calls x_gangs x_idle x_moved x_paid x_taped x_at x_end x_begin (-1) x_wants), ((bd 13), .inl (y 0, 11, .inl x_says)), ((bd 14), .inl (y 0, 11, .inl x_draft)), ((bd 21), .inl (y 1, 400, .inl x_tape))] H := hP
        have hD : va_D A [(ce_xm bd x_thrown x_men x_ships x_entries x_rules x_calls x_gangs x_idle x_moved x_paid x_taped x_at x_end x_begin (-1) x_wants), ((bd 13), .inl (y 0, 11, .inl x_says)), ((bd 14), .inl (y 0, 11, .inl x_draft)), ((bd 21), .inl (y 1, 400, .inl x_tape))] := hD
        refine lv_aload_n hx hb dX9_agree_144 rfl (lv_at hl 3 rfl) ?_
        refine lv_iload_n hx hb dX9_agree_145 rfl (lv_at hl 1 rfl) ?_
        refine lv_if_ne (tgt := 153) hx hb dX9_agree_146 (by decide) (fun hc => ?_) (fun hc => ?_)
        · have hw := hw.2 hc
          refine lv_iconst (v := 0) hx hb dX9_agree_153 (by decide) ?_
          refine lv_iconst (v := 1) hx hb dX9_agree_154 (by decide) ?_
          refine mx_i (wc := [(ce_xm bd x_thrown x_men x_ships x_entries x_rules x_calls x_gangs x_idle x_moved x_paid x_taped x_at x_end x_begin (-1) x_wants)]) (wr := [((bd 13), .inl (y 0, 11, .inl x_says)), ((bd 14), .inl (y 0, 11, .inl x_draft)), ((bd 21), .inl (y 1, 400, .inl x_tape))]) hP hD hS hA [0] [1, 2, 3] [3, 0, 1, 2] rfl rfl (by decide) (by decide) (by decide) (fun (u : Int32) => [(ce_xm bd u x_men x_ships x_entries x_rules x_calls x_gangs x_idle x_moved x_paid x_taped x_at x_end x_begin (-1) x_wants), ((bd 13), .inl (y 0, 11, .inl x_says)), ((bd 14), .inl (y 0, 11, .inl x_draft)), ((bd 21), .inl (y 1, 400, .inl x_tape))]) (fun _ => rfl) (va_runV (As := [.int 0, .int 1]) (rest := []) ⟨hx, hb, hml, hown, hts⟩ (c_Model_throwsIf l D y bd H.size x_thrown x_men x_ships x_entries x_rules x_calls x_gangs x_idle x_moved x_paid x_taped x_at x_end x_begin (-1) x_wants 0 1 hw) (cwV 2 hts gX9_agree_X9_throwsIf rfl rfl rfl (by decide +kernel) ⟨Nat.le_of_ble_eq_true rfl, Nat.le_of_ble_eq_true rfl⟩) ⟨mPre.blind, (va_recv hK hP (ci := 11) (q0 := 0) rfl rfl), mPre.to (hP.sub [0] rfl) hK (hD.sub [0] (by decide) rfl) hE⟩ rfl rfl hl.1 rfl (lv_room (Nat.le_of_ble_eq_true rfl)) dX9_agree_155 ⟨Nat.le_of_ble_eq_true rfl, Nat.le_of_ble_eq_true rfl⟩) (fun r_5 u H locs hw hP hD hS => ?_)
          obtain ⟨x_thrown_6, rfl⟩ : ∃ z, z = u := ⟨_, rfl⟩
          try dsimp only at hw
          have hP : va_P D vwCl [(ce_xm bd x_thrown_6 x_men x_ships x_entries x_rules x_calls x_gangs x_idle x_moved x_paid x_taped x_at x_end x_begin (-1) x_wants), ((bd 13), .inl (y 0, 11, .inl x_says)), ((bd 14), .inl (y 0, 11, .inl x_draft)), ((bd 21), .inl (y 1, 400, .inl x_tape))] H := hP
          have hD : va_D A [(ce_xm bd x_thrown_6 x_men x_ships x_entries x_rules x_calls x_gangs x_idle x_moved x_paid x_taped x_at x_end x_begin (-1) x_wants), ((bd 13), .inl (y 0, 11, .inl x_says)), ((bd 14), .inl (y 0, 11, .inl x_draft)), ((bd 21), .inl (y 1, 400, .inl x_tape))] := hD
          refine lv_if_eq (tgt := 163) hx hb dX9_agree_158 (by decide) (fun hc => ?_) (fun hc => ?_)
          · have hw := hw.1 hc
            refine lv_iconst (v := 0) hx hb dX9_agree_163 (by decide) ?_
            refine lv_istore (lv' := [(4, .int 0), (3, .int v3), (2, .int v2), (1, .int v1), (0, .ref (bd 0))]) hx hb dX9_agree_164 hl (by decide) rfl (fun ls hl => ?_)
            obtain ⟨n', hw⟩ := hw
            exact c_Model_agree_h166 hx hb hr hml hown hts hlocks hK hE hA hH  n' 0 x_says hw _ _ _ hP hD hS (lv_sub hl [0, 1, 2, 3, 4] rfl)
          · have hw := hw.2 hc
            refine lv_iconst (v := 0) hx hb dX9_agree_161 (by decide) ?_
            exact W.iret (v := 0) hx hb hr (fun t ht hW => ⟨⟨0, (x_thrown_6, x_taped, x_at, x_end, x_begin, (-1), x_says, x_draft), rfl, hw, mAt.to hP hK hD ht hW⟩, hS.F ht⟩) hS.2.2 dX9_agree_162
        · have hw := hw.1 hc
          refine lv_iconst (v := 1) hx hb dX9_agree_149 (by decide) ?_
          refine lv_goto (tgt := 154) hx hb dX9_agree_150 (by decide) ?_
          refine lv_iconst (v := 1) hx hb dX9_agree_154 (by decide) ?_
          refine mx_i (wc := [(ce_xm bd x_thrown x_men x_ships x_entries x_rules x_calls x_gangs x_idle x_moved x_paid x_taped x_at x_end x_begin (-1) x_wants)]) (wr := [((bd 13), .inl (y 0, 11, .inl x_says)), ((bd 14), .inl (y 0, 11, .inl x_draft)), ((bd 21), .inl (y 1, 400, .inl x_tape))]) hP hD hS hA [0] [1, 2, 3] [3, 0, 1, 2] rfl rfl (by decide) (by decide) (by decide) (fun (u : Int32) => [(ce_xm bd u x_men x_ships x_entries x_rules x_calls x_gangs x_idle x_moved x_paid x_taped x_at x_end x_begin (-1) x_wants), ((bd 13), .inl (y 0, 11, .inl x_says)), ((bd 14), .inl (y 0, 11, .inl x_draft)), ((bd 21), .inl (y 1, 400, .inl x_tape))]) (fun _ => rfl) (va_runV (As := [.int 1, .int 1]) (rest := []) ⟨hx, hb, hml, hown, hts⟩ (c_Model_throwsIf l D y bd H.size x_thrown x_men x_ships x_entries x_rules x_calls x_gangs x_idle x_moved x_paid x_taped x_at x_end x_begin (-1) x_wants 1 1 hw) (cwV 2 hts gX9_agree_X9_throwsIf rfl rfl rfl (by decide +kernel) ⟨Nat.le_of_ble_eq_true rfl, Nat.le_of_ble_eq_true rfl⟩) ⟨mPre.blind, (va_recv hK hP (ci := 11) (q0 := 0) rfl rfl), mPre.to (hP.sub [0] rfl) hK (hD.sub [0] (by decide) rfl) hE⟩ rfl rfl hl.1 rfl (lv_room (Nat.le_of_ble_eq_true rfl)) dX9_agree_155 ⟨Nat.le_of_ble_eq_true rfl, Nat.le_of_ble_eq_true rfl⟩) (fun r_7 u H locs hw hP hD hS => ?_)
          obtain ⟨x_thrown_8, rfl⟩ : ∃ z, z = u := ⟨_, rfl⟩
          try dsimp only at hw
          have hP : va_P D vwCl [(ce_xm bd x_thrown_8 x_men x_ships x_entries x_rules x_calls x_gangs x_idle x_moved x_paid x_taped x_at x_end x_begin (-1) x_wants), ((bd 13), .inl (y 0, 11, .inl x_says)), ((bd 14), .inl (y 0, 11, .inl x_draft)), ((bd 21), .inl (y 1, 400, .inl x_tape))] H := hP
          have hD : va_D A [(ce_xm bd x_thrown_8 x_men x_ships x_entries x_rules x_calls x_gangs x_idle x_moved x_paid x_taped x_at x_end x_begin (-1) x_wants), ((bd 13), .inl (y 0, 11, .inl x_says)), ((bd 14), .inl (y 0, 11, .inl x_draft)), ((bd 21), .inl (y 1, 400, .inl x_tape))] := hD
          refine lv_if_eq (tgt := 163) hx hb dX9_agree_158 (by decide) (fun hc => ?_) (fun hc => ?_)
          · have hw := hw.1 hc
            refine lv_iconst (v := 0) hx hb dX9_agree_163 (by decide) ?_
            refine lv_istore (lv' := [(4, .int 0), (3, .int v3), (2, .int v2), (1, .int v1), (0, .ref (bd 0))]) hx hb dX9_agree_164 hl (by decide) rfl (fun ls hl => ?_)
            obtain ⟨n', hw⟩ := hw
            exact c_Model_agree_h166 hx hb hr hml hown hts hlocks hK hE hA hH  n' 0 x_says hw _ _ _ hP hD hS (lv_sub hl [0, 1, 2, 3, 4] rfl)
          · have hw := hw.2 hc
            refine lv_iconst (v := 0) hx hb dX9_agree_161 (by decide) ?_
            exact W.iret (v := 0) hx hb hr (fun t ht hW => ⟨⟨0, (x_thrown_8, x_taped, x_at, x_end, x_begin, (-1), x_says, x_draft), rfl, hw, mAt.to hP hK hD ht hW⟩, hS.F ht⟩) hS.2.2 dX9_agree_162
    · have hw := hw.2 hc
      refine lv_iload_n hx hb dX9_agree_59 rfl (lv_at hl 0 rfl) ?_
      refine lv_if_eq (tgt := 128) hx hb dX9_agree_60 (by decide) (fun hc => ?_) (fun hc => ?_)
      · have hw := hw.1 hc
        refine lv_aload_n hx hb dX9_agree_128 rfl (lv_at hl 3 rfl) ?_
        refine lv_iload_n hx hb dX9_agree_129 rfl (lv_at hl 1 rfl) ?_
        refine lv_if_eq (tgt := 137) hx hb dX9_agree_130 (by decide) (fun hc => ?_) (fun hc => ?_)
        · have hw := hw.1 hc
          refine lv_aload_n hx hb dX9_agree_137 rfl (lv_at hl 3 rfl) ?_
          refine va_get (ci := 11) (v := .int x_begin) (C := RX9) (T := TX9) (N := 47) hx hb hts inw_X9_agree_X9 hown hK hP 0 rfl rfl 35 (by decide) (hts (.fieldLink RX9 152 "DockCallModel" "begin" "I") (by decide +kernel)) (fun _ h9 => h9) rfl dX9_agree_138 ?_
          refine va_put (ci := 11) (v := .int x_begin) (ty := .int) (C := RX9) (T := TX9) (N := 47) hx hb hts inw_X9_agree_X9 tyX9 tyX9_ok nmX9 hown hK hP hD hS 0 rfl rfl 36 (by decide) (hts (.fieldLink RX9 78 "DockCallModel" "faultAt" "I") (by decide +kernel)) (fun _ h9 => h9) rfl (by decide +kernel) rfl rfl (Nat.le_of_ble_eq_true rfl) dX9_agree_141 (fun H locs hP hD hS => ?_)
          have hP : va_P D vwCl [(ce_xm bd x_thrown x_men x_ships x_entries x_rules x_calls x_gangs x_idle x_moved x_paid x_taped x_at x_end x_begin x_begin x_wants), ((bd 13), .inl (y 0, 11, .inl x_says)), ((bd 14), .inl (y 0, 11, .inl x_draft)), ((bd 21), .inl (y 1, 400, .inl x_tape))] H := hP
          have hD : va_D A [(ce_xm bd x_thrown x_men x_ships x_entries x_rules x_calls x_gangs x_idle x_moved x_paid x_taped x_at x_end x_begin x_begin x_wants), ((bd 13), .inl (y 0, 11, .inl x_says)), ((bd 14), .inl (y 0, 11, .inl x_draft)), ((bd 21), .inl (y 1, 400, .inl x_tape))] := hD
          refine lv_aload_n hx hb dX9_agree_144 rfl (lv_at hl 3 rfl) ?_
          refine lv_iload_n hx hb dX9_agree_145 rfl (lv_at hl 1 rfl) ?_
          refine lv_if_ne (tgt := 153) hx hb dX9_agree_146 (by decide) (fun hc => ?_) (fun hc => ?_)
          · have hw := hw.2 hc
            refine lv_iconst (v := 0) hx hb dX9_agree_153 (by decide) ?_
            refine lv_iconst (v := 1) hx hb dX9_agree_154 (by decide) ?_
            refine mx_i (wc := [(ce_xm bd x_thrown x_men x_ships x_entries x_rules x_calls x_gangs x_idle x_moved x_paid x_taped x_at x_end x_begin x_begin x_wants)]) (wr := [((bd 13), .inl (y 0, 11, .inl x_says)), ((bd 14), .inl (y 0, 11, .inl x_draft)), ((bd 21), .inl (y 1, 400, .inl x_tape))]) hP hD hS hA [0] [1, 2, 3] [3, 0, 1, 2] rfl rfl (by decide) (by decide) (by decide) (fun (u : Int32) => [(ce_xm bd u x_men x_ships x_entries x_rules x_calls x_gangs x_idle x_moved x_paid x_taped x_at x_end x_begin x_begin x_wants), ((bd 13), .inl (y 0, 11, .inl x_says)), ((bd 14), .inl (y 0, 11, .inl x_draft)), ((bd 21), .inl (y 1, 400, .inl x_tape))]) (fun _ => rfl) (va_runV (As := [.int 0, .int 1]) (rest := []) ⟨hx, hb, hml, hown, hts⟩ (c_Model_throwsIf l D y bd H.size x_thrown x_men x_ships x_entries x_rules x_calls x_gangs x_idle x_moved x_paid x_taped x_at x_end x_begin x_begin x_wants 0 1 hw) (cwV 2 hts gX9_agree_X9_throwsIf rfl rfl rfl (by decide +kernel) ⟨Nat.le_of_ble_eq_true rfl, Nat.le_of_ble_eq_true rfl⟩) ⟨mPre.blind, (va_recv hK hP (ci := 11) (q0 := 0) rfl rfl), mPre.to (hP.sub [0] rfl) hK (hD.sub [0] (by decide) rfl) hE⟩ rfl rfl hl.1 rfl (lv_room (Nat.le_of_ble_eq_true rfl)) dX9_agree_155 ⟨Nat.le_of_ble_eq_true rfl, Nat.le_of_ble_eq_true rfl⟩) (fun r_9 u H locs hw hP hD hS => ?_)
            obtain ⟨x_thrown_10, rfl⟩ : ∃ z, z = u := ⟨_, rfl⟩
            try dsimp only at hw
            have hP : va_P D vwCl [(ce_xm bd x_thrown_10 x_men x_ships x_entries x_rules x_calls x_gangs x_idle x_moved x_paid x_taped x_at x_end x_begin x_begin x_wants), ((bd 13), .inl (y 0, 11, .inl x_says)), ((bd 14), .inl (y 0, 11, .inl x_draft)), ((bd 21), .inl (y 1, 400, .inl x_tape))] H := hP
            have hD : va_D A [(ce_xm bd x_thrown_10 x_men x_ships x_entries x_rules x_calls x_gangs x_idle x_moved x_paid x_taped x_at x_end x_begin x_begin x_wants), ((bd 13), .inl (y 0, 11, .inl x_says)), ((bd 14), .inl (y 0, 11, .inl x_draft)), ((bd 21), .inl (y 1, 400, .inl x_tape))] := hD
            refine lv_if_eq (tgt := 163) hx hb dX9_agree_158 (by decide) (fun hc => ?_) (fun hc => ?_)
            · have hw := hw.1 hc
              refine lv_iconst (v := 0) hx hb dX9_agree_163 (by decide) ?_
              refine lv_istore (lv' := [(4, .int 0), (3, .int v3), (2, .int v2), (1, .int v1), (0, .ref (bd 0))]) hx hb dX9_agree_164 hl (by decide) rfl (fun ls hl => ?_)
              obtain ⟨n', hw⟩ := hw
              exact c_Model_agree_h166 hx hb hr hml hown hts hlocks hK hE hA hH  n' 0 x_says hw _ _ _ hP hD hS (lv_sub hl [0, 1, 2, 3, 4] rfl)
            · have hw := hw.2 hc
              refine lv_iconst (v := 0) hx hb dX9_agree_161 (by decide) ?_
              exact W.iret (v := 0) hx hb hr (fun t ht hW => ⟨⟨0, (x_thrown_10, x_taped, x_at, x_end, x_begin, x_begin, x_says, x_draft), rfl, hw, mAt.to hP hK hD ht hW⟩, hS.F ht⟩) hS.2.2 dX9_agree_162
          · have hw := hw.1 hc
            refine lv_iconst (v := 1) hx hb dX9_agree_149 (by decide) ?_
            refine lv_goto (tgt := 154) hx hb dX9_agree_150 (by decide) ?_
            refine lv_iconst (v := 1) hx hb dX9_agree_154 (by decide) ?_
            refine mx_i (wc := [(ce_xm bd x_thrown x_men x_ships x_entries x_rules x_calls x_gangs x_idle x_moved x_paid x_taped x_at x_end x_begin x_begin x_wants)]) (wr := [((bd 13), .inl (y 0, 11, .inl x_says)), ((bd 14), .inl (y 0, 11, .inl x_draft)), ((bd 21), .inl (y 1, 400, .inl x_tape))]) hP hD hS hA [0] [1, 2, 3] [3, 0, 1, 2] rfl rfl (by decide) (by decide) (by decide) (fun (u : Int32) => [(ce_xm bd u x_men x_ships x_entries x_rules x_calls x_gangs x_idle x_moved x_paid x_taped x_at x_end x_begin x_begin x_wants), ((bd 13), .inl (y 0, 11, .inl x_says)), ((bd 14), .inl (y 0, 11, .inl x_draft)), ((bd 21), .inl (y 1, 400, .inl x_tape))]) (fun _ => rfl) (va_runV (As := [.int 1, .int 1]) (rest := []) ⟨hx, hb, hml, hown, hts⟩ (c_Model_throwsIf l D y bd H.size x_thrown x_men x_ships x_entries x_rules x_calls x_gangs x_idle x_moved x_paid x_taped x_at x_end x_begin x_begin x_wants 1 1 hw) (cwV 2 hts gX9_agree_X9_throwsIf rfl rfl rfl (by decide +kernel) ⟨Nat.le_of_ble_eq_true rfl, Nat.le_of_ble_eq_true rfl⟩) ⟨mPre.blind, (va_recv hK hP (ci := 11) (q0 := 0) rfl rfl), mPre.to (hP.sub [0] rfl) hK (hD.sub [0] (by decide) rfl) hE⟩ rfl rfl hl.1 rfl (lv_room (Nat.le_of_ble_eq_true rfl)) dX9_agree_155 ⟨Nat.le_of_ble_eq_true rfl, Nat.le_of_ble_eq_true rfl⟩) (fun r_11 u H locs hw hP hD hS => ?_)
            obtain ⟨x_thrown_12, rfl⟩ : ∃ z, z = u := ⟨_, rfl⟩
            try dsimp only at hw
            have hP : va_P D vwCl [(ce_xm bd x_thrown_12 x_men x_ships x_entries x_rules x_calls x_gangs x_idle x_moved x_paid x_taped x_at x_end x_begin x_begin x_wants), ((bd 13), .inl (y 0, 11, .inl x_says)), ((bd 14), .inl (y 0, 11, .inl x_draft)), ((bd 21), .inl (y 1, 400, .inl x_tape))] H := hP
            have hD : va_D A [(ce_xm bd x_thrown_12 x_men x_ships x_entries x_rules x_calls x_gangs x_idle x_moved x_paid x_taped x_at x_end x_begin x_begin x_wants), ((bd 13), .inl (y 0, 11, .inl x_says)), ((bd 14), .inl (y 0, 11, .inl x_draft)), ((bd 21), .inl (y 1, 400, .inl x_tape))] := hD
            refine lv_if_eq (tgt := 163) hx hb dX9_agree_158 (by decide) (fun hc => ?_) (fun hc => ?_)
            · have hw := hw.1 hc
              refine lv_iconst (v := 0) hx hb dX9_agree_163 (by decide) ?_
              refine lv_istore (lv' := [(4, .int 0), (3, .int v3), (2, .int v2), (1, .int v1), (0, .ref (bd 0))]) hx hb dX9_agree_164 hl (by decide) rfl (fun ls hl => ?_)
              obtain ⟨n', hw⟩ := hw
              exact c_Model_agree_h166 hx hb hr hml hown hts hlocks hK hE hA hH  n' 0 x_says hw _ _ _ hP hD hS (lv_sub hl [0, 1, 2, 3, 4] rfl)
            · have hw := hw.2 hc
              refine lv_iconst (v := 0) hx hb dX9_agree_161 (by decide) ?_
              exact W.iret (v := 0) hx hb hr (fun t ht hW => ⟨⟨0, (x_thrown_12, x_taped, x_at, x_end, x_begin, x_begin, x_says, x_draft), rfl, hw, mAt.to hP hK hD ht hW⟩, hS.F ht⟩) hS.2.2 dX9_agree_162
        · have hw := hw.2 hc
          refine lv_iconst (v := (-1)) hx hb dX9_agree_133 (by decide) ?_
          refine lv_goto (tgt := 141) hx hb dX9_agree_134 (by decide) ?_
          refine va_put (ci := 11) (v := .int (-1)) (ty := .int) (C := RX9) (T := TX9) (N := 47) hx hb hts inw_X9_agree_X9 tyX9 tyX9_ok nmX9 hown hK hP hD hS 0 rfl rfl 36 (by decide) (hts (.fieldLink RX9 78 "DockCallModel" "faultAt" "I") (by decide +kernel)) (fun _ h9 => h9) rfl (by decide +kernel) rfl rfl (Nat.le_of_ble_eq_true rfl) dX9_agree_141 (fun H locs hP hD hS => ?_)
          have hP : va_P D vwCl [(ce_xm bd x_thrown x_men x_ships x_entries x_rules x_calls x_gangs x_idle x_moved x_paid x_taped x_at x_end x_begin (-1) x_wants), ((bd 13), .inl (y 0, 11, .inl x_says)), ((bd 14), .inl (y 0, 11, .inl x_draft)), ((bd 21), .inl (y 1, 400, .inl x_tape))] H := hP
          have hD : va_D A [(ce_xm bd x_thrown x_men x_ships x_entries x_rules x_calls x_gangs x_idle x_moved x_paid x_taped x_at x_end x_begin (-1) x_wants), ((bd 13), .inl (y 0, 11, .inl x_says)), ((bd 14), .inl (y 0, 11, .inl x_draft)), ((bd 21), .inl (y 1, 400, .inl x_tape))] := hD
          refine lv_aload_n hx hb dX9_agree_144 rfl (lv_at hl 3 rfl) ?_
          refine lv_iload_n hx hb dX9_agree_145 rfl (lv_at hl 1 rfl) ?_
          refine lv_if_ne (tgt := 153) hx hb dX9_agree_146 (by decide) (fun hc => ?_) (fun hc => ?_)
          · have hw := hw.2 hc
            refine lv_iconst (v := 0) hx hb dX9_agree_153 (by decide) ?_
            refine lv_iconst (v := 1) hx hb dX9_agree_154 (by decide) ?_
            refine mx_i (wc := [(ce_xm bd x_thrown x_men x_ships x_entries x_rules x_calls x_gangs x_idle x_moved x_paid x_taped x_at x_end x_begin (-1) x_wants)]) (wr := [((bd 13), .inl (y 0, 11, .inl x_says)), ((bd 14), .inl (y 0, 11, .inl x_draft)), ((bd 21), .inl (y 1, 400, .inl x_tape))]) hP hD hS hA [0] [1, 2, 3] [3, 0, 1, 2] rfl rfl (by decide) (by decide) (by decide) (fun (u : Int32) => [(ce_xm bd u x_men x_ships x_entries x_rules x_calls x_gangs x_idle x_moved x_paid x_taped x_at x_end x_begin (-1) x_wants), ((bd 13), .inl (y 0, 11, .inl x_says)), ((bd 14), .inl (y 0, 11, .inl x_draft)), ((bd 21), .inl (y 1, 400, .inl x_tape))]) (fun _ => rfl) (va_runV (As := [.int 0, .int 1]) (rest := []) ⟨hx, hb, hml, hown, hts⟩ (c_Model_throwsIf l D y bd H.size x_thrown x_men x_ships x_entries x_rules x_calls x_gangs x_idle x_moved x_paid x_taped x_at x_end x_begin (-1) x_wants 0 1 hw) (cwV 2 hts gX9_agree_X9_throwsIf rfl rfl rfl (by decide +kernel) ⟨Nat.le_of_ble_eq_true rfl, Nat.le_of_ble_eq_true rfl⟩) ⟨mPre.blind, (va_recv hK hP (ci := 11) (q0 := 0) rfl rfl), mPre.to (hP.sub [0] rfl) hK (hD.sub [0] (by decide) rfl) hE⟩ rfl rfl hl.1 rfl (lv_room (Nat.le_of_ble_eq_true rfl)) dX9_agree_155 ⟨Nat.le_of_ble_eq_true rfl, Nat.le_of_ble_eq_true rfl⟩) (fun r_13 u H locs hw hP hD hS => ?_)
            obtain ⟨x_thrown_14, rfl⟩ : ∃ z, z = u := ⟨_, rfl⟩
            try dsimp only at hw
            have hP : va_P D vwCl [(ce_xm bd x_thrown_14 x_men x_ships x_entries x_rules x_calls x_gangs x_idle x_moved x_paid x_taped x_at x_end x_begin (-1) x_wants), ((bd 13), .inl (y 0, 11, .inl x_says)), ((bd 14), .inl (y 0, 11, .inl x_draft)), ((bd 21), .inl (y 1, 400, .inl x_tape))] H := hP
            have hD : va_D A [(ce_xm bd x_thrown_14 x_men x_ships x_entries x_rules x_calls x_gangs x_idle x_moved x_paid x_taped x_at x_end x_begin (-1) x_wants), ((bd 13), .inl (y 0, 11, .inl x_says)), ((bd 14), .inl (y 0, 11, .inl x_draft)), ((bd 21), .inl (y 1, 400, .inl x_tape))] := hD
            refine lv_if_eq (tgt := 163) hx hb dX9_agree_158 (by decide) (fun hc => ?_) (fun hc => ?_)
            · have hw := hw.1 hc
              refine lv_iconst (v := 0) hx hb dX9_agree_163 (by decide) ?_
              refine lv_istore (lv' := [(4, .int 0), (3, .int v3), (2, .int v2), (1, .int v1), (0, .ref (bd 0))]) hx hb dX9_agree_164 hl (by decide) rfl (fun ls hl => ?_)
              obtain ⟨n', hw⟩ := hw
              exact c_Model_agree_h166 hx hb hr hml hown hts hlocks hK hE hA hH  n' 0 x_says hw _ _ _ hP hD hS (lv_sub hl [0, 1, 2, 3, 4] rfl)
            · have hw := hw.2 hc
              refine lv_iconst (v := 0) hx hb dX9_agree_161 (by decide) ?_
              exact W.iret (v := 0) hx hb hr (fun t ht hW => ⟨⟨0, (x_thrown_14, x_taped, x_at, x_end, x_begin, (-1), x_says, x_draft), rfl, hw, mAt.to hP hK hD ht hW⟩, hS.F ht⟩) hS.2.2 dX9_agree_162
          · have hw := hw.1 hc
            refine lv_iconst (v := 1) hx hb dX9_agree_149 (by decide) ?_
            refine lv_goto (tgt := 154) hx hb dX9_agree_150 (by decide) ?_
            refine lv_iconst (v := 1) hx hb dX9_agree_154 (by decide) ?_
            refine mx_i (wc := [(ce_xm bd x_thrown x_men x_ships x_entries x_rules x_calls x_gangs x_idle x_moved x_paid x_taped x_at x_end x_begin (-1) x_wants)]) (wr := [((bd 13), .inl (y 0, 11, .inl x_says)), ((bd 14), .inl (y 0, 11, .inl x_draft)), ((bd 21), .inl (y 1, 400, .inl x_tape))]) hP hD hS hA [0] [1, 2, 3] [3, 0, 1, 2] rfl rfl (by decide) (by decide) (by decide) (fun (u : Int32) => [(ce_xm bd u x_men x_ships x_entries x_rules x_calls x_gangs x_idle x_moved x_paid x_taped x_at x_end x_begin (-1) x_wants), ((bd 13), .inl (y 0, 11, .inl x_says)), ((bd 14), .inl (y 0, 11, .inl x_draft)), ((bd 21), .inl (y 1, 400, .inl x_tape))]) (fun _ => rfl) (va_runV (As := [.int 1, .int 1]) (rest := []) ⟨hx, hb, hml, hown, hts⟩ (c_Model_throwsIf l D y bd H.size x_thrown x_men x_ships x_entries x_rules x_calls x_gangs x_idle x_moved x_paid x_taped x_at x_end x_begin (-1) x_wants 1 1 hw) (cwV 2 hts gX9_agree_X9_throwsIf rfl rfl rfl (by decide +kernel) ⟨Nat.le_of_ble_eq_true rfl, Nat.le_of_ble_eq_true rfl⟩) ⟨mPre.blind, (va_recv hK hP (ci := 11) (q0 := 0) rfl rfl), mPre.to (hP.sub [0] rfl) hK (hD.sub [0] (by decide) rfl) hE⟩ rfl rfl hl.1 rfl (lv_room (Nat.le_of_ble_eq_true rfl)) dX9_agree_155 ⟨Nat.le_of_ble_eq_true rfl, Nat.le_of_ble_eq_true rfl⟩) (fun r_15 u H locs hw hP hD hS => ?_)
            obtain ⟨x_thrown_16, rfl⟩ : ∃ z, z = u := ⟨_, rfl⟩
            try dsimp only at hw
            have hP : va_P D vwCl [(ce_xm bd x_thrown_16 x_men x_ships x_entries x_rules x_calls x_gangs x_idle x_moved x_paid x_taped x_at x_end x_begin (-1) x_wants), ((bd 13), .inl (y 0, 11, .inl x_says)), ((bd 14), .inl (y 0, 11, .inl x_draft)), ((bd 21), .inl (y 1, 400, .inl x_tape))] H := hP
            have hD : va_D A [(ce_xm bd x_thrown_16 x_men x_ships x_entries x_rules x_calls x_gangs x_idle x_moved x_paid x_taped x_at x_end x_begin (-1) x_wants), ((bd 13), .inl (y 0, 11, .inl x_says)), ((bd 14), .inl (y 0, 11, .inl x_draft)), ((bd 21), .inl (y 1, 400, .inl x_tape))] := hD
            refine lv_if_eq (tgt := 163) hx hb dX9_agree_158 (by decide) (fun hc => ?_) (fun hc => ?_)
            · have hw := hw.1 hc
              refine lv_iconst (v := 0) hx hb dX9_agree_163 (by decide) ?_
              refine lv_istore (lv' := [(4, .int 0), (3, .int v3), (2, .int v2), (1, .int v1), (0, .ref (bd 0))]) hx hb dX9_agree_164 hl (by decide) rfl (fun ls hl => ?_)
              obtain ⟨n', hw⟩ := hw
              exact c_Model_agree_h166 hx hb hr hml hown hts hlocks hK hE hA hH  n' 0 x_says hw _ _ _ hP hD hS (lv_sub hl [0, 1, 2, 3, 4] rfl)
            · have hw := hw.2 hc
              refine lv_iconst (v := 0) hx hb dX9_agree_161 (by decide) ?_
              exact W.iret (v := 0) hx hb hr (fun t ht hW => ⟨⟨0, (x_thrown_16, x_taped, x_at, x_end, x_begin, (-1), x_says, x_draft), rfl, hw, mAt.to hP hK hD ht hW⟩, hS.F ht⟩) hS.2.2 dX9_agree_162
      · have hw := hw.2 hc
        refine lv_aload_n hx hb dX9_agree_63 rfl (lv_at hl 3 rfl) ?_
        refine mx_i (wc := [(ce_xm bd x_thrown x_men x_ships x_entries x_rules x_calls x_gangs x_idle x_moved x_paid x_taped x_at x_end x_begin x_faultAt x_wants), ((bd 14), .inl (y 0, 11, .inl x_draft)), ((bd 21), .inl (y 1, 400, .inl x_tape))]) (wr := [((bd 13), .inl (y 0, 11, .inl x_says))]) hP hD hS hA [0, 2, 3] [1] [1, 0, 2, 3] rfl rfl (by decide) (by decide) (by decide) (fun (u : Int32 × Int32 × (Nat → Int32)) => [(ce_xm bd x_thrown x_men x_ships x_entries x_rules x_calls x_gangs x_idle x_moved x_paid x_taped u.1 x_end u.2.1 x_faultAt x_wants), ((bd 13), .inl (y 0, 11, .inl x_says)), ((bd 14), .inl (y 0, 11, .inl u.2.2)), ((bd 21), .inl (y 1, 400, .inl x_tape))]) (fun _ => rfl) (va_runV (As := []) (rest := []) ⟨hx, hb, hml, hown, hts⟩ (c_Model_readClause l D y E bd H.size x_thrown x_men x_ships x_entries x_rules x_calls x_gangs x_idle x_moved x_paid x_taped x_at x_end x_begin x_faultAt x_wants x_draft x_tape hw) (cwV 0 hts gX9_agree_X9_readClause rfl rfl rfl (by decide +kernel) ⟨Nat.le_of_ble_eq_true rfl, Nat.le_of_ble_eq_true rfl⟩) ⟨nPre.blind, (va_recv hK hP (ci := 11) (q0 := 0) rfl rfl), nPre.to (hP.sub [0, 2, 3] rfl) hK (hD.sub [0, 2, 3] (by decide) rfl) hE hH hS (va_free (wc := [(ce_xm bd x_thrown x_men x_ships x_entries x_rules x_calls x_gangs x_idle x_moved x_paid x_taped x_at x_end x_begin x_faultAt x_wants), ((bd 14), .inl (y 0, 11, .inl x_draft)), ((bd 21), .inl (y 1, 400, .inl x_tape))]) hD hS hA [0, 2, 3] rfl)⟩ rfl rfl hl.1 rfl (lv_room (Nat.le_of_ble_eq_true rfl)) dX9_agree_64 ⟨Nat.le_of_ble_eq_true rfl, Nat.le_of_ble_eq_true rfl⟩) (fun r_17 u H locs hw hP hD hS => ?_)
        obtain ⟨x_at_18, x_begin_19, x_draft_20⟩ := u
        try dsimp only at hw
        have hP : va_P D vwCl [(ce_xm bd x_thrown x_men x_ships x_entries x_rules x_calls x_gangs x_idle x_moved x_paid x_taped x_at_18 x_end x_begin_19 x_faultAt x_wants), ((bd 13), .inl (y 0, 11, .inl x_says)), ((bd 14), .inl (y 0, 11, .inl x_draft_20)), ((bd 21), .inl (y 1, 400, .inl x_tape))] H := hP
        have hD : va_D A [(ce_xm bd x_thrown x_men x_ships x_entries x_rules x_calls x_gangs x_idle x_moved x_paid x_taped x_at_18 x_end x_begin_19 x_faultAt x_wants), ((bd 13), .inl (y 0, 11, .inl x_says)), ((bd 14), .inl (y 0, 11, .inl x_draft_20)), ((bd 21), .inl (y 1, 400, .inl x_tape))] := hD
        refine lv_istore_n (lv' := [(2, .int r_17), (3, .int v3), (1, .int v1), (0, .ref (bd 0))]) hx hb dX9_agree_67 rfl hl (by decide) rfl (fun ls hl => ?_)
        refine lv_iload_n hx hb dX9_agree_68 rfl (lv_at hl 0 rfl) ?_
        refine lv_if_ne (tgt := 75) hx hb dX9_agree_69 (by decide) (fun hc => ?_) (fun hc => ?_)
        · have hw := hw.2 hc
          refine lv_iinc (v := v1 + 1) (lv' := [(1, .int (v1 + 1)), (2, .int r_17), (3, .int v3), (0, .ref (bd 0))]) hx hb dX9_agree_75 hl (k := 2) rfl (by first | rfl | decide) (by decide) rfl (fun ls hl => ?_)
          refine lv_aload_n hx hb dX9_agree_78 rfl (lv_at hl 3 rfl) ?_
          refine mx_v (wc := [(ce_xm bd x_thrown x_men x_ships x_entries x_rules x_calls x_gangs x_idle x_moved x_paid x_taped x_at_18 x_end x_begin_19 x_faultAt x_wants), ((bd 21), .inl (y 1, 400, .inl x_tape))]) (wr := [((bd 13), .inl (y 0, 11, .inl x_says)), ((bd 14), .inl (y 0, 11, .inl x_draft_20))]) hP hD hS hA [0, 3] [1, 2] [2, 0, 1, 3] rfl rfl (by decide) (by decide) (by decide) (fun (u : Int32 × Int32) => [(ce_xm bd x_thrown x_men x_ships x_entries x_rules x_calls x_gangs x_idle x_moved x_paid x_taped u.1 x_end u.2 x_faultAt x_wants), ((bd 13), .inl (y 0, 11, .inl x_says)), ((bd 14), .inl (y 0, 11, .inl x_draft_20)), ((bd 21), .inl (y 1, 400, .inl x_tape))]) (fun _ => rfl) (va_runV (As := []) (rest := []) ⟨hx, hb, hml, hown, hts⟩ (c_Model_blanks l D y bd H.size x_thrown x_men x_ships x_entries x_rules x_calls x_gangs x_idle x_moved x_paid x_taped x_at_18 x_end x_begin_19 x_faultAt x_wants x_tape hw) (cwV 0 hts gX9_agree_X9_blanks rfl rfl rfl (by decide +kernel) ⟨Nat.le_of_ble_eq_true rfl, Nat.le_of_ble_eq_true rfl⟩) ⟨mPre.blind, (va_recv hK hP (ci := 11) (q0 := 0) rfl rfl), mPre.to (hP.sub [0, 3] rfl) hK (hD.sub [0, 3] (by decide) rfl) hE⟩ rfl rfl hl.1 rfl (lv_room (Nat.le_of_ble_eq_true rfl)) dX9_agree_79 ⟨Nat.le_of_ble_eq_true rfl, Nat.le_of_ble_eq_true rfl⟩) (fun u H locs hw hP hD hS => ?_)
          obtain ⟨x_at_21, x_begin_22⟩ := u
          try dsimp only at hw
          have hP : va_P D vwCl [(ce_xm bd x_thrown x_men x_ships x_entries x_rules x_calls x_gangs x_idle x_moved x_paid x_taped x_at_21 x_end x_begin_22 x_faultAt x_wants), ((bd 13), .inl (y 0, 11, .inl x_says)), ((bd 14), .inl (y 0, 11, .inl x_draft_20)), ((bd 21), .inl (y 1, 400, .inl x_tape))] H := hP
          have hD : va_D A [(ce_xm bd x_thrown x_men x_ships x_entries x_rules x_calls x_gangs x_idle x_moved x_paid x_taped x_at_21 x_end x_begin_22 x_faultAt x_wants), ((bd 13), .inl (y 0, 11, .inl x_says)), ((bd 14), .inl (y 0, 11, .inl x_draft_20)), ((bd 21), .inl (y 1, 400, .inl x_tape))] := hD
          refine lv_aload_n hx hb dX9_agree_82 rfl (lv_at hl 3 rfl) ?_
          refine lv_bipush (v := 59) hx hb dX9_agree_83 (by decide) ?_
          refine lv_bipush (v := 59) hx hb dX9_agree_85 (by decide) ?_
          refine mx_i (wc := [(ce_xm bd x_thrown x_men x_ships x_entries x_rules x_calls x_gangs x_idle x_moved x_paid x_taped x_at_21 x_end x_begin_22 x_faultAt x_wants), ((bd 21), .inl (y 1, 400, .inl x_tape))]) (wr := [((bd 13), .inl (y 0, 11, .inl x_says)), ((bd 14), .inl (y 0, 11, .inl x_draft_20))]) hP hD hS hA [0, 3] [1, 2] [2, 0, 1, 3] rfl rfl (by decide) (by decide) (by decide) (fun (u : Unit) => [(ce_xm bd x_thrown x_men x_ships x_entries x_rules x_calls x_gangs x_idle x_moved x_paid x_taped x_at_21 x_end x_begin_22 x_faultAt x_wants), ((bd 13), .inl (y 0, 11, .inl x_says)), ((bd 14), .inl (y 0, 11, .inl x_draft_20)), ((bd 21), .inl (y 1, 400, .inl x_tape))]) (fun _ => rfl) (va_runV (As := [.int 59, .int 59]) (rest := []) ⟨hx, hb, hml, hown, hts⟩ (c_Model_isAt l D y bd H.size x_thrown x_men x_ships x_entries x_rules x_calls x_gangs x_idle x_moved x_paid x_taped x_at_21 x_end x_begin_22 x_faultAt x_wants x_tape 59 59 hw) (cwV 2 hts gX9_agree_X9_isAt rfl rfl rfl (by decide +kernel) ⟨Nat.le_of_ble_eq_true rfl, Nat.le_of_ble_eq_true rfl⟩) ⟨mPre.blind, (va_recv hK hP (ci := 11) (q0 := 0) rfl rfl), mPre.to (hP.sub [0, 3] rfl) hK (hD.sub [0, 3] (by decide) rfl) hE⟩ rfl rfl hl.1 rfl (lv_room (Nat.le_of_ble_eq_true rfl)) dX9_agree_87 ⟨Nat.le_of_ble_eq_true rfl, Nat.le_of_ble_eq_true rfl⟩) (fun r_23 u H locs hw hP hD hS => ?_)
          try dsimp only at hw
          have hP : va_P D vwCl [(ce_xm bd x_thrown x_men x_ships x_entries x_rules x_calls x_gangs x_idle x_moved x_paid x_taped x_at_21 x_end x_begin_22 x_faultAt x_wants), ((bd 13), .inl (y 0, 11, .inl x_says)), ((bd 14), .inl (y 0, 11, .inl x_draft_20)), ((bd 21), .inl (y 1, 400, .inl x_tape))] H := hP
          have hD : va_D A [(ce_xm bd x_thrown x_men x_ships x_entries x_rules x_calls x_gangs x_idle x_moved x_paid x_taped x_at_21 x_end x_begin_22 x_faultAt x_wants), ((bd 13), .inl (y 0, 11, .inl x_says)), ((bd 14), .inl (y 0, 11, .inl x_draft_20)), ((bd 21), .inl (y 1, 400, .inl x_tape))] := hD
          refine lv_istore_n (lv' := [(3, .int r_23), (1, .int (v1 + 1)), (2, .int r_17), (0, .ref (bd 0))]) hx hb dX9_agree_90 rfl hl (by decide) rfl (fun ls hl => ?_)
          refine lv_iload_n hx hb dX9_agree_91 rfl (lv_at hl 0 rfl) ?_
          refine lv_if_eq (tgt := 108) hx hb dX9_agree_92 (by decide) (fun hc => ?_) (fun hc => ?_)
          · have hw := hw.1 hc
            refine lv_aload_n hx hb dX9_agree_108 rfl (lv_at hl 3 rfl) ?_
            refine va_get (ci := 11) (v := .int x_at_21) (C := RX9) (T := TX9) (N := 47) hx hb hts inw_X9_agree_X9 hown hK hP 0 rfl rfl 33 (by decide) (hts (.fieldLink RX9 142 "DockCallModel" "at" "I") (by decide +kernel)) (fun _ h9 => h9) rfl dX9_agree_109 ?_
            refine lv_aload_n hx hb dX9_agree_112 rfl (lv_at hl 3 rfl) ?_
            refine va_get (ci := 11) (v := .int x_end) (C := RX9) (T := TX9) (N := 47) hx hb hts inw_X9_agree_X9 hown hK hP 0 rfl rfl 34 (by decide) (hts (.fieldLink RX9 145 "DockCallModel" "end" "I") (by decide +kernel)) (fun _ h9 => h9) rfl dX9_agree_113 ?_
            refine lv_icmp_ne (tgt := 123) hx hb dX9_agree_116 (by decide) (fun hc => ?_) (fun hc => ?_)
            · have hw := hw.2 hc
              refine lv_iconst (v := 0) hx hb dX9_agree_123 (by decide) ?_
              refine lv_istore_n (lv' := [(2, .int 0), (3, .int r_23), (1, .int (v1 + 1)), (0, .ref (bd 0))]) hx hb dX9_agree_124 rfl hl (by decide) rfl (fun ls hl => ?_)
              refine lv_goto (tgt := 55) hx hb dX9_agree_125 (by decide) ?_
              exact ih (v1 + 1) 0 r_23 x_at_21 x_begin_22 x_draft_20 hw _ _ _ hP hD hS (lv_sub hl [1, 0, 2, 3] rfl)
            · have hw := hw.1 hc
              refine lv_iconst (v := 1) hx hb dX9_agree_119 (by decide) ?_
              refine lv_goto (tgt := 124) hx hb dX9_agree_120 (by decide) ?_
              refine lv_istore_n (lv' := [(2, .int 1), (3, .int r_23), (1, .int (v1 + 1)), (0, .ref (bd 0))]) hx hb dX9_agree_124 rfl hl (by decide) rfl (fun ls hl => ?_)
              refine lv_goto (tgt := 55) hx hb dX9_agree_125 (by decide) ?_
              exact ih (v1 + 1) 1 r_23 x_at_21 x_begin_22 x_draft_20 hw _ _ _ hP hD hS (lv_sub hl [1, 0, 2, 3] rfl)
          · have hw := hw.2 hc
            refine lv_aload_n hx hb dX9_agree_95 rfl (lv_at hl 3 rfl) ?_
            refine lv_dup hx hb dX9_agree_96 rfl ?_
            refine va_get (ci := 11) (v := .int x_at_21) (C := RX9) (T := TX9) (N := 47) hx hb hts inw_X9_agree_X9 hown hK hP 0 rfl rfl 33 (by decide) (hts (.fieldLink RX9 142 "DockCallModel" "at" "I") (by decide +kernel)) (fun _ h9 => h9) rfl dX9_agree_97 ?_
            refine lv_iconst (v := 1) hx hb dX9_agree_100 (by decide) ?_
            refine lv_iadd hx hb dX9_agree_101 ?_
            refine va_put (ci := 11) (v := .int (x_at_21 + 1)) (ty := .int) (C := RX9) (T := TX9) (N := 47) hx hb hts inw_X9_agree_X9 tyX9 tyX9_ok nmX9 hown hK hP hD hS 0 rfl rfl 33 (by decide) (hts (.fieldLink RX9 142 "DockCallModel" "at" "I") (by decide +kernel)) (fun _ h9 => h9) rfl (by decide +kernel) rfl rfl (Nat.le_of_ble_eq_true rfl) dX9_agree_102 (fun H locs hP hD hS => ?_)
            have hP : va_P D vwCl [(ce_xm bd x_thrown x_men x_ships x_entries x_rules x_calls x_gangs x_idle x_moved x_paid x_taped (x_at_21 + 1) x_end x_begin_22 x_faultAt x_wants), ((bd 13), .inl (y 0, 11, .inl x_says)), ((bd 14), .inl (y 0, 11, .inl x_draft_20)), ((bd 21), .inl (y 1, 400, .inl x_tape))] H := hP
            have hD : va_D A [(ce_xm bd x_thrown x_men x_ships x_entries x_rules x_calls x_gangs x_idle x_moved x_paid x_taped (x_at_21 + 1) x_end x_begin_22 x_faultAt x_wants), ((bd 13), .inl (y 0, 11, .inl x_says)), ((bd 14), .inl (y 0, 11, .inl x_draft_20)), ((bd 21), .inl (y 1, 400, .inl x_tape))] := hD
            refine lv_goto (tgt := 55) hx hb dX9_agree_105 (by decide) ?_
            exact ih (v1 + 1) r_17 r_23 (x_at_21 + 1) x_begin_22 x_draft_20 hw _ _ _ hP hD hS (lv_sub hl [0, 2, 1, 3] rfl)
        · have hw := hw.1 hc
          refine lv_goto (tgt := 128) hx hb dX9_agree_72 (by decide) ?_
          refine lv_aload_n hx hb dX9_agree_128 rfl (lv_at hl 3 rfl) ?_
          refine lv_iload_n hx hb dX9_agree_129 rfl (lv_at hl 0 rfl) ?_
          refine lv_if_eq (tgt := 137) hx hb dX9_agree_130 (by decide) (fun hc => ?_) (fun hc => ?_)
          · have hw := hw.1 hc
            refine lv_aload_n hx hb dX9_agree_137 rfl (lv_at hl 3 rfl) ?_
            refine va_get (ci := 11) (v := .int x_begin_19) (C := RX9) (T := TX9) (N := 47) hx hb hts inw_X9_agree_X9 hown hK hP 0 rfl rfl 35 (by decide) (hts (.fieldLink RX9 152 "DockCallModel" "begin" "I") (by decide +kernel)) (fun _ h9 => h9) rfl dX9_agree_138 ?_
            refine va_put (ci := 11) (v := .int x_begin_19) (ty := .int) (C := RX9) (T := TX9) (N := 47) hx hb hts inw_X9_agree_X9 tyX9 tyX9_ok nmX9 hown hK hP hD hS 0 rfl rfl 36 (by decide) (hts (.fieldLink RX9 78 "DockCallModel" "faultAt" "I") (by decide +kernel)) (fun _ h9 => h9) rfl (by decide +kernel) rfl rfl (Nat.le_of_ble_eq_true rfl) dX9_agree_141 (fun H locs hP hD hS => ?_)
            have hP : va_P D vwCl [(ce_xm bd x_thrown x_men x_ships x_entries x_rules x_calls x_gangs x_idle x_moved x_paid x_taped x_at_18 x_end x_begin_19 x_begin_19 x_wants), ((bd 13), .inl (y 0, 11, .inl x_says)), ((bd 14), .inl (y 0, 11, .inl x_draft_20)), ((bd 21), .inl (y 1, 400, .inl x_tape))] H := hP
            have hD : va_D A [(ce_xm bd x_thrown x_men x_ships x_entries x_rules x_calls x_gangs x_idle x_moved x_paid x_taped x_at_18 x_end x_begin_19 x_begin_19 x_wants), ((bd 13), .inl (y 0, 11, .inl x_says)), ((bd 14), .inl (y 0, 11, .inl x_draft_20)), ((bd 21), .inl (y 1, 400, .inl x_tape))] := hD
            refine lv_aload_n hx hb dX9_agree_144 rfl (lv_at hl 3 rfl) ?_
            refine lv_iload_n hx hb dX9_agree_145 rfl (lv_at hl 0 rfl) ?_
            refine lv_if_ne (tgt := 153) hx hb dX9_agree_146 (by decide) (fun hc => ?_) (fun hc => ?_)
            · have hw := hw.2 hc
              refine lv_iconst (v := 0) hx hb dX9_agree_153 (by decide) ?_
              refine lv_iconst (v := 1) hx hb dX9_agree_154 (by decide) ?_
              refine mx_i (wc := [(ce_xm bd x_thrown x_men x_ships x_entries x_rules x_calls x_gangs x_idle x_moved x_paid x_taped x_at_18 x_end x_begin_19 x_begin_19 x_wants)]) (wr := [((bd 13), .inl (y 0, 11, .inl x_says)), ((bd 14), .inl (y 0, 11, .inl x_draft_20)), ((bd 21), .inl (y 1, 400, .inl x_tape))]) hP hD hS hA [0] [1, 2, 3] [3, 0, 1, 2] rfl rfl (by decide) (by decide) (by decide) (fun (u : Int32) => [(ce_xm bd u x_men x_ships x_entries x_rules x_calls x_gangs x_idle x_moved x_paid x_taped x_at_18 x_end x_begin_19 x_begin_19 x_wants), ((bd 13), .inl (y 0, 11, .inl x_says)), ((bd 14), .inl (y 0, 11, .inl x_draft_20)), ((bd 21), .inl (y 1, 400, .inl x_tape))]) (fun _ => rfl) (va_runV (As := [.int 0, .int 1]) (rest := []) ⟨hx, hb, hml, hown, hts⟩ (c_Model_throwsIf l D y bd H.size x_thrown x_men x_ships x_entries x_rules x_calls x_gangs x_idle x_moved x_paid x_taped x_at_18 x_end x_begin_19 x_begin_19 x_wants 0 1 hw) (cwV 2 hts gX9_agree_X9_throwsIf rfl rfl rfl (by decide +kernel) ⟨Nat.le_of_ble_eq_true rfl, Nat.le_of_ble_eq_true rfl⟩) ⟨mPre.blind, (va_recv hK hP (ci := 11) (q0 := 0) rfl rfl), mPre.to (hP.sub [0] rfl) hK (hD.sub [0] (by decide) rfl) hE⟩ rfl rfl hl.1 rfl (lv_room (Nat.le_of_ble_eq_true rfl)) dX9_agree_155 ⟨Nat.le_of_ble_eq_true rfl, Nat.le_of_ble_eq_true rfl⟩) (fun r_24 u H locs hw hP hD hS => ?_)
              obtain ⟨x_thrown_25, rfl⟩ : ∃ z, z = u := ⟨_, rfl⟩
              try dsimp only at hw
              have hP : va_P D vwCl [(ce_xm bd x_thrown_25 x_men x_ships x_entries x_rules x_calls x_gangs x_idle x_moved x_paid x_taped x_at_18 x_end x_begin_19 x_begin_19 x_wants), ((bd 13), .inl (y 0, 11, .inl x_says)), ((bd 14), .inl (y 0, 11, .inl x_draft_20)), ((bd 21), .inl (y 1, 400, .inl x_tape))] H := hP
              have hD : va_D A [(ce_xm bd x_thrown_25 x_men x_ships x_entries x_rules x_calls x_gangs x_idle x_moved x_paid x_taped x_at_18 x_end x_begin_19 x_begin_19 x_wants), ((bd 13), .inl (y 0, 11, .inl x_says)), ((bd 14), .inl (y 0, 11, .inl x_draft_20)), ((bd 21), .inl (y 1, 400, .inl x_tape))] := hD
              refine lv_if_eq (tgt := 163) hx hb dX9_agree_158 (by decide) (fun hc => ?_) (fun hc => ?_)
              · have hw := hw.1 hc
                refine lv_iconst (v := 0) hx hb dX9_agree_163 (by decide) ?_
                refine lv_istore (lv' := [(4, .int 0), (2, .int r_17), (3, .int v3), (1, .int v1), (0, .ref (bd 0))]) hx hb dX9_agree_164 hl (by decide) rfl (fun ls hl => ?_)
                obtain ⟨n', hw⟩ := hw
                exact c_Model_agree_h166 hx hb hr hml hown hts hlocks hK hE hA hH  n' 0 x_says hw _ _ _ hP hD hS (lv_sub hl [0, 2, 1, 3, 4] rfl)
              · have hw := hw.2 hc
                refine lv_iconst (v := 0) hx hb dX9_agree_161 (by decide) ?_
                exact W.iret (v := 0) hx hb hr (fun t ht hW => ⟨⟨0, (x_thrown_25, x_taped, x_at_18, x_end, x_begin_19, x_begin_19, x_says, x_draft_20), rfl, hw, mAt.to hP hK hD ht hW⟩, hS.F ht⟩) hS.2.2 dX9_agree_162
            · have hw := hw.1 hc
              refine lv_iconst (v := 1) hx hb dX9_agree_149 (by decide) ?_
              refine lv_goto (tgt := 154) hx hb dX9_agree_150 (by decide) ?_
              refine lv_iconst (v := 1) hx hb dX9_agree_154 (by decide) ?_
              refine mx_i (wc := [(ce_xm bd x_thrown x_men x_ships x_entries x_rules x_calls x_gangs x_idle x_moved x_paid x_taped x_at_18 x_end x_begin_19 x_begin_19 x_wants)]) (wr := [((bd 13), .inl (y 0, 11, .inl x_says)), ((bd 14), .inl (y 0, 11, .inl x_draft_20)), ((bd 21), .inl (y 1, 400, .inl x_tape))]) hP hD hS hA [0] [1, 2, 3] [3, 0, 1, 2] rfl rfl (by decide) (by decide) (by decide) (fun (u : Int32) => [(ce_xm bd u x_men x_ships x_entries x_rules x_calls x_gangs x_idle x_moved x_paid x_taped x_at_18 x_end x_begin_19 x_begin_19 x_wants), ((bd 13), .inl (y 0, 11, .inl x_says)), ((bd 14), .inl (y 0, 11, .inl x_draft_20)), ((bd 21), .inl (y 1, 400, .inl x_tape))]) (fun _ => rfl) (va_runV (As := [.int 1, .int 1]) (rest := []) ⟨hx, hb, hml, hown, hts⟩ (c_Model_throwsIf l D y bd H.size x_thrown x_men x_ships x_entries x_rules x_calls x_gangs x_idle x_moved x_paid x_taped x_at_18 x_end x_begin_19 x_begin_19 x_wants 1 1 hw) (cwV 2 hts gX9_agree_X9_throwsIf rfl rfl rfl (by decide +kernel) ⟨Nat.le_of_ble_eq_true rfl, Nat.le_of_ble_eq_true rfl⟩) ⟨mPre.blind, (va_recv hK hP (ci := 11) (q0 := 0) rfl rfl), mPre.to (hP.sub [0] rfl) hK (hD.sub [0] (by decide) rfl) hE⟩ rfl rfl hl.1 rfl (lv_room (Nat.le_of_ble_eq_true rfl)) dX9_agree_155 ⟨Nat.le_of_ble_eq_true rfl, Nat.le_of_ble_eq_true rfl⟩) (fun r_26 u H locs hw hP hD hS => ?_)
              obtain ⟨x_thrown_27, rfl⟩ : ∃ z, z = u := ⟨_, rfl⟩
              try dsimp only at hw
              have hP : va_P D vwCl [(ce_xm bd x_thrown_27 x_men x_ships x_entries x_rules x_calls x_gangs x_idle x_moved x_paid x_taped x_at_18 x_end x_begin_19 x_begin_19 x_wants), ((bd 13), .inl (y 0, 11, .inl x_says)), ((bd 14), .inl (y 0, 11, .inl x_draft_20)), ((bd 21), .inl (y 1, 400, .inl x_tape))] H := hP
              have hD : va_D A [(ce_xm bd x_thrown_27 x_men x_ships x_entries x_rules x_calls x_gangs x_idle x_moved x_paid x_taped x_at_18 x_end x_begin_19 x_begin_19 x_wants), ((bd 13), .inl (y 0, 11, .inl x_says)), ((bd 14), .inl (y 0, 11, .inl x_draft_20)), ((bd 21), .inl (y 1, 400, .inl x_tape))] := hD
              refine lv_if_eq (tgt := 163) hx hb dX9_agree_158 (by decide) (fun hc => ?_) (fun hc => ?_)
              · have hw := hw.1 hc
                refine lv_iconst (v := 0) hx hb dX9_agree_163 (by decide) ?_
                refine lv_istore (lv' := [(4, .int 0), (2, .int r_17), (3, .int v3), (1, .int v1), (0, .ref (bd 0))]) hx hb dX9_agree_164 hl (by decide) rfl (fun ls hl => ?_)
                obtain ⟨n', hw⟩ := hw
                exact c_Model_agree_h166 hx hb hr hml hown hts hlocks hK hE hA hH  n' 0 x_says hw _ _ _ hP hD hS (lv_sub hl [0, 2, 1, 3, 4] rfl)
              · have hw := hw.2 hc
                refine lv_iconst (v := 0) hx hb dX9_agree_161 (by decide) ?_
                exact W.iret (v := 0) hx hb hr (fun t ht hW => ⟨⟨0, (x_thrown_27, x_taped, x_at_18, x_end, x_begin_19, x_begin_19, x_says, x_draft_20), rfl, hw, mAt.to hP hK hD ht hW⟩, hS.F ht⟩) hS.2.2 dX9_agree_162
          · have hw := hw.2 hc
            refine lv_iconst (v := (-1)) hx hb dX9_agree_133 (by decide) ?_
            refine lv_goto (tgt := 141) hx hb dX9_agree_134 (by decide) ?_
            refine va_put (ci := 11) (v := .int (-1)) (ty := .int) (C := RX9) (T := TX9) (N := 47) hx hb hts inw_X9_agree_X9 tyX9 tyX9_ok nmX9 hown hK hP hD hS 0 rfl rfl 36 (by decide) (hts (.fieldLink RX9 78 "DockCallModel" "faultAt" "I") (by decide +kernel)) (fun _ h9 => h9) rfl (by decide +kernel) rfl rfl (Nat.le_of_ble_eq_true rfl) dX9_agree_141 (fun H locs hP hD hS => ?_)
            have hP : va_P D vwCl [(ce_xm bd x_thrown x_men x_ships x_entries x_rules x_calls x_gangs x_idle x_moved x_paid x_taped x_at_18 x_end x_begin_19 (-1) x_wants), ((bd 13), .inl (y 0, 11, .inl x_says)), ((bd 14), .inl (y 0, 11, .inl x_draft_20)), ((bd 21), .inl (y 1, 400, .inl x_tape))] H := hP
            have hD : va_D A [(ce_xm bd x_thrown x_men x_ships x_entries x_rules x_calls x_gangs x_idle x_moved x_paid x_taped x_at_18 x_end x_begin_19 (-1) x_wants), ((bd 13), .inl (y 0, 11, .inl x_says)), ((bd 14), .inl (y 0, 11, .inl x_draft_20)), ((bd 21), .inl (y 1, 400, .inl x_tape))] := hD
            refine lv_aload_n hx hb dX9_agree_144 rfl (lv_at hl 3 rfl) ?_
            refine lv_iload_n hx hb dX9_agree_145 rfl (lv_at hl 0 rfl) ?_
            refine lv_if_ne (tgt := 153) hx hb dX9_agree_146 (by decide) (fun hc => ?_) (fun hc => ?_)
            · have hw := hw.2 hc
              refine lv_iconst (v := 0) hx hb dX9_agree_153 (by decide) ?_
              refine lv_iconst (v := 1) hx hb dX9_agree_154 (by decide) ?_
              refine mx_i (wc := [(ce_xm bd x_thrown x_men x_ships x_entries x_rules x_calls x_gangs x_idle x_moved x_paid x_taped x_at_18 x_end x_begin_19 (-1) x_wants)]) (wr := [((bd 13), .inl (y 0, 11, .inl x_says)), ((bd 14), .inl (y 0, 11, .inl x_draft_20)), ((bd 21), .inl (y 1, 400, .inl x_tape))]) hP hD hS hA [0] [1, 2, 3] [3, 0, 1, 2] rfl rfl (by decide) (by decide) (by decide) (fun (u : Int32) => [(ce_xm bd u x_men x_ships x_entries x_rules x_calls x_gangs x_idle x_moved x_paid x_taped x_at_18 x_end x_begin_19 (-1) x_wants), ((bd 13), .inl (y 0, 11, .inl x_says)), ((bd 14), .inl (y 0, 11, .inl x_draft_20)), ((bd 21), .inl (y 1, 400, .inl x_tape))]) (fun _ => rfl) (va_runV (As := [.int 0, .int 1]) (rest := []) ⟨hx, hb, hml, hown, hts⟩ (c_Model_throwsIf l D y bd H.size x_thrown x_men x_ships x_entries x_rules x_calls x_gangs x_idle x_moved x_paid x_taped x_at_18 x_end x_begin_19 (-1) x_wants 0 1 hw) (cwV 2 hts gX9_agree_X9_throwsIf rfl rfl rfl (by decide +kernel) ⟨Nat.le_of_ble_eq_true rfl, Nat.le_of_ble_eq_true rfl⟩) ⟨mPre.blind, (va_recv hK hP (ci := 11) (q0 := 0) rfl rfl), mPre.to (hP.sub [0] rfl) hK (hD.sub [0] (by decide) rfl) hE⟩ rfl rfl hl.1 rfl (lv_room (Nat.le_of_ble_eq_true rfl)) dX9_agree_155 ⟨Nat.le_of_ble_eq_true rfl, Nat.le_of_ble_eq_true rfl⟩) (fun r_28 u H locs hw hP hD hS => ?_)
              obtain ⟨x_thrown_29, rfl⟩ : ∃ z, z = u := ⟨_, rfl⟩
              try dsimp only at hw
              have hP : va_P D vwCl [(ce_xm bd x_thrown_29 x_men x_ships x_entries x_rules x_calls x_gangs x_idle x_moved x_paid x_taped x_at_18 x_end x_begin_19 (-1) x_wants), ((bd 13), .inl (y 0, 11, .inl x_says)), ((bd 14), .inl (y 0, 11, .inl x_draft_20)), ((bd 21), .inl (y 1, 400, .inl x_tape))] H := hP
              have hD : va_D A [(ce_xm bd x_thrown_29 x_men x_ships x_entries x_rules x_calls x_gangs x_idle x_moved x_paid x_taped x_at_18 x_end x_begin_19 (-1) x_wants), ((bd 13), .inl (y 0, 11, .inl x_says)), ((bd 14), .inl (y 0, 11, .inl x_draft_20)), ((bd 21), .inl (y 1, 400, .inl x_tape))] := hD
              refine lv_if_eq (tgt := 163) hx hb dX9_agree_158 (by decide) (fun hc => ?_) (fun hc => ?_)
              · have hw := hw.1 hc
                refine lv_iconst (v := 0) hx hb dX9_agree_163 (by decide) ?_
                refine lv_istore (lv' := [(4, .int 0), (2, .int r_17), (3, .int v3), (1, .int v1), (0, .ref (bd 0))]) hx hb dX9_agree_164 hl (by decide) rfl (fun ls hl => ?_)
                obtain ⟨n', hw⟩ := hw
                exact c_Model_agree_h166 hx hb hr hml hown hts hlocks hK hE hA hH  n' 0 x_says hw _ _ _ hP hD hS (lv_sub hl [0, 2, 1, 3, 4] rfl)
              · have hw := hw.2 hc
                refine lv_iconst (v := 0) hx hb dX9_agree_161 (by decide) ?_
                exact W.iret (v := 0) hx hb hr (fun t ht hW => ⟨⟨0, (x_thrown_29, x_taped, x_at_18, x_end, x_begin_19, (-1), x_says, x_draft_20), rfl, hw, mAt.to hP hK hD ht hW⟩, hS.F ht⟩) hS.2.2 dX9_agree_162
            · have hw := hw.1 hc
              refine lv_iconst (v := 1) hx hb dX9_agree_149 (by decide) ?_
              refine lv_goto (tgt := 154) hx hb dX9_agree_150 (by decide) ?_
              refine lv_iconst (v := 1) hx hb dX9_agree_154 (by decide) ?_
              refine mx_i (wc := [(ce_xm bd x_thrown x_men x_ships x_entries x_rules x_calls x_gangs x_idle x_moved x_paid x_taped x_at_18 x_end x_begin_19 (-1) x_wants)]) (wr := [((bd 13), .inl (y 0, 11, .inl x_says)), ((bd 14), .inl (y 0, 11, .inl x_draft_20)), ((bd 21), .inl (y 1, 400, .inl x_tape))]) hP hD hS hA [0] [1, 2, 3] [3, 0, 1, 2] rfl rfl (by decide) (by decide) (by decide) (fun (u : Int32) => [(ce_xm bd u x_men x_ships x_entries x_rules x_calls x_gangs x_idle x_moved x_paid x_taped x_at_18 x_end x_begin_19 (-1) x_wants), ((bd 13), .inl (y 0, 11, .inl x_says)), ((bd 14), .inl (y 0, 11, .inl x_draft_20)), ((bd 21), .inl (y 1, 400, .inl x_tape))]) (fun _ => rfl) (va_runV (As := [.int 1, .int 1]) (rest := []) ⟨hx, hb, hml, hown, hts⟩ (c_Model_throwsIf l D y bd H.size x_thrown x_men x_ships x_entries x_rules x_calls x_gangs x_idle x_moved x_paid x_taped x_at_18 x_end x_begin_19 (-1) x_wants 1 1 hw) (cwV 2 hts gX9_agree_X9_throwsIf rfl rfl rfl (by decide +kernel) ⟨Nat.le_of_ble_eq_true rfl, Nat.le_of_ble_eq_true rfl⟩) ⟨mPre.blind, (va_recv hK hP (ci := 11) (q0 := 0) rfl rfl), mPre.to (hP.sub [0] rfl) hK (hD.sub [0] (by decide) rfl) hE⟩ rfl rfl hl.1 rfl (lv_room (Nat.le_of_ble_eq_true rfl)) dX9_agree_155 ⟨Nat.le_of_ble_eq_true rfl, Nat.le_of_ble_eq_true rfl⟩) (fun r_30 u H locs hw hP hD hS => ?_)
              obtain ⟨x_thrown_31, rfl⟩ : ∃ z, z = u := ⟨_, rfl⟩
              try dsimp only at hw
              have hP : va_P D vwCl [(ce_xm bd x_thrown_31 x_men x_ships x_entries x_rules x_calls x_gangs x_idle x_moved x_paid x_taped x_at_18 x_end x_begin_19 (-1) x_wants), ((bd 13), .inl (y 0, 11, .inl x_says)), ((bd 14), .inl (y 0, 11, .inl x_draft_20)), ((bd 21), .inl (y 1, 400, .inl x_tape))] H := hP
              have hD : va_D A [(ce_xm bd x_thrown_31 x_men x_ships x_entries x_rules x_calls x_gangs x_idle x_moved x_paid x_taped x_at_18 x_end x_begin_19 (-1) x_wants), ((bd 13), .inl (y 0, 11, .inl x_says)), ((bd 14), .inl (y 0, 11, .inl x_draft_20)), ((bd 21), .inl (y 1, 400, .inl x_tape))] := hD
              refine lv_if_eq (tgt := 163) hx hb dX9_agree_158 (by decide) (fun hc => ?_) (fun hc => ?_)
              · have hw := hw.1 hc
                refine lv_iconst (v := 0) hx hb dX9_agree_163 (by decide) ?_
                refine lv_istore (lv' := [(4, .int 0), (2, .int r_17), (3, .int v3), (1, .int v1), (0, .ref (bd 0))]) hx hb dX9_agree_164 hl (by decide) rfl (fun ls hl => ?_)
                obtain ⟨n', hw⟩ := hw
                exact c_Model_agree_h166 hx hb hr hml hown hts hlocks hK hE hA hH  n' 0 x_says hw _ _ _ hP hD hS (lv_sub hl [0, 2, 1, 3, 4] rfl)
              · have hw := hw.2 hc
                refine lv_iconst (v := 0) hx hb dX9_agree_161 (by decide) ?_
                exact W.iret (v := 0) hx hb hr (fun t ht hW => ⟨⟨0, (x_thrown_31, x_taped, x_at_18, x_end, x_begin_19, (-1), x_says, x_draft_20), rfl, hw, mAt.to hP hK hD ht hW⟩, hS.F ht⟩) hS.2.2 dX9_agree_162
set_option maxHeartbeats 4000000 in
set_option maxRecDepth 100000 in
theorem c_Model_agree_h25 {p : Program} {l : Launch} {e : Env} {s : State} {m : MethodId} {args : Array Value} {below : List Frame} {meth : Method} {c : Code} {D : va_G} {y : Nat → ClassId} {E : Nat → Nat} {bd : Nat → Nat} {A : Nat → Prop} (hx : p.tables.exec = Jvm.exec) (hb : c.code = cX9_agree) (hr : meth.sig.returnType = some .int) (hml : c.maxLocals = 5) (hown : s.vm.findClass RX9 = some m.cls) (hts : ∀ w ∈ wsX9_agree, w.before args s = true) (hlocks : meth.locks = false) (hK : va_K D vwCl (TY y) s) (hE : EV s) (hA : ∀ q, s.heap.size ≤ q → A q) (hH : HX E A s s.heap) {x_thrown : Int32} {x_taped : Int32} {x_at : Int32} {x_end : Int32} {x_begin : Int32} {x_faultAt : Int32} {x_says : Nat → Int32} {x_tape : Nat → Int32} {x_men : Int32} {x_ships : Int32} {x_entries : Int32} {x_rules : Int32} {x_calls : Int32} {x_gangs : Int32} {x_idle : Int32} {x_moved : Int64} {x_paid : Int64} {x_wants : Int32}  {Q : Int32 → Int32 → Int32 → Int32 → Int32 → Int32 → Int32 → (Nat → Int32) → (Nat → Int32) → Prop}  : ∀ (n : Nat) (v1 : Int32) (x_draft : Nat → Int32), wp_Model_agree_h25 x_thrown x_taped x_at x_end x_begin x_says x_tape Q n v1 x_draft → ∀ (H : Heap) (locs : List Loc) (ls : Array Slot), va_P D vwCl [(ce_xm bd x_thrown x_men x_ships x_entries x_rules x_calls x_gangs x_idle x_moved x_paid x_taped x_at x_end x_begin x_faultAt x_wants), ((bd 13), .inl (y 0, 11, .inl x_says)), ((bd 14), .inl (y 0, 11, .inl x_draft)), ((bd 21), .inl (y 1, 400, .inl x_tape))] H → va_D A [(ce_xm bd x_thrown x_men x_ships x_entries x_rules x_calls x_gangs x_idle x_moved x_paid x_taped x_at x_end x_begin x_faultAt x_wants), ((bd 13), .inl (y 0, 11, .inl x_says)), ((bd 14), .inl (y 0, 11, .inl x_draft)), ((bd 21), .inl (y 1, 400, .inl x_tape))] → va_S A s.heap H locs → lv_has ls 5 [(1, .int v1), (0, .ref (bd 0))] → W p l e ({ frames := 7, cells := 0, slots := 0, locals := 153 }) s m args below meth c H locs 0 0 (MQ below (va_Qi (fun (r : Int32) (u : Int32 × Int32 × Int32 × Int32 × Int32 × Int32 × (Nat → Int32) × (Nat → Int32)) => Q r u.1 u.2.1 u.2.2.1 u.2.2.2.1 u.2.2.2.2.1 u.2.2.2.2.2.1 u.2.2.2.2.2.2.1 u.2.2.2.2.2.2.2) (mAt D y A (fun (u : Int32 × Int32 × Int32 × Int32 × Int32 × Int32 × (Nat → Int32) × (Nat → Int32)) => [(ce_xm bd u.1 x_men x_ships x_entries x_rules x_calls x_gangs x_idle x_moved x_paid u.2.1 u.2.2.1 u.2.2.2.1 u.2.2.2.2.1 u.2.2.2.2.2.1 x_wants), ((bd 13), .inl (y 0, 11, .inl u.2.2.2.2.2.2.1)), ((bd 14), .inl (y 0, 11, .inl u.2.2.2.2.2.2.2)), ((bd 21), .inl (y 1, 400, .inl x_tape))])) A) args s 0 0 A) (F0 m 25 ls []) := by
  intro n
  induction n with
  | zero => intro v1 x_draft hw; rw [wp_Model_agree_h25] at hw; exact hw.elim
  | succ n ih =>
    intro v1 x_draft hw H locs ls hP hD hS hl
    rw [wp_Model_agree_h25] at hw
    refine lv_iload_n hx hb dX9_agree_25 rfl (lv_at hl 0 rfl) ?_
    refine lv_bipush (v := 11) hx hb dX9_agree_26 (by decide) ?_
    refine lv_icmp_ge (tgt := 49) hx hb dX9_agree_28 (by decide) (fun hc => ?_) (fun hc => ?_)
    · have hw := hw.1 hc
      refine lv_iconst (v := 0) hx hb dX9_agree_49 (by decide) ?_
      refine lv_istore_n (lv' := [(1, .int 0), (0, .ref (bd 0))]) hx hb dX9_agree_50 rfl hl (by decide) rfl (fun ls hl => ?_)
      refine lv_iconst (v := 1) hx hb dX9_agree_51 (by decide) ?_
      refine lv_istore_n (lv' := [(2, .int 1), (1, .int 0), (0, .ref (bd 0))]) hx hb dX9_agree_52 rfl hl (by decide) rfl (fun ls hl => ?_)
      refine lv_iconst (v := 1) hx hb dX9_agree_53 (by decide) ?_
      refine lv_istore_n (lv' := [(3, .int 1), (2, .int 1), (1, .int 0), (0, .ref (bd 0))]) hx hb dX9_agree_54 rfl hl (by decide) rfl (fun ls hl => ?_)
      obtain ⟨n', hw⟩ := hw
      exact c_Model_agree_h55 hx hb hr hml hown hts hlocks hK hE hA hH  n' 0 1 1 x_at x_begin x_draft hw _ _ _ hP hD hS (lv_sub hl [0, 1, 2, 3] rfl)
    · have hw := hw.2 hc
      refine lv_aload_n hx hb dX9_agree_31 rfl (lv_at hl 1 rfl) ?_
      refine va_get (ci := 11) (v := .ref (bd 14)) (C := RX9) (T := TX9) (N := 47) hx hb hts inw_X9_agree_X9 hown hK hP 0 rfl rfl 16 (by decide) (hts (.fieldLink RX9 50 "DockCallModel" "draft" "[I") (by decide +kernel)) (fun _ h9 => h9) rfl dX9_agree_32 ?_
      refine lv_iload_n hx hb dX9_agree_35 rfl (lv_at hl 0 rfl) ?_
      refine lv_aload_n hx hb dX9_agree_36 rfl (lv_at hl 1 rfl) ?_
      refine va_get (ci := 11) (v := .ref (bd 13)) (C := RX9) (T := TX9) (N := 47) hx hb hts inw_X9_agree_X9 hown hK hP 0 rfl rfl 15 (by decide) (hts (.fieldLink RX9 47 "DockCallModel" "says" "[I") (by decide +kernel)) (fun _ h9 => h9) rfl dX9_agree_37 ?_
      refine lv_iload_n hx hb dX9_agree_40 rfl (lv_at hl 0 rfl) ?_
      obtain ⟨hi, hw⟩ := hw
      refine va_iald hx hb hK hP 1 0 rfl rfl hi dX9_agree_41 ?_
      obtain ⟨hi, hw⟩ := hw
      refine va_iast hx hb hK hP hD hS 2 0 rfl rfl hi dX9_agree_42 (fun H locs hP hD hS => ?_)
      have hP : va_P D vwCl [(ce_xm bd x_thrown x_men x_ships x_entries x_rules x_calls x_gangs x_idle x_moved x_paid x_taped x_at x_end x_begin x_faultAt x_wants), ((bd 13), .inl (y 0, 11, .inl x_says)), ((bd 14), .inl (y 0, 11, .inl (upd x_draft v1.toNatClampNeg (x_says v1.toNatClampNeg)))), ((bd 21), .inl (y 1, 400, .inl x_tape))] H := hP
      have hD : va_D A [(ce_xm bd x_thrown x_men x_ships x_entries x_rules x_calls x_gangs x_idle x_moved x_paid x_taped x_at x_end x_begin x_faultAt x_wants), ((bd 13), .inl (y 0, 11, .inl x_says)), ((bd 14), .inl (y 0, 11, .inl (upd x_draft v1.toNatClampNeg (x_says v1.toNatClampNeg)))), ((bd 21), .inl (y 1, 400, .inl x_tape))] := hD
      refine lv_iinc (v := v1 + 1) (lv' := [(1, .int (v1 + 1)), (0, .ref (bd 0))]) hx hb dX9_agree_43 hl (k := 0) rfl (by first | rfl | decide) (by decide) rfl (fun ls hl => ?_)
      refine lv_goto (tgt := 25) hx hb dX9_agree_46 (by decide) ?_
      exact ih (v1 + 1) (upd x_draft v1.toNatClampNeg (x_says v1.toNatClampNeg)) hw _ _ _ hP hD hS (lv_sub hl [0, 1] rfl)
set_option maxHeartbeats 4000000 in
set_option maxRecDepth 100000 in
theorem c_Model_agree (l : Launch) (D : va_G) (y E : Nat → Nat) (bd : Nat → Nat) (sz : Nat) (x_thrown : Int32) (x_men : Int32) (x_ships : Int32) (x_entries : Int32) (x_rules : Int32) (x_calls : Int32) (x_gangs : Int32) (x_idle : Int32) (x_moved : Int64) (x_paid : Int64) (x_taped : Int32) (x_at : Int32) (x_end : Int32) (x_begin : Int32) (x_faultAt : Int32) (x_wants : Int32) (x_says : Nat → Int32) (x_draft : Nat → Int32) (x_tape : Nat → Int32)  {Q : Int32 → Int32 → Int32 → Int32 → Int32 → Int32 → Int32 → (Nat → Int32) → (Nat → Int32) → Prop} (hw : wp_Model_agree x_taped x_begin x_says x_draft x_tape Q) : Met l yX9_agree wsX9_agree ({ frames := 7, cells := 0, slots := 0, locals := 153 }) (va_Pc [.ref (bd 0)] (nPre D y E sz [(ce_xm bd x_thrown x_men x_ships x_entries x_rules x_calls x_gangs x_idle x_moved x_paid x_taped x_at x_end x_begin x_faultAt x_wants), ((bd 13), .inl (y 0, 11, .inl x_says)), ((bd 14), .inl (y 0, 11, .inl x_draft)), ((bd 21), .inl (y 1, 400, .inl x_tape))])) (va_Qi (fun (r : Int32) (u : Int32 × Int32 × Int32 × Int32 × Int32 × Int32 × (Nat → Int32) × (Nat → Int32)) => Q r u.1 u.2.1 u.2.2.1 u.2.2.2.1 u.2.2.2.2.1 u.2.2.2.2.2.1 u.2.2.2.2.2.2.1 u.2.2.2.2.2.2.2) (mAt D y (va_A [(ce_xm bd x_thrown x_men x_ships x_entries x_rules x_calls x_gangs x_idle x_moved x_paid x_taped x_at x_end x_begin x_faultAt x_wants), ((bd 13), .inl (y 0, 11, .inl x_says)), ((bd 14), .inl (y 0, 11, .inl x_draft)), ((bd 21), .inl (y 1, 400, .inl x_tape))] sz) (fun (u : Int32 × Int32 × Int32 × Int32 × Int32 × Int32 × (Nat → Int32) × (Nat → Int32)) => [(ce_xm bd u.1 x_men x_ships x_entries x_rules x_calls x_gangs x_idle x_moved x_paid u.2.1 u.2.2.1 u.2.2.2.1 u.2.2.2.2.1 u.2.2.2.2.2.1 x_wants), ((bd 13), .inl (y 0, 11, .inl u.2.2.2.2.2.2.1)), ((bd 14), .inl (y 0, 11, .inl u.2.2.2.2.2.2.2)), ((bd 21), .inl (y 1, 400, .inl x_tape))])) (va_A [(ce_xm bd x_thrown x_men x_ships x_entries x_rules x_calls x_gangs x_idle x_moved x_paid x_taped x_at x_end x_begin x_faultAt x_wants), ((bd 13), .inl (y 0, 11, .inl x_says)), ((bd 14), .inl (y 0, 11, .inl x_draft)), ((bd 21), .inl (y 1, 400, .inl x_tape))] sz)) 0 0 (va_A [(ce_xm bd x_thrown x_men x_ships x_entries x_rules x_calls x_gangs x_idle x_moved x_paid x_taped x_at x_end x_begin x_faultAt x_wants), ((bd 13), .inl (y 0, 11, .inl x_says)), ((bd 14), .inl (y 0, 11, .inl x_draft)), ((bd 21), .inl (y 1, 400, .inl x_tape))] sz) := by
  unfold wp_Model_agree at hw
  refine Met.ofW (cc := cX9_agree) (maxL := 5) (ret := some .int) (by decide) rfl ?_
  intro p e s m args below meth c s₁ B hml hv
  obtain ⟨rfl, ⟨hsz, hP, hK, hD0, hE⟩, hH⟩ := hv
  have hx := B.exec
  have hb := B.bytes
  have hr := B.returns
  have hts := atoms_spec (ws := wsX9_agree) B.pre
  have hown : s.vm.findClass RX9 = some m.cls := findClass_of_methodNamed B.named
  have hlocks := B.notSynchronized
  subst hsz
  have hD := hD0.self (sz := s.heap.size)
  generalize hAe : va_A [(ce_xm bd x_thrown x_men x_ships x_entries x_rules x_calls x_gangs x_idle x_moved x_paid x_taped x_at x_end x_begin x_faultAt x_wants), ((bd 13), .inl (y 0, 11, .inl x_says)), ((bd 14), .inl (y 0, 11, .inl x_draft)), ((bd 21), .inl (y 1, 400, .inl x_tape))] s.heap.size = A at hD hH ⊢
  have hA : ∀ q : Nat, s.heap.size ≤ q → A q := fun q h => by rw [← hAe]; exact Or.inr h
  have hS : va_S A s.heap s.heap [] := va_S.rf
  have hP : va_P D vwCl [(ce_xm bd x_thrown x_men x_ships x_entries x_rules x_calls x_gangs x_idle x_moved x_paid x_taped x_at x_end x_begin x_faultAt x_wants), ((bd 13), .inl (y 0, 11, .inl x_says)), ((bd 14), .inl (y 0, 11, .inl x_draft)), ((bd 21), .inl (y 1, 400, .inl x_tape))] s.heap := hP
  have hl := lv_entry ([.ref (bd 0)]) (n := 5) (Nat.le_of_ble_eq_true rfl)
  rw [lg_entry_eq]
  generalize (lg_sl ([.ref (bd 0)]) ++ List.replicate (5 - (lg_sl ([.ref (bd 0)])).length) Slot.unset).toArray = ls at hl ⊢
  have hl : lv_has ls 5 [(0, .ref (bd 0))] := hl
  refine lv_aload_n hx hb dX9_agree_0 rfl (lv_at hl 0 rfl) ?_
  refine lv_iconst (v := 0) hx hb dX9_agree_1 (by decide) ?_
  refine va_put (ci := 11) (v := .int 0) (ty := .int) (C := RX9) (T := TX9) (N := 47) hx hb hts inw_X9_agree_X9 tyX9 tyX9_ok nmX9 hown hK hP hD hS 0 rfl rfl 0 (by decide) (hts (.fieldLink RX9 109 "DockCallModel" "thrown" "I") (by decide +kernel)) (fun _ h9 => h9) rfl (by decide +kernel) rfl rfl (Nat.le_of_ble_eq_true rfl) dX9_agree_2 (fun H locs hP hD hS => ?_)
  have hP : va_P D vwCl [(ce_xm bd 0 x_men x_ships x_entries x_rules x_calls x_gangs x_idle x_moved x_paid x_taped x_at x_end x_begin x_faultAt x_wants), ((bd 13), .inl (y 0, 11, .inl x_says)), ((bd 14), .inl (y 0, 11, .inl x_draft)), ((bd 21), .inl (y 1, 400, .inl x_tape))] H := hP
  have hD : va_D A [(ce_xm bd 0 x_men x_ships x_entries x_rules x_calls x_gangs x_idle x_moved x_paid x_taped x_at x_end x_begin x_faultAt x_wants), ((bd 13), .inl (y 0, 11, .inl x_says)), ((bd 14), .inl (y 0, 11, .inl x_draft)), ((bd 21), .inl (y 1, 400, .inl x_tape))] := hD
  refine lv_aload_n hx hb dX9_agree_5 rfl (lv_at hl 0 rfl) ?_
  refine lv_aload_n hx hb dX9_agree_6 rfl (lv_at hl 0 rfl) ?_
  refine va_get (ci := 11) (v := .int x_taped) (C := RX9) (T := TX9) (N := 47) hx hb hts inw_X9_agree_X9 hown hK hP 0 rfl rfl 31 (by decide) (hts (.fieldLink RX9 139 "DockCallModel" "taped" "I") (by decide +kernel)) (fun _ h9 => h9) rfl dX9_agree_7 ?_
  refine va_put (ci := 11) (v := .int x_taped) (ty := .int) (C := RX9) (T := TX9) (N := 47) hx hb hts inw_X9_agree_X9 tyX9 tyX9_ok nmX9 hown hK hP hD hS 0 rfl rfl 34 (by decide) (hts (.fieldLink RX9 145 "DockCallModel" "end" "I") (by decide +kernel)) (fun _ h9 => h9) rfl (by decide +kernel) rfl rfl (Nat.le_of_ble_eq_true rfl) dX9_agree_10 (fun H locs hP hD hS => ?_)
  have hP : va_P D vwCl [(ce_xm bd 0 x_men x_ships x_entries x_rules x_calls x_gangs x_idle x_moved x_paid x_taped x_at x_taped x_begin x_faultAt x_wants), ((bd 13), .inl (y 0, 11, .inl x_says)), ((bd 14), .inl (y 0, 11, .inl x_draft)), ((bd 21), .inl (y 1, 400, .inl x_tape))] H := hP
  have hD : va_D A [(ce_xm bd 0 x_men x_ships x_entries x_rules x_calls x_gangs x_idle x_moved x_paid x_taped x_at x_taped x_begin x_faultAt x_wants), ((bd 13), .inl (y 0, 11, .inl x_says)), ((bd 14), .inl (y 0, 11, .inl x_draft)), ((bd 21), .inl (y 1, 400, .inl x_tape))] := hD
  refine lv_aload_n hx hb dX9_agree_13 rfl (lv_at hl 0 rfl) ?_
  refine lv_iconst (v := 0) hx hb dX9_agree_14 (by decide) ?_
  refine va_put (ci := 11) (v := .int 0) (ty := .int) (C := RX9) (T := TX9) (N := 47) hx hb hts inw_X9_agree_X9 tyX9 tyX9_ok nmX9 hown hK hP hD hS 0 rfl rfl 31 (by decide) (hts (.fieldLink RX9 139 "DockCallModel" "taped" "I") (by decide +kernel)) (fun _ h9 => h9) rfl (by decide +kernel) rfl rfl (Nat.le_of_ble_eq_true rfl) dX9_agree_15 (fun H locs hP hD hS => ?_)
  have hP : va_P D vwCl [(ce_xm bd 0 x_men x_ships x_entries x_rules x_calls x_gangs x_idle x_moved x_paid 0 x_at x_taped x_begin x_faultAt x_wants), ((bd 13), .inl (y 0, 11, .inl x_says)), ((bd 14), .inl (y 0, 11, .inl x_draft)), ((bd 21), .inl (y 1, 400, .inl x_tape))] H := hP
  have hD : va_D A [(ce_xm bd 0 x_men x_ships x_entries x_rules x_calls x_gangs x_idle x_moved x_paid 0 x_at x_taped x_begin x_faultAt x_wants), ((bd 13), .inl (y 0, 11, .inl x_says)), ((bd 14), .inl (y 0, 11, .inl x_draft)), ((bd 21), .inl (y 1, 400, .inl x_tape))] := hD
  refine lv_aload_n hx hb dX9_agree_18 rfl (lv_at hl 0 rfl) ?_
  refine lv_iconst (v := 0) hx hb dX9_agree_19 (by decide) ?_
  refine va_put (ci := 11) (v := .int 0) (ty := .int) (C := RX9) (T := TX9) (N := 47) hx hb hts inw_X9_agree_X9 tyX9 tyX9_ok nmX9 hown hK hP hD hS 0 rfl rfl 33 (by decide) (hts (.fieldLink RX9 142 "DockCallModel" "at" "I") (by decide +kernel)) (fun _ h9 => h9) rfl (by decide +kernel) rfl rfl (Nat.le_of_ble_eq_true rfl) dX9_agree_20 (fun H locs hP hD hS => ?_)
  have hP : va_P D vwCl [(ce_xm bd 0 x_men x_ships x_entries x_rules x_calls x_gangs x_idle x_moved x_paid 0 0 x_taped x_begin x_faultAt x_wants), ((bd 13), .inl (y 0, 11, .inl x_says)), ((bd 14), .inl (y 0, 11, .inl x_draft)), ((bd 21), .inl (y 1, 400, .inl x_tape))] H := hP
  have hD : va_D A [(ce_xm bd 0 x_men x_ships x_entries x_rules x_calls x_gangs x_idle x_moved x_paid 0 0 x_taped x_begin x_faultAt x_wants), ((bd 13), .inl (y 0, 11, .inl x_says)), ((bd 14), .inl (y 0, 11, .inl x_draft)), ((bd 21), .inl (y 1, 400, .inl x_tape))] := hD
  refine lv_iconst (v := 0) hx hb dX9_agree_23 (by decide) ?_
  refine lv_istore_n (lv' := [(1, .int 0), (0, .ref (bd 0))]) hx hb dX9_agree_24 rfl hl (by decide) rfl (fun ls hl => ?_)
  obtain ⟨n', hw⟩ := hw
  exact c_Model_agree_h25 hx hb hr hml hown hts hlocks hK hE hA hH  n' 0 x_draft hw _ _ _ hP hD hS (lv_sub hl [0, 1] rfl)
