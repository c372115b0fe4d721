theorem inw_X9_best_X9 : ∀ w ∈ wsX90, w ∈ wsX9_best := fun _ h => List.mem_cons_of_mem _ (List.mem_append_left _ (List.mem_append_right _ h))
def wp_Model_best0_h56 (v2 : Int32) (v3 : Int32) (v5 : Int32) (x_wants : Int32) (x_most : Nat → Int32)  (Q : Int32 → Prop) : Nat → Int32 → Int32 → Prop
  | 0, _, _ => False
  | n + 1, v6, v7 => ((v5 < v7 → Q v6) ∧ (¬ v5 < v7 → ((v3 < v7 → Q v6) ∧ (¬ v3 < v7 → ((x_wants ≤ v2 → ((0 < v7 → Q v6) ∧ (¬ 0 < v7 → (wp_Model_power v2 (fun r_1 => nvr))))) ∧ (¬ x_wants ≤ v2 → (vp_in v2 4 ∧ ((x_most v2.toNatClampNeg < v7 → Q v6) ∧ (¬ x_most v2.toNatClampNeg < v7 → (wp_Model_power v2 (fun r_2 => nvr)))))))))))
def wp_Model_best0 (x_wants : Int32) (x_most : Nat → Int32) (x_least : Nat → Int32) (p0 : Int32) (p1 : Int32) (p2 : Int32) (p3 : Int32) (Q : Int32 → Prop) : Prop := ((p1 = 4 → ((p3 = p0 → Q 2147483647) ∧ (¬ p3 = p0 → (vp_in p3 6561 ∧ Q (x_least p3.toNatClampNeg))))) ∧ (¬ p1 = 4 → ((x_wants ≤ p1 → (∃ n' : Nat, wp_Model_best0_h56 p1 p2 0 x_wants x_most Q n' 2147483647 0)) ∧ (¬ x_wants ≤ p1 → (wp_Model_power p1 (fun r_3 => (¬ r_3 = 0 ∧ (∃ n' : Nat, wp_Model_best0_h56 p1 p2 ((p0 / r_3) - (p0 / r_3) / 9 * 9) x_wants x_most Q n' 2147483647 0))))))))
set_option maxHeartbeats 4000000 in
set_option maxRecDepth 100000 in
theorem c_Model_best0_h56 {p : Program} {l : Launch} {e : Env} {s : State} {m : MethodId} {args : Array Value} {below : List Frame} {meth : Method} {c : Code} {D : va_G} {y : Nat → ClassId} {bd : Nat → Nat} {A : Nat → Prop} (hx : p.tables.exec = Jvm.exec) (hb : c.code = cX9_best) (hr : meth.sig.returnType = some .int) (hml : c.maxLocals = 8) (hown : s.vm.findClass RX9 = some m.cls) (hts : ∀ w ∈ wsX9_best, w.before args s = true) (hlocks : meth.locks = false) (hK : va_K D vwCl (TY y) s) (hE : EV s) (hA : ∀ q, s.heap.size ≤ q → A q) {v1 : Int32} {v2 : Int32} {v3 : Int32} {v4 : Int32} {v5 : Int32} {x_wants : Int32} {x_most : Nat → Int32} {x_least : Nat → Int32} {x_thrown : Int32} {x_men : Int32} {x_ships : Int32} {x_entries : Int32} {x_rules : Int32} {x_calls : Int32} {x_gangs : Int32} {x_idle : Int32} {x_moved : Int64} {x_paid : Int64} {x_taped : Int32} {x_at : Int32} {x_end : Int32} {x_begin : Int32} {x_faultAt : Int32}  {Q : Int32 → Prop}  : ∀ (n : Nat) (v6 : Int32) (v7 : Int32), wp_Model_best0_h56 v2 v3 v5 x_wants x_most Q n v6 v7 → ∀ (H : Heap) (locs : List Loc) (ls : Array Slot), va_P D vwCl [(ce_xm bd x_thrown x_men x_ships x_entries x_rules x_calls x_gangs x_idle x_moved x_paid x_taped x_at x_end x_begin x_faultAt x_wants), ((bd 30), .inl (y 0, 4, .inl x_most)), ((bd 31), .inl (y 0, 6561, .inl x_least))] H → va_D A [(ce_xm bd x_thrown x_men x_ships x_entries x_rules x_calls x_gangs x_idle x_moved x_paid x_taped x_at x_end x_begin x_faultAt x_wants), ((bd 30), .inl (y 0, 4, .inl x_most)), ((bd 31), .inl (y 0, 6561, .inl x_least))] → va_S A s.heap H locs → lv_has ls 8 [(7, .int v7), (6, .int v6), (5, .int v5), (0, .ref (bd 0)), (1, .int v1), (2, .int v2), (3, .int v3), (4, .int v4)] → W p l e ({ frames := 1, cells := 0, slots := 0, locals := 20 }) s m args below meth c H locs 0 0 (MQ below (va_Qi (fun (r : Int32) (u : Unit) => Q r ) (mAt D y A (fun (u : Unit) => [(ce_xm bd x_thrown x_men x_ships x_entries x_rules x_calls x_gangs x_idle x_moved x_paid x_taped x_at x_end x_begin x_faultAt x_wants), ((bd 30), .inl (y 0, 4, .inl x_most)), ((bd 31), .inl (y 0, 6561, .inl x_least))])) A) args s 0 0 A) (F0 m 56 ls []) := by
  intro n
  induction n with
  | zero => intro v6 v7 hw; rw [wp_Model_best0_h56] at hw; exact hw.elim
  | succ n ih =>
    intro v6 v7 hw H locs ls hP hD hS hl
    rw [wp_Model_best0_h56] at hw
    refine lv_iload hx hb dX9_best_56 (lv_at hl 0 rfl) ?_
    refine lv_iload hx hb dX9_best_58 (lv_at hl 2 rfl) ?_
    refine lv_icmp_gt (tgt := 127) hx hb dX9_best_60 (by decide) (fun hc => ?_) (fun hc => ?_)
    · have hw := hw.1 hc
      refine lv_iload hx hb dX9_best_127 (lv_at hl 1 rfl) ?_
      exact W.iret (v := v6) hx hb hr (fun t ht hW => ⟨⟨v6, (), rfl, hw, mAt.to hP hK hD ht hW⟩, hS.F ht⟩) hS.2.2 dX9_best_129
    · have hw := hw.2 hc
      refine lv_iload hx hb dX9_best_63 (lv_at hl 0 rfl) ?_
      refine lv_iload_n hx hb dX9_best_65 rfl (lv_at hl 6 rfl) ?_
      refine lv_icmp_gt (tgt := 127) hx hb dX9_best_66 (by decide) (fun hc => ?_) (fun hc => ?_)
      · have hw := hw.1 hc
        refine lv_iload hx hb dX9_best_127 (lv_at hl 1 rfl) ?_
        exact W.iret (v := v6) hx hb hr (fun t ht hW => ⟨⟨v6, (), rfl, hw, mAt.to hP hK hD ht hW⟩, hS.F ht⟩) hS.2.2 dX9_best_129
      · have hw := hw.2 hc
        refine lv_iload hx hb dX9_best_69 (lv_at hl 0 rfl) ?_
        refine lv_iload_n hx hb dX9_best_71 rfl (lv_at hl 5 rfl) ?_
        refine lv_aload_n hx hb dX9_best_72 rfl (lv_at hl 3 rfl) ?_
        refine va_get (ci := 11) (v := .int x_wants) (C := RX9) (T := TX9) (N := 47) hx hb hts inw_X9_best_X9 hown hK hP 0 rfl rfl 45 (by decide) (hts (.fieldLink RX9 276 "DockCallModel" "wants" "I") (by decide +kernel)) (fun _ h9 => h9) rfl dX9_best_73 ?_
        refine lv_icmp_ge (tgt := 88) hx hb dX9_best_76 (by decide) (fun hc => ?_) (fun hc => ?_)
        · have hw := hw.1 hc
          refine lv_iconst (v := 0) hx hb dX9_best_88 (by decide) ?_
          refine lv_icmp_gt (tgt := 127) hx hb dX9_best_89 (by decide) (fun hc => ?_) (fun hc => ?_)
          · have hw := hw.1 hc
            refine lv_iload hx hb dX9_best_127 (lv_at hl 1 rfl) ?_
            exact W.iret (v := v6) hx hb hr (fun t ht hW => ⟨⟨v6, (), rfl, hw, mAt.to hP hK hD ht hW⟩, hS.F ht⟩) hS.2.2 dX9_best_129
          · have hw := hw.2 hc
            refine lv_iload hx hb dX9_best_92 (lv_at hl 1 rfl) ?_
            refine lv_aload_n hx hb dX9_best_94 rfl (lv_at hl 3 rfl) ?_
            refine lv_iload_n hx hb dX9_best_95 rfl (lv_at hl 4 rfl) ?_
            refine lv_iload_n hx hb dX9_best_96 rfl (lv_at hl 5 rfl) ?_
            refine lv_iconst (v := 1) hx hb dX9_best_97 (by decide) ?_
            refine lv_iadd hx hb dX9_best_98 ?_
            refine lv_iload_n hx hb dX9_best_99 rfl (lv_at hl 6 rfl) ?_
            refine lv_iload hx hb dX9_best_100 (lv_at hl 0 rfl) ?_
            refine lv_isub hx hb dX9_best_102 ?_
            refine lv_iload hx hb dX9_best_103 (lv_at hl 7 rfl) ?_
            refine lv_iload hx hb dX9_best_105 (lv_at hl 0 rfl) ?_
            refine lv_iload_n hx hb dX9_best_107 rfl (lv_at hl 5 rfl) ?_
            refine mx_i (wc := []) (wr := [(ce_xm bd x_thrown x_men x_ships x_entries x_rules x_calls x_gangs x_idle x_moved x_paid x_taped x_at x_end x_begin x_faultAt x_wants), ((bd 30), .inl (y 0, 4, .inl x_most)), ((bd 31), .inl (y 0, 6561, .inl x_least))]) hP hD hS hA [] [0, 1, 2] [0, 1, 2] rfl rfl (by decide) (by decide) (by decide) (fun (u : Unit) => [(ce_xm bd x_thrown x_men x_ships x_entries x_rules x_calls x_gangs x_idle x_moved x_paid x_taped x_at x_end x_begin x_faultAt x_wants), ((bd 30), .inl (y 0, 4, .inl x_most)), ((bd 31), .inl (y 0, 6561, .inl x_least))]) (fun _ => rfl) (va_runS (As := [.int v2]) (rest := [.int v7, .int v4, .int (v3 - v7), .int (v2 + 1), .int v1, .ref (bd 0), .int v6]) ⟨hx, hb, hml, hown, hts⟩ (c_Model_power l D y H.size v2 hw) (va_cwS 1 hts gX9_best_X9_power rfl rfl rfl (by decide +kernel) ⟨Nat.le_of_ble_eq_true rfl, Nat.le_of_ble_eq_true rfl⟩) ⟨mPre.blind, mPre.to (hP.sub [] rfl) hK (hD.sub [] (by decide) rfl) hE⟩ rfl rfl hl.1 rfl (lv_room (Nat.le_of_ble_eq_true rfl)) dX9_best_108 ⟨Nat.le_of_ble_eq_true rfl, Nat.le_of_ble_eq_true rfl⟩) (fun r_1 u H locs hw hP hD hS => ?_)
            try dsimp only at hw
            have hP : va_P D vwCl [(ce_xm bd x_thrown x_men x_ships x_entries x_rules x_calls x_gangs x_idle x_moved x_paid x_taped x_at x_end x_begin x_faultAt x_wants), ((bd 30), .inl (y 0, 4, .inl x_most)), ((bd 31), .inl (y 0, 6561, .inl x_least))] H := hP
            have hD : va_D A [(ce_xm bd x_thrown x_men x_ships x_entries x_rules x_calls x_gangs x_idle x_moved x_paid x_taped x_at x_end x_begin x_faultAt x_wants), ((bd 30), .inl (y 0, 4, .inl x_most)), ((bd 31), .inl (y 0, 6561, .inl x_least))] := hD
            refine lv_imul hx hb dX9_best_111 ?_
            refine lv_isub hx hb dX9_best_112 ?_
            exact False.elim hw
        · have hw := hw.2 hc
          refine lv_aload_n hx hb dX9_best_79 rfl (lv_at hl 3 rfl) ?_
          refine va_get (ci := 11) (v := .ref (bd 30)) (C := RX9) (T := TX9) (N := 47) hx hb hts inw_X9_best_X9 hown hK hP 0 rfl rfl 44 (by decide) (hts (.fieldLink RX9 103 "DockCallModel" "most" "[I") (by decide +kernel)) (fun _ h9 => h9) rfl dX9_best_80 ?_
          refine lv_iload_n hx hb dX9_best_83 rfl (lv_at hl 5 rfl) ?_
          obtain ⟨hi, hw⟩ := hw
          refine va_iald hx hb hK hP 1 0 rfl rfl hi dX9_best_84 ?_
          refine lv_goto (tgt := 89) hx hb dX9_best_85 (by decide) ?_
          refine lv_icmp_gt (tgt := 127) hx hb dX9_best_89 (by decide) (fun hc => ?_) (fun hc => ?_)
          · have hw := hw.1 hc
            refine lv_iload hx hb dX9_best_127 (lv_at hl 1 rfl) ?_
            exact W.iret (v := v6) hx hb hr (fun t ht hW => ⟨⟨v6, (), rfl, hw, mAt.to hP hK hD ht hW⟩, hS.F ht⟩) hS.2.2 dX9_best_129
          · have hw := hw.2 hc
            refine lv_iload hx hb dX9_best_92 (lv_at hl 1 rfl) ?_
            refine lv_aload_n hx hb dX9_best_94 rfl (lv_at hl 3 rfl) ?_
            refine lv_iload_n hx hb dX9_best_95 rfl (lv_at hl 4 rfl) ?_
            refine lv_iload_n hx hb dX9_best_96 rfl (lv_at hl 5 rfl) ?_
            refine lv_iconst (v := 1) hx hb dX9_best_97 (by decide) ?_
            refine lv_iadd hx hb dX9_best_98 ?_
            refine lv_iload_n hx hb dX9_best_99 rfl (lv_at hl 6 rfl) ?_
            refine lv_iload hx hb dX9_best_100 (lv_at hl 0 rfl) ?_
            refine lv_isub hx hb dX9_best_102 ?_
            refine lv_iload hx hb dX9_best_103 (lv_at hl 7 rfl) ?_
            refine lv_iload hx hb dX9_best_105 (lv_at hl 0 rfl) ?_
            refine lv_iload_n hx hb dX9_best_107 rfl (lv_at hl 5 rfl) ?_
            refine mx_i (wc := []) (wr := [(ce_xm bd x_thrown x_men x_ships x_entries x_rules x_calls x_gangs x_idle x_moved x_paid x_taped x_at x_end x_begin x_faultAt x_wants), ((bd 30), .inl (y 0, 4, .inl x_most)), ((bd 31), .inl (y 0, 6561, .inl x_least))]) hP hD hS hA [] [0, 1, 2] [0, 1, 2] rfl rfl (by decide) (by decide) (by decide) (fun (u : Unit) => [(ce_xm bd x_thrown x_men x_ships x_entries x_rules x_calls x_gangs x_idle x_moved x_paid x_taped x_at x_end x_begin x_faultAt x_wants), ((bd 30), .inl (y 0, 4, .inl x_most)), ((bd 31), .inl (y 0, 6561, .inl x_least))]) (fun _ => rfl) (va_runS (As := [.int v2]) (rest := [.int v7, .int v4, .int (v3 - v7), .int (v2 + 1), .int v1, .ref (bd 0), .int v6]) ⟨hx, hb, hml, hown, hts⟩ (c_Model_power l D y H.size v2 hw) (va_cwS 1 hts gX9_best_X9_power rfl rfl rfl (by decide +kernel) ⟨Nat.le_of_ble_eq_true rfl, Nat.le_of_ble_eq_true rfl⟩) ⟨mPre.blind, mPre.to (hP.sub [] rfl) hK (hD.sub [] (by decide) rfl) hE⟩ rfl rfl hl.1 rfl (lv_room (Nat.le_of_ble_eq_true rfl)) dX9_best_108 ⟨Nat.le_of_ble_eq_true rfl, Nat.le_of_ble_eq_true rfl⟩) (fun r_2 u H locs hw hP hD hS => ?_)
            try dsimp only at hw
            have hP : va_P D vwCl [(ce_xm bd x_thrown x_men x_ships x_entries x_rules x_calls x_gangs x_idle x_moved x_paid x_taped x_at x_end x_begin x_faultAt x_wants), ((bd 30), .inl (y 0, 4, .inl x_most)), ((bd 31), .inl (y 0, 6561, .inl x_least))] H := hP
            have hD : va_D A [(ce_xm bd x_thrown x_men x_ships x_entries x_rules x_calls x_gangs x_idle x_moved x_paid x_taped x_at x_end x_begin x_faultAt x_wants), ((bd 30), .inl (y 0, 4, .inl x_most)), ((bd 31), .inl (y 0, 6561, .inl x_least))] := hD
            refine lv_imul hx hb dX9_best_111 ?_
            refine lv_isub hx hb dX9_best_112 ?_
            exact False.elim hw
set_option maxHeartbeats 4000000 in
set_option maxRecDepth 100000 in
theorem c_Model_best0 (l : Launch) (D : va_G) (y : Nat → ClassId) (bd : Nat → Nat) (sz : Nat) (x_thrown : Int32) (x_men : Int32) (x_ships : Int32) (x_entries : Int32) (x_rules : Int32) (x_calls : Int32) (x_gangs : Int32) (x_idle : Int32) (x_moved : Int64) (x_paid : Int64) (x_taped : Int32) (x_at : Int32) (x_end : Int32) (x_begin : Int32) (x_faultAt : Int32) (x_wants : Int32) (x_most : Nat → Int32) (x_least : Nat → Int32) (p0 : Int32) (p1 : Int32) (p2 : Int32) (p3 : Int32) {Q : Int32 → Prop} (hw : wp_Model_best0 x_wants x_most x_least p0 p1 p2 p3 Q) : Met l yX9_best wsX9_best ({ frames := 1, cells := 0, slots := 0, locals := 20 }) (va_Pc [.ref (bd 0), .int p0, .int p1, .int p2, .int p3] (mPre D y sz [(ce_xm bd x_thrown x_men x_ships x_entries x_rules x_calls x_gangs x_idle x_moved x_paid x_taped x_at x_end x_begin x_faultAt x_wants), ((bd 30), .inl (y 0, 4, .inl x_most)), ((bd 31), .inl (y 0, 6561, .inl x_least))])) (va_Qi (fun (r : Int32) (u : Unit) => Q r ) (mAt D y (va_A [(ce_xm bd x_thrown x_men x_ships x_entries x_rules x_calls x_gangs x_idle x_moved x_paid x_taped x_at x_end x_begin x_faultAt x_wants), ((bd 30), .inl (y 0, 4, .inl x_most)), ((bd 31), .inl (y 0, 6561, .inl x_least))] sz) (fun (u : Unit) => [(ce_xm bd x_thrown x_men x_ships x_entries x_rules x_calls x_gangs x_idle x_moved x_paid x_taped x_at x_end x_begin x_faultAt x_wants), ((bd 30), .inl (y 0, 4, .inl x_most)), ((bd 31), .inl (y 0, 6561, .inl x_least))])) (va_A [(ce_xm bd x_thrown x_men x_ships x_entries x_rules x_calls x_gangs x_idle x_moved x_paid x_taped x_at x_end x_begin x_faultAt x_wants), ((bd 30), .inl (y 0, 4, .inl x_most)), ((bd 31), .inl (y 0, 6561, .inl x_least))] sz)) 0 0 (va_A [(ce_xm bd x_thrown x_men x_ships x_entries x_rules x_calls x_gangs x_idle x_moved x_paid x_taped x_at x_end x_begin x_faultAt x_wants), ((bd 30), .inl (y 0, 4, .inl x_most)), ((bd 31), .inl (y 0, 6561, .inl x_least))] sz) := by
  unfold wp_Model_best0 at hw
  refine Met.ofW (cc := cX9_best) (maxL := 8) (ret := some .int) (by decide) rfl ?_
  intro p e s m args below meth c s₁ B hml hv
  obtain ⟨rfl, hsz, hP, hK, hD0, hE⟩ := hv
  have hx := B.exec
  have hb := B.bytes
  have hr := B.returns
  have hts := atoms_spec (ws := wsX9_best) B.pre
  have hown : s.vm.findClass RX9 = some m.cls := findClass_of_methodNamed B.named
  have hlocks := B.notSynchronized
  subst hsz
  have hD := hD0.self (sz := s.heap.size)
  generalize hAe : va_A [(ce_xm bd x_thrown x_men x_ships x_entries x_rules x_calls x_gangs x_idle x_moved x_paid x_taped x_at x_end x_begin x_faultAt x_wants), ((bd 30), .inl (y 0, 4, .inl x_most)), ((bd 31), .inl (y 0, 6561, .inl x_least))] s.heap.size = A at hD ⊢
  have hA : ∀ q : Nat, s.heap.size ≤ q → A q := fun q h => by rw [← hAe]; exact Or.inr h
  have hS : va_S A s.heap s.heap [] := va_S.rf
  have hP : va_P D vwCl [(ce_xm bd x_thrown x_men x_ships x_entries x_rules x_calls x_gangs x_idle x_moved x_paid x_taped x_at x_end x_begin x_faultAt x_wants), ((bd 30), .inl (y 0, 4, .inl x_most)), ((bd 31), .inl (y 0, 6561, .inl x_least))] s.heap := hP
  have hl := lv_entry ([.ref (bd 0), .int p0, .int p1, .int p2, .int p3]) (n := 8) (Nat.le_of_ble_eq_true rfl)
  rw [lg_entry_eq]
  generalize (lg_sl ([.ref (bd 0), .int p0, .int p1, .int p2, .int p3]) ++ List.replicate (8 - (lg_sl ([.ref (bd 0), .int p0, .int p1, .int p2, .int p3])).length) Slot.unset).toArray = ls at hl ⊢
  have hl : lv_has ls 8 [(0, .ref (bd 0)), (1, .int p0), (2, .int p1), (3, .int p2), (4, .int p3)] := hl
  refine lv_iload_n hx hb dX9_best_0 rfl (lv_at hl 2 rfl) ?_
  refine lv_iconst (v := 4) hx hb dX9_best_1 (by decide) ?_
  refine lv_icmp_ne (tgt := 25) hx hb dX9_best_2 (by decide) (fun hc => ?_) (fun hc => ?_)
  · have hw := hw.2 hc
    refine lv_iload_n hx hb dX9_best_25 rfl (lv_at hl 2 rfl) ?_
    refine lv_aload_n hx hb dX9_best_26 rfl (lv_at hl 0 rfl) ?_
    refine va_get (ci := 11) (v := .int x_wants) (C := RX9) (T := TX9) (N := 47) hx hb hts inw_X9_best_X9 hown hK hP 0 rfl rfl 45 (by decide) (hts (.fieldLink RX9 276 "DockCallModel" "wants" "I") (by decide +kernel)) (fun _ h9 => h9) rfl dX9_best_27 ?_
    refine lv_icmp_ge (tgt := 45) hx hb dX9_best_30 (by decide) (fun hc => ?_) (fun hc => ?_)
    · have hw := hw.1 hc
      refine lv_iconst (v := 0) hx hb dX9_best_45 (by decide) ?_
      refine lv_istore (lv' := [(5, .int 0), (0, .ref (bd 0)), (1, .int p0), (2, .int p1), (3, .int p2), (4, .int p3)]) hx hb dX9_best_46 hl (by decide) rfl (fun ls hl => ?_)
      refine lv_ldcw hx hb hown (hts (.constant RX9 281 2147483647) (by decide +kernel)) dX9_best_48 ?_
      refine lv_istore (lv' := [(6, .int 2147483647), (5, .int 0), (0, .ref (bd 0)), (1, .int p0), (2, .int p1), (3, .int p2), (4, .int p3)]) hx hb dX9_best_51 hl (by decide) rfl (fun ls hl => ?_)
      refine lv_iconst (v := 0) hx hb dX9_best_53 (by decide) ?_
      refine lv_istore (lv' := [(7, .int 0), (6, .int 2147483647), (5, .int 0), (0, .ref (bd 0)), (1, .int p0), (2, .int p1), (3, .int p2), (4, .int p3)]) hx hb dX9_best_54 hl (by decide) rfl (fun ls hl => ?_)
      obtain ⟨n', hw⟩ := hw
      exact c_Model_best0_h56 hx hb hr hml hown hts hlocks hK hE hA  n' 2147483647 0 hw _ _ _ hP hD hS (lv_sub hl [0, 1, 2, 3, 4, 5, 6, 7] rfl)
    · have hw := hw.2 hc
      refine lv_iload_n hx hb dX9_best_33 rfl (lv_at hl 1 rfl) ?_
      refine lv_iload_n hx hb dX9_best_34 rfl (lv_at hl 2 rfl) ?_
      refine mx_i (wc := []) (wr := [(ce_xm bd x_thrown x_men x_ships x_entries x_rules x_calls x_gangs x_idle x_moved x_paid x_taped x_at x_end x_begin x_faultAt x_wants), ((bd 30), .inl (y 0, 4, .inl x_most)), ((bd 31), .inl (y 0, 6561, .inl x_least))]) hP hD hS hA [] [0, 1, 2] [0, 1, 2] rfl rfl (by decide) (by decide) (by decide) (fun (u : Unit) => [(ce_xm bd x_thrown x_men x_ships x_entries x_rules x_calls x_gangs x_idle x_moved x_paid x_taped x_at x_end x_begin x_faultAt x_wants), ((bd 30), .inl (y 0, 4, .inl x_most)), ((bd 31), .inl (y 0, 6561, .inl x_least))]) (fun _ => rfl) (va_runS (As := [.int p1]) (rest := [.int p0]) ⟨hx, hb, hml, hown, hts⟩ (c_Model_power l D y s.heap.size p1 hw) (va_cwS 1 hts gX9_best_X9_power rfl rfl rfl (by decide +kernel) ⟨Nat.le_of_ble_eq_true rfl, Nat.le_of_ble_eq_true rfl⟩) ⟨mPre.blind, mPre.to (hP.sub [] rfl) hK (hD.sub [] (by decide) rfl) hE⟩ rfl rfl hl.1 rfl (lv_room (Nat.le_of_ble_eq_true rfl)) dX9_best_35 ⟨Nat.le_of_ble_eq_true rfl, Nat.le_of_ble_eq_true rfl⟩) (fun r_3 u H locs hw hP hD hS => ?_)
      try dsimp only at hw
      have hP : va_P D vwCl [(ce_xm bd x_thrown x_men x_ships x_entries x_rules x_calls x_gangs x_idle x_moved x_paid x_taped x_at x_end x_begin x_faultAt x_wants), ((bd 30), .inl (y 0, 4, .inl x_most)), ((bd 31), .inl (y 0, 6561, .inl x_least))] H := hP
      have hD : va_D A [(ce_xm bd x_thrown x_men x_ships x_entries x_rules x_calls x_gangs x_idle x_moved x_paid x_taped x_at x_end x_begin x_faultAt x_wants), ((bd 30), .inl (y 0, 4, .inl x_most)), ((bd 31), .inl (y 0, 6561, .inl x_least))] := hD
      obtain ⟨hz, hw⟩ := hw
      refine lv_idiv hx hb dX9_best_38 hz ?_
      refine lv_bipush (v := 9) hx hb dX9_best_39 (by decide) ?_
      refine lv_irem hx hb dX9_best_41 (by decide) ?_
      refine lv_goto (tgt := 46) hx hb dX9_best_42 (by decide) ?_
      refine lv_istore (lv' := [(5, .int ((p0 / r_3) - (p0 / r_3) / 9 * 9)), (0, .ref (bd 0)), (1, .int p0), (2, .int p1), (3, .int p2), (4, .int p3)]) hx hb dX9_best_46 hl (by decide) rfl (fun ls hl => ?_)
      refine lv_ldcw hx hb hown (hts (.constant RX9 281 2147483647) (by decide +kernel)) dX9_best_48 ?_
      refine lv_istore (lv' := [(6, .int 2147483647), (5, .int ((p0 / r_3) - (p0 / r_3) / 9 * 9)), (0, .ref (bd 0)), (1, .int p0), (2, .int p1), (3, .int p2), (4, .int p3)]) hx hb dX9_best_51 hl (by decide) rfl (fun ls hl => ?_)
      refine lv_iconst (v := 0) hx hb dX9_best_53 (by decide) ?_
      refine lv_istore (lv' := [(7, .int 0), (6, .int 2147483647), (5, .int ((p0 / r_3) - (p0 / r_3) / 9 * 9)), (0, .ref (bd 0)), (1, .int p0), (2, .int p1), (3, .int p2), (4, .int p3)]) hx hb dX9_best_54 hl (by decide) rfl (fun ls hl => ?_)
      obtain ⟨n', hw⟩ := hw
      exact c_Model_best0_h56 hx hb hr hml hown hts hlocks hK hE hA  n' 2147483647 0 hw _ _ _ hP hD hS (lv_sub hl [0, 1, 2, 3, 4, 5, 6, 7] rfl)
  · have hw := hw.1 hc
    refine lv_iload hx hb dX9_best_5 (lv_at hl 4 rfl) ?_
    refine lv_iload_n hx hb dX9_best_7 rfl (lv_at hl 1 rfl) ?_
    refine lv_icmp_ne (tgt := 17) hx hb dX9_best_8 (by decide) (fun hc => ?_) (fun hc => ?_)
    · have hw := hw.2 hc
      refine lv_aload_n hx hb dX9_best_17 rfl (lv_at hl 0 rfl) ?_
      refine va_get (ci := 11) (v := .ref (bd 31)) (C := RX9) (T := TX9) (N := 47) hx hb hts inw_X9_best_X9 hown hK hP 0 rfl rfl 46 (by decide) (hts (.fieldLink RX9 106 "DockCallModel" "least" "[I") (by decide +kernel)) (fun _ h9 => h9) rfl dX9_best_18 ?_
      refine lv_iload hx hb dX9_best_21 (lv_at hl 4 rfl) ?_
      obtain ⟨hi, hw⟩ := hw
      refine va_iald hx hb hK hP 2 0 rfl rfl hi dX9_best_23 ?_
      exact W.iret (v := x_least p3.toNatClampNeg) hx hb hr (fun t ht hW => ⟨⟨x_least p3.toNatClampNeg, (), rfl, hw, mAt.to hP hK hD ht hW⟩, hS.F ht⟩) hS.2.2 dX9_best_24
    · have hw := hw.1 hc
      refine lv_ldcw hx hb hown (hts (.constant RX9 281 2147483647) (by decide +kernel)) dX9_best_11 ?_
      refine lv_goto (tgt := 24) hx hb dX9_best_14 (by decide) ?_
      exact W.iret (v := 2147483647) hx hb hr (fun t ht hW => ⟨⟨2147483647, (), rfl, hw, mAt.to hP hK hD ht hW⟩, hS.F ht⟩) hS.2.2 dX9_best_24
def wp_Model_best1_h56 (v1 : Int32) (v2 : Int32) (v3 : Int32) (v4 : Int32) (v5 : Int32) (x_wants : Int32) (x_most : Nat → Int32) (x_least : Nat → Int32)  (Q : Int32 → Prop) : Nat → Int32 → Int32 → Prop
  | 0, _, _ => False
  | n + 1, v6, v7 => ((v5 < v7 → Q v6) ∧ (¬ v5 < v7 → ((v3 < v7 → Q v6) ∧ (¬ v3 < v7 → ((x_wants ≤ v2 → ((0 < v7 → Q v6) ∧ (¬ 0 < v7 → (wp_Model_power v2 (fun r_1 => (wp_Model_best0 x_wants x_most x_least v1 (v2 + 1) (v3 - v7) (v4 - (v7 * r_1)) (fun r_2 => wp_Model_best1_h56 v1 v2 v3 v4 v5 x_wants x_most x_least Q n (if r_2 < v6 then r_2 else v6) (v7 + 1)))))))) ∧ (¬ x_wants ≤ v2 → (vp_in v2 4 ∧ ((x_most v2.toNatClampNeg < v7 → Q v6) ∧ (¬ x_most v2.toNatClampNeg < v7 → (wp_Model_power v2 (fun r_3 => (wp_Model_best0 x_wants x_most x_least v1 (v2 + 1) (v3 - v7) (v4 - (v7 * r_3)) (fun r_4 => wp_Model_best1_h56 v1 v2 v3 v4 v5 x_wants x_most x_least Q n (if r_4 < v6 then r_4 else v6) (v7 + 1))))))))))))))
def wp_Model_best1 (x_wants : Int32) (x_most : Nat → Int32) (x_least : Nat → Int32) (p0 : Int32) (p1 : Int32) (p2 : Int32) (p3 : Int32) (Q : Int32 → Prop) : Prop := ((p1 = 4 → ((p3 = p0 → Q 2147483647) ∧ (¬ p3 = p0 → (vp_in p3 6561 ∧ Q (x_least p3.toNatClampNeg))))) ∧ (¬ p1 = 4 → ((x_wants ≤ p1 → (∃ n' : Nat, wp_Model_best1_h56 p0 p1 p2 p3 0 x_wants x_most x_least Q n' 2147483647 0)) ∧ (¬ x_wants ≤ p1 → (wp_Model_power p1 (fun r_5 => (¬ r_5 = 0 ∧ (∃ n' : Nat, wp_Model_best1_h56 p0 p1 p2 p3 ((p0 / r_5) - (p0 / r_5) / 9 * 9) x_wants x_most x_least Q n' 2147483647 0))))))))
set_option maxHeartbeats 4000000 in
set_option maxRecDepth 100000 in
theorem c_Model_best1_h56 {p : Program} {l : Launch} {e : Env} {s : State} {m : MethodId} {args : Array Value} {below : List Frame} {meth : Method} {c : Code} {D : va_G} {y : Nat → ClassId} {bd : Nat → Nat} {A : Nat → Prop} (hx : p.tables.exec = Jvm.exec) (hb : c.code = cX9_best) (hr : meth.sig.returnType = some .int) (hml : c.maxLocals = 8) (hown : s.vm.findClass RX9 = some m.cls) (hts : ∀ w ∈ wsX9_best, w.before args s = true) (hlocks : meth.locks = false) (hK : va_K D vwCl (TY y) s) (hE : EV s) (hA : ∀ q, s.heap.size ≤ q → A q) {v1 : Int32} {v2 : Int32} {v3 : Int32} {v4 : Int32} {v5 : Int32} {x_wants : Int32} {x_most : Nat → Int32} {x_least : Nat → Int32} {x_thrown : Int32} {x_men : Int32} {x_ships : Int32} {x_entries : Int32} {x_rules : Int32} {x_calls : Int32} {x_gangs : Int32} {x_idle : Int32} {x_moved : Int64} {x_paid : Int64} {x_taped : Int32} {x_at : Int32} {x_end : Int32} {x_begin : Int32} {x_faultAt : Int32}  {Q : Int32 → Prop}  : ∀ (n : Nat) (v6 : Int32) (v7 : Int32), wp_Model_best1_h56 v1 v2 v3 v4 v5 x_wants x_most x_least Q n v6 v7 → ∀ (H : Heap) (locs : List Loc) (ls : Array Slot), va_P D vwCl [(ce_xm bd x_thrown x_men x_ships x_entries x_rules x_calls x_gangs x_idle x_moved x_paid x_taped x_at x_end x_begin x_faultAt x_wants), ((bd 30), .inl (y 0, 4, .inl x_most)), ((bd 31), .inl (y 0, 6561, .inl x_least))] H → va_D A [(ce_xm bd x_thrown x_men x_ships x_entries x_rules x_calls x_gangs x_idle x_moved x_paid x_taped x_at x_end x_begin x_faultAt x_wants), ((bd 30), .inl (y 0, 4, .inl x_most)), ((bd 31), .inl (y 0, 6561, .inl x_least))] → va_S A s.heap H locs → lv_has ls 8 [(7, .int v7), (6, .int v6), (5, .int v5), (0, .ref (bd 0)), (1, .int v1), (2, .int v2), (3, .int v3), (4, .int v4)] → W p l e ({ frames := 2, cells := 0, slots := 0, locals := 47 }) s m args below meth c H locs 0 0 (MQ below (va_Qi (fun (r : Int32) (u : Unit) => Q r ) (mAt D y A (fun (u : Unit) => [(ce_xm bd x_thrown x_men x_ships x_entries x_rules x_calls x_gangs x_idle x_moved x_paid x_taped x_at x_end x_begin x_faultAt x_wants), ((bd 30), .inl (y 0, 4, .inl x_most)), ((bd 31), .inl (y 0, 6561, .inl x_least))])) A) args s 0 0 A) (F0 m 56 ls []) := by
  intro n
  induction n with
  | zero => intro v6 v7 hw; rw [wp_Model_best1_h56] at hw; exact hw.elim
  | succ n ih =>
    intro v6 v7 hw H locs ls hP hD hS hl
    rw [wp_Model_best1_h56] at hw
    refine lv_iload hx hb dX9_best_56 (lv_at hl 0 rfl) ?_
    refine lv_iload hx hb dX9_best_58 (lv_at hl 2 rfl) ?_
    refine lv_icmp_gt (tgt := 127) hx hb dX9_best_60 (by decide) (fun hc => ?_) (fun hc => ?_)
    · have hw := hw.1 hc
      refine lv_iload hx hb dX9_best_127 (lv_at hl 1 rfl) ?_
      exact W.iret (v := v6) hx hb hr (fun t ht hW => ⟨⟨v6, (), rfl, hw, mAt.to hP hK hD ht hW⟩, hS.F ht⟩) hS.2.2 dX9_best_129
    · have hw := hw.2 hc
      refine lv_iload hx hb dX9_best_63 (lv_at hl 0 rfl) ?_
      refine lv_iload_n hx hb dX9_best_65 rfl (lv_at hl 6 rfl) ?_
      refine lv_icmp_gt (tgt := 127) hx hb dX9_best_66 (by decide) (fun hc => ?_) (fun hc => ?_)
      · have hw := hw.1 hc
        refine lv_iload hx hb dX9_best_127 (lv_at hl 1 rfl) ?_
        exact W.iret (v := v6) hx hb hr (fun t ht hW => ⟨⟨v6, (), rfl, hw, mAt.to hP hK hD ht hW⟩, hS.F ht⟩) hS.2.2 dX9_best_129
      · have hw := hw.2 hc
        refine lv_iload hx hb dX9_best_69 (lv_at hl 0 rfl) ?_
        refine lv_iload_n hx hb dX9_best_71 rfl (lv_at hl 5 rfl) ?_
        refine lv_aload_n hx hb dX9_best_72 rfl (lv_at hl 3 rfl) ?_
        refine va_get (ci := 11) (v := .int x_wants) (C := RX9) (T := TX9) (N := 47) hx hb hts inw_X9_best_X9 hown hK hP 0 rfl rfl 45 (by decide) (hts (.fieldLink RX9 276 "DockCallModel" "wants" "I") (by decide +kernel)) (fun _ h9 => h9) rfl dX9_best_73 ?_
        refine lv_icmp_ge (tgt := 88) hx hb dX9_best_76 (by decide) (fun hc => ?_) (fun hc => ?_)
        · have hw := hw.1 hc
          refine lv_iconst (v := 0) hx hb dX9_best_88 (by decide) ?_
          refine lv_icmp_gt (tgt := 127) hx hb dX9_best_89 (by decide) (fun hc => ?_) (fun hc => ?_)
          · have hw := hw.1 hc
            refine lv_iload hx hb dX9_best_127 (lv_at hl 1 rfl) ?_
            exact W.iret (v := v6) hx hb hr (fun t ht hW => ⟨⟨v6, (), rfl, hw, mAt.to hP hK hD ht hW⟩, hS.F ht⟩) hS.2.2 dX9_best_129
          · have hw := hw.2 hc
            refine lv_iload hx hb dX9_best_92 (lv_at hl 1 rfl) ?_
            refine lv_aload_n hx hb dX9_best_94 rfl (lv_at hl 3 rfl) ?_
            refine lv_iload_n hx hb dX9_best_95 rfl (lv_at hl 4 rfl) ?_
            refine lv_iload_n hx hb dX9_best_96 rfl (lv_at hl 5 rfl) ?_
            refine lv_iconst (v := 1) hx hb dX9_best_97 (by decide) ?_
            refine lv_iadd hx hb dX9_best_98 ?_
            refine lv_iload_n hx hb dX9_best_99 rfl (lv_at hl 6 rfl) ?_
            refine lv_iload hx hb dX9_best_100 (lv_at hl 0 rfl) ?_
            refine lv_isub hx hb dX9_best_102 ?_
            refine lv_iload hx hb dX9_best_103 (lv_at hl 7 rfl) ?_
            refine lv_iload hx hb dX9_best_105 (lv_at hl 0 rfl) ?_
            refine lv_iload_n hx hb dX9_best_107 rfl (lv_at hl 5 rfl) ?_
            refine mx_i (wc := []) (wr := [(ce_xm bd x_thrown x_men x_ships x_entries x_rules x_calls x_gangs x_idle x_moved x_paid x_taped x_at x_end x_begin x_faultAt x_wants), ((bd 30), .inl (y 0, 4, .inl x_most)), ((bd 31), .inl (y 0, 6561, .inl x_least))]) hP hD hS hA [] [0, 1, 2] [0, 1, 2] rfl rfl (by decide) (by decide) (by decide) (fun (u : Unit) => [(ce_xm bd x_thrown x_men x_ships x_entries x_rules x_calls x_gangs x_idle x_moved x_paid x_taped x_at x_end x_begin x_faultAt x_wants), ((bd 30), .inl (y 0, 4, .inl x_most)), ((bd 31), .inl (y 0, 6561, .inl x_least))]) (fun _ => rfl) (va_runS (As := [.int v2]) (rest := [.int v7, .int v4, .int (v3 - v7), .int (v2 + 1), .int v1, .ref (bd 0), .int v6]) ⟨hx, hb, hml, hown, hts⟩ (c_Model_power l D y H.size v2 hw) (va_cwS 1 hts gX9_best_X9_power rfl rfl rfl (by decide +kernel) ⟨Nat.le_of_ble_eq_true rfl, Nat.le_of_ble_eq_true rfl⟩) ⟨mPre.blind, mPre.to (hP.sub [] rfl) hK (hD.sub [] (by decide) rfl) hE⟩ rfl rfl hl.1 rfl (lv_room (Nat.le_of_ble_eq_true rfl)) dX9_best_108 ⟨Nat.le_of_ble_eq_true rfl, Nat.le_of_ble_eq_true rfl⟩) (fun r_1 u H locs hw hP hD hS => ?_)
            try dsimp only at hw
            have hP : va_P D vwCl [(ce_xm bd x_thrown x_men x_ships x_entries x_rules x_calls x_gangs x_idle x_moved x_paid x_taped x_at x_end x_begin x_faultAt x_wants), ((bd 30), .inl (y 0, 4, .inl x_most)), ((bd 31), .inl (y 0, 6561, .inl x_least))] H := hP
            have hD : va_D A [(ce_xm bd x_thrown x_men x_ships x_entries x_rules x_calls x_gangs x_idle x_moved x_paid x_taped x_at x_end x_begin x_faultAt x_wants), ((bd 30), .inl (y 0, 4, .inl x_most)), ((bd 31), .inl (y 0, 6561, .inl x_least))] := hD
            refine lv_imul hx hb dX9_best_111 ?_
            refine lv_isub hx hb dX9_best_112 ?_
            refine mx_i (wc := [(ce_xm bd x_thrown x_men x_ships x_entries x_rules x_calls x_gangs x_idle x_moved x_paid x_taped x_at x_end x_begin x_faultAt x_wants), ((bd 30), .inl (y 0, 4, .inl x_most)), ((bd 31), .inl (y 0, 6561, .inl x_least))]) (wr := []) hP hD hS hA [0, 1, 2] [] [0, 1, 2] rfl rfl (by decide) (by decide) (by decide) (fun (u : Unit) => [(ce_xm bd x_thrown x_men x_ships x_entries x_rules x_calls x_gangs x_idle x_moved x_paid x_taped x_at x_end x_begin x_faultAt x_wants), ((bd 30), .inl (y 0, 4, .inl x_most)), ((bd 31), .inl (y 0, 6561, .inl x_least))]) (fun _ => rfl) (va_runV (As := [.int v1, .int (v2 + 1), .int (v3 - v7), .int (v4 - (v7 * r_1))]) (rest := [.int v6]) ⟨hx, hb, hml, hown, hts⟩ (c_Model_best0 l D y bd H.size x_thrown x_men x_ships x_entries x_rules x_calls x_gangs x_idle x_moved x_paid x_taped x_at x_end x_begin x_faultAt x_wants x_most x_least v1 (v2 + 1) (v3 - v7) (v4 - (v7 * r_1)) hw) (cwV 4 hts gX9_best_X9_best rfl rfl rfl (by decide +kernel) ⟨Nat.le_of_ble_eq_true rfl, Nat.le_of_ble_eq_true rfl⟩) ⟨mPre.blind, (va_recv hK hP (ci := 11) (q0 := 0) rfl rfl), mPre.to (hP.sub [0, 1, 2] rfl) hK (hD.sub [0, 1, 2] (by decide) rfl) hE⟩ rfl rfl hl.1 rfl (lv_room (Nat.le_of_ble_eq_true rfl)) dX9_best_113 ⟨Nat.le_of_ble_eq_true rfl, Nat.le_of_ble_eq_true rfl⟩) (fun r_2 u H locs hw hP hD hS => ?_)
            try dsimp only at hw
            have hP : va_P D vwCl [(ce_xm bd x_thrown x_men x_ships x_entries x_rules x_calls x_gangs x_idle x_moved x_paid x_taped x_at x_end x_begin x_faultAt x_wants), ((bd 30), .inl (y 0, 4, .inl x_most)), ((bd 31), .inl (y 0, 6561, .inl x_least))] H := hP
            have hD : va_D A [(ce_xm bd x_thrown x_men x_ships x_entries x_rules x_calls x_gangs x_idle x_moved x_paid x_taped x_at x_end x_begin x_faultAt x_wants), ((bd 30), .inl (y 0, 4, .inl x_most)), ((bd 31), .inl (y 0, 6561, .inl x_least))] := hD
            refine va_mmin hx hb (by rw [hml]; exact hl.1.symm) hown (hts (.methodLink RX9 227 Lib.Math.min.name) (by decide +kernel)) (hts (.static Lib.Math.min.name) (by decide +kernel)) (hts (.initialized "java/lang/Math") (by decide +kernel)) (hts (.code Lib.Math.min.name Lib.Math.min.code 2 (some .int)) (by decide +kernel)) (Nat.le_of_ble_eq_true rfl) (Nat.le_of_ble_eq_true rfl) (Nat.le_of_ble_eq_true rfl) (Nat.le_of_ble_eq_true rfl) dX9_best_116 ?_
            refine lv_istore (lv' := [(6, .int (if r_2 < v6 then r_2 else v6)), (7, .int v7), (5, .int v5), (0, .ref (bd 0)), (1, .int v1), (2, .int v2), (3, .int v3), (4, .int v4)]) hx hb dX9_best_119 hl (by decide) rfl (fun ls hl => ?_)
            refine lv_iinc (v := v7 + 1) (lv' := [(7, .int (v7 + 1)), (6, .int (if r_2 < v6 then r_2 else v6)), (5, .int v5), (0, .ref (bd 0)), (1, .int v1), (2, .int v2), (3, .int v3), (4, .int v4)]) hx hb dX9_best_121 hl (k := 1) rfl (by first | rfl | decide) (by decide) rfl (fun ls hl => ?_)
            refine lv_goto (tgt := 56) hx hb dX9_best_124 (by decide) ?_
            exact ih (if r_2 < v6 then r_2 else v6) (v7 + 1)  hw _ _ _ hP hD hS (lv_sub hl [0, 1, 2, 3, 4, 5, 6, 7] rfl)
        · have hw := hw.2 hc
          refine lv_aload_n hx hb dX9_best_79 rfl (lv_at hl 3 rfl) ?_
          refine va_get (ci := 11) (v := .ref (bd 30)) (C := RX9) (T := TX9) (N := 47) hx hb hts inw_X9_best_X9 hown hK hP 0 rfl rfl 44 (by decide) (hts (.fieldLink RX9 103 "DockCallModel" "most" "[I") (by decide +kernel)) (fun _ h9 => h9) rfl dX9_best_80 ?_
          refine lv_iload_n hx hb dX9_best_83 rfl (lv_at hl 5 rfl) ?_
          obtain ⟨hi, hw⟩ := hw
          refine va_iald hx hb hK hP 1 0 rfl rfl hi dX9_best_84 ?_
          refine lv_goto (tgt := 89) hx hb dX9_best_85 (by decide) ?_
          refine lv_icmp_gt (tgt := 127) hx hb dX9_best_89 (by decide) (fun hc => ?_) (fun hc => ?_)
          · have hw := hw.1 hc
            refine lv_iload hx hb dX9_best_127 (lv_at hl 1 rfl) ?_
            exact W.iret (v := v6) hx hb hr (fun t ht hW => ⟨⟨v6, (), rfl, hw, mAt.to hP hK hD ht hW⟩, hS.F ht⟩) hS.2.2 dX9_best_129
          · have hw := hw.2 hc
            refine lv_iload hx hb dX9_best_92 (lv_at hl 1 rfl) ?_
            refine lv_aload_n hx hb dX9_best_94 rfl (lv_at hl 3 rfl) ?_
            refine lv_iload_n hx hb dX9_best_95 rfl (lv_at hl 4 rfl) ?_
            refine lv_iload_n hx hb dX9_best_96 rfl (lv_at hl 5 rfl) ?_
            refine lv_iconst (v := 1) hx hb dX9_best_97 (by decide) ?_
            refine lv_iadd hx hb dX9_best_98 ?_
            refine lv_iload_n hx hb dX9_best_99 rfl (lv_at hl 6 rfl) ?_
            refine lv_iload hx hb dX9_best_100 (lv_at hl 0 rfl) ?_
            refine lv_isub hx hb dX9_best_102 ?_
            refine lv_iload hx hb dX9_best_103 (lv_at hl 7 rfl) ?_
            refine lv_iload hx hb dX9_best_105 (lv_at hl 0 rfl) ?_
            refine lv_iload_n hx hb dX9_best_107 rfl (lv_at hl 5 rfl) ?_
            refine mx_i (wc := []) (wr := [(ce_xm bd x_thrown x_men x_ships x_entries x_rules x_calls x_gangs x_idle x_moved x_paid x_taped x_at x_end x_begin x_faultAt x_wants), ((bd 30), .inl (y 0, 4, .inl x_most)), ((bd 31), .inl (y 0, 6561, .inl x_least))]) hP hD hS hA [] [0, 1, 2] [0, 1, 2] rfl rfl (by decide) (by decide) (by decide) (fun (u : Unit) => [(ce_xm bd x_thrown x_men x_ships x_entries x_rules x_calls x_gangs x_idle x_moved x_paid x_taped x_at x_end x_begin x_faultAt x_wants), ((bd 30), .inl (y 0, 4, .inl x_most)), ((bd 31), .inl (y 0, 6561, .inl x_least))]) (fun _ => rfl) (va_runS (As := [.int v2]) (rest := [.int v7, .int v4, .int (v3 - v7), .int (v2 + 1), .int v1, .ref (bd 0), .int v6]) ⟨hx, hb, hml, hown, hts⟩ (c_Model_power l D y H.size v2 hw) (va_cwS 1 hts gX9_best_X9_power rfl rfl rfl (by decide +kernel) ⟨Nat.le_of_ble_eq_true rfl, Nat.le_of_ble_eq_true rfl⟩) ⟨mPre.blind, mPre.to (hP.sub [] rfl) hK (hD.sub [] (by decide) rfl) hE⟩ rfl rfl hl.1 rfl (lv_room (Nat.le_of_ble_eq_true rfl)) dX9_best_108 ⟨Nat.le_of_ble_eq_true rfl, Nat.le_of_ble_eq_true rfl⟩) (fun r_3 u H locs hw hP hD hS => ?_)
            try dsimp only at hw
            have hP : va_P D vwCl [(ce_xm bd x_thrown x_men x_ships x_entries x_rules x_calls x_gangs x_idle x_moved x_paid x_taped x_at x_end x_begin x_faultAt x_wants), ((bd 30), .inl (y 0, 4, .inl x_most)), ((bd 31), .inl (y 0, 6561, .inl x_least))] H := hP
            have hD : va_D A [(ce_xm bd x_thrown x_men x_ships x_entries x_rules x_calls x_gangs x_idle x_moved x_paid x_taped x_at x_end x_begin x_faultAt x_wants), ((bd 30), .inl (y 0, 4, .inl x_most)), ((bd 31), .inl (y 0, 6561, .inl x_least))] := hD
            refine lv_imul hx hb dX9_best_111 ?_
            refine lv_isub hx hb dX9_best_112 ?_
            refine mx_i (wc := [(ce_xm bd x_thrown x_men x_ships x_entries x_rules x_calls x_gangs x_idle x_moved x_paid x_taped x_at x_end x_begin x_faultAt x_wants), ((bd 30), .inl (y 0, 4, .inl x_most)), ((bd 31), .inl (y 0, 6561, .inl x_least))]) (wr := []) hP hD hS hA [0, 1, 2] [] [0, 1, 2] rfl rfl (by decide) (by decide) (by decide) (fun (u : Unit) => [(ce_xm bd x_thrown x_men x_ships x_entries x_rules x_calls x_gangs x_idle x_moved x_paid x_taped x_at x_end x_begin x_faultAt x_wants), ((bd 30), .inl (y 0, 4, .inl x_most)), ((bd 31), .inl (y 0, 6561, .inl x_least))]) (fun _ => rfl) (va_runV (As := [.int v1, .int (v2 + 1), .int (v3 - v7), .int (v4 - (v7 * r_3))]) (rest := [.int v6]) ⟨hx, hb, hml, hown, hts⟩ (c_Model_best0 l D y bd H.size x_thrown x_men x_ships x_entries x_rules x_calls x_gangs x_idle x_moved x_paid x_taped x_at x_end x_begin x_faultAt x_wants x_most x_least v1 (v2 + 1) (v3 - v7) (v4 - (v7 * r_3)) hw) (cwV 4 hts gX9_best_X9_best rfl rfl rfl (by decide +kernel) ⟨Nat.le_of_ble_eq_true rfl, Nat.le_of_ble_eq_true rfl⟩) ⟨mPre.blind, (va_recv hK hP (ci := 11) (q0 := 0) rfl rfl), mPre.to (hP.sub [0, 1, 2] rfl) hK (hD.sub [0, 1, 2] (by decide) rfl) hE⟩ rfl rfl hl.1 rfl (lv_room (Nat.le_of_ble_eq_true rfl)) dX9_best_113 ⟨Nat.le_of_ble_eq_true rfl, Nat.le_of_ble_eq_true rfl⟩) (fun r_4 u H locs hw hP hD hS => ?_)
            try dsimp only at hw
            have hP : va_P D vwCl [(ce_xm bd x_thrown x_men x_ships x_entries x_rules x_calls x_gangs x_idle x_moved x_paid x_taped x_at x_end x_begin x_faultAt x_wants), ((bd 30), .inl (y 0, 4, .inl x_most)), ((bd 31), .inl (y 0, 6561, .inl x_least))] H := hP
            have hD : va_D A [(ce_xm bd x_thrown x_men x_ships x_entries x_rules x_calls x_gangs x_idle x_moved x_paid x_taped x_at x_end x_begin x_faultAt x_wants), ((bd 30), .inl (y 0, 4, .inl x_most)), ((bd 31), .inl (y 0, 6561, .inl x_least))] := hD
            refine va_mmin hx hb (by rw [hml]; exact hl.1.symm) hown (hts (.methodLink RX9 227 Lib.Math.min.name) (by decide +kernel)) (hts (.static Lib.Math.min.name) (by decide +kernel)) (hts (.initialized "java/lang/Math") (by decide +kernel)) (hts (.code Lib.Math.min.name Lib.Math.min.code 2 (some .int)) (by decide +kernel)) (Nat.le_of_ble_eq_true rfl) (Nat.le_of_ble_eq_true rfl) (Nat.le_of_ble_eq_true rfl) (Nat.le_of_ble_eq_true rfl) dX9_best_116 ?_
            refine lv_istore (lv' := [(6, .int (if r_4 < v6 then r_4 else v6)), (7, .int v7), (5, .int v5), (0, .ref (bd 0)), (1, .int v1), (2, .int v2), (3, .int v3), (4, .int v4)]) hx hb dX9_best_119 hl (by decide) rfl (fun ls hl => ?_)
            refine lv_iinc (v := v7 + 1) (lv' := [(7, .int (v7 + 1)), (6, .int (if r_4 < v6 then r_4 else v6)), (5, .int v5), (0, .ref (bd 0)), (1, .int v1), (2, .int v2), (3, .int v3), (4, .int v4)]) hx hb dX9_best_121 hl (k := 1) rfl (by first | rfl | decide) (by decide) rfl (fun ls hl => ?_)
            refine lv_goto (tgt := 56) hx hb dX9_best_124 (by decide) ?_
            exact ih (if r_4 < v6 then r_4 else v6) (v7 + 1)  hw _ _ _ hP hD hS (lv_sub hl [0, 1, 2, 3, 4, 5, 6, 7] rfl)
set_option maxHeartbeats 4000000 in
set_option maxRecDepth 100000 in
theorem c_Model_best1 (l : Launch) (D : va_G) (y : Nat → ClassId) (bd : Nat → Nat) (sz : Nat) (x_thrown : Int32) (x_men : Int32) (x_ships : Int32) (x_entries : Int32) (x_rules : Int32) (x_calls : Int32) (x_gangs : Int32) (x_idle : Int32) (x_moved : Int64) (x_paid : Int64) (x_taped : Int32) (x_at : Int32) (x_end : Int32) (x_begin : Int32) (x_faultAt : Int32) (x_wants : Int32) (x_most : Nat → Int32) (x_least : Nat → Int32) (p0 : Int32) (p1 : Int32) (p2 : Int32) (p3 : Int32) {Q : Int32 → Prop} (hw : wp_Model_best1 x_wants x_most x_least p0 p1 p2 p3 Q) : Met l yX9_best wsX9_best ({ frames := 2, cells := 0, slots := 0, locals := 47 }) (va_Pc [.ref (bd 0), .int p0, .int p1, .int p2, .int p3] (mPre D y sz [(ce_xm bd x_thrown x_men x_ships x_entries x_rules x_calls x_gangs x_idle x_moved x_paid x_taped x_at x_end x_begin x_faultAt x_wants), ((bd 30), .inl (y 0, 4, .inl x_most)), ((bd 31), .inl (y 0, 6561, .inl x_least))])) (va_Qi (fun (r : Int32) (u : Unit) => Q r ) (mAt D y (va_A [(ce_xm bd x_thrown x_men x_ships x_entries x_rules x_calls x_gangs x_idle x_moved x_paid x_taped x_at x_end x_begin x_faultAt x_wants), ((bd 30), .inl (y 0, 4, .inl x_most)), ((bd 31), .inl (y 0, 6561, .inl x_least))] sz) (fun (u : Unit) => [(ce_xm bd x_thrown x_men x_ships x_entries x_rules x_calls x_gangs x_idle x_moved x_paid x_taped x_at x_end x_begin x_faultAt x_wants), ((bd 30), .inl (y 0, 4, .inl x_most)), ((bd 31), .inl (y 0, 6561, .inl x_least))])) (va_A [(ce_xm bd x_thrown x_men x_ships x_entries x_rules x_calls x_gangs x_idle x_moved x_paid x_taped x_at x_end x_begin x_faultAt x_wants), ((bd 30), .inl (y 0, 4, .inl x_most)), ((bd 31), .inl (y 0, 6561, .inl x_least))] sz)) 0 0 (va_A [(ce_xm bd x_thrown x_men x_ships x_entries x_rules x_calls x_gangs x_idle x_moved x_paid x_taped x_at x_end x_begin x_faultAt x_wants), ((bd 30), .inl (y 0, 4, .inl x_most)), ((bd 31), .inl (y 0, 6561, .inl x_least))] sz) := by
  unfold wp_Model_best1 at hw
  refine Met.ofW (cc := cX9_best) (maxL := 8) (ret := some .int) (by decide) rfl ?_
  intro p e s m args below meth c s₁ B hml hv
  obtain ⟨rfl, hsz, hP, hK, hD0, hE⟩ := hv
  have hx := B.exec
  have hb := B.bytes
  have hr := B.returns
  have hts := atoms_spec (ws := wsX9_best) B.pre
  have hown : s.vm.findClass RX9 = some m.cls := findClass_of_methodNamed B.named
  have hlocks := B.notSynchronized
  subst hsz
  have hD := hD0.self (sz := s.heap.size)
  generalize hAe : va_A [(ce_xm bd x_thrown x_men x_ships x_entries x_rules x_calls x_gangs x_idle x_moved x_paid x_taped x_at x_end x_begin x_faultAt x_wants), ((bd 30), .inl (y 0, 4, .inl x_most)), ((bd 31), .inl (y 0, 6561, .inl x_least))] s.heap.size = A at hD ⊢
  have hA : ∀ q : Nat, s.heap.size ≤ q → A q := fun q h => by rw [← hAe]; exact Or.inr h
  have hS : va_S A s.heap s.heap [] := va_S.rf
  have hP : va_P D vwCl [(ce_xm bd x_thrown x_men x_ships x_entries x_rules x_calls x_gangs x_idle x_moved x_paid x_taped x_at x_end x_begin x_faultAt x_wants), ((bd 30), .inl (y 0, 4, .inl x_most)), ((bd 31), .inl (y 0, 6561, .inl x_least))] s.heap := hP
  have hl := lv_entry ([.ref (bd 0), .int p0, .int p1, .int p2, .int p3]) (n := 8) (Nat.le_of_ble_eq_true rfl)
  rw [lg_entry_eq]
  generalize (lg_sl ([.ref (bd 0), .int p0, .int p1, .int p2, .int p3]) ++ List.replicate (8 - (lg_sl ([.ref (bd 0), .int p0, .int p1, .int p2, .int p3])).length) Slot.unset).toArray = ls at hl ⊢
  have hl : lv_has ls 8 [(0, .ref (bd 0)), (1, .int p0), (2, .int p1), (3, .int p2), (4, .int p3)] := hl
  refine lv_iload_n hx hb dX9_best_0 rfl (lv_at hl 2 rfl) ?_
  refine lv_iconst (v := 4) hx hb dX9_best_1 (by decide) ?_
  refine lv_icmp_ne (tgt := 25) hx hb dX9_best_2 (by decide) (fun hc => ?_) (fun hc => ?_)
  · have hw := hw.2 hc
    refine lv_iload_n hx hb dX9_best_25 rfl (lv_at hl 2 rfl) ?_
    refine lv_aload_n hx hb dX9_best_26 rfl (lv_at hl 0 rfl) ?_
    refine va_get (ci := 11) (v := .int x_wants) (C := RX9) (T := TX9) (N := 47) hx hb hts inw_X9_best_X9 hown hK hP 0 rfl rfl 45 (by decide) (hts (.fieldLink RX9 276 "DockCallModel" "wants" "I") (by decide +kernel)) (fun _ h9 => h9) rfl dX9_best_27 ?_
    refine lv_icmp_ge (tgt := 45) hx hb dX9_best_30 (by decide) (fun hc => ?_) (fun hc => ?_)
    · have hw := hw.1 hc
      refine lv_iconst (v := 0) hx hb dX9_best_45 (by decide) ?_
      refine lv_istore (lv' := [(5, .int 0), (0, .ref (bd 0)), (1, .int p0), (2, .int p1), (3, .int p2), (4, .int p3)]) hx hb dX9_best_46 hl (by decide) rfl (fun ls hl => ?_)
      refine lv_ldcw hx hb hown (hts (.constant RX9 281 2147483647) (by decide +kernel)) dX9_best_48 ?_
      refine lv_istore (lv' := [(6, .int 2147483647), (5, .int 0), (0, .ref (bd 0)), (1, .int p0), (2, .int p1), (3, .int p2), (4, .int p3)]) hx hb dX9_best_51 hl (by decide) rfl (fun ls hl => ?_)
      refine lv_iconst (v := 0) hx hb dX9_best_53 (by decide) ?_
      refine lv_istore (lv' := [(7, .int 0), (6, .int 2147483647), (5, .int 0), (0, .ref (bd 0)), (1, .int p0), (2, .int p1), (3, .int p2), (4, .int p3)]) hx hb dX9_best_54 hl (by decide) rfl (fun ls hl => ?_)
      obtain ⟨n', hw⟩ := hw
      exact c_Model_best1_h56 hx hb hr hml hown hts hlocks hK hE hA  n' 2147483647 0 hw _ _ _ hP hD hS (lv_sub hl [0, 1, 2, 3, 4, 5, 6, 7] rfl)
    · have hw := hw.2 hc
      refine lv_iload_n hx hb dX9_best_33 rfl (lv_at hl 1 rfl) ?_
      refine lv_iload_n hx hb dX9_best_34 rfl (lv_at hl 2 rfl) ?_
      refine mx_i (wc := []) (wr := [(ce_xm bd x_thrown x_men x_ships x_entries x_rules x_calls x_gangs x_idle x_moved x_paid x_taped x_at x_end x_begin x_faultAt x_wants), ((bd 30), .inl (y 0, 4, .inl x_most)), ((bd 31), .inl (y 0, 6561, .inl x_least))]) hP hD hS hA [] [0, 1, 2] [0, 1, 2] rfl rfl (by decide) (by decide) (by decide) (fun (u : Unit) => [(ce_xm bd x_thrown x_men x_ships x_entries x_rules x_calls x_gangs x_idle x_moved x_paid x_taped x_at x_end x_begin x_faultAt x_wants), ((bd 30), .inl (y 0, 4, .inl x_most)), ((bd 31), .inl (y 0, 6561, .inl x_least))]) (fun _ => rfl) (va_runS (As := [.int p1]) (rest := [.int p0]) ⟨hx, hb, hml, hown, hts⟩ (c_Model_power l D y s.heap.size p1 hw) (va_cwS 1 hts gX9_best_X9_power rfl rfl rfl (by decide +kernel) ⟨Nat.le_of_ble_eq_true rfl, Nat.le_of_ble_eq_true rfl⟩) ⟨mPre.blind, mPre.to (hP.sub [] rfl) hK (hD.sub [] (by decide) rfl) hE⟩ rfl rfl hl.1 rfl (lv_room (Nat.le_of_ble_eq_true rfl)) dX9_best_35 ⟨Nat.le_of_ble_eq_true rfl, Nat.le_of_ble_eq_true rfl⟩) (fun r_5 u H locs hw hP hD hS => ?_)
      try dsimp only at hw
      have hP : va_P D vwCl [(ce_xm bd x_thrown x_men x_ships x_entries x_rules x_calls x_gangs x_idle x_moved x_paid x_taped x_at x_end x_begin x_faultAt x_wants), ((bd 30), .inl (y 0, 4, .inl x_most)), ((bd 31), .inl (y 0, 6561, .inl x_least))] H := hP
      have hD : va_D A [(ce_xm bd x_thrown x_men x_ships x_entries x_rules x_calls x_gangs x_idle x_moved x_paid x_taped x_at x_end x_begin x_faultAt x_wants), ((bd 30), .inl (y 0, 4, .inl x_most)), ((bd 31), .inl (y 0, 6561, .inl x_least))] := hD
      obtain ⟨hz, hw⟩ := hw
      refine lv_idiv hx hb dX9_best_38 hz ?_
      refine lv_bipush (v := 9) hx hb dX9_best_39 (by decide) ?_
      refine lv_irem hx hb dX9_best_41 (by decide) ?_
      refine lv_goto (tgt := 46) hx hb dX9_best_42 (by decide) ?_
      refine lv_istore (lv' := [(5, .int ((p0 / r_5) - (p0 / r_5) / 9 * 9)), (0, .ref (bd 0)), (1, .int p0), (2, .int p1), (3, .int p2), (4, .int p3)]) hx hb dX9_best_46 hl (by decide) rfl (fun ls hl => ?_)
      refine lv_ldcw hx hb hown (hts (.constant RX9 281 2147483647) (by decide +kernel)) dX9_best_48 ?_
      refine lv_istore (lv' := [(6, .int 2147483647), (5, .int ((p0 / r_5) - (p0 / r_5) / 9 * 9)), (0, .ref (bd 0)), (1, .int p0), (2, .int p1), (3, .int p2), (4, .int p3)]) hx hb dX9_best_51 hl (by decide) rfl (fun ls hl => ?_)
      refine lv_iconst (v := 0) hx hb dX9_best_53 (by decide) ?_
      refine lv_istore (lv' := [(7, .int 0), (6, .int 2147483647), (5, .int ((p0 / r_5) - (p0 / r_5) / 9 * 9)), (0, .ref (bd 0)), (1, .int p0), (2, .int p1), (3, .int p2), (4, .int p3)]) hx hb dX9_best_54 hl (by decide) rfl (fun ls hl => ?_)
      obtain ⟨n', hw⟩ := hw
      exact c_Model_best1_h56 hx hb hr hml hown hts hlocks hK hE hA  n' 2147483647 0 hw _ _ _ hP hD hS (lv_sub hl [0, 1, 2, 3, 4, 5, 6, 7] rfl)
  · have hw := hw.1 hc
    refine lv_iload hx hb dX9_best_5 (lv_at hl 4 rfl) ?_
    refine lv_iload_n hx hb dX9_best_7 rfl (lv_at hl 1 rfl) ?_
    refine lv_icmp_ne (tgt := 17) hx hb dX9_best_8 (by decide) (fun hc => ?_) (fun hc => ?_)
    · have hw := hw.2 hc
      refine lv_aload_n hx hb dX9_best_17 rfl (lv_at hl 0 rfl) ?_
      refine va_get (ci := 11) (v := .ref (bd 31)) (C := RX9) (T := TX9) (N := 47) hx hb hts inw_X9_best_X9 hown hK hP 0 rfl rfl 46 (by decide) (hts (.fieldLink RX9 106 "DockCallModel" "least" "[I") (by decide +kernel)) (fun _ h9 => h9) rfl dX9_best_18 ?_
      refine lv_iload hx hb dX9_best_21 (lv_at hl 4 rfl) ?_
      obtain ⟨hi, hw⟩ := hw
      refine va_iald hx hb hK hP 2 0 rfl rfl hi dX9_best_23 ?_
      exact W.iret (v := x_least p3.toNatClampNeg) hx hb hr (fun t ht hW => ⟨⟨x_least p3.toNatClampNeg, (), rfl, hw, mAt.to hP hK hD ht hW⟩, hS.F ht⟩) hS.2.2 dX9_best_24
    · have hw := hw.1 hc
      refine lv_ldcw hx hb hown (hts (.constant RX9 281 2147483647) (by decide +kernel)) dX9_best_11 ?_
      refine lv_goto (tgt := 24) hx hb dX9_best_14 (by decide) ?_
      exact W.iret (v := 2147483647) hx hb hr (fun t ht hW => ⟨⟨2147483647, (), rfl, hw, mAt.to hP hK hD ht hW⟩, hS.F ht⟩) hS.2.2 dX9_best_24
def wp_Model_best2_h56 (v1 : Int32) (v2 : Int32) (v3 : Int32) (v4 : Int32) (v5 : Int32) (x_wants : Int32) (x_most : Nat → Int32) (x_least : Nat → Int32)  (Q : Int32 → Prop) : Nat → Int32 → Int32 → Prop
  | 0, _, _ => False
  | n + 1, v6, v7 => ((v5 < v7 → Q v6) ∧ (¬ v5 < v7 → ((v3 < v7 → Q v6) ∧ (¬ v3 < v7 → ((x_wants ≤ v2 → ((0 < v7 → Q v6) ∧ (¬ 0 < v7 → (wp_Model_power v2 (fun r_1 => (wp_Model_best1 x_wants x_most x_least v1 (v2 + 1) (v3 - v7) (v4 - (v7 * r_1)) (fun r_2 => wp_Model_best2_h56 v1 v2 v3 v4 v5 x_wants x_most x_least Q n (if r_2 < v6 then r_2 else v6) (v7 + 1)))))))) ∧ (¬ x_wants ≤ v2 → (vp_in v2 4 ∧ ((x_most v2.toNatClampNeg < v7 → Q v6) ∧ (¬ x_most v2.toNatClampNeg < v7 → (wp_Model_power v2 (fun r_3 => (wp_Model_best1 x_wants x_most x_least v1 (v2 + 1) (v3 - v7) (v4 - (v7 * r_3)) (fun r_4 => wp_Model_best2_h56 v1 v2 v3 v4 v5 x_wants x_most x_least Q n (if r_4 < v6 then r_4 else v6) (v7 + 1))))))))))))))
def wp_Model_best2 (x_wants : Int32) (x_most : Nat → Int32) (x_least : Nat → Int32) (p0 : Int32) (p1 : Int32) (p2 : Int32) (p3 : Int32) (Q : Int32 → Prop) : Prop := ((p1 = 4 → ((p3 = p0 → Q 2147483647) ∧ (¬ p3 = p0 → (vp_in p3 6561 ∧ Q (x_least p3.toNatClampNeg))))) ∧ (¬ p1 = 4 → ((x_wants ≤ p1 → (∃ n' : Nat, wp_Model_best2_h56 p0 p1 p2 p3 0 x_wants x_most x_least Q n' 2147483647 0)) ∧ (¬ x_wants ≤ p1 → (wp_Model_power p1 (fun r_5 => (¬ r_5 = 0 ∧ (∃ n' : Nat, wp_Model_best2_h56 p0 p1 p2 p3 ((p0 / r_5) - (p0 / r_5) / 9 * 9) x_wants x_most x_least Q n' 2147483647 0))))))))
set_option maxHeartbeats 4000000 in
set_option maxRecDepth 100000 in
theorem c_Model_best2_h56 {p : Program} {l : Launch} {e : Env} {s : State} {m : MethodId} {args : Array Value} {below : List Frame} {meth : Method} {c : Code} {D : va_G} {y : Nat → ClassId} {bd : Nat → Nat} {A : Nat → Prop} (hx : p.tables.exec = Jvm.exec) (hb : c.code = cX9_best) (hr : meth.sig.returnType = some .int) (hml : c.maxLocals = 8) (hown : s.vm.findClass RX9 = some m.cls) (hts : ∀ w ∈ wsX9_best, w.before args s = true) (hlocks : meth.locks = false) (hK : va_K D vwCl (TY y) s) (hE : EV s) (hA : ∀ q, s.heap.size ≤ q → A q) {v1 : Int32} {v2 : Int32} {v3 : Int32} {v4 : Int32} {v5 : Int32} {x_wants : Int32} {x_most : Nat → Int32} {x_least : Nat → Int32} {x_thrown : Int32} {x_men : Int32} {x_ships : Int32} {x_entries : Int32} {x_rules : Int32} {x_calls : Int32} {x_gangs : Int32} {x_idle : Int32} {x_moved : Int64} {x_paid : Int64} {x_taped : Int32} {x_at : Int32} {x_end : Int32} {x_begin : Int32} {x_faultAt : Int32}  {Q : Int32 → Prop}  : ∀ (n : Nat) (v6 : Int32) (v7 : Int32), wp_Model_best2_h56 v1 v2 v3 v4 v5 x_wants x_most x_least Q n v6 v7 → ∀ (H : Heap) (locs : List Loc) (ls : Array Slot), va_P D vwCl [(ce_xm bd x_thrown x_men x_ships x_entries x_rules x_calls x_gangs x_idle x_moved x_paid x_taped x_at x_end x_begin x_faultAt x_wants), ((bd 30), .inl (y 0, 4, .inl x_most)), ((bd 31), .inl (y 0, 6561, .inl x_least))] H → va_D A [(ce_xm bd x_thrown x_men x_ships x_entries x_rules x_calls x_gangs x_idle x_moved x_paid x_taped x_at x_end x_begin x_faultAt x_wants), ((bd 30), .inl (y 0, 4, .inl x_most)), ((bd 31), .inl (y 0, 6561, .inl x_least))] → va_S A s.heap H locs → lv_has ls 8 [(7, .int v7), (6, .int v6), (5, .int v5), (0, .ref (bd 0)), (1, .int v1), (2, .int v2), (3, .int v3), (4, .int v4)] → W p l e ({ frames := 3, cells := 0, slots := 0, locals := 74 }) s m args below meth c H locs 0 0 (MQ below (va_Qi (fun (r : Int32) (u : Unit) => Q r ) (mAt D y A (fun (u : Unit) => [(ce_xm bd x_thrown x_men x_ships x_entries x_rules x_calls x_gangs x_idle x_moved x_paid x_taped x_at x_end x_begin x_faultAt x_wants), ((bd 30), .inl (y 0, 4, .inl x_most)), ((bd 31), .inl (y 0, 6561, .inl x_least))])) A) args s 0 0 A) (F0 m 56 ls []) := by
  intro n
  induction n with
  | zero => intro v6 v7 hw; rw [wp_Model_best2_h56] at hw; exact hw.elim
  | succ n ih =>
    intro v6 v7 hw H locs ls hP hD hS hl
    rw [wp_Model_best2_h56] at hw
    refine lv_iload hx hb dX9_best_56 (lv_at hl 0 rfl) ?_
    refine lv_iload hx hb dX9_best_58 (lv_at hl 2 rfl) ?_
    refine lv_icmp_gt (tgt := 127) hx hb dX9_best_60 (by decide) (fun hc => ?_) (fun hc => ?_)
    · have hw := hw.1 hc
      refine lv_iload hx hb dX9_best_127 (lv_at hl 1 rfl) ?_
      exact W.iret (v := v6) hx hb hr (fun t ht hW => ⟨⟨v6, (), rfl, hw, mAt.to hP hK hD ht hW⟩, hS.F ht⟩) hS.2.2 dX9_best_129
    · have hw := hw.2 hc
      refine lv_iload hx hb dX9_best_63 (lv_at hl 0 rfl) ?_
      refine lv_iload_n hx hb dX9_best_65 rfl (lv_at hl 6 rfl) ?_
      refine lv_icmp_gt (tgt := 127) hx hb dX9_best_66 (by decide) (fun hc => ?_) (fun hc => ?_)
      · have hw := hw.1 hc
        refine lv_iload hx hb dX9_best_127 (lv_at hl 1 rfl) ?_
        exact W.iret (v := v6) hx hb hr (fun t ht hW => ⟨⟨v6, (), rfl, hw, mAt.to hP hK hD ht hW⟩, hS.F ht⟩) hS.2.2 dX9_best_129
      · have hw := hw.2 hc
        refine lv_iload hx hb dX9_best_69 (lv_at hl 0 rfl) ?_
        refine lv_iload_n hx hb dX9_best_71 rfl (lv_at hl 5 rfl) ?_
        refine lv_aload_n hx hb dX9_best_72 rfl (lv_at hl 3 rfl) ?_
        refine va_get (ci := 11) (v := .int x_wants) (C := RX9) (T := TX9) (N := 47) hx hb hts inw_X9_best_X9 hown hK hP 0 rfl rfl 45 (by decide) (hts (.fieldLink RX9 276 "DockCallModel" "wants" "I") (by decide +kernel)) (fun _ h9 => h9) rfl dX9_best_73 ?_
        refine lv_icmp_ge (tgt := 88) hx hb dX9_best_76 (by decide) (fun hc => ?_) (fun hc => ?_)
        · have hw := hw.1 hc
          refine lv_iconst (v := 0) hx hb dX9_best_88 (by decide) ?_
          refine lv_icmp_gt (tgt := 127) hx hb dX9_best_89 (by decide) (fun hc => ?_) (fun hc => ?_)
          · have hw := hw.1 hc
            refine lv_iload hx hb dX9_best_127 (lv_at hl 1 rfl) ?_
            exact W.iret (v := v6) hx hb hr (fun t ht hW => ⟨⟨v6, (), rfl, hw, mAt.to hP hK hD ht hW⟩, hS.F ht⟩) hS.2.2 dX9_best_129
          · have hw := hw.2 hc
            refine lv_iload hx hb dX9_best_92 (lv_at hl 1 rfl) ?_
            refine lv_aload_n hx hb dX9_best_94 rfl (lv_at hl 3 rfl) ?_
            refine lv_iload_n hx hb dX9_best_95 rfl (lv_at hl 4 rfl) ?_
            refine lv_iload_n hx hb dX9_best_96 rfl (lv_at hl 5 rfl) ?_
            refine lv_iconst (v := 1) hx hb dX9_best_97 (by decide) ?_
            refine lv_iadd hx hb dX9_best_98 ?_
            refine lv_iload_n hx hb dX9_best_99 rfl (lv_at hl 6 rfl) ?_
            refine lv_iload hx hb dX9_best_100 (lv_at hl 0 rfl) ?_
            refine lv_isub hx hb dX9_best_102 ?_
            refine lv_iload hx hb dX9_best_103 (lv_at hl 7 rfl) ?_
            refine lv_iload hx hb dX9_best_105 (lv_at hl 0 rfl) ?_
            refine lv_iload_n hx hb dX9_best_107 rfl (lv_at hl 5 rfl) ?_
            refine mx_i (wc := []) (wr := [(ce_xm bd x_thrown x_men x_ships x_entries x_rules x_calls x_gangs x_idle x_moved x_paid x_taped x_at x_end x_begin x_faultAt x_wants), ((bd 30), .inl (y 0, 4, .inl x_most)), ((bd 31), .inl (y 0, 6561, .inl x_least))]) hP hD hS hA [] [0, 1, 2] [0, 1, 2] rfl rfl (by decide) (by decide) (by decide) (fun (u : Unit) => [(ce_xm bd x_thrown x_men x_ships x_entries x_rules x_calls x_gangs x_idle x_moved x_paid x_taped x_at x_end x_begin x_faultAt x_wants), ((bd 30), .inl (y 0, 4, .inl x_most)), ((bd 31), .inl (y 0, 6561, .inl x_least))]) (fun _ => rfl) (va_runS (As := [.int v2]) (rest := [.int v7, .int v4, .int (v3 - v7), .int (v2 + 1), .int v1, .ref (bd 0), .int v6]) ⟨hx, hb, hml, hown, hts⟩ (c_Model_power l D y H.size v2 hw) (va_cwS 1 hts gX9_best_X9_power rfl rfl rfl (by decide +kernel) ⟨Nat.le_of_ble_eq_true rfl, Nat.le_of_ble_eq_true rfl⟩) ⟨mPre.blind, mPre.to (hP.sub [] rfl) hK (hD.sub [] (by decide) rfl) hE⟩ rfl rfl hl.1 rfl (lv_room (Nat.le_of_ble_eq_true rfl)) dX9_best_108 ⟨Nat.le_of_ble_eq_true rfl, Nat.le_of_ble_eq_true rfl⟩) (fun r_1 u H locs hw hP hD hS => ?_)
            try dsimp only at hw
            have hP : va_P D vwCl [(ce_xm bd x_thrown x_men x_ships x_entries x_rules x_calls x_gangs x_idle x_moved x_paid x_taped x_at x_end x_begin x_faultAt x_wants), ((bd 30), .inl (y 0, 4, .inl x_most)), ((bd 31), .inl (y 0, 6561, .inl x_least))] H := hP
            have hD : va_D A [(ce_xm bd x_thrown x_men x_ships x_entries x_rules x_calls x_gangs x_idle x_moved x_paid x_taped x_at x_end x_begin x_faultAt x_wants), ((bd 30), .inl (y 0, 4, .inl x_most)), ((bd 31), .inl (y 0, 6561, .inl x_least))] := hD
            refine lv_imul hx hb dX9_best_111 ?_
            refine lv_isub hx hb dX9_best_112 ?_
            refine mx_i (wc := [(ce_xm bd x_thrown x_men x_ships x_entries x_rules x_calls x_gangs x_idle x_moved x_paid x_taped x_at x_end x_begin x_faultAt x_wants), ((bd 30), .inl (y 0, 4, .inl x_most)), ((bd 31), .inl (y 0, 6561, .inl x_least))]) (wr := []) hP hD hS hA [0, 1, 2] [] [0, 1, 2] rfl rfl (by decide) (by decide) (by decide) (fun (u : Unit) => [(ce_xm bd x_thrown x_men x_ships x_entries x_rules x_calls x_gangs x_idle x_moved x_paid x_taped x_at x_end x_begin x_faultAt x_wants), ((bd 30), .inl (y 0, 4, .inl x_most)), ((bd 31), .inl (y 0, 6561, .inl x_least))]) (fun _ => rfl) (va_runV (As := [.int v1, .int (v2 + 1), .int (v3 - v7), .int (v4 - (v7 * r_1))]) (rest := [.int v6]) ⟨hx, hb, hml, hown, hts⟩ (c_Model_best1 l D y bd H.size x_thrown x_men x_ships x_entries x_rules x_calls x_gangs x_idle x_moved x_paid x_taped x_at x_end x_begin x_faultAt x_wants x_most x_least v1 (v2 + 1) (v3 - v7) (v4 - (v7 * r_1)) hw) (cwV 4 hts gX9_best_X9_best rfl rfl rfl (by decide +kernel) ⟨Nat.le_of_ble_eq_true rfl, Nat.le_of_ble_eq_true rfl⟩) ⟨mPre.blind, (va_recv hK hP (ci := 11) (q0 := 0) rfl rfl), mPre.to (hP.sub [0, 1, 2] rfl) hK (hD.sub [0, 1, 2] (by decide) rfl) hE⟩ rfl rfl hl.1 rfl (lv_room (Nat.le_of_ble_eq_true rfl)) dX9_best_113 ⟨Nat.le_of_ble_eq_true rfl, Nat.le_of_ble_eq_true rfl⟩) (fun r_2 u H locs hw hP hD hS => ?_)
            try dsimp only at hw
            have hP : va_P D vwCl [(ce_xm bd x_thrown x_men x_ships x_entries x_rules x_calls x_gangs x_idle x_moved x_paid x_taped x_at x_end x_begin x_faultAt x_wants), ((bd 30), .inl (y 0, 4, .inl x_most)), ((bd 31), .inl (y 0, 6561, .inl x_least))] H := hP
            have hD : va_D A [(ce_xm bd x_thrown x_men x_ships x_entries x_rules x_calls x_gangs x_idle x_moved x_paid x_taped x_at x_end x_begin x_faultAt x_wants), ((bd 30), .inl (y 0, 4, .inl x_most)), ((bd 31), .inl (y 0, 6561, .inl x_least))] := hD
            refine va_mmin hx hb (by rw [hml]; exact hl.1.symm) hown (hts (.methodLink RX9 227 Lib.Math.min.name) (by decide +kernel)) (hts (.static Lib.Math.min.name) (by decide +kernel)) (hts (.initialized "java/lang/Math") (by decide +kernel)) (hts (.code Lib.Math.min.name Lib.Math.min.code 2 (some .int)) (by decide +kernel)) (Nat.le_of_ble_eq_true rfl) (Nat.le_of_ble_eq_true rfl) (Nat.le_of_ble_eq_true rfl) (Nat.le_of_ble_eq_true rfl) dX9_best_116 ?_
            refine lv_istore (lv' := [(6, .int (if r_2 < v6 then r_2 else v6)), (7, .int v7), (5, .int v5), (0, .ref (bd 0)), (1, .int v1), (2, .int v2), (3, .int v3), (4, .int v4)]) hx hb dX9_best_119 hl (by decide) rfl (fun ls hl => ?_)
            refine lv_iinc (v := v7 + 1) (lv' := [(7, .int (v7 + 1)), (6, .int (if r_2 < v6 then r_2 else v6)), (5, .int v5), (0, .ref (bd 0)), (1, .int v1), (2, .int v2), (3, .int v3), (4, .int v4)]) hx hb dX9_best_121 hl (k := 1) rfl (by first | rfl | decide) (by decide) rfl (fun ls hl => ?_)
            refine lv_goto (tgt := 56) hx hb dX9_best_124 (by decide) ?_
            exact ih (if r_2 < v6 then r_2 else v6) (v7 + 1)  hw _ _ _ hP hD hS (lv_sub hl [0, 1, 2, 3, 4, 5, 6, 7] rfl)
        · have hw := hw.2 hc
          refine lv_aload_n hx hb dX9_best_79 rfl (lv_at hl 3 rfl) ?_
          refine va_get (ci := 11) (v := .ref (bd 30)) (C := RX9) (T := TX9) (N := 47) hx hb hts inw_X9_best_X9 hown hK hP 0 rfl rfl 44 (by decide) (hts (.fieldLink RX9 103 "DockCallModel" "most" "[I") (by decide +kernel)) (fun _ h9 => h9) rfl dX9_best_80 ?_
          refine lv_iload_n hx hb dX9_best_83 rfl (lv_at hl 5 rfl) ?_
          obtain ⟨hi, hw⟩ := hw
          refine va_iald hx hb hK hP 1 0 rfl rfl hi dX9_best_84 ?_
          refine lv_goto (tgt := 89) hx hb dX9_best_85 (by decide) ?_
          refine lv_icmp_gt (tgt := 127) hx hb dX9_best_89 (by decide) (fun hc => ?_) (fun hc => ?_)
          · have hw := hw.1 hc
            refine lv_iload hx hb dX9_best_127 (lv_at hl 1 rfl) ?_
            exact W.iret (v := v6) hx hb hr (fun t ht hW => ⟨⟨v6, (), rfl, hw, mAt.to hP hK hD ht hW⟩, hS.F ht⟩) hS.2.2 dX9_best_129
          · have hw := hw.2 hc
            refine lv_iload hx hb dX9_best_92 (lv_at hl 1 rfl) ?_
            refine lv_aload_n hx hb dX9_best_94 rfl (lv_at hl 3 rfl) ?_
            refine lv_iload_n hx hb dX9_best_95 rfl (lv_at hl 4 rfl) ?_
            refine lv_iload_n hx hb dX9_best_96 rfl (lv_at hl 5 rfl) ?_
            refine lv_iconst (v := 1) hx hb dX9_best_97 (by decide) ?_
            refine lv_iadd hx hb dX9_best_98 ?_
            refine lv_iload_n hx hb dX9_best_99 rfl (lv_at hl 6 rfl) ?_
            refine lv_iload hx hb dX9_best_100 (lv_at hl 0 rfl) ?_
            refine lv_isub hx hb dX9_best_102 ?_
            refine lv_iload hx hb dX9_best_103 (lv_at hl 7 rfl) ?_
            refine lv_iload hx hb dX9_best_105 (lv_at hl 0 rfl) ?_
            refine lv_iload_n hx hb dX9_best_107 rfl (lv_at hl 5 rfl) ?_
            refine mx_i (wc := []) (wr := [(ce_xm bd x_thrown x_men x_ships x_entries x_rules x_calls x_gangs x_idle x_moved x_paid x_taped x_at x_end x_begin x_faultAt x_wants), ((bd 30), .inl (y 0, 4, .inl x_most)), ((bd 31), .inl (y 0, 6561, .inl x_least))]) hP hD hS hA [] [0, 1, 2] [0, 1, 2] rfl rfl (by decide) (by decide) (by decide) (fun (u : Unit) => [(ce_xm bd x_thrown x_men x_ships x_entries x_rules x_calls x_gangs x_idle x_moved x_paid x_taped x_at x_end x_begin x_faultAt x_wants), ((bd 30), .inl (y 0, 4, .inl x_most)), ((bd 31), .inl (y 0, 6561, .inl x_least))]) (fun _ => rfl) (va_runS (As := [.int v2]) (rest := [.int v7, .int v4, .int (v3 - v7), .int (v2 + 1), .int v1, .ref (bd 0), .int v6]) ⟨hx, hb, hml, hown, hts⟩ (c_Model_power l D y H.size v2 hw) (va_cwS 1 hts gX9_best_X9_power rfl rfl rfl (by decide +kernel) ⟨Nat.le_of_ble_eq_true rfl, Nat.le_of_ble_eq_true rfl⟩) ⟨mPre.blind, mPre.to (hP.sub [] rfl) hK (hD.sub [] (by decide) rfl) hE⟩ rfl rfl hl.1 rfl (lv_room (Nat.le_of_ble_eq_true rfl)) dX9_best_108 ⟨Nat.le_of_ble_eq_true rfl, Nat.le_of_ble_eq_true rfl⟩) (fun r_3 u H locs hw hP hD hS => ?_)
            try dsimp only at hw
            have hP : va_P D vwCl [(ce_xm bd x_thrown x_men x_ships x_entries x_rules x_calls x_gangs x_idle x_moved x_paid x_taped x_at x_end x_begin x_faultAt x_wants), ((bd 30), .inl (y 0, 4, .inl x_most)), ((bd 31), .inl (y 0, 6561, .inl x_least))] H := hP
            have hD : va_D A [(ce_xm bd x_thrown x_men x_ships x_entries x_rules x_calls x_gangs x_idle x_moved x_paid x_taped x_at x_end x_begin x_faultAt x_wants), ((bd 30), .inl (y 0, 4, .inl x_most)), ((bd 31), .inl (y 0, 6561, .inl x_least))] := hD
            refine lv_imul hx hb dX9_best_111 ?_
            refine lv_isub hx hb dX9_best_112 ?_
            refine mx_i (wc := [(ce_xm bd x_thrown x_men x_ships x_entries x_rules x_calls x_gangs x_idle x_moved x_paid x_taped x_at x_end x_begin x_faultAt x_wants), ((bd 30), .inl (y 0, 4, .inl x_most)), ((bd 31), .inl (y 0, 6561, .inl x_least))]) (wr := []) hP hD hS hA [0, 1, 2] [] [0, 1, 2] rfl rfl (by decide) (by decide) (by decide) (fun (u : Unit) => [(ce_xm bd x_thrown x_men x_ships x_entries x_rules x_calls x_gangs x_idle x_moved x_paid x_taped x_at x_end x_begin x_faultAt x_wants), ((bd 30), .inl (y 0, 4, .inl x_most)), ((bd 31), .inl (y 0, 6561, .inl x_least))]) (fun _ => rfl) (va_runV (As := [.int v1, .int (v2 + 1), .int (v3 - v7), .int (v4 - (v7 * r_3))]) (rest := [.int v6]) ⟨hx, hb, hml, hown, hts⟩ (c_Model_best1 l D y bd H.size x_thrown x_men x_ships x_entries x_rules x_calls x_gangs x_idle x_moved x_paid x_taped x_at x_end x_begin x_faultAt x_wants x_most x_least v1 (v2 + 1) (v3 - v7) (v4 - (v7 * r_3)) hw) (cwV 4 hts gX9_best_X9_best rfl rfl rfl (by decide +kernel) ⟨Nat.le_of_ble_eq_true rfl, Nat.le_of_ble_eq_true rfl⟩) ⟨mPre.blind, (va_recv hK hP (ci := 11) (q0 := 0) rfl rfl), mPre.to (hP.sub [0, 1, 2] rfl) hK (hD.sub [0, 1, 2] (by decide) rfl) hE⟩ rfl rfl hl.1 rfl (lv_room (Nat.le_of_ble_eq_true rfl)) dX9_best_113 ⟨Nat.le_of_ble_eq_true rfl, Nat.le_of_ble_eq_true rfl⟩) (fun r_4 u H locs hw hP hD hS => ?_)
            try dsimp only at hw
            have hP : va_P D vwCl [(ce_xm bd x_thrown x_men x_ships x_entries x_rules x_calls x_gangs x_idle x_moved x_paid x_taped x_at x_end x_begin x_faultAt x_wants), ((bd 30), .inl (y 0, 4, .inl x_most)), ((bd 31), .inl (y 0, 6561, .inl x_least))] H := hP
            have hD : va_D A [(ce_xm bd x_thrown x_men x_ships x_entries x_rules x_calls x_gangs x_idle x_moved x_paid x_taped x_at x_end x_begin x_faultAt x_wants), ((bd 30), .inl (y 0, 4, .inl x_most)), ((bd 31), .inl (y 0, 6561, .inl x_least))] := hD
            refine va_mmin hx hb (by rw [hml]; exact hl.1.symm) hown (hts (.methodLink RX9 227 Lib.Math.min.name) (by decide +kernel)) (hts (.static Lib.Math.min.name) (by decide +kernel)) (hts (.initialized "java/lang/Math") (by decide +kernel)) (hts (.code Lib.Math.min.name Lib.Math.min.code 2 (some .int)) (by decide +kernel)) (Nat.le_of_ble_eq_true rfl) (Nat.le_of_ble_eq_true rfl) (Nat.le_of_ble_eq_true rfl) (Nat.le_of_ble_eq_true rfl) dX9_best_116 ?_
            refine lv_istore (lv' := [(6, .int (if r_4 < v6 then r_4 else v6)), (7, .int v7), (5, .int v5), (0, .ref (bd 0)), (1, .int v1), (2, .int v2), (3, .int v3), (4, .int v4)]) hx hb dX9_best_119 hl (by decide) rfl (fun ls hl => ?_)
            refine lv_iinc (v := v7 + 1) (lv' := [(7, .int (v7 + 1)), (6, .int (if r_4 < v6 then r_4 else v6)), (5, .int v5), (0, .ref (bd 0)), (1, .int v1), (2, .int v2), (3, .int v3), (4, .int v4)]) hx hb dX9_best_121 hl (k := 1) rfl (by first | rfl | decide) (by decide) rfl (fun ls hl => ?_)
            refine lv_goto (tgt := 56) hx hb dX9_best_124 (by decide) ?_
            exact ih (if r_4 < v6 then r_4 else v6) (v7 + 1)  hw _ _ _ hP hD hS (lv_sub hl [0, 1, 2, 3, 4, 5, 6, 7] rfl)
set_option maxHeartbeats 4000000 in
set_option maxRecDepth 100000 in
theorem c_Model_best2 (l : Launch) (D : va_G) (y : Nat → ClassId) (bd : Nat → Nat) (sz : Nat) (x_thrown : Int32) (x_men : Int32) (x_ships : Int32) (x_entries : Int32) (x_rules : Int32) (x_calls : Int32) (x_gangs : Int32) (x_idle : Int32) (x_moved : Int64) (x_paid : Int64) (x_taped : Int32) (x_at : Int32) (x_end : Int32) (x_begin : Int32) (x_faultAt : Int32) (x_wants : Int32) (x_most : Nat → Int32) (x_least : Nat → Int32) (p0 : Int32) (p1 : Int32) (p2 : Int32) (p3 : Int32) {Q : Int32 → Prop} (hw : wp_Model_best2 x_wants x_most x_least p0 p1 p2 p3 Q) : Met l yX9_best wsX9_best ({ frames := 3, cells := 0, slots := 0, locals := 74 }) (va_Pc [.ref (bd 0), .int p0, .int p1, .int p2, .int p3] (mPre D y sz [(ce_xm bd x_thrown x_men x_ships x_entries x_rules x_calls x_gangs x_idle x_moved x_paid x_taped x_at x_end x_begin x_faultAt x_wants), ((bd 30), .inl (y 0, 4, .inl x_most)), ((bd 31), .inl (y 0, 6561, .inl x_least))])) (va_Qi (fun (r : Int32) (u : Unit) => Q r ) (mAt D y (va_A [(ce_xm bd x_thrown x_men x_ships x_entries x_rules x_calls x_gangs x_idle x_moved x_paid x_taped x_at x_end x_begin x_faultAt x_wants), ((bd 30), .inl (y 0, 4, .inl x_most)), ((bd 31), .inl (y 0, 6561, .inl x_least))] sz) (fun (u : Unit) => [(ce_xm bd x_thrown x_men x_ships x_entries x_rules x_calls x_gangs x_idle x_moved x_paid x_taped x_at x_end x_begin x_faultAt x_wants), ((bd 30), .inl (y 0, 4, .inl x_most)), ((bd 31), .inl (y 0, 6561, .inl x_least))])) (va_A [(ce_xm bd x_thrown x_men x_ships x_entries x_rules x_calls x_gangs x_idle x_moved x_paid x_taped x_at x_end x_begin x_faultAt x_wants), ((bd 30), .inl (y 0, 4, .inl x_most)), ((bd 31), .inl (y 0, 6561, .inl x_least))] sz)) 0 0 (va_A [(ce_xm bd x_thrown x_men x_ships x_entries x_rules x_calls x_gangs x_idle x_moved x_paid x_taped x_at x_end x_begin x_faultAt x_wants), ((bd 30), .inl (y 0, 4, .inl x_most)), ((bd 31), .inl (y 0, 6561, .inl x_least))] sz) := by
  unfold wp_Model_best2 at hw
  refine Met.ofW (cc := cX9_best) (maxL := 8) (ret := some .int) (by decide) rfl ?_
  intro p e s m args below meth c s₁ B hml hv
  obtain ⟨rfl, hsz, hP, hK, hD0, hE⟩ := hv
  have hx := B.exec
  have hb := B.bytes
  have hr := B.returns
  have hts := atoms_spec (ws := wsX9_best) B.pre
  have hown : s.vm.findClass RX9 = some m.cls := findClass_of_methodNamed B.named
  have hlocks := B.notSynchronized
  subst hsz
  have hD := hD0.self (sz := s.heap.size)
  generalize hAe : va_A [(ce_xm bd x_thrown x_men x_ships x_entries x_rules x_calls x_gangs x_idle x_moved x_paid x_taped x_at x_end x_begin x_faultAt x_wants), ((bd 30), .inl (y 0, 4, .inl x_most)), ((bd 31), .inl (y 0, 6561, .inl x_least))] s.heap.size = A at hD ⊢
  have hA : ∀ q : Nat, s.heap.size ≤ q → A q := fun q h => by rw [← hAe]; exact Or.inr h
  have hS : va_S A s.heap s.heap [] := va_S.rf
  have hP : va_P D vwCl [(ce_xm bd x_thrown x_men x_ships x_entries x_rules x_calls x_gangs x_idle x_moved x_paid x_taped x_at x_end x_begin x_faultAt x_wants), ((bd 30), .inl (y 0, 4, .inl x_most)), ((bd 31), .inl (y 0, 6561, .inl x_least))] s.heap := hP
  have hl := lv_entry ([.ref (bd 0), .int p0, .int p1, .int p2, .int p3]) (n := 8) (Nat.le_of_ble_eq_true rfl)
  rw [lg_entry_eq]
  generalize (lg_sl ([.ref (bd 0), .int p0, .int p1, .int p2, .int p3]) ++ List.replicate (8 - (lg_sl ([.ref (bd 0), .int p0, .int p1, .int p2, .int p3])).length) Slot.unset).toArray = ls at hl ⊢
  have hl : lv_has ls 8 [(0, .ref (bd 0)), (1, .int p0), (2, .int p1), (3, .int p2), (4, .int p3)] := hl
  refine lv_iload_n hx hb dX9_best_0 rfl (lv_at hl 2 rfl) ?_
  refine lv_iconst (v := 4) hx hb dX9_best_1 (by decide) ?_
  refine lv_icmp_ne (tgt := 25) hx hb dX9_best_2 (by decide) (fun hc => ?_) (fun hc => ?_)
  · have hw := hw.2 hc
    refine lv_iload_n hx hb dX9_best_25 rfl (lv_at hl 2 rfl) ?_
    refine lv_aload_n hx hb dX9_best_26 rfl (lv_at hl 0 rfl) ?_
    refine va_get (ci := 11) (v := .int x_wants) (C := RX9) (T := TX9) (N := 47) hx hb hts inw_X9_best_X9 hown hK hP 0 rfl rfl 45 (by decide) (hts (.fieldLink RX9 276 "DockCallModel" "wants" "I") (by decide +kernel)) (fun _ h9 => h9) rfl dX9_best_27 ?_
    refine lv_icmp_ge (tgt := 45) hx hb dX9_best_30 (by decide) (fun hc => ?_) (fun hc => ?_)
    · have hw := hw.1 hc
      refine lv_iconst (v := 0) hx hb dX9_best_45 (by decide) ?_
      refine lv_istore (lv' := [(5, .int 0), (0, .ref (bd 0)), (1, .int p0), (2, .int p1), (3, .int p2), (4, .int p3)]) hx hb dX9_best_46 hl (by decide) rfl (fun ls hl => ?_)
      refine lv_ldcw hx hb hown (hts (.constant RX9 281 2147483647) (by decide +kernel)) dX9_best_48 ?_
      refine lv_istore (lv' := [(6, .int 2147483647), (5, .int 0), (0, .ref (bd 0)), (1, .int p0), (2, .int p1), (3, .int p2), (4, .int p3)]) hx hb dX9_best_51 hl (by decide) rfl (fun ls hl => ?_)
      refine lv_iconst (v := 0) hx hb dX9_best_53 (by decide) ?_
      refine lv_istore (lv' := [(7, .int 0), (6, .int 2147483647), (5, .int 0), (0, .ref (bd 0)), (1, .int p0), (2, .int p1), (3, .int p2), (4, .int p3)]) hx hb dX9_best_54 hl (by decide) rfl (fun ls hl => ?_)
      obtain ⟨n', hw⟩ := hw
      exact c_Model_best2_h56 hx hb hr hml hown hts hlocks hK hE hA  n' 2147483647 0 hw _ _ _ hP hD hS (lv_sub hl [0, 1, 2, 3, 4, 5, 6, 7] rfl)
    · have hw := hw.2 hc
      refine lv_iload_n hx hb dX9_best_33 rfl (lv_at hl 1 rfl) ?_
      refine lv_iload_n hx hb dX9_best_34 rfl (lv_at hl 2 rfl) ?_
      refine mx_i (wc := []) (wr := [(ce_xm bd x_thrown x_men x_ships x_entries x_rules x_calls x_gangs x_idle x_moved x_paid x_taped x_at x_end x_begin x_faultAt x_wants), ((bd 30), .inl (y 0, 4, .inl x_most)), ((bd 31), .inl (y 0, 6561, .inl x_least))]) hP hD hS hA [] [0, 1, 2] [0, 1, 2] rfl rfl (by decide) (by decide) (by decide) (fun (u : Unit) => [(ce_xm bd x_thrown x_men x_ships x_entries x_rules x_calls x_gangs x_idle x_moved x_paid x_taped x_at x_end x_begin x_faultAt x_wants), ((bd 30), .inl (y 0, 4, .inl x_most)), ((bd 31), .inl (y 0, 6561, .inl x_least))]) (fun _ => rfl) (va_runS (As := [.int p1]) (rest := [.int p0]) ⟨hx, hb, hml, hown, hts⟩ (c_Model_power l D y s.heap.size p1 hw) (va_cwS 1 hts gX9_best_X9_power rfl rfl rfl (by decide +kernel) ⟨Nat.le_of_ble_eq_true rfl, Nat.le_of_ble_eq_true rfl⟩) ⟨mPre.blind, mPre.to (hP.sub [] rfl) hK (hD.sub [] (by decide) rfl) hE⟩ rfl rfl hl.1 rfl (lv_room (Nat.le_of_ble_eq_true rfl)) dX9_best_35 ⟨Nat.le_of_ble_eq_true rfl, Nat.le_of_ble_eq_true rfl⟩) (fun r_5 u H locs hw hP hD hS => ?_)
      try dsimp only at hw
      have hP : va_P D vwCl [(ce_xm bd x_thrown x_men x_ships x_entries x_rules x_calls x_gangs x_idle x_moved x_paid x_taped x_at x_end x_begin x_faultAt x_wants), ((bd 30), .inl (y 0, 4, .inl x_most)), ((bd 31), .inl (y 0, 6561, .inl x_least))] H := hP
      have hD : va_D A [(ce_xm bd x_thrown x_men x_ships x_entries x_rules x_calls x_gangs x_idle x_moved x_paid x_taped x_at x_end x_begin x_faultAt x_wants), ((bd 30), .inl (y 0, 4, .inl x_most)), ((bd 31), .inl (y 0, 6561, .inl x_least))] := hD
      obtain ⟨hz, hw⟩ := hw
      refine lv_idiv hx hb dX9_best_38 hz ?_
      refine lv_bipush (v := 9) hx hb dX9_best_39 (by decide) ?_
      refine lv_irem hx hb dX9_best_41 (by decide) ?_
      refine lv_goto (tgt := 46) hx hb dX9_best_42 (by decide) ?_
      refine lv_istore (lv' := [(5, .int ((p0 / r_5) - (p0 / r_5) / 9 * 9)), (0, .ref (bd 0)), (1, .int p0), (2, .int p1), (3, .int p2), (4, .int p3)]) hx hb dX9_best_46 hl (by decide) rfl (fun ls hl => ?_)
      refine lv_ldcw hx hb hown (hts (.constant RX9 281 2147483647) (by decide +kernel)) dX9_best_48 ?_
      refine lv_istore (lv' := [(6, .int 2147483647), (5, .int ((p0 / r_5) - (p0 / r_5) / 9 * 9)), (0, .ref (bd 0)), (1, .int p0), (2, .int p1), (3, .int p2), (4, .int p3)]) hx hb dX9_best_51 hl (by decide) rfl (fun ls hl => ?_)
      refine lv_iconst (v := 0) hx hb dX9_best_53 (by decide) ?_
      refine lv_istore (lv' := [(7, .int 0), (6, .int 2147483647), (5, .int ((p0 / r_5) - (p0 / r_5) / 9 * 9)), (0, .ref (bd 0)), (1, .int p0), (2, .int p1), (3, .int p2), (4, .int p3)]) hx hb dX9_best_54 hl (by decide) rfl (fun ls hl => ?_)
      obtain ⟨n', hw⟩ := hw
      exact c_Model_best2_h56 hx hb hr hml hown hts hlocks hK hE hA  n' 2147483647 0 hw _ _ _ hP hD hS (lv_sub hl [0, 1, 2, 3, 4, 5, 6, 7] rfl)
  · have hw := hw.1 hc
    refine lv_iload hx hb dX9_best_5 (lv_at hl 4 rfl) ?_
    refine lv_iload_n hx hb dX9_best_7 rfl (lv_at hl 1 rfl) ?_
    refine lv_icmp_ne (tgt := 17) hx hb dX9_best_8 (by decide) (fun hc => ?_) (fun hc => ?_)
    · have hw := hw.2 hc
      refine lv_aload_n hx hb dX9_best_17 rfl (lv_at hl 0 rfl) ?_
      refine va_get (ci := 11) (v := .ref (bd 31)) (C := RX9) (T := TX9) (N := 47) hx hb hts inw_X9_best_X9 hown hK hP 0 rfl rfl 46 (by decide) (hts (.fieldLink RX9 106 "DockCallModel" "least" "[I") (by decide +kernel)) (fun _ h9 => h9) rfl dX9_best_18 ?_
      refine lv_iload hx hb dX9_best_21 (lv_at hl 4 rfl) ?_
      obtain ⟨hi, hw⟩ := hw
      refine va_iald hx hb hK hP 2 0 rfl rfl hi dX9_best_23 ?_
      exact W.iret (v := x_least p3.toNatClampNeg) hx hb hr (fun t ht hW => ⟨⟨x_least p3.toNatClampNeg, (), rfl, hw, mAt.to hP hK hD ht hW⟩, hS.F ht⟩) hS.2.2 dX9_best_24
    · have hw := hw.1 hc
      refine lv_ldcw hx hb hown (hts (.constant RX9 281 2147483647) (by decide +kernel)) dX9_best_11 ?_
      refine lv_goto (tgt := 24) hx hb dX9_best_14 (by decide) ?_
      exact W.iret (v := 2147483647) hx hb hr (fun t ht hW => ⟨⟨2147483647, (), rfl, hw, mAt.to hP hK hD ht hW⟩, hS.F ht⟩) hS.2.2 dX9_best_24
def wp_Model_best3_h56 (v1 : Int32) (v2 : Int32) (v3 : Int32) (v4 : Int32) (v5 : Int32) (x_wants : Int32) (x_most : Nat → Int32) (x_least : Nat → Int32)  (Q : Int32 → Prop) : Nat → Int32 → Int32 → Prop
  | 0, _, _ => False
  | n + 1, v6, v7 => ((v5 < v7 → Q v6) ∧ (¬ v5 < v7 → ((v3 < v7 → Q v6) ∧ (¬ v3 < v7 → ((x_wants ≤ v2 → ((0 < v7 → Q v6) ∧ (¬ 0 < v7 → (wp_Model_power v2 (fun r_1 => (wp_Model_best2 x_wants x_most x_least v1 (v2 + 1) (v3 - v7) (v4 - (v7 * r_1)) (fun r_2 => wp_Model_best3_h56 v1 v2 v3 v4 v5 x_wants x_most x_least Q n (if r_2 < v6 then r_2 else v6) (v7 + 1)))))))) ∧ (¬ x_wants ≤ v2 → (vp_in v2 4 ∧ ((x_most v2.toNatClampNeg < v7 → Q v6) ∧ (¬ x_most v2.toNatClampNeg < v7 → (wp_Model_power v2 (fun r_3 => (wp_Model_best2 x_wants x_most x_least v1 (v2 + 1) (v3 - v7) (v4 - (v7 * r_3)) (fun r_4 => wp_Model_best3_h56 v1 v2 v3 v4 v5 x_wants x_most x_least Q n (if r_4 < v6 then r_4 else v6) (v7 + 1))))))))))))))
def wp_Model_best3 (x_wants : Int32) (x_most : Nat → Int32) (x_least : Nat → Int32) (p0 : Int32) (p1 : Int32) (p2 : Int32) (p3 : Int32) (Q : Int32 → Prop) : Prop := ((p1 = 4 → ((p3 = p0 → Q 2147483647) ∧ (¬ p3 = p0 → (vp_in p3 6561 ∧ Q (x_least p3.toNatClampNeg))))) ∧ (¬ p1 = 4 → ((x_wants ≤ p1 → (∃ n' : Nat, wp_Model_best3_h56 p0 p1 p2 p3 0 x_wants x_most x_least Q n' 2147483647 0)) ∧ (¬ x_wants ≤ p1 → (wp_Model_power p1 (fun r_5 => (¬ r_5 = 0 ∧ (∃ n' : Nat, wp_Model_best3_h56 p0 p1 p2 p3 ((p0 / r_5) - (p0 / r_5) / 9 * 9) x_wants x_most x_least Q n' 2147483647 0))))))))
set_option maxHeartbeats 4000000 in
set_option maxRecDepth 100000 in
theorem c_Model_best3_h56 {p : Program} {l : Launch} {e : Env} {s : State} {m : MethodId} {args : Array Value} {below : List Frame} {meth : Method} {c : Code} {D : va_G} {y : Nat → ClassId} {bd : Nat → Nat} {A : Nat → Prop} (hx : p.tables.exec = Jvm.exec) (hb : c.code = cX9_best) (hr : meth.sig.returnType = some .int) (hml : c.maxLocals = 8) (hown : s.vm.findClass RX9 = some m.cls) (hts : ∀ w ∈ wsX9_best, w.before args s = true) (hlocks : meth.locks = false) (hK : va_K D vwCl (TY y) s) (hE : EV s) (hA : ∀ q, s.heap.size ≤ q → A q) {v1 : Int32} {v2 : Int32} {v3 : Int32} {v4 : Int32} {v5 : Int32} {x_wants : Int32} {x_most : Nat → Int32} {x_least : Nat → Int32} {x_thrown : Int32} {x_men : Int32} {x_ships : Int32} {x_entries : Int32} {x_rules : Int32} {x_calls : Int32} {x_gangs : Int32} {x_idle : Int32} {x_moved : Int64} {x_paid : Int64} {x_taped : Int32} {x_at : Int32} {x_end : Int32} {x_begin : Int32} {x_faultAt : Int32}  {Q : Int32 → Prop}  : ∀ (n : Nat) (v6 : Int32) (v7 : Int32), wp_Model_best3_h56 v1 v2 v3 v4 v5 x_wants x_most x_least Q n v6 v7 → ∀ (H : Heap) (locs : List Loc) (ls : Array Slot), va_P D vwCl [(ce_xm bd x_thrown x_men x_ships x_entries x_rules x_calls x_gangs x_idle x_moved x_paid x_taped x_at x_end x_begin x_faultAt x_wants), ((bd 30), .inl (y 0, 4, .inl x_most)), ((bd 31), .inl (y 0, 6561, .inl x_least))] H → va_D A [(ce_xm bd x_thrown x_men x_ships x_entries x_rules x_calls x_gangs x_idle x_moved x_paid x_taped x_at x_end x_begin x_faultAt x_wants), ((bd 30), .inl (y 0, 4, .inl x_most)), ((bd 31), .inl (y 0, 6561, .inl x_least))] → va_S A s.heap H locs → lv_has ls 8 [(7, .int v7), (6, .int v6), (5, .int v5), (0, .ref (bd 0)), (1, .int v1), (2, .int v2), (3, .int v3), (4, .int v4)] → W p l e ({ frames := 4, cells := 0, slots := 0, locals := 101 }) s m args below meth c H locs 0 0 (MQ below (va_Qi (fun (r : Int32) (u : Unit) => Q r ) (mAt D y A (fun (u : Unit) => [(ce_xm bd x_thrown x_men x_ships x_entries x_rules x_calls x_gangs x_idle x_moved x_paid x_taped x_at x_end x_begin x_faultAt x_wants), ((bd 30), .inl (y 0, 4, .inl x_most)), ((bd 31), .inl (y 0, 6561, .inl x_least))])) A) args s 0 0 A) (F0 m 56 ls []) := by
  intro n
  induction n with
  | zero => intro v6 v7 hw; rw [wp_Model_best3_h56] at hw; exact hw.elim
  | succ n ih =>
    intro v6 v7 hw H locs ls hP hD hS hl
    rw [wp_Model_best3_h56] at hw
    refine lv_iload hx hb dX9_best_56 (lv_at hl 0 rfl) ?_
    refine lv_iload hx hb dX9_best_58 (lv_at hl 2 rfl) ?_
    refine lv_icmp_gt (tgt := 127) hx hb dX9_best_60 (by decide) (fun hc => ?_) (fun hc => ?_)
    · have hw := hw.1 hc
      refine lv_iload hx hb dX9_best_127 (lv_at hl 1 rfl) ?_
      exact W.iret (v := v6) hx hb hr (fun t ht hW => ⟨⟨v6, (), rfl, hw, mAt.to hP hK hD ht hW⟩, hS.F ht⟩) hS.2.2 dX9_best_129
    · have hw := hw.2 hc
      refine lv_iload hx hb dX9_best_63 (lv_at hl 0 rfl) ?_
      refine lv_iload_n hx hb dX9_best_65 rfl (lv_at hl 6 rfl) ?_
      refine lv_icmp_gt (tgt := 127) hx hb dX9_best_66 (by decide) (fun hc => ?_) (fun hc => ?_)
      · have hw := hw.1 hc
        refine lv_iload hx hb dX9_best_127 (lv_at hl 1 rfl) ?_
        exact W.iret (v := v6) hx hb hr (fun t ht hW => ⟨⟨v6, (), rfl, hw, mAt.to hP hK hD ht hW⟩, hS.F ht⟩) hS.2.2 dX9_best_129
      · have hw := hw.2 hc
        refine lv_iload hx hb dX9_best_69 (lv_at hl 0 rfl) ?_
        refine lv_iload_n hx hb dX9_best_71 rfl (lv_at hl 5 rfl) ?_
        refine lv_aload_n hx hb dX9_best_72 rfl (lv_at hl 3 rfl) ?_
        refine va_get (ci := 11) (v := .int x_wants) (C := RX9) (T := TX9) (N := 47) hx hb hts inw_X9_best_X9 hown hK hP 0 rfl rfl 45 (by decide) (hts (.fieldLink RX9 276 "DockCallModel" "wants" "I") (by decide +kernel)) (fun _ h9 => h9) rfl dX9_best_73 ?_
        refine lv_icmp_ge (tgt := 88) hx hb dX9_best_76 (by decide) (fun hc => ?_) (fun hc => ?_)
        · have hw := hw.1 hc
          refine lv_iconst (v := 0) hx hb dX9_best_88 (by decide) ?_
          refine lv_icmp_gt (tgt := 127) hx hb dX9_best_89 (by decide) (fun hc => ?_) (fun hc => ?_)
          · have hw := hw.1 hc
            refine lv_iload hx hb dX9_best_127 (lv_at hl 1 rfl) ?_
            exact W.iret (v := v6) hx hb hr (fun t ht hW => ⟨⟨v6, (), rfl, hw, mAt.to hP hK hD ht hW⟩, hS.F ht⟩) hS.2.2 dX9_best_129
          · have hw := hw.2 hc
            refine lv_iload hx hb dX9_best_92 (lv_at hl 1 rfl) ?_
            refine lv_aload_n hx hb dX9_best_94 rfl (lv_at hl 3 rfl) ?_
            refine lv_iload_n hx hb dX9_best_95 rfl (lv_at hl 4 rfl) ?_
            refine lv_iload_n hx hb dX9_best_96 rfl (lv_at hl 5 rfl) ?_
            refine lv_iconst (v := 1) hx hb dX9_best_97 (by decide) ?_
            refine lv_iadd hx hb dX9_best_98 ?_
            refine lv_iload_n hx hb dX9_best_99 rfl (lv_at hl 6 rfl) ?_
            refine lv_iload hx hb dX9_best_100 (lv_at hl 0 rfl) ?_
            refine lv_isub hx hb dX9_best_102 ?_
            refine lv_iload hx hb dX9_best_103 (lv_at hl 7 rfl) ?_
            refine lv_iload hx hb dX9_best_105 (lv_at hl 0 rfl) ?_
            refine lv_iload_n hx hb dX9_best_107 rfl (lv_at hl 5 rfl) ?_
            refine mx_i (wc := []) (wr := [(ce_xm bd x_thrown x_men x_ships x_entries x_rules x_calls x_gangs x_idle x_moved x_paid x_taped x_at x_end x_begin x_faultAt x_wants), ((bd 30), .inl (y 0, 4, .inl x_most)), ((bd 31), .inl (y 0, 6561, .inl x_least))]) hP hD hS hA [] [0, 1, 2] [0, 1, 2] rfl rfl (by decide) (by decide) (by decide) (fun (u : Unit) => [(ce_xm bd x_thrown x_men x_ships x_entries x_rules x_calls x_gangs x_idle x_moved x_paid x_taped x_at x_end x_begin x_faultAt x_wants), ((bd 30), .inl (y 0, 4, .inl x_most)), ((bd 31), .inl (y 0, 6561, .inl x_least))]) (fun _ => rfl) (va_runS (As := [.int v2]) (rest := [.int v7, .int v4, .int (v3 - v7), .int (v2 + 1), .int v1, .ref (bd 0), .int v6]) ⟨hx, hb, hml, hown, hts⟩ (c_Model_power l D y H.size v2 hw) (va_cwS 1 hts gX9_best_X9_power rfl rfl rfl (by decide +kernel) ⟨Nat.le_of_ble_eq_true rfl, Nat.le_of_ble_eq_true rfl⟩) ⟨mPre.blind, mPre.to (hP.sub [] rfl) hK (hD.sub [] (by decide) rfl) hE⟩ rfl rfl hl.1 rfl (lv_room (Nat.le_of_ble_eq_true rfl)) dX9_best_108 ⟨Nat.le_of_ble_eq_true rfl, Nat.le_of_ble_eq_true rfl⟩) (fun r_1 u H locs hw hP hD hS => ?_)
            try dsimp only at hw
            have hP : va_P D vwCl [(ce_xm bd x_thrown x_men x_ships x_entries x_rules x_calls x_gangs x_idle x_moved x_paid x_taped x_at x_end x_begin x_faultAt x_wants), ((bd 30), .inl (y 0, 4, .inl x_most)), ((bd 31), .inl (y 0, 6561, .inl x_least))] H := hP
            have hD : va_D A [(ce_xm bd x_thrown x_men x_ships x_entries x_rules x_calls x_gangs x_idle x_moved x_paid x_taped x_at x_end x_begin x_faultAt x_wants), ((bd 30), .inl (y 0, 4, .inl x_most)), ((bd 31), .inl (y 0, 6561, .inl x_least))] := hD
            refine lv_imul hx hb dX9_best_111 ?_
            refine lv_isub hx hb dX9_best_112 ?_
            refine mx_i (wc := [(ce_xm bd x_thrown x_men x_ships x_entries x_rules x_calls x_gangs x_idle x_moved x_paid x_taped x_at x_end x_begin x_faultAt x_wants), ((bd 30), .inl (y 0, 4, .inl x_most)), ((bd 31), .inl (y 0, 6561, .inl x_least))]) (wr := []) hP hD hS hA [0, 1, 2] [] [0, 1, 2] rfl rfl (by decide) (by decide) (by decide) (fun (u : Unit) => [(ce_xm bd x_thrown x_men x_ships x_entries x_rules x_calls x_gangs x_idle x_moved x_paid x_taped x_at x_end x_begin x_faultAt x_wants), ((bd 30), .inl (y 0, 4, .inl x_most)), ((bd 31), .inl (y 0, 6561, .inl x_least))]) (fun _ => rfl) (va_runV (As := [.int v1, .int (v2 + 1), .int (v3 - v7), .int (v4 - (v7 * r_1))]) (rest := [.int v6]) ⟨hx, hb, hml, hown, hts⟩ (c_Model_best2 l D y bd H.size x_thrown x_men x_ships x_entries x_rules x_calls x_gangs x_idle x_moved x_paid x_taped x_at x_end x_begin x_faultAt x_wants x_most x_least v1 (v2 + 1) (v3 - v7) (v4 - (v7 * r_1)) hw) (cwV 4 hts gX9_best_X9_best rfl rfl rfl (by decide +kernel) ⟨Nat.le_of_ble_eq_true rfl, Nat.le_of_ble_eq_true rfl⟩) ⟨mPre.blind, (va_recv hK hP (ci := 11) (q0 := 0) rfl rfl), mPre.to (hP.sub [0, 1, 2] rfl) hK (hD.sub [0, 1, 2] (by decide) rfl) hE⟩ rfl rfl hl.1 rfl (lv_room (Nat.le_of_ble_eq_true rfl)) dX9_best_113 ⟨Nat.le_of_ble_eq_true rfl, Nat.le_of_ble_eq_true rfl⟩) (fun r_2 u H locs hw hP hD hS => ?_)
            try dsimp only at hw
            have hP : va_P D vwCl [(ce_xm bd x_thrown x_men x_ships x_entries x_rules x_calls x_gangs x_idle x_moved x_paid x_taped x_at x_end x_begin x_faultAt x_wants), ((bd 30), .inl (y 0, 4, .inl x_most)), ((bd 31), .inl (y 0, 6561, .inl x_least))] H := hP
            have hD : va_D A [(ce_xm bd x_thrown x_men x_ships x_entries x_rules x_calls x_gangs x_idle x_moved x_paid x_taped x_at x_end x_begin x_faultAt x_wants), ((bd 30), .inl (y 0, 4, .inl x_most)), ((bd 31), .inl (y 0, 6561, .inl x_least))] := hD
            refine va_mmin hx hb (by rw [hml]; exact hl.1.symm) hown (hts (.methodLink RX9 227 Lib.Math.min.name) (by decide +kernel)) (hts (.static Lib.Math.min.name) (by decide +kernel)) (hts (.initialized "java/lang/Math") (by decide +kernel)) (hts (.code Lib.Math.min.name Lib.Math.min.code 2 (some .int)) (by decide +kernel)) (Nat.le_of_ble_eq_true rfl) (Nat.le_of_ble_eq_true rfl) (Nat.le_of_ble_eq_true rfl) (Nat.le_of_ble_eq_true rfl) dX9_best_116 ?_
            refine lv_istore (lv' := [(6, .int (if r_2 < v6 then r_2 else v6)), (7, .int v7), (5, .int v5), (0, .ref (bd 0)), (1, .int v1), (2, .int v2), (3, .int v3), (4, .int v4)]) hx hb dX9_best_119 hl (by decide) rfl (fun ls hl => ?_)
            refine lv_iinc (v := v7 + 1) (lv' := [(7, .int (v7 + 1)), (6, .int (if r_2 < v6 then r_2 else v6)), (5, .int v5), (0, .ref (bd 0)), (1, .int v1), (2, .int v2), (3, .int v3), (4, .int v4)]) hx hb dX9_best_121 hl (k := 1) rfl (by first | rfl | decide) (by decide) rfl (fun ls hl => ?_)
            refine lv_goto (tgt := 56) hx hb dX9_best_124 (by decide) ?_
            exact ih (if r_2 < v6 then r_2 else v6) (v7 + 1)  hw _ _ _ hP hD hS (lv_sub hl [0, 1, 2, 3, 4, 5, 6, 7] rfl)
        · have hw := hw.2 hc
          refine lv_aload_n hx hb dX9_best_79 rfl (lv_at hl 3 rfl) ?_
          refine va_get (ci := 11) (v := .ref (bd 30)) (C := RX9) (T := TX9) (N := 47) hx hb hts inw_X9_best_X9 hown hK hP 0 rfl rfl 44 (by decide) (hts (.fieldLink RX9 103 "DockCallModel" "most" "[I") (by decide +kernel)) (fun _ h9 => h9) rfl dX9_best_80 ?_
          refine lv_iload_n hx hb dX9_best_83 rfl (lv_at hl 5 rfl) ?_
          obtain ⟨hi, hw⟩ := hw
          refine va_iald hx hb hK hP 1 0 rfl rfl hi dX9_best_84 ?_
          refine lv_goto (tgt := 89) hx hb dX9_best_85 (by decide) ?_
          refine lv_icmp_gt (tgt := 127) hx hb dX9_best_89 (by decide) (fun hc => ?_) (fun hc => ?_)
          · have hw := hw.1 hc
            refine lv_iload hx hb dX9_best_127 (lv_at hl 1 rfl) ?_
            exact W.iret (v := v6) hx hb hr (fun t ht hW => ⟨⟨v6, (), rfl, hw, mAt.to hP hK hD ht hW⟩, hS.F ht⟩) hS.2.2 dX9_best_129
          · have hw := hw.2 hc
            refine lv_iload hx hb dX9_best_92 (lv_at hl 1 rfl) ?_
            refine lv_aload_n hx hb dX9_best_94 rfl (lv_at hl 3 rfl) ?_
            refine lv_iload_n hx hb dX9_best_95 rfl (lv_at hl 4 rfl) ?_
            refine lv_iload_n hx hb dX9_best_96 rfl (lv_at hl 5 rfl) ?_
            refine lv_iconst (v := 1) hx hb dX9_best_97 (by decide) ?_
            refine lv_iadd hx hb dX9_best_98 ?_
            refine lv_iload_n hx hb dX9_best_99 rfl (lv_at hl 6 rfl) ?_
            refine lv_iload hx hb dX9_best_100 (lv_at hl 0 rfl) ?_
            refine lv_isub hx hb dX9_best_102 ?_
            refine lv_iload hx hb dX9_best_103 (lv_at hl 7 rfl) ?_
            refine lv_iload hx hb dX9_best_105 (lv_at hl 0 rfl) ?_
            refine lv_iload_n hx hb dX9_best_107 rfl (lv_at hl 5 rfl) ?_
            refine mx_i (wc := []) (wr := [(ce_xm bd x_thrown x_men x_ships x_entries x_rules x_calls x_gangs x_idle x_moved x_paid x_taped x_at x_end x_begin x_faultAt x_wants), ((bd 30), .inl (y 0, 4, .inl x_most)), ((bd 31), .inl (y 0, 6561, .inl x_least))]) hP hD hS hA [] [0, 1, 2] [0, 1, 2] rfl rfl (by decide) (by decide) (by decide) (fun (u : Unit) => [(ce_xm bd x_thrown x_men x_ships x_entries x_rules x_calls x_gangs x_idle x_moved x_paid x_taped x_at x_end x_begin x_faultAt x_wants), ((bd 30), .inl (y 0, 4, .inl x_most)), ((bd 31), .inl (y 0, 6561, .inl x_least))]) (fun _ => rfl) (va_runS (As := [.int v2]) (rest := [.int v7, .int v4, .int (v3 - v7), .int (v2 + 1), .int v1, .ref (bd 0), .int v6]) ⟨hx, hb, hml, hown, hts⟩ (c_Model_power l D y H.size v2 hw) (va_cwS 1 hts gX9_best_X9_power rfl rfl rfl (by decide +kernel) ⟨Nat.le_of_ble_eq_true rfl, Nat.le_of_ble_eq_true rfl⟩) ⟨mPre.blind, mPre.to (hP.sub [] rfl) hK (hD.sub [] (by decide) rfl) hE⟩ rfl rfl hl.1 rfl (lv_room (Nat.le_of_ble_eq_true rfl)) dX9_best_108 ⟨Nat.le_of_ble_eq_true rfl, Nat.le_of_ble_eq_true rfl⟩) (fun r_3 u H locs hw hP hD hS => ?_)
            try dsimp only at hw
            have hP : va_P D vwCl [(ce_xm bd x_thrown x_men x_ships x_entries x_rules x_calls x_gangs x_idle x_moved x_paid x_taped x_at x_end x_begin x_faultAt x_wants), ((bd 30), .inl (y 0, 4, .inl x_most)), ((bd 31), .inl (y 0, 6561, .inl x_least))] H := hP
            have hD : va_D A [(ce_xm bd x_thrown x_men x_ships x_entries x_rules x_calls x_gangs x_idle x_moved x_paid x_taped x_at x_end x_begin x_faultAt x_wants), ((bd 30), .inl (y 0, 4, .inl x_most)), ((bd 31), .inl (y 0, 6561, .inl x_least))] := hD
            refine lv_imul hx hb dX9_best_111 ?_
            refine lv_isub hx hb dX9_best_112 ?_
            refine mx_i (wc := [(ce_xm bd x_thrown x_men x_ships x_entries x_rules x_calls x_gangs x_idle x_moved x_paid x_taped x_at x_end x_begin x_faultAt x_wants), ((bd 30), .inl (y 0, 4, .inl x_most)), ((bd 31), .inl (y 0, 6561, .inl x_least))]) (wr := []) hP hD hS hA [0, 1, 2] [] [0, 1, 2] rfl rfl (by decide) (by decide) (by decide) (fun (u : Unit) => [(ce_xm bd x_thrown x_men x_ships x_entries x_rules x_calls x_gangs x_idle x_moved x_paid x_taped x_at x_end x_begin x_faultAt x_wants), ((bd 30), .inl (y 0, 4, .inl x_most)), ((bd 31), .inl (y 0, 6561, .inl x_least))]) (fun _ => rfl) (va_runV (As := [.int v1, .int (v2 + 1), .int (v3 - v7), .int (v4 - (v7 * r_3))]) (rest := [.int v6]) ⟨hx, hb, hml, hown, hts⟩ (c_Model_best2 l D y bd H.size x_thrown x_men x_ships x_entries x_rules x_calls x_gangs x_idle x_moved x_paid x_taped x_at x_end x_begin x_faultAt x_wants x_most x_least v1 (v2 + 1) (v3 - v7) (v4 - (v7 * r_3)) hw) (cwV 4 hts gX9_best_X9_best rfl rfl rfl (by decide +kernel) ⟨Nat.le_of_ble_eq_true rfl, Nat.le_of_ble_eq_true rfl⟩) ⟨mPre.blind, (va_recv hK hP (ci := 11) (q0 := 0) rfl rfl), mPre.to (hP.sub [0, 1, 2] rfl) hK (hD.sub [0, 1, 2] (by decide) rfl) hE⟩ rfl rfl hl.1 rfl (lv_room (Nat.le_of_ble_eq_true rfl)) dX9_best_113 ⟨Nat.le_of_ble_eq_true rfl, Nat.le_of_ble_eq_true rfl⟩) (fun r_4 u H locs hw hP hD hS => ?_)
            try dsimp only at hw
            have hP : va_P D vwCl [(ce_xm bd x_thrown x_men x_ships x_entries x_rules x_calls x_gangs x_idle x_moved x_paid x_taped x_at x_end x_begin x_faultAt x_wants), ((bd 30), .inl (y 0, 4, .inl x_most)), ((bd 31), .inl (y 0, 6561, .inl x_least))] H := hP
            have hD : va_D A [(ce_xm bd x_thrown x_men x_ships x_entries x_rules x_calls x_gangs x_idle x_moved x_paid x_taped x_at x_end x_begin x_faultAt x_wants), ((bd 30), .inl (y 0, 4, .inl x_most)), ((bd 31), .inl (y 0, 6561, .inl x_least))] := hD
            refine va_mmin hx hb (by rw [hml]; exact hl.1.symm) hown (hts (.methodLink RX9 227 Lib.Math.min.name) (by decide +kernel)) (hts (.static Lib.Math.min.name) (by decide +kernel)) (hts (.initialized "java/lang/Math") (by decide +kernel)) (hts (.code Lib.Math.min.name Lib.Math.min.code 2 (some .int)) (by decide +kernel)) (Nat.le_of_ble_eq_true rfl) (Nat.le_of_ble_eq_true rfl) (Nat.le_of_ble_eq_true rfl) (Nat.le_of_ble_eq_true rfl) dX9_best_116 ?_
            refine lv_istore (lv' := [(6, .int (if r_4 < v6 then r_4 else v6)), (7, .int v7), (5, .int v5), (0, .ref (bd 0)), (1, .int v1), (2, .int v2), (3, .int v3), (4, .int v4)]) hx hb dX9_best_119 hl (by decide) rfl (fun ls hl => ?_)
            refine lv_iinc (v := v7 + 1) (lv' := [(7, .int (v7 + 1)), (6, .int (if r_4 < v6 then r_4 else v6)), (5, .int v5), (0, .ref (bd 0)), (1, .int v1), (2, .int v2), (3, .int v3), (4, .int v4)]) hx hb dX9_best_121 hl (k := 1) rfl (by first | rfl | decide) (by decide) rfl (fun ls hl => ?_)
            refine lv_goto (tgt := 56) hx hb dX9_best_124 (by decide) ?_
            exact ih (if r_4 < v6 then r_4 else v6) (v7 + 1)  hw _ _ _ hP hD hS (lv_sub hl [0, 1, 2, 3, 4, 5, 6, 7] rfl)
set_option maxHeartbeats 4000000 in
set_option maxRecDepth 100000 in
theorem c_Model_best3 (l : Launch) (D : va_G) (y : Nat → ClassId) (bd : Nat → Nat) (sz : Nat) (x_thrown : Int32) (x_men : Int32) (x_ships : Int32) (x_entries : Int32) (x_rules : Int32) (x_calls : Int32) (x_gangs : Int32) (x_idle : Int32) (x_moved : Int64) (x_paid : Int64) (x_taped : Int32) (x_at : Int32) (x_end : Int32) (x_begin : Int32) (x_faultAt : Int32) (x_wants : Int32) (x_most : Nat → Int32) (x_least : Nat → Int32) (p0 : Int32) (p1 : Int32) (p2 : Int32) (p3 : Int32) {Q : Int32 → Prop} (hw : wp_Model_best3 x_wants x_most x_least p0 p1 p2 p3 Q) : Met l yX9_best wsX9_best ({ frames := 4, cells := 0, slots := 0, locals := 101 }) (va_Pc [.ref (bd 0), .int p0, .int p1, .int p2, .int p3] (mPre D y sz [(ce_xm bd x_thrown x_men x_ships x_entries x_rules x_calls x_gangs x_idle x_moved x_paid x_taped x_at x_end x_begin x_faultAt x_wants), ((bd 30), .inl (y 0, 4, .inl x_most)), ((bd 31), .inl (y 0, 6561, .inl x_least))])) (va_Qi (fun (r : Int32) (u : Unit) => Q r ) (mAt D y (va_A [(ce_xm bd x_thrown x_men x_ships x_entries x_rules x_calls x_gangs x_idle x_moved x_paid x_taped x_at x_end x_begin x_faultAt x_wants), ((bd 30), .inl (y 0, 4, .inl x_most)), ((bd 31), .inl (y 0, 6561, .inl x_least))] sz) (fun (u : Unit) => [(ce_xm bd x_thrown x_men x_ships x_entries x_rules x_calls x_gangs x_idle x_moved x_paid x_taped x_at x_end x_begin x_faultAt x_wants), ((bd 30), .inl (y 0, 4, .inl x_most)), ((bd 31), .inl (y 0, 6561, .inl x_least))])) (va_A [(ce_xm bd x_thrown x_men x_ships x_entries x_rules x_calls x_gangs x_idle x_moved x_paid x_taped x_at x_end x_begin x_faultAt x_wants), ((bd 30), .inl (y 0, 4, .inl x_most)), ((bd 31), .inl (y 0, 6561, .inl x_least))] sz)) 0 0 (va_A [(ce_xm bd x_thrown x_men x_ships x_entries x_rules x_calls x_gangs x_idle x_moved x_paid x_taped x_at x_end x_begin x_faultAt x_wants), ((bd 30), .inl (y 0, 4, .inl x_most)), ((bd 31), .inl (y 0, 6561, .inl x_least))] sz) := by
  unfold wp_Model_best3 at hw
  refine Met.ofW (cc := cX9_best) (maxL := 8) (ret := some .int) (by decide) rfl ?_
  intro p e s m args below meth c s₁ B hml hv
  obtain ⟨rfl, hsz, hP, hK, hD0, hE⟩ := hv
  have hx := B.exec
  have hb := B.bytes
  have hr := B.returns
  have hts := atoms_spec (ws := wsX9_best) B.pre
  have hown : s.vm.findClass RX9 = some m.cls := findClass_of_methodNamed B.named
  have hlocks := B.notSynchronized
  subst hsz
  have hD := hD0.self (sz := s.heap.size)
  generalize hAe : va_A [(ce_xm bd x_thrown x_men x_ships x_entries x_rules x_calls x_gangs x_idle x_moved x_paid x_taped x_at x_end x_begin x_faultAt x_wants), ((bd 30), .inl (y 0, 4, .inl x_most)), ((bd 31), .inl (y 0, 6561, .inl x_least))] s.heap.size = A at hD ⊢
  have hA : ∀ q : Nat, s.heap.size ≤ q → A q := fun q h => by rw [← hAe]; exact Or.inr h
  have hS : va_S A s.heap s.heap [] := va_S.rf
  have hP : va_P D vwCl [(ce_xm bd x_thrown x_men x_ships x_entries x_rules x_calls x_gangs x_idle x_moved x_paid x_taped x_at x_end x_begin x_faultAt x_wants), ((bd 30), .inl (y 0, 4, .inl x_most)), ((bd 31), .inl (y 0, 6561, .inl x_least))] s.heap := hP
  have hl := lv_entry ([.ref (bd 0), .int p0, .int p1, .int p2, .int p3]) (n := 8) (Nat.le_of_ble_eq_true rfl)
  rw [lg_entry_eq]
  generalize (lg_sl ([.ref (bd 0), .int p0, .int p1, .int p2, .int p3]) ++ List.replicate (8 - (lg_sl ([.ref (bd 0), .int p0, .int p1, .int p2, .int p3])).length) Slot.unset).toArray = ls at hl ⊢
  have hl : lv_has ls 8 [(0, .ref (bd 0)), (1, .int p0), (2, .int p1), (3, .int p2), (4, .int p3)] := hl
  refine lv_iload_n hx hb dX9_best_0 rfl (lv_at hl 2 rfl) ?_
  refine lv_iconst (v := 4) hx hb dX9_best_1 (by decide) ?_
  refine lv_icmp_ne (tgt := 25) hx hb dX9_best_2 (by decide) (fun hc => ?_) (fun hc => ?_)
  · have hw := hw.2 hc
    refine lv_iload_n hx hb dX9_best_25 rfl (lv_at hl 2 rfl) ?_
    refine lv_aload_n hx hb dX9_best_26 rfl (lv_at hl 0 rfl) ?_
    refine va_get (ci := 11) (v := .int x_wants) (C := RX9) (T := TX9) (N := 47) hx hb hts inw_X9_best_X9 hown hK hP 0 rfl rfl 45 (by decide) (hts (.fieldLink RX9 276 "DockCallModel" "wants" "I") (by decide +kernel)) (fun _ h9 => h9) rfl dX9_best_27 ?_
    refine lv_icmp_ge (tgt := 45) hx hb dX9_best_30 (by decide) (fun hc => ?_) (fun hc => ?_)
    · have hw := hw.1 hc
      refine lv_iconst (v := 0) hx hb dX9_best_45 (by decide) ?_
      refine lv_istore (lv' := [(5, .int 0), (0, .ref (bd 0)), (1, .int p0), (2, .int p1), (3, .int p2), (4, .int p3)]) hx hb dX9_best_46 hl (by decide) rfl (fun ls hl => ?_)
      refine lv_ldcw hx hb hown (hts (.constant RX9 281 2147483647) (by decide +kernel)) dX9_best_48 ?_
      refine lv_istore (lv' := [(6, .int 2147483647), (5, .int 0), (0, .ref (bd 0)), (1, .int p0), (2, .int p1), (3, .int p2), (4, .int p3)]) hx hb dX9_best_51 hl (by decide) rfl (fun ls hl => ?_)
      refine lv_iconst (v := 0) hx hb dX9_best_53 (by decide) ?_
      refine lv_istore (lv' := [(7, .int 0), (6, .int 2147483647), (5, .int 0), (0, .ref (bd 0)), (1, .int p0), (2, .int p1), (3, .int p2), (4, .int p3)]) hx hb dX9_best_54 hl (by decide) rfl (fun ls hl => ?_)
      obtain ⟨n', hw⟩ := hw
      exact c_Model_best3_h56 hx hb hr hml hown hts hlocks hK hE hA  n' 2147483647 0 hw _ _ _ hP hD hS (lv_sub hl [0, 1, 2, 3, 4, 5, 6, 7] rfl)
    · have hw := hw.2 hc
      refine lv_iload_n hx hb dX9_best_33 rfl (lv_at hl 1 rfl) ?_
      refine lv_iload_n hx hb dX9_best_34 rfl (lv_at hl 2 rfl) ?_
      refine mx_i (wc := []) (wr := [(ce_xm bd x_thrown x_men x_ships x_entries x_rules x_calls x_gangs x_idle x_moved x_paid x_taped x_at x_end x_begin x_faultAt x_wants), ((bd 30), .inl (y 0, 4, .inl x_most)), ((bd 31), .inl (y 0, 6561, .inl x_least))]) hP hD hS hA [] [0, 1, 2] [0, 1, 2] rfl rfl (by decide) (by decide) (by decide) (fun (u : Unit) => [(ce_xm bd x_thrown x_men x_ships x_entries x_rules x_calls x_gangs x_idle x_moved x_paid x_taped x_at x_end x_begin x_faultAt x_wants), ((bd 30), .inl (y 0, 4, .inl x_most)), ((bd 31), .inl (y 0, 6561, .inl x_least))]) (fun _ => rfl) (va_runS (As := [.int p1]) (rest := [.int p0]) ⟨hx, hb, hml, hown, hts⟩ (c_Model_power l D y s.heap.size p1 hw) (va_cwS 1 hts gX9_best_X9_power rfl rfl rfl (by decide +kernel) ⟨Nat.le_of_ble_eq_true rfl, Nat.le_of_ble_eq_true rfl⟩) ⟨mPre.blind, mPre.to (hP.sub [] rfl) hK (hD.sub [] (by decide) rfl) hE⟩ rfl rfl hl.1 rfl (lv_room (Nat.le_of_ble_eq_true rfl)) dX9_best_35 ⟨Nat.le_of_ble_eq_true rfl, Nat.le_of_ble_eq_true rfl⟩) (fun r_5 u H locs hw hP hD hS => ?_)
      try dsimp only at hw
      have hP : va_P D vwCl [(ce_xm bd x_thrown x_men x_ships x_entries x_rules x_calls x_gangs x_idle x_moved x_paid x_taped x_at x_end x_begin x_faultAt x_wants), ((bd 30), .inl (y 0, 4, .inl x_most)), ((bd 31), .inl (y 0, 6561, .inl x_least))] H := hP
      have hD : va_D A [(ce_xm bd x_thrown x_men x_ships x_entries x_rules x_calls x_gangs x_idle x_moved x_paid x_taped x_at x_end x_begin x_faultAt x_wants), ((bd 30), .inl (y 0, 4, .inl x_most)), ((bd 31), .inl (y 0, 6561, .inl x_least))] := hD
      obtain ⟨hz, hw⟩ := hw
      refine lv_idiv hx hb dX9_best_38 hz ?_
      refine lv_bipush (v := 9) hx hb dX9_best_39 (by decide) ?_
      refine lv_irem hx hb dX9_best_41 (by decide) ?_
      refine lv_goto (tgt := 46) hx hb dX9_best_42 (by decide) ?_
      refine lv_istore (lv' := [(5, .int ((p0 / r_5) - (p0 / r_5) / 9 * 9)), (0, .ref (bd 0)), (1, .int p0), (2, .int p1), (3, .int p2), (4, .int p3)]) hx hb dX9_best_46 hl (by decide) rfl (fun ls hl => ?_)
      refine lv_ldcw hx hb hown (hts (.constant RX9 281 2147483647) (by decide +kernel)) dX9_best_48 ?_
      refine lv_istore (lv' := [(6, .int 2147483647), (5, .int ((p0 / r_5) - (p0 / r_5) / 9 * 9)), (0, .ref (bd 0)), (1, .int p0), (2, .int p1), (3, .int p2), (4, .int p3)]) hx hb dX9_best_51 hl (by decide) rfl (fun ls hl => ?_)
      refine lv_iconst (v := 0) hx hb dX9_best_53 (by decide) ?_
      refine lv_istore (lv' := [(7, .int 0), (6, .int 2147483647), (5, .int ((p0 / r_5) - (p0 / r_5) / 9 * 9)), (0, .ref (bd 0)), (1, .int p0), (2, .int p1), (3, .int p2), (4, .int p3)]) hx hb dX9_best_54 hl (by decide) rfl (fun ls hl => ?_)
      obtain ⟨n', hw⟩ := hw
      exact c_Model_best3_h56 hx hb hr hml hown hts hlocks hK hE hA  n' 2147483647 0 hw _ _ _ hP hD hS (lv_sub hl [0, 1, 2, 3, 4, 5, 6, 7] rfl)
  · have hw := hw.1 hc
    refine lv_iload hx hb dX9_best_5 (lv_at hl 4 rfl) ?_
    refine lv_iload_n hx hb dX9_best_7 rfl (lv_at hl 1 rfl) ?_
    refine lv_icmp_ne (tgt := 17) hx hb dX9_best_8 (by decide) (fun hc => ?_) (fun hc => ?_)
    · have hw := hw.2 hc
      refine lv_aload_n hx hb dX9_best_17 rfl (lv_at hl 0 rfl) ?_
      refine va_get (ci := 11) (v := .ref (bd 31)) (C := RX9) (T := TX9) (N := 47) hx hb hts inw_X9_best_X9 hown hK hP 0 rfl rfl 46 (by decide) (hts (.fieldLink RX9 106 "DockCallModel" "least" "[I") (by decide +kernel)) (fun _ h9 => h9) rfl dX9_best_18 ?_
      refine lv_iload hx hb dX9_best_21 (lv_at hl 4 rfl) ?_
      obtain ⟨hi, hw⟩ := hw
      refine va_iald hx hb hK hP 2 0 rfl rfl hi dX9_best_23 ?_
      exact W.iret (v := x_least p3.toNatClampNeg) hx hb hr (fun t ht hW => ⟨⟨x_least p3.toNatClampNeg, (), rfl, hw, mAt.to hP hK hD ht hW⟩, hS.F ht⟩) hS.2.2 dX9_best_24
    · have hw := hw.1 hc
      refine lv_ldcw hx hb hown (hts (.constant RX9 281 2147483647) (by decide +kernel)) dX9_best_11 ?_
      refine lv_goto (tgt := 24) hx hb dX9_best_14 (by decide) ?_
      exact W.iret (v := 2147483647) hx hb hr (fun t ht hW => ⟨⟨2147483647, (), rfl, hw, mAt.to hP hK hD ht hW⟩, hS.F ht⟩) hS.2.2 dX9_best_24
def wp_Model_best4_h56 (v1 : Int32) (v2 : Int32) (v3 : Int32) (v4 : Int32) (v5 : Int32) (x_wants : Int32) (x_most : Nat → Int32) (x_least : Nat → Int32)  (Q : Int32 → Prop) : Nat → Int32 → Int32 → Prop
  | 0, _, _ => False
  | n + 1, v6, v7 => ((v5 < v7 → Q v6) ∧ (¬ v5 < v7 → ((v3 < v7 → Q v6) ∧ (¬ v3 < v7 → ((x_wants ≤ v2 → ((0 < v7 → Q v6) ∧ (¬ 0 < v7 → (wp_Model_power v2 (fun r_1 => (wp_Model_best3 x_wants x_most x_least v1 (v2 + 1) (v3 - v7) (v4 - (v7 * r_1)) (fun r_2 => wp_Model_best4_h56 v1 v2 v3 v4 v5 x_wants x_most x_least Q n (if r_2 < v6 then r_2 else v6) (v7 + 1)))))))) ∧ (¬ x_wants ≤ v2 → (vp_in v2 4 ∧ ((x_most v2.toNatClampNeg < v7 → Q v6) ∧ (¬ x_most v2.toNatClampNeg < v7 → (wp_Model_power v2 (fun r_3 => (wp_Model_best3 x_wants x_most x_least v1 (v2 + 1) (v3 - v7) (v4 - (v7 * r_3)) (fun r_4 => wp_Model_best4_h56 v1 v2 v3 v4 v5 x_wants x_most x_least Q n (if r_4 < v6 then r_4 else v6) (v7 + 1))))))))))))))
def wp_Model_best4 (x_wants : Int32) (x_most : Nat → Int32) (x_least : Nat → Int32) (p0 : Int32) (p1 : Int32) (p2 : Int32) (p3 : Int32) (Q : Int32 → Prop) : Prop := ((p1 = 4 → ((p3 = p0 → Q 2147483647) ∧ (¬ p3 = p0 → (vp_in p3 6561 ∧ Q (x_least p3.toNatClampNeg))))) ∧ (¬ p1 = 4 → ((x_wants ≤ p1 → (∃ n' : Nat, wp_Model_best4_h56 p0 p1 p2 p3 0 x_wants x_most x_least Q n' 2147483647 0)) ∧ (¬ x_wants ≤ p1 → (wp_Model_power p1 (fun r_5 => (¬ r_5 = 0 ∧ (∃ n' : Nat, wp_Model_best4_h56 p0 p1 p2 p3 ((p0 / r_5) - (p0 / r_5) / 9 * 9) x_wants x_most x_least Q n' 2147483647 0))))))))
set_option maxHeartbeats 4000000 in
set_option maxRecDepth 100000 in
theorem c_Model_best4_h56 {p : Program} {l : Launch} {e : Env} {s : State} {m : MethodId} {args : Array Value} {below : List Frame} {meth : Method} {c : Code} {D : va_G} {y : Nat → ClassId} {bd : Nat → Nat} {A : Nat → Prop} (hx : p.tables.exec = Jvm.exec) (hb : c.code = cX9_best) (hr : meth.sig.returnType = some .int) (hml : c.maxLocals = 8) (hown : s.vm.findClass RX9 = some m.cls) (hts : ∀ w ∈ wsX9_best, w.before args s = true) (hlocks : meth.locks = false) (hK : va_K D vwCl (TY y) s) (hE : EV s) (hA : ∀ q, s.heap.size ≤ q → A q) {v1 : Int32} {v2 : Int32} {v3 : Int32} {v4 : Int32} {v5 : Int32} {x_wants : Int32} {x_most : Nat → Int32} {x_least : Nat → Int32} {x_thrown : Int32} {x_men : Int32} {x_ships : Int32} {x_entries : Int32} {x_rules : Int32} {x_calls : Int32} {x_gangs : Int32} {x_idle : Int32} {x_moved : Int64} {x_paid : Int64} {x_taped : Int32} {x_at : Int32} {x_end : Int32} {x_begin : Int32} {x_faultAt : Int32}  {Q : Int32 → Prop}  : ∀ (n : Nat) (v6 : Int32) (v7 : Int32), wp_Model_best4_h56 v1 v2 v3 v4 v5 x_wants x_most x_least Q n v6 v7 → ∀ (H : Heap) (locs : List Loc) (ls : Array Slot), va_P D vwCl [(ce_xm bd x_thrown x_men x_ships x_entries x_rules x_calls x_gangs x_idle x_moved x_paid x_taped x_at x_end x_begin x_faultAt x_wants), ((bd 30), .inl (y 0, 4, .inl x_most)), ((bd 31), .inl (y 0, 6561, .inl x_least))] H → va_D A [(ce_xm bd x_thrown x_men x_ships x_entries x_rules x_calls x_gangs x_idle x_moved x_paid x_taped x_at x_end x_begin x_faultAt x_wants), ((bd 30), .inl (y 0, 4, .inl x_most)), ((bd 31), .inl (y 0, 6561, .inl x_least))] → va_S A s.heap H locs → lv_has ls 8 [(7, .int v7), (6, .int v6), (5, .int v5), (0, .ref (bd 0)), (1, .int v1), (2, .int v2), (3, .int v3), (4, .int v4)] → W p l e ({ frames := 5, cells := 0, slots := 0, locals := 128 }) s m args below meth c H locs 0 0 (MQ below (va_Qi (fun (r : Int32) (u : Unit) => Q r ) (mAt D y A (fun (u : Unit) => [(ce_xm bd x_thrown x_men x_ships x_entries x_rules x_calls x_gangs x_idle x_moved x_paid x_taped x_at x_end x_begin x_faultAt x_wants), ((bd 30), .inl (y 0, 4, .inl x_most)), ((bd 31), .inl (y 0, 6561, .inl x_least))])) A) args s 0 0 A) (F0 m 56 ls []) := by
  intro n
  induction n with
  | zero => intro v6 v7 hw; rw [wp_Model_best4_h56] at hw; exact hw.elim
  | succ n ih =>
    intro v6 v7 hw H locs ls hP hD hS hl
    rw [wp_Model_best4_h56] at hw
    refine lv_iload hx hb dX9_best_56 (lv_at hl 0 rfl) ?_
    refine lv_iload hx hb dX9_best_58 (lv_at hl 2 rfl) ?_
    refine lv_icmp_gt (tgt := 127) hx hb dX9_best_60 (by decide) (fun hc => ?_) (fun hc => ?_)
    · have hw := hw.1 hc
      refine lv_iload hx hb dX9_best_127 (lv_at hl 1 rfl) ?_
      exact W.iret (v := v6) hx hb hr (fun t ht hW => ⟨⟨v6, (), rfl, hw, mAt.to hP hK hD ht hW⟩, hS.F ht⟩) hS.2.2 dX9_best_129
    · have hw := hw.2 hc
      refine lv_iload hx hb dX9_best_63 (lv_at hl 0 rfl) ?_
      refine lv_iload_n hx hb dX9_best_65 rfl (lv_at hl 6 rfl) ?_
      refine lv_icmp_gt (tgt := 127) hx hb dX9_best_66 (by decide) (fun hc => ?_) (fun hc => ?_)
      · have hw := hw.1 hc
        refine lv_iload hx hb dX9_best_127 (lv_at hl 1 rfl) ?_
        exact W.iret (v := v6) hx hb hr (fun t ht hW => ⟨⟨v6, (), rfl, hw, mAt.to hP hK hD ht hW⟩, hS.F ht⟩) hS.2.2 dX9_best_129
      · have hw := hw.2 hc
        refine lv_iload hx hb dX9_best_69 (lv_at hl 0 rfl) ?_
        refine lv_iload_n hx hb dX9_best_71 rfl (lv_at hl 5 rfl) ?_
        refine lv_aload_n hx hb dX9_best_72 rfl (lv_at hl 3 rfl) ?_
        refine va_get (ci := 11) (v := .int x_wants) (C := RX9) (T := TX9) (N := 47) hx hb hts inw_X9_best_X9 hown hK hP 0 rfl rfl 45 (by decide) (hts (.fieldLink RX9 276 "DockCallModel" "wants" "I") (by decide +kernel)) (fun _ h9 => h9) rfl dX9_best_73 ?_
        refine lv_icmp_ge (tgt := 88) hx hb dX9_best_76 (by decide) (fun hc => ?_) (fun hc => ?_)
        · have hw := hw.1 hc
          refine lv_iconst (v := 0) hx hb dX9_best_88 (by decide) ?_
          refine lv_icmp_gt (tgt := 127) hx hb dX9_best_89 (by decide) (fun hc => ?_) (fun hc => ?_)
          · have hw := hw.1 hc
            refine lv_iload hx hb dX9_best_127 (lv_at hl 1 rfl) ?_
            exact W.iret (v := v6) hx hb hr (fun t ht hW => ⟨⟨v6, (), rfl, hw, mAt.to hP hK hD ht hW⟩, hS.F ht⟩) hS.2.2 dX9_best_129
          · have hw := hw.2 hc
            refine lv_iload hx hb dX9_best_92 (lv_at hl 1 rfl) ?_
            refine lv_aload_n hx hb dX9_best_94 rfl (lv_at hl 3 rfl) ?_
            refine lv_iload_n hx hb dX9_best_95 rfl (lv_at hl 4 rfl) ?_
            refine lv_iload_n hx hb dX9_best_96 rfl (lv_at hl 5 rfl) ?_
            refine lv_iconst (v := 1) hx hb dX9_best_97 (by decide) ?_
            refine lv_iadd hx hb dX9_best_98 ?_
            refine lv_iload_n hx hb dX9_best_99 rfl (lv_at hl 6 rfl) ?_
            refine lv_iload hx hb dX9_best_100 (lv_at hl 0 rfl) ?_
            refine lv_isub hx hb dX9_best_102 ?_
            refine lv_iload hx hb dX9_best_103 (lv_at hl 7 rfl) ?_
            refine lv_iload hx hb dX9_best_105 (lv_at hl 0 rfl) ?_
            refine lv_iload_n hx hb dX9_best_107 rfl (lv_at hl 5 rfl) ?_
            refine mx_i (wc := []) (wr := [(ce_xm bd x_thrown x_men x_ships x_entries x_rules x_calls x_gangs x_idle x_moved x_paid x_taped x_at x_end x_begin x_faultAt x_wants), ((bd 30), .inl (y 0, 4, .inl x_most)), ((bd 31), .inl (y 0, 6561, .inl x_least))]) hP hD hS hA [] [0, 1, 2] [0, 1, 2] rfl rfl (by decide) (by decide) (by decide) (fun (u : Unit) => [(ce_xm bd x_thrown x_men x_ships x_entries x_rules x_calls x_gangs x_idle x_moved x_paid x_taped x_at x_end x_begin x_faultAt x_wants), ((bd 30), .inl (y 0, 4, .inl x_most)), ((bd 31), .inl (y 0, 6561, .inl x_least))]) (fun _ => rfl) (va_runS (As := [.int v2]) (rest := [.int v7, .int v4, .int (v3 - v7), .int (v2 + 1), .int v1, .ref (bd 0), .int v6]) ⟨hx, hb, hml, hown, hts⟩ (c_Model_power l D y H.size v2 hw) (va_cwS 1 hts gX9_best_X9_power rfl rfl rfl (by decide +kernel) ⟨Nat.le_of_ble_eq_true rfl, Nat.le_of_ble_eq_true rfl⟩) ⟨mPre.blind, mPre.to (hP.sub [] rfl) hK (hD.sub [] (by decide) rfl) hE⟩ rfl rfl hl.1 rfl (lv_room (Nat.le_of_ble_eq_true rfl)) dX9_best_108 ⟨Nat.le_of_ble_eq_true rfl, Nat.le_of_ble_eq_true rfl⟩) (fun r_1 u H locs hw hP hD hS => ?_)
            try dsimp only at hw
            have hP : va_P D vwCl [(ce_xm bd x_thrown x_men x_ships x_entries x_rules x_calls x_gangs x_idle x_moved x_paid x_taped x_at x_end x_begin x_faultAt x_wants), ((bd 30), .inl (y 0, 4, .inl x_most)), ((bd 31), .inl (y 0, 6561, .inl x_least))] H := hP
            have hD : va_D A [(ce_xm bd x_thrown x_men x_ships x_entries x_rules x_calls x_gangs x_idle x_moved x_paid x_taped x_at x_end x_begin x_faultAt x_wants), ((bd 30), .inl (y 0, 4, .inl x_most)), ((bd 31), .inl (y 0, 6561, .inl x_least))] := hD
            refine lv_imul hx hb dX9_best_111 ?_
            refine lv_isub hx hb dX9_best_112 ?_
            refine mx_i (wc := [(ce_xm bd x_thrown x_men x_ships x_entries x_rules x_calls x_gangs x_idle x_moved x_paid x_taped x_at x_end x_begin x_faultAt x_wants), ((bd 30), .inl (y 0, 4, .inl x_most)), ((bd 31), .inl (y 0, 6561, .inl x_least))]) (wr := []) hP hD hS hA [0, 1, 2] [] [0, 1, 2] rfl rfl (by decide) (by decide) (by decide) (fun (u : Unit) => [(ce_xm bd x_thrown x_men x_ships x_entries x_rules x_calls x_gangs x_idle x_moved x_paid x_taped x_at x_end x_begin x_faultAt x_wants), ((bd 30), .inl (y 0, 4, .inl x_most)), ((bd 31), .inl (y 0, 6561, .inl x_least))]) (fun _ => rfl) (va_runV (As := [.int v1, .int (v2 + 1), .int (v3 - v7), .int (v4 - (v7 * r_1))]) (rest := [.int v6]) ⟨hx, hb, hml, hown, hts⟩ (c_Model_best3 l D y bd H.size x_thrown x_men x_ships x_entries x_rules x_calls x_gangs x_idle x_moved x_paid x_taped x_at x_end x_begin x_faultAt x_wants x_most x_least v1 (v2 + 1) (v3 - v7) (v4 - (v7 * r_1)) hw) (cwV 4 hts gX9_best_X9_best rfl rfl rfl (by decide +kernel) ⟨Nat.le_of_ble_eq_true rfl, Nat.le_of_ble_eq_true rfl⟩) ⟨mPre.blind, (va_recv hK hP (ci := 11) (q0 := 0) rfl rfl), mPre.to (hP.sub [0, 1, 2] rfl) hK (hD.sub [0, 1, 2] (by decide) rfl) hE⟩ rfl rfl hl.1 rfl (lv_room (Nat.le_of_ble_eq_true rfl)) dX9_best_113 ⟨Nat.le_of_ble_eq_true rfl, Nat.le_of_ble_eq_true rfl⟩) (fun r_2 u H locs hw hP hD hS => ?_)
            try dsimp only at hw
            have hP : va_P D vwCl [(ce_xm bd x_thrown x_men x_ships x_entries x_rules x_calls x_gangs x_idle x_moved x_paid x_taped x_at x_end x_begin x_faultAt x_wants), ((bd 30), .inl (y 0, 4, .inl x_most)), ((bd 31), .inl (y 0, 6561, .inl x_least))] H := hP
            have hD : va_D A [(ce_xm bd x_thrown x_men x_ships x_entries x_rules x_calls x_gangs x_idle x_moved x_paid x_taped x_at x_end x_begin x_faultAt x_wants), ((bd 30), .inl (y 0, 4, .inl x_most)), ((bd 31), .inl (y 0, 6561, .inl x_least))] := hD
            refine va_mmin hx hb (by rw [hml]; exact hl.1.symm) hown (hts (.methodLink RX9 227 Lib.Math.min.name) (by decide +kernel)) (hts (.static Lib.Math.min.name) (by decide +kernel)) (hts (.initialized "java/lang/Math") (by decide +kernel)) (hts (.code Lib.Math.min.name Lib.Math.min.code 2 (some .int)) (by decide +kernel)) (Nat.le_of_ble_eq_true rfl) (Nat.le_of_ble_eq_true rfl) (Nat.le_of_ble_eq_true rfl) (Nat.le_of_ble_eq_true rfl) dX9_best_116 ?_
            refine lv_istore (lv' := [(6, .int (if r_2 < v6 then r_2 else v6)), (7, .int v7), (5, .int v5), (0, .ref (bd 0)), (1, .int v1), (2, .int v2), (3, .int v3), (4, .int v4)]) hx hb dX9_best_119 hl (by decide) rfl (fun ls hl => ?_)
            refine lv_iinc (v := v7 + 1) (lv' := [(7, .int (v7 + 1)), (6, .int (if r_2 < v6 then r_2 else v6)), (5, .int v5), (0, .ref (bd 0)), (1, .int v1), (2, .int v2), (3, .int v3), (4, .int v4)]) hx hb dX9_best_121 hl (k := 1) rfl (by first | rfl | decide) (by decide) rfl (fun ls hl => ?_)
            refine lv_goto (tgt := 56) hx hb dX9_best_124 (by decide) ?_
            exact ih (if r_2 < v6 then r_2 else v6) (v7 + 1)  hw _ _ _ hP hD hS (lv_sub hl [0, 1, 2, 3, 4, 5, 6, 7] rfl)
        · have hw := hw.2 hc
          refine lv_aload_n hx hb dX9_best_79 rfl (lv_at hl 3 rfl) ?_
          refine va_get (ci := 11) (v := .ref (bd 30)) (C := RX9) (T := TX9) (N := 47) hx hb hts inw_X9_best_X9 hown hK hP 0 rfl rfl 44 (by decide) (hts (.fieldLink RX9 103 "DockCallModel" "most" "[I") (by decide +kernel)) (fun _ h9 => h9) rfl dX9_best_80 ?_
          refine lv_iload_n hx hb dX9_best_83 rfl (lv_at hl 5 rfl) ?_
          obtain ⟨hi, hw⟩ := hw
          refine va_iald hx hb hK hP 1 0 rfl rfl hi dX9_best_84 ?_
          refine lv_goto (tgt := 89) hx hb dX9_best_85 (by decide) ?_
          refine lv_icmp_gt (tgt := 127) hx hb dX9_best_89 (by decide) (fun hc => ?_) (fun hc => ?_)
          · have hw := hw.1 hc
            refine lv_iload hx hb dX9_best_127 (lv_at hl 1 rfl) ?_
            exact W.iret (v := v6) hx hb hr (fun t ht hW => ⟨⟨v6, (), rfl, hw, mAt.to hP hK hD ht hW⟩, hS.F ht⟩) hS.2.2 dX9_best_129
          · have hw := hw.2 hc
            refine lv_iload hx hb dX9_best_92 (lv_at hl 1 rfl) ?_
            refine lv_aload_n hx hb dX9_best_94 rfl (lv_at hl 3 rfl) ?_
            refine lv_iload_n hx hb dX9_best_95 rfl (lv_at hl 4 rfl) ?_
            refine lv_iload_n hx hb dX9_best_96 rfl (lv_at hl 5 rfl) ?_
            refine lv_iconst (v := 1) hx hb dX9_best_97 (by decide) ?_
            refine lv_iadd hx hb dX9_best_98 ?_
            refine lv_iload_n hx hb dX9_best_99 rfl (lv_at hl 6 rfl) ?_
            refine lv_iload hx hb dX9_best_100 (lv_at hl 0 rfl) ?_
            refine lv_isub hx hb dX9_best_102 ?_
            refine lv_iload hx hb dX9_best_103 (lv_at hl 7 rfl) ?_
            refine lv_iload hx hb dX9_best_105 (lv_at hl 0 rfl) ?_
            refine lv_iload_n hx hb dX9_best_107 rfl (lv_at hl 5 rfl) ?_
            refine mx_i (wc := []) (wr := [(ce_xm bd x_thrown x_men x_ships x_entries x_rules x_calls x_gangs x_idle x_moved x_paid x_taped x_at x_end x_begin x_faultAt x_wants), ((bd 30), .inl (y 0, 4, .inl x_most)), ((bd 31), .inl (y 0, 6561, .inl x_least))]) hP hD hS hA [] [0, 1, 2] [0, 1, 2] rfl rfl (by decide) (by decide) (by decide) (fun (u : Unit) => [(ce_xm bd x_thrown x_men x_ships x_entries x_rules x_calls x_gangs x_idle x_moved x_paid x_taped x_at x_end x_begin x_faultAt x_wants), ((bd 30), .inl (y 0, 4, .inl x_most)), ((bd 31), .inl (y 0, 6561, .inl x_least))]) (fun _ => rfl) (va_runS (As := [.int v2]) (rest := [.int v7, .int v4, .int (v3 - v7), .int (v2 + 1), .int v1, .ref (bd 0), .int v6]) ⟨hx, hb, hml, hown, hts⟩ (c_Model_power l D y H.size v2 hw) (va_cwS 1 hts gX9_best_X9_power rfl rfl rfl (by decide +kernel) ⟨Nat.le_of_ble_eq_true rfl, Nat.le_of_ble_eq_true rfl⟩) ⟨mPre.blind, mPre.to (hP.sub [] rfl) hK (hD.sub [] (by decide) rfl) hE⟩ rfl rfl hl.1 rfl (lv_room (Nat.le_of_ble_eq_true rfl)) dX9_best_108 ⟨Nat.le_of_ble_eq_true rfl, Nat.le_of_ble_eq_true rfl⟩) (fun r_3 u H locs hw hP hD hS => ?_)
            try dsimp only at hw
            have hP : va_P D vwCl [(ce_xm bd x_thrown x_men x_ships x_entries x_rules x_calls x_gangs x_idle x_moved x_paid x_taped x_at x_end x_begin x_faultAt x_wants), ((bd 30), .inl (y 0, 4, .inl x_most)), ((bd 31), .inl (y 0, 6561, .inl x_least))] H := hP
            have hD : va_D A [(ce_xm bd x_thrown x_men x_ships x_entries x_rules x_calls x_gangs x_idle x_moved x_paid x_taped x_at x_end x_begin x_faultAt x_wants), ((bd 30), .inl (y 0, 4, .inl x_most)), ((bd 31), .inl (y 0, 6561, .inl x_least))] := hD
            refine lv_imul hx hb dX9_best_111 ?_
            refine lv_isub hx hb dX9_best_112 ?_
            refine mx_i (wc := [(ce_xm bd x_thrown x_men x_ships x_entries x_rules x_calls x_gangs x_idle x_moved x_paid x_taped x_at x_end x_begin x_faultAt x_wants), ((bd 30), .inl (y 0, 4, .inl x_most)), ((bd 31), .inl (y 0, 6561, .inl x_least))]) (wr := []) hP hD hS hA [0, 1, 2] [] [0, 1, 2] rfl rfl (by decide) (by decide) (by decide) (fun (u : Unit) => [(ce_xm bd x_thrown x_men x_ships x_entries x_rules x_calls x_gangs x_idle x_moved x_paid x_taped x_at x_end x_begin x_faultAt x_wants), ((bd 30), .inl (y 0, 4, .inl x_most)), ((bd 31), .inl (y 0, 6561, .inl x_least))]) (fun _ => rfl) (va_runV (As := [.int v1, .int (v2 + 1), .int (v3 - v7), .int (v4 - (v7 * r_3))]) (rest := [.int v6]) ⟨hx, hb, hml, hown, hts⟩ (c_Model_best3 l D y bd H.size x_thrown x_men x_ships x_entries x_rules x_calls x_gangs x_idle x_moved x_paid x_taped x_at x_end x_begin x_faultAt x_wants x_most x_least v1 (v2 + 1) (v3 - v7) (v4 - (v7 * r_3)) hw) (cwV 4 hts gX9_best_X9_best rfl rfl rfl (by decide +kernel) ⟨Nat.le_of_ble_eq_true rfl, Nat.le_of_ble_eq_true rfl⟩) ⟨mPre.blind, (va_recv hK hP (ci := 11) (q0 := 0) rfl rfl), mPre.to (hP.sub [0, 1, 2] rfl) hK (hD.sub [0, 1, 2] (by decide) rfl) hE⟩ rfl rfl hl.1 rfl (lv_room (Nat.le_of_ble_eq_true rfl)) dX9_best_113 ⟨Nat.le_of_ble_eq_true rfl, Nat.le_of_ble_eq_true rfl⟩) (fun r_4 u H locs hw hP hD hS => ?_)
            try dsimp only at hw
            have hP : va_P D vwCl [(ce_xm bd x_thrown x_men x_ships x_entries x_rules x_calls x_gangs x_idle x_moved x_paid x_taped x_at x_end x_begin x_faultAt x_wants), ((bd 30), .inl (y 0, 4, .inl x_most)), ((bd 31), .inl (y 0, 6561, .inl x_least))] H := hP
            have hD : va_D A [(ce_xm bd x_thrown x_men x_ships x_entries x_rules x_calls x_gangs x_idle x_moved x_paid x_taped x_at x_end x_begin x_faultAt x_wants), ((bd 30), .inl (y 0, 4, .inl x_most)), ((bd 31), .inl (y 0, 6561, .inl x_least))] := hD
            refine va_mmin hx hb (by rw [hml]; exact hl.1.symm) hown (hts (.methodLink RX9 227 Lib.Math.min.name) (by decide +kernel)) (hts (.static Lib.Math.min.name) (by decide +kernel)) (hts (.initialized "java/lang/Math") (by decide +kernel)) (hts (.code Lib.Math.min.name Lib.Math.min.code 2 (some .int)) (by decide +kernel)) (Nat.le_of_ble_eq_true rfl) (Nat.le_of_ble_eq_true rfl) (Nat.le_of_ble_eq_true rfl) (Nat.le_of_ble_eq_true rfl) dX9_best_116 ?_
            refine lv_istore (lv' := [(6, .int (if r_4 < v6 then r_4 else v6)), (7, .int v7), (5, .int v5), (0, .ref (bd 0)), (1, .int v1), (2, .int v2), (3, .int v3), (4, .int v4)]) hx hb dX9_best_119 hl (by decide) rfl (fun ls hl => ?_)
            refine lv_iinc (v := v7 + 1) (lv' := [(7, .int (v7 + 1)), (6, .int (if r_4 < v6 then r_4 else v6)), (5, .int v5), (0, .ref (bd 0)), (1, .int v1), (2, .int v2), (3, .int v3), (4, .int v4)]) hx hb dX9_best_121 hl (k := 1) rfl (by first | rfl | decide) (by decide) rfl (fun ls hl => ?_)
            refine lv_goto (tgt := 56) hx hb dX9_best_124 (by decide) ?_
            exact ih (if r_4 < v6 then r_4 else v6) (v7 + 1)  hw _ _ _ hP hD hS (lv_sub hl [0, 1, 2, 3, 4, 5, 6, 7] rfl)
set_option maxHeartbeats 4000000 in
set_option maxRecDepth 100000 in
theorem c_Model_best4 (l : Launch) (D : va_G) (y : Nat → ClassId) (bd : Nat → Nat) (sz : Nat) (x_thrown : Int32) (x_men : Int32) (x_ships : Int32) (x_entries : Int32) (x_rules : Int32) (x_calls : Int32) (x_gangs : Int32) (x_idle : Int32) (x_moved : Int64) (x_paid : Int64) (x_taped : Int32) (x_at : Int32) (x_end : Int32) (x_begin : Int32) (x_faultAt : Int32) (x_wants : Int32) (x_most : Nat → Int32) (x_least : Nat → Int32) (p0 : Int32) (p1 : Int32) (p2 : Int32) (p3 : Int32) {Q : Int32 → Prop} (hw : wp_Model_best4 x_wants x_most x_least p0 p1 p2 p3 Q) : Met l yX9_best wsX9_best ({ frames := 5, cells := 0, slots := 0, locals := 128 }) (va_Pc [.ref (bd 0), .int p0, .int p1, .int p2, .int p3] (mPre D y sz [(ce_xm bd x_thrown x_men x_ships x_entries x_rules x_calls x_gangs x_idle x_moved x_paid x_taped x_at x_end x_begin x_faultAt x_wants), ((bd 30), .inl (y 0, 4, .inl x_most)), ((bd 31), .inl (y 0, 6561, .inl x_least))])) (va_Qi (fun (r : Int32) (u : Unit) => Q r ) (mAt D y (va_A [(ce_xm bd x_thrown x_men x_ships x_entries x_rules x_calls x_gangs x_idle x_moved x_paid x_taped x_at x_end x_begin x_faultAt x_wants), ((bd 30), .inl (y 0, 4, .inl x_most)), ((bd 31), .inl (y 0, 6561, .inl x_least))] sz) (fun (u : Unit) => [(ce_xm bd x_thrown x_men x_ships x_entries x_rules x_calls x_gangs x_idle x_moved x_paid x_taped x_at x_end x_begin x_faultAt x_wants), ((bd 30), .inl (y 0, 4, .inl x_most)), ((bd 31), .inl (y 0, 6561, .inl x_least))])) (va_A [(ce_xm bd x_thrown x_men x_ships x_entries x_rules x_calls x_gangs x_idle x_moved x_paid x_taped x_at x_end x_begin x_faultAt x_wants), ((bd 30), .inl (y 0, 4, .inl x_most)), ((bd 31), .inl (y 0, 6561, .inl x_least))] sz)) 0 0 (va_A [(ce_xm bd x_thrown x_men x_ships x_entries x_rules x_calls x_gangs x_idle x_moved x_paid x_taped x_at x_end x_begin x_faultAt x_wants), ((bd 30), .inl (y 0, 4, .inl x_most)), ((bd 31), .inl (y 0, 6561, .inl x_least))] sz) := by
  unfold wp_Model_best4 at hw
  refine Met.ofW (cc := cX9_best) (maxL := 8) (ret := some .int) (by decide) rfl ?_
  intro p e s m args below meth c s₁ B hml hv
  obtain ⟨rfl, hsz, hP, hK, hD0, hE⟩ := hv
  have hx := B.exec
  have hb := B.bytes
  have hr := B.returns
  have hts := atoms_spec (ws := wsX9_best) B.pre
  have hown : s.vm.findClass RX9 = some m.cls := findClass_of_methodNamed B.named
  have hlocks := B.notSynchronized
  subst hsz
  have hD := hD0.self (sz := s.heap.size)
  generalize hAe : va_A [(ce_xm bd x_thrown x_men x_ships x_entries x_rules x_calls x_gangs x_idle x_moved x_paid x_taped x_at x_end x_begin x_faultAt x_wants), ((bd 30), .inl (y 0, 4, .inl x_most)), ((bd 31), .inl (y 0, 6561, .inl x_least))] s.heap.size = A at hD ⊢
  have hA : ∀ q : Nat, s.heap.size ≤ q → A q := fun q h => by rw [← hAe]; exact Or.inr h
  have hS : va_S A s.heap s.heap [] := va_S.rf
  have hP : va_P D vwCl [(ce_xm bd x_thrown x_men x_ships x_entries x_rules x_calls x_gangs x_idle x_moved x_paid x_taped x_at x_end x_begin x_faultAt x_wants), ((bd 30), .inl (y 0, 4, .inl x_most)), ((bd 31), .inl (y 0, 6561, .inl x_least))] s.heap := hP
  have hl := lv_entry ([.ref (bd 0), .int p0, .int p1, .int p2, .int p3]) (n := 8) (Nat.le_of_ble_eq_true rfl)
  rw [lg_entry_eq]
  generalize (lg_sl ([.ref (bd 0), .int p0, .int p1, .int p2, .int p3]) ++ List.replicate (8 - (lg_sl ([.ref (bd 0), .int p0, .int p1, .int p2, .int p3])).length) Slot.unset).toArray = ls at hl ⊢
  have hl : lv_has ls 8 [(0, .ref (bd 0)), (1, .int p0), (2, .int p1), (3, .int p2), (4, .int p3)] := hl
  refine lv_iload_n hx hb dX9_best_0 rfl (lv_at hl 2 rfl) ?_
  refine lv_iconst (v := 4) hx hb dX9_best_1 (by decide) ?_
  refine lv_icmp_ne (tgt := 25) hx hb dX9_best_2 (by decide) (fun hc => ?_) (fun hc => ?_)
  · have hw := hw.2 hc
    refine lv_iload_n hx hb dX9_best_25 rfl (lv_at hl 2 rfl) ?_
    refine lv_aload_n hx hb dX9_best_26 rfl (lv_at hl 0 rfl) ?_
    refine va_get (ci := 11) (v := .int x_wants) (C := RX9) (T := TX9) (N := 47) hx hb hts inw_X9_best_X9 hown hK hP 0 rfl rfl 45 (by decide) (hts (.fieldLink RX9 276 "DockCallModel" "wants" "I") (by decide +kernel)) (fun _ h9 => h9) rfl dX9_best_27 ?_
    refine lv_icmp_ge (tgt := 45) hx hb dX9_best_30 (by decide) (fun hc => ?_) (fun hc => ?_)
    · have hw := hw.1 hc
      refine lv_iconst (v := 0) hx hb dX9_best_45 (by decide) ?_
      refine lv_istore (lv' := [(5, .int 0), (0, .ref (bd 0)), (1, .int p0), (2, .int p1), (3, .int p2), (4, .int p3)]) hx hb dX9_best_46 hl (by decide) rfl (fun ls hl => ?_)
      refine lv_ldcw hx hb hown (hts (.constant RX9 281 2147483647) (by decide +kernel)) dX9_best_48 ?_
      refine lv_istore (lv' := [(6, .int 2147483647), (5, .int 0), (0, .ref (bd 0)), (1, .int p0), (2, .int p1), (3, .int p2), (4, .int p3)]) hx hb dX9_best_51 hl (by decide) rfl (fun ls hl => ?_)
      refine lv_iconst (v := 0) hx hb dX9_best_53 (by decide) ?_
      refine lv_istore (lv' := [(7, .int 0), (6, .int 2147483647), (5, .int 0), (0, .ref (bd 0)), (1, .int p0), (2, .int p1), (3, .int p2), (4, .int p3)]) hx hb dX9_best_54 hl (by decide) rfl (fun ls hl => ?_)
      obtain ⟨n', hw⟩ := hw
      exact c_Model_best4_h56 hx hb hr hml hown hts hlocks hK hE hA  n' 2147483647 0 hw _ _ _ hP hD hS (lv_sub hl [0, 1, 2, 3, 4, 5, 6, 7] rfl)
    · have hw := hw.2 hc
      refine lv_iload_n hx hb dX9_best_33 rfl (lv_at hl 1 rfl) ?_
      refine lv_iload_n hx hb dX9_best_34 rfl (lv_at hl 2 rfl) ?_
      refine mx_i (wc := []) (wr := [(ce_xm bd x_thrown x_men x_ships x_entries x_rules x_calls x_gangs x_idle x_moved x_paid x_taped x_at x_end x_begin x_faultAt x_wants), ((bd 30), .inl (y 0, 4, .inl x_most)), ((bd 31), .inl (y 0, 6561, .inl x_least))]) hP hD hS hA [] [0, 1, 2] [0, 1, 2] rfl rfl (by decide) (by decide) (by decide) (fun (u : Unit) => [(ce_xm bd x_thrown x_men x_ships x_entries x_rules x_calls x_gangs x_idle x_moved x_paid x_taped x_at x_end x_begin x_faultAt x_wants), ((bd 30), .inl (y 0, 4, .inl x_most)), ((bd 31), .inl (y 0, 6561, .inl x_least))]) (fun _ => rfl) (va_runS (As := [.int p1]) (rest := [.int p0]) ⟨hx, hb, hml, hown, hts⟩ (c_Model_power l D y s.heap.size p1 hw) (va_cwS 1 hts gX9_best_X9_power rfl rfl rfl (by decide +kernel) ⟨Nat.le_of_ble_eq_true rfl, Nat.le_of_ble_eq_true rfl⟩) ⟨mPre.blind, mPre.to (hP.sub [] rfl) hK (hD.sub [] (by decide) rfl) hE⟩ rfl rfl hl.1 rfl (lv_room (Nat.le_of_ble_eq_true rfl)) dX9_best_35 ⟨Nat.le_of_ble_eq_true rfl, Nat.le_of_ble_eq_true rfl⟩) (fun r_5 u H locs hw hP hD hS => ?_)
      try dsimp only at hw
      have hP : va_P D vwCl [(ce_xm bd x_thrown x_men x_ships x_entries x_rules x_calls x_gangs x_idle x_moved x_paid x_taped x_at x_end x_begin x_faultAt x_wants), ((bd 30), .inl (y 0, 4, .inl x_most)), ((bd 31), .inl (y 0, 6561, .inl x_least))] H := hP
      have hD : va_D A [(ce_xm bd x_thrown x_men x_ships x_entries x_rules x_calls x_gangs x_idle x_moved x_paid x_taped x_at x_end x_begin x_faultAt x_wants), ((bd 30), .inl (y 0, 4, .inl x_most)), ((bd 31), .inl (y 0, 6561, .inl x_least))] := hD
      obtain ⟨hz, hw⟩ := hw
      refine lv_idiv hx hb dX9_best_38 hz ?_
      refine lv_bipush (v := 9) hx hb dX9_best_39 (by decide) ?_
      refine lv_irem hx hb dX9_best_41 (by decide) ?_
      refine lv_goto (tgt := 46) hx hb dX9_best_42 (by decide) ?_
      refine lv_istore (lv' := [(5, .int ((p0 / r_5) - (p0 / r_5) / 9 * 9)), (0, .ref (bd 0)), (1, .int p0), (2, .int p1), (3, .int p2), (4, .int p3)]) hx hb dX9_best_46 hl (by decide) rfl (fun ls hl => ?_)
      refine lv_ldcw hx hb hown (hts (.constant RX9 281 2147483647) (by decide +kernel)) dX9_best_48 ?_
      refine lv_istore (lv' := [(6, .int 2147483647), (5, .int ((p0 / r_5) - (p0 / r_5) / 9 * 9)), (0, .ref (bd 0)), (1, .int p0), (2, .int p1), (3, .int p2), (4, .int p3)]) hx hb dX9_best_51 hl (by decide) rfl (fun ls hl => ?_)
      refine lv_iconst (v := 0) hx hb dX9_best_53 (by decide) ?_
      refine lv_istore (lv' := [(7, .int 0), (6, .int 2147483647), (5, .int ((p0 / r_5) - (p0 / r_5) / 9 * 9)), (0, .ref (bd 0)), (1, .int p0), (2, .int p1), (3, .int p2), (4, .int p3)]) hx hb dX9_best_54 hl (by decide) rfl (fun ls hl => ?_)
      obtain ⟨n', hw⟩ := hw
      exact c_Model_best4_h56 hx hb hr hml hown hts hlocks hK hE hA  n' 2147483647 0 hw _ _ _ hP hD hS (lv_sub hl [0, 1, 2, 3, 4, 5, 6, 7] rfl)
  · have hw := hw.1 hc
    refine lv_iload hx hb dX9_best_5 (lv_at hl 4 rfl) ?_
    refine lv_iload_n hx hb dX9_best_7 rfl (lv_at hl 1 rfl) ?_
    refine lv_icmp_ne (tgt := 17) hx hb dX9_best_8 (by decide) (fun hc => ?_) (fun hc => ?_)
    · have hw := hw.2 hc
      refine lv_aload_n hx hb dX9_best_17 rfl (lv_at hl 0 rfl) ?_
      refine va_get (ci := 11) (v := .ref (bd 31)) (C := RX9) (T := TX9) (N := 47) hx hb hts inw_X9_best_X9 hown hK hP 0 rfl rfl 46 (by decide) (hts (.fieldLink RX9 106 "DockCallModel" "least" "[I") (by decide +kernel)) (fun _ h9 => h9) rfl dX9_best_18 ?_
      refine lv_iload hx hb dX9_best_21 (lv_at hl 4 rfl) ?_
      obtain ⟨hi, hw⟩ := hw
      refine va_iald hx hb hK hP 2 0 rfl rfl hi dX9_best_23 ?_
      exact W.iret (v := x_least p3.toNatClampNeg) hx hb hr (fun t ht hW => ⟨⟨x_least p3.toNatClampNeg, (), rfl, hw, mAt.to hP hK hD ht hW⟩, hS.F ht⟩) hS.2.2 dX9_best_24
    · have hw := hw.1 hc
      refine lv_ldcw hx hb hown (hts (.constant RX9 281 2147483647) (by decide +kernel)) dX9_best_11 ?_
      refine lv_goto (tgt := 24) hx hb dX9_best_14 (by decide) ?_
      exact W.iret (v := 2147483647) hx hb hr (fun t ht hW => ⟨⟨2147483647, (), rfl, hw, mAt.to hP hK hD ht hW⟩, hS.F ht⟩) hS.2.2 dX9_best_24
