theorem inw_X9_plan_X9 : ∀ w ∈ wsX90, w ∈ wsX9_plan := fun _ h => List.mem_cons_of_mem _ (List.mem_append_left _ (List.mem_append_right _ h))
def wp_Model_plan_h87 (v1 : Int32) (v3 : Int32) (x_wants : Int32) (x_need : Nat → Int32) (x_most : Nat → Int32) (x_least : Nat → Int32) (K73 : Int32 → (Nat → Int32) → Prop) (Q : Int32 → Int32 → (Nat → Int32) → Prop) : Nat → Int32 → Int32 → Int32 → Prop
  | 0, _, _, _ => False
  | n + 1, v4, v5, v6 => ((4 ≤ v6 → ((v5 = 0 → (vp_in v3 6561 ∧ K73 (v3 + 1) (upd x_least v3.toNatClampNeg 0))) ∧ (¬ v5 = 0 → (wp_Model_best4 x_wants x_most x_least v3 0 v1 v3 (fun r_4 => (vp_in v3 6561 ∧ K73 (v3 + 1) (upd x_least v3.toNatClampNeg (v4 + r_4)))))))) ∧ (¬ 4 ≤ v6 → (wp_Model_power v6 (fun r_5 => (¬ r_5 = 0 ∧ (((v3 / r_5) - (v3 / r_5) / 9 * 9 ≤ 0 → ((v5 = 0 → wp_Model_plan_h87 v1 v3 x_wants x_need x_most x_least K73 Q n (v4 + 0) 0 (v6 + 1)) ∧ (¬ v5 = 0 → ((x_wants ≤ v6 → ((0 < (v3 / r_5) - (v3 / r_5) / 9 * 9 → wp_Model_plan_h87 v1 v3 x_wants x_need x_most x_least K73 Q n (v4 + 0) 0 (v6 + 1)) ∧ (¬ 0 < (v3 / r_5) - (v3 / r_5) / 9 * 9 → wp_Model_plan_h87 v1 v3 x_wants x_need x_most x_least K73 Q n (v4 + 0) 1 (v6 + 1)))) ∧ (¬ x_wants ≤ v6 → (vp_in v6 4 ∧ ((x_need v6.toNatClampNeg < (v3 / r_5) - (v3 / r_5) / 9 * 9 → wp_Model_plan_h87 v1 v3 x_wants x_need x_most x_least K73 Q n (v4 + 0) 0 (v6 + 1)) ∧ (¬ x_need v6.toNatClampNeg < (v3 / r_5) - (v3 / r_5) / 9 * 9 → wp_Model_plan_h87 v1 v3 x_wants x_need x_most x_least K73 Q n (v4 + 0) 1 (v6 + 1))))))))) ∧ (¬ (v3 / r_5) - (v3 / r_5) / 9 * 9 ≤ 0 → ((v5 = 0 → wp_Model_plan_h87 v1 v3 x_wants x_need x_most x_least K73 Q n (v4 + 1) 0 (v6 + 1)) ∧ (¬ v5 = 0 → ((x_wants ≤ v6 → ((0 < (v3 / r_5) - (v3 / r_5) / 9 * 9 → wp_Model_plan_h87 v1 v3 x_wants x_need x_most x_least K73 Q n (v4 + 1) 0 (v6 + 1)) ∧ (¬ 0 < (v3 / r_5) - (v3 / r_5) / 9 * 9 → wp_Model_plan_h87 v1 v3 x_wants x_need x_most x_least K73 Q n (v4 + 1) 1 (v6 + 1)))) ∧ (¬ x_wants ≤ v6 → (vp_in v6 4 ∧ ((x_need v6.toNatClampNeg < (v3 / r_5) - (v3 / r_5) / 9 * 9 → wp_Model_plan_h87 v1 v3 x_wants x_need x_most x_least K73 Q n (v4 + 1) 0 (v6 + 1)) ∧ (¬ x_need v6.toNatClampNeg < (v3 / r_5) - (v3 / r_5) / 9 * 9 → wp_Model_plan_h87 v1 v3 x_wants x_need x_most x_least K73 Q n (v4 + 1) 1 (v6 + 1)))))))))))))))
def wp_Model_plan_h73 (v1 : Int32) (v2 : Int32) (x_thrown : Int32) (x_wants : Int32) (x_need : Nat → Int32) (x_most : Nat → Int32)  (Q : Int32 → Int32 → (Nat → Int32) → Prop) : Nat → Int32 → (Nat → Int32) → Prop
  | 0, _, _ => False
  | n + 1, v3, x_least => ((v2 < v3 → (vp_in v2 6561 ∧ Q (x_least v2.toNatClampNeg) x_thrown x_least)) ∧ (¬ v2 < v3 → (∃ n' : Nat, wp_Model_plan_h87 v1 v3 x_wants x_need x_most x_least (wp_Model_plan_h73 v1 v2 x_thrown x_wants x_need x_most Q n) Q n' 0 1 0)))
def wp_Model_plan_h36 (v1 : Int32) (x_thrown : Int32) (x_wants : Int32) (x_need : Nat → Int32) (x_most : Nat → Int32) (x_least : Nat → Int32)  (Q : Int32 → Int32 → (Nat → Int32) → Prop) : Nat → Int32 → Int32 → Prop
  | 0, _, _ => False
  | n + 1, v2, v3 => ((x_wants ≤ v3 → (∃ n' : Nat, wp_Model_plan_h73 v1 v2 x_thrown x_wants x_need x_most Q n' 1 (upd x_least (0 : Int32).toNatClampNeg 0))) ∧ (¬ x_wants ≤ v3 → (vp_in v3 4 ∧ (wp_Model_power v3 (fun r_6 => wp_Model_plan_h36 v1 x_thrown x_wants x_need x_most x_least Q n (v2 + ((x_need v3.toNatClampNeg) * r_6)) (v3 + 1))))))
def wp_Model_plan (x_wants : Int32) (x_need : Nat → Int32) (x_most : Nat → Int32) (x_least : Nat → Int32) (p0 : Int32) (Q : Int32 → Int32 → (Nat → Int32) → Prop) : Prop := (wp_Model_in p0.toInt64 1 8 (fun r_1 => ((r_1 = 0 → (wp_Model_throwsIf 0 1 1 (fun r_7 x_thrown_8 => ((r_7 = 0 → (∃ n' : Nat, wp_Model_plan_h36 p0 x_thrown_8 x_wants x_need x_most x_least Q n' 0 0)) ∧ (¬ r_7 = 0 → Q 0 x_thrown_8 x_least))))) ∧ (¬ r_1 = 0 → (wp_Model_throwsIf 0 0 1 (fun r_2 x_thrown_3 => ((r_2 = 0 → (∃ n' : Nat, wp_Model_plan_h36 p0 x_thrown_3 x_wants x_need x_most x_least Q n' 0 0)) ∧ (¬ r_2 = 0 → Q 0 x_thrown_3 x_least))))))))
set_option maxHeartbeats 4000000 in
set_option maxRecDepth 100000 in
theorem c_Model_plan_h87 {p : Program} {l : Launch} {e : Env} {s : State} {m : MethodId} {args : Array Value} {below : List Frame} {meth : Method} {c : Code} {D : va_G} {y : Nat → ClassId} {bd : Nat → Nat} {A : Nat → Prop} (hx : p.tables.exec = Jvm.exec) (hb : c.code = cX9_plan) (hr : meth.sig.returnType = some .int) (hml : c.maxLocals = 8) (hown : s.vm.findClass RX9 = some m.cls) (hts : ∀ w ∈ wsX9_plan, w.before args s = true) (hlocks : meth.locks = false) (hK : va_K D vwCl (TY y) s) (hE : EV s) (hA : ∀ q, s.heap.size ≤ q → A q) {v1 : Int32} {v2 : Int32} {v3 : Int32} {x_thrown : Int32} {x_wants : Int32} {x_need : Nat → Int32} {x_most : Nat → Int32} {x_least : Nat → Int32} {x_men : Int32} {x_ships : Int32} {x_entries : Int32} {x_rules : Int32} {x_calls : Int32} {x_gangs : Int32} {x_idle : Int32} {x_moved : Int64} {x_paid : Int64} {x_taped : Int32} {x_at : Int32} {x_end : Int32} {x_begin : Int32} {x_faultAt : Int32} {K73 : Int32 → (Nat → Int32) → Prop} {Q : Int32 → Int32 → (Nat → Int32) → Prop} (hK73 : ∀ (w3 : Int32) (x_least_w : Nat → Int32), K73 w3 x_least_w → ∀ (H : Heap) (locs : List Loc) (ls : Array Slot), va_P D vwCl [(ce_xm bd x_thrown x_men x_ships x_entries x_rules x_calls x_gangs x_idle x_moved x_paid x_taped x_at x_end x_begin x_faultAt x_wants), ((bd 29), .inl (y 0, 4, .inl x_need)), ((bd 30), .inl (y 0, 4, .inl x_most)), ((bd 31), .inl (y 0, 6561, .inl x_least_w))] H → va_D A [(ce_xm bd x_thrown x_men x_ships x_entries x_rules x_calls x_gangs x_idle x_moved x_paid x_taped x_at x_end x_begin x_faultAt x_wants), ((bd 29), .inl (y 0, 4, .inl x_need)), ((bd 30), .inl (y 0, 4, .inl x_most)), ((bd 31), .inl (y 0, 6561, .inl x_least_w))] → va_S A s.heap H locs → lv_has ls 8 [(3, .int w3), (2, .int v2), (0, .ref (bd 0)), (1, .int v1)] → W p l e ({ frames := 6, cells := 0, slots := 0, locals := 155 }) s m args below meth c H locs 0 0 (MQ below (va_Qi (fun (r : Int32) (u : Int32 × (Nat → Int32)) => Q r u.1 u.2) (mAt D y A (fun (u : Int32 × (Nat → Int32)) => [(ce_xm bd u.1 x_men x_ships x_entries x_rules x_calls x_gangs x_idle x_moved x_paid x_taped x_at x_end x_begin x_faultAt x_wants), ((bd 29), .inl (y 0, 4, .inl x_need)), ((bd 30), .inl (y 0, 4, .inl x_most)), ((bd 31), .inl (y 0, 6561, .inl u.2))])) A) args s 0 0 A) (F0 m 73 ls [])) : ∀ (n : Nat) (v4 : Int32) (v5 : Int32) (v6 : Int32), wp_Model_plan_h87 v1 v3 x_wants x_need x_most x_least K73 Q n v4 v5 v6 → ∀ (H : Heap) (locs : List Loc) (ls : Array Slot), va_P D vwCl [(ce_xm bd x_thrown x_men x_ships x_entries x_rules x_calls x_gangs x_idle x_moved x_paid x_taped x_at x_end x_begin x_faultAt x_wants), ((bd 29), .inl (y 0, 4, .inl x_need)), ((bd 30), .inl (y 0, 4, .inl x_most)), ((bd 31), .inl (y 0, 6561, .inl x_least))] H → va_D A [(ce_xm bd x_thrown x_men x_ships x_entries x_rules x_calls x_gangs x_idle x_moved x_paid x_taped x_at x_end x_begin x_faultAt x_wants), ((bd 29), .inl (y 0, 4, .inl x_need)), ((bd 30), .inl (y 0, 4, .inl x_most)), ((bd 31), .inl (y 0, 6561, .inl x_least))] → va_S A s.heap H locs → lv_has ls 8 [(6, .int v6), (5, .int v5), (4, .int v4), (3, .int v3), (2, .int v2), (0, .ref (bd 0)), (1, .int v1)] → W p l e ({ frames := 6, cells := 0, slots := 0, locals := 155 }) s m args below meth c H locs 0 0 (MQ below (va_Qi (fun (r : Int32) (u : Int32 × (Nat → Int32)) => Q r u.1 u.2) (mAt D y A (fun (u : Int32 × (Nat → Int32)) => [(ce_xm bd u.1 x_men x_ships x_entries x_rules x_calls x_gangs x_idle x_moved x_paid x_taped x_at x_end x_begin x_faultAt x_wants), ((bd 29), .inl (y 0, 4, .inl x_need)), ((bd 30), .inl (y 0, 4, .inl x_most)), ((bd 31), .inl (y 0, 6561, .inl u.2))])) A) args s 0 0 A) (F0 m 87 ls []) := by
  intro n
  induction n with
  | zero => intro v4 v5 v6 hw; rw [wp_Model_plan_h87] at hw; exact hw.elim
  | succ n ih =>
    intro v4 v5 v6 hw H locs ls hP hD hS hl
    rw [wp_Model_plan_h87] at hw
    refine lv_iload hx hb dX9_plan_87 (lv_at hl 0 rfl) ?_
    refine lv_iconst (v := 4) hx hb dX9_plan_89 (by decide) ?_
    refine lv_icmp_ge (tgt := 163) hx hb dX9_plan_90 (by decide) (fun hc => ?_) (fun hc => ?_)
    · have hw := hw.1 hc
      refine lv_aload_n hx hb dX9_plan_163 rfl (lv_at hl 5 rfl) ?_
      refine va_get (ci := 11) (v := .ref (bd 31)) (C := RX9) (T := TX9) (N := 47) hx hb hts inw_X9_plan_X9 hown hK hP 0 rfl rfl 46 (by decide) (hts (.fieldLink RX9 106 "DockCallModel" "least" "[I") (by decide +kernel)) (fun _ h9 => h9) rfl dX9_plan_164 ?_
      refine lv_iload_n hx hb dX9_plan_167 rfl (lv_at hl 3 rfl) ?_
      refine lv_iload hx hb dX9_plan_168 (lv_at hl 1 rfl) ?_
      refine lv_if_eq (tgt := 187) hx hb dX9_plan_170 (by decide) (fun hc => ?_) (fun hc => ?_)
      · have hw := hw.1 hc
        refine lv_iconst (v := 0) hx hb dX9_plan_187 (by decide) ?_
        obtain ⟨hi, hw⟩ := hw
        refine va_iast hx hb hK hP hD hS 3 0 rfl rfl hi dX9_plan_188 (fun H locs hP hD hS => ?_)
        have hP : va_P D vwCl [(ce_xm bd x_thrown x_men x_ships x_entries x_rules x_calls x_gangs x_idle x_moved x_paid x_taped x_at x_end x_begin x_faultAt x_wants), ((bd 29), .inl (y 0, 4, .inl x_need)), ((bd 30), .inl (y 0, 4, .inl x_most)), ((bd 31), .inl (y 0, 6561, .inl (upd x_least v3.toNatClampNeg 0)))] H := hP
        have hD : va_D A [(ce_xm bd x_thrown x_men x_ships x_entries x_rules x_calls x_gangs x_idle x_moved x_paid x_taped x_at x_end x_begin x_faultAt x_wants), ((bd 29), .inl (y 0, 4, .inl x_need)), ((bd 30), .inl (y 0, 4, .inl x_most)), ((bd 31), .inl (y 0, 6561, .inl (upd x_least v3.toNatClampNeg 0)))] := hD
        refine lv_iinc (v := v3 + 1) (lv' := [(3, .int (v3 + 1)), (6, .int v6), (5, .int v5), (4, .int v4), (2, .int v2), (0, .ref (bd 0)), (1, .int v1)]) hx hb dX9_plan_189 hl (k := 3) rfl (by first | rfl | decide) (by decide) rfl (fun ls hl => ?_)
        refine lv_goto (tgt := 73) hx hb dX9_plan_192 (by decide) ?_
        exact hK73 (v3 + 1) (upd x_least v3.toNatClampNeg 0) hw _ _ _ hP hD hS (lv_sub hl [0, 4, 5, 6] rfl)
      · have hw := hw.2 hc
        refine lv_iload hx hb dX9_plan_173 (lv_at hl 2 rfl) ?_
        refine lv_aload_n hx hb dX9_plan_175 rfl (lv_at hl 5 rfl) ?_
        refine lv_iload_n hx hb dX9_plan_176 rfl (lv_at hl 3 rfl) ?_
        refine lv_iconst (v := 0) hx hb dX9_plan_177 (by decide) ?_
        refine lv_iload_n hx hb dX9_plan_178 rfl (lv_at hl 6 rfl) ?_
        refine lv_iload_n hx hb dX9_plan_179 rfl (lv_at hl 3 rfl) ?_
        refine mx_i (wc := [(ce_xm bd x_thrown x_men x_ships x_entries x_rules x_calls x_gangs x_idle x_moved x_paid x_taped x_at x_end x_begin x_faultAt x_wants), ((bd 30), .inl (y 0, 4, .inl x_most)), ((bd 31), .inl (y 0, 6561, .inl x_least))]) (wr := [((bd 29), .inl (y 0, 4, .inl x_need))]) hP hD hS hA [0, 2, 3] [1] [1, 0, 2, 3] rfl rfl (by decide) (by decide) (by decide) (fun (u : Unit) => [(ce_xm bd x_thrown x_men x_ships x_entries x_rules x_calls x_gangs x_idle x_moved x_paid x_taped x_at x_end x_begin x_faultAt x_wants), ((bd 29), .inl (y 0, 4, .inl x_need)), ((bd 30), .inl (y 0, 4, .inl x_most)), ((bd 31), .inl (y 0, 6561, .inl x_least))]) (fun _ => rfl) (va_runV (As := [.int v3, .int 0, .int v1, .int v3]) (rest := [.int v4, .int v3, .ref (bd 31)]) ⟨hx, hb, hml, hown, hts⟩ (c_Model_best4 l D y bd H.size x_thrown x_men x_ships x_entries x_rules x_calls x_gangs x_idle x_moved x_paid x_taped x_at x_end x_begin x_faultAt x_wants x_most x_least v3 0 v1 v3 hw) (cwV 4 hts gX9_plan_X9_best rfl rfl rfl (by decide +kernel) ⟨Nat.le_of_ble_eq_true rfl, Nat.le_of_ble_eq_true rfl⟩) ⟨mPre.blind, (va_recv hK hP (ci := 11) (q0 := 0) rfl rfl), mPre.to (hP.sub [0, 2, 3] rfl) hK (hD.sub [0, 2, 3] (by decide) rfl) hE⟩ rfl rfl hl.1 rfl (lv_room (Nat.le_of_ble_eq_true rfl)) dX9_plan_180 ⟨Nat.le_of_ble_eq_true rfl, Nat.le_of_ble_eq_true rfl⟩) (fun r_4 u H locs hw hP hD hS => ?_)
        try dsimp only at hw
        have hP : va_P D vwCl [(ce_xm bd x_thrown x_men x_ships x_entries x_rules x_calls x_gangs x_idle x_moved x_paid x_taped x_at x_end x_begin x_faultAt x_wants), ((bd 29), .inl (y 0, 4, .inl x_need)), ((bd 30), .inl (y 0, 4, .inl x_most)), ((bd 31), .inl (y 0, 6561, .inl x_least))] H := hP
        have hD : va_D A [(ce_xm bd x_thrown x_men x_ships x_entries x_rules x_calls x_gangs x_idle x_moved x_paid x_taped x_at x_end x_begin x_faultAt x_wants), ((bd 29), .inl (y 0, 4, .inl x_need)), ((bd 30), .inl (y 0, 4, .inl x_most)), ((bd 31), .inl (y 0, 6561, .inl x_least))] := hD
        refine lv_iadd hx hb dX9_plan_183 ?_
        refine lv_goto (tgt := 188) hx hb dX9_plan_184 (by decide) ?_
        obtain ⟨hi, hw⟩ := hw
        refine va_iast hx hb hK hP hD hS 3 0 rfl rfl hi dX9_plan_188 (fun H locs hP hD hS => ?_)
        have hP : va_P D vwCl [(ce_xm bd x_thrown x_men x_ships x_entries x_rules x_calls x_gangs x_idle x_moved x_paid x_taped x_at x_end x_begin x_faultAt x_wants), ((bd 29), .inl (y 0, 4, .inl x_need)), ((bd 30), .inl (y 0, 4, .inl x_most)), ((bd 31), .inl (y 0, 6561, .inl (upd x_least v3.toNatClampNeg (v4 + r_4))))] H := hP
        have hD : va_D A [(ce_xm bd x_thrown x_men x_ships x_entries x_rules x_calls x_gangs x_idle x_moved x_paid x_taped x_at x_end x_begin x_faultAt x_wants), ((bd 29), .inl (y 0, 4, .inl x_need)), ((bd 30), .inl (y 0, 4, .inl x_most)), ((bd 31), .inl (y 0, 6561, .inl (upd x_least v3.toNatClampNeg (v4 + r_4))))] := hD
        refine lv_iinc (v := v3 + 1) (lv' := [(3, .int (v3 + 1)), (6, .int v6), (5, .int v5), (4, .int v4), (2, .int v2), (0, .ref (bd 0)), (1, .int v1)]) hx hb dX9_plan_189 hl (k := 3) rfl (by first | rfl | decide) (by decide) rfl (fun ls hl => ?_)
        refine lv_goto (tgt := 73) hx hb dX9_plan_192 (by decide) ?_
        exact hK73 (v3 + 1) (upd x_least v3.toNatClampNeg (v4 + r_4)) hw _ _ _ hP hD hS (lv_sub hl [0, 4, 5, 6] rfl)
    · have hw := hw.2 hc
      refine lv_iload_n hx hb dX9_plan_93 rfl (lv_at hl 3 rfl) ?_
      refine lv_iload hx hb dX9_plan_94 (lv_at hl 0 rfl) ?_
      refine mx_i (wc := []) (wr := [(ce_xm bd x_thrown x_men x_ships x_entries x_rules x_calls x_gangs x_idle x_moved x_paid x_taped x_at x_end x_begin x_faultAt x_wants), ((bd 29), .inl (y 0, 4, .inl x_need)), ((bd 30), .inl (y 0, 4, .inl x_most)), ((bd 31), .inl (y 0, 6561, .inl x_least))]) hP hD hS hA [] [0, 1, 2, 3] [0, 1, 2, 3] rfl rfl (by decide) (by decide) (by decide) (fun (u : Unit) => [(ce_xm bd x_thrown x_men x_ships x_entries x_rules x_calls x_gangs x_idle x_moved x_paid x_taped x_at x_end x_begin x_faultAt x_wants), ((bd 29), .inl (y 0, 4, .inl x_need)), ((bd 30), .inl (y 0, 4, .inl x_most)), ((bd 31), .inl (y 0, 6561, .inl x_least))]) (fun _ => rfl) (va_runS (As := [.int v6]) (rest := [.int v3]) ⟨hx, hb, hml, hown, hts⟩ (c_Model_power l D y H.size v6 hw) (va_cwS 1 hts gX9_plan_X9_power rfl rfl rfl (by decide +kernel) ⟨Nat.le_of_ble_eq_true rfl, Nat.le_of_ble_eq_true rfl⟩) ⟨mPre.blind, mPre.to (hP.sub [] rfl) hK (hD.sub [] (by decide) rfl) hE⟩ rfl rfl hl.1 rfl (lv_room (Nat.le_of_ble_eq_true rfl)) dX9_plan_96 ⟨Nat.le_of_ble_eq_true rfl, Nat.le_of_ble_eq_true rfl⟩) (fun r_5 u H locs hw hP hD hS => ?_)
      try dsimp only at hw
      have hP : va_P D vwCl [(ce_xm bd x_thrown x_men x_ships x_entries x_rules x_calls x_gangs x_idle x_moved x_paid x_taped x_at x_end x_begin x_faultAt x_wants), ((bd 29), .inl (y 0, 4, .inl x_need)), ((bd 30), .inl (y 0, 4, .inl x_most)), ((bd 31), .inl (y 0, 6561, .inl x_least))] H := hP
      have hD : va_D A [(ce_xm bd x_thrown x_men x_ships x_entries x_rules x_calls x_gangs x_idle x_moved x_paid x_taped x_at x_end x_begin x_faultAt x_wants), ((bd 29), .inl (y 0, 4, .inl x_need)), ((bd 30), .inl (y 0, 4, .inl x_most)), ((bd 31), .inl (y 0, 6561, .inl x_least))] := hD
      obtain ⟨hz, hw⟩ := hw
      refine lv_idiv hx hb dX9_plan_99 hz ?_
      refine lv_bipush (v := 9) hx hb dX9_plan_100 (by decide) ?_
      refine lv_irem hx hb dX9_plan_102 (by decide) ?_
      refine lv_istore (lv' := [(7, .int ((v3 / r_5) - (v3 / r_5) / 9 * 9)), (6, .int v6), (5, .int v5), (4, .int v4), (3, .int v3), (2, .int v2), (0, .ref (bd 0)), (1, .int v1)]) hx hb dX9_plan_103 hl (by decide) rfl (fun ls hl => ?_)
      refine lv_iload hx hb dX9_plan_105 (lv_at hl 3 rfl) ?_
      refine lv_iload hx hb dX9_plan_107 (lv_at hl 0 rfl) ?_
      refine lv_if_le (tgt := 116) hx hb dX9_plan_109 (by decide) (fun hc => ?_) (fun hc => ?_)
      · have hw := hw.1 hc
        refine lv_iconst (v := 0) hx hb dX9_plan_116 (by decide) ?_
        refine lv_iadd hx hb dX9_plan_117 ?_
        refine lv_istore (lv' := [(4, .int (v4 + 0)), (7, .int ((v3 / r_5) - (v3 / r_5) / 9 * 9)), (6, .int v6), (5, .int v5), (3, .int v3), (2, .int v2), (0, .ref (bd 0)), (1, .int v1)]) hx hb dX9_plan_118 hl (by decide) rfl (fun ls hl => ?_)
        refine lv_iload hx hb dX9_plan_120 (lv_at hl 3 rfl) ?_
        refine lv_if_eq (tgt := 154) hx hb dX9_plan_122 (by decide) (fun hc => ?_) (fun hc => ?_)
        · have hw := hw.1 hc
          refine lv_iconst (v := 0) hx hb dX9_plan_154 (by decide) ?_
          refine lv_istore (lv' := [(5, .int 0), (4, .int (v4 + 0)), (7, .int ((v3 / r_5) - (v3 / r_5) / 9 * 9)), (6, .int v6), (3, .int v3), (2, .int v2), (0, .ref (bd 0)), (1, .int v1)]) hx hb dX9_plan_155 hl (by decide) rfl (fun ls hl => ?_)
          refine lv_iinc (v := v6 + 1) (lv' := [(6, .int (v6 + 1)), (5, .int 0), (4, .int (v4 + 0)), (7, .int ((v3 / r_5) - (v3 / r_5) / 9 * 9)), (3, .int v3), (2, .int v2), (0, .ref (bd 0)), (1, .int v1)]) hx hb dX9_plan_157 hl (k := 3) rfl (by first | rfl | decide) (by decide) rfl (fun ls hl => ?_)
          refine lv_goto (tgt := 87) hx hb dX9_plan_160 (by decide) ?_
          exact ih (v4 + 0) 0 (v6 + 1)  hw _ _ _ hP hD hS (lv_sub hl [0, 1, 2, 4, 5, 6, 7] rfl)
        · have hw := hw.2 hc
          refine lv_iload hx hb dX9_plan_125 (lv_at hl 1 rfl) ?_
          refine lv_iload hx hb dX9_plan_127 (lv_at hl 2 rfl) ?_
          refine lv_aload_n hx hb dX9_plan_129 rfl (lv_at hl 6 rfl) ?_
          refine va_get (ci := 11) (v := .int x_wants) (C := RX9) (T := TX9) (N := 47) hx hb hts inw_X9_plan_X9 hown hK hP 0 rfl rfl 45 (by decide) (hts (.fieldLink RX9 276 "DockCallModel" "wants" "I") (by decide +kernel)) (fun _ h9 => h9) rfl dX9_plan_130 ?_
          refine lv_icmp_ge (tgt := 146) hx hb dX9_plan_133 (by decide) (fun hc => ?_) (fun hc => ?_)
          · have hw := hw.1 hc
            refine lv_iconst (v := 0) hx hb dX9_plan_146 (by decide) ?_
            refine lv_icmp_gt (tgt := 154) hx hb dX9_plan_147 (by decide) (fun hc => ?_) (fun hc => ?_)
            · have hw := hw.1 hc
              refine lv_iconst (v := 0) hx hb dX9_plan_154 (by decide) ?_
              refine lv_istore (lv' := [(5, .int 0), (4, .int (v4 + 0)), (7, .int ((v3 / r_5) - (v3 / r_5) / 9 * 9)), (6, .int v6), (3, .int v3), (2, .int v2), (0, .ref (bd 0)), (1, .int v1)]) hx hb dX9_plan_155 hl (by decide) rfl (fun ls hl => ?_)
              refine lv_iinc (v := v6 + 1) (lv' := [(6, .int (v6 + 1)), (5, .int 0), (4, .int (v4 + 0)), (7, .int ((v3 / r_5) - (v3 / r_5) / 9 * 9)), (3, .int v3), (2, .int v2), (0, .ref (bd 0)), (1, .int v1)]) hx hb dX9_plan_157 hl (k := 3) rfl (by first | rfl | decide) (by decide) rfl (fun ls hl => ?_)
              refine lv_goto (tgt := 87) hx hb dX9_plan_160 (by decide) ?_
              exact ih (v4 + 0) 0 (v6 + 1)  hw _ _ _ hP hD hS (lv_sub hl [0, 1, 2, 4, 5, 6, 7] rfl)
            · have hw := hw.2 hc
              refine lv_iconst (v := 1) hx hb dX9_plan_150 (by decide) ?_
              refine lv_goto (tgt := 155) hx hb dX9_plan_151 (by decide) ?_
              refine lv_istore (lv' := [(5, .int 1), (4, .int (v4 + 0)), (7, .int ((v3 / r_5) - (v3 / r_5) / 9 * 9)), (6, .int v6), (3, .int v3), (2, .int v2), (0, .ref (bd 0)), (1, .int v1)]) hx hb dX9_plan_155 hl (by decide) rfl (fun ls hl => ?_)
              refine lv_iinc (v := v6 + 1) (lv' := [(6, .int (v6 + 1)), (5, .int 1), (4, .int (v4 + 0)), (7, .int ((v3 / r_5) - (v3 / r_5) / 9 * 9)), (3, .int v3), (2, .int v2), (0, .ref (bd 0)), (1, .int v1)]) hx hb dX9_plan_157 hl (k := 3) rfl (by first | rfl | decide) (by decide) rfl (fun ls hl => ?_)
              refine lv_goto (tgt := 87) hx hb dX9_plan_160 (by decide) ?_
              exact ih (v4 + 0) 1 (v6 + 1)  hw _ _ _ hP hD hS (lv_sub hl [0, 1, 2, 4, 5, 6, 7] rfl)
          · have hw := hw.2 hc
            refine lv_aload_n hx hb dX9_plan_136 rfl (lv_at hl 6 rfl) ?_
            refine va_get (ci := 11) (v := .ref (bd 29)) (C := RX9) (T := TX9) (N := 47) hx hb hts inw_X9_plan_X9 hown hK hP 0 rfl rfl 43 (by decide) (hts (.fieldLink RX9 100 "DockCallModel" "need" "[I") (by decide +kernel)) (fun _ h9 => h9) rfl dX9_plan_137 ?_
            refine lv_iload hx hb dX9_plan_140 (lv_at hl 2 rfl) ?_
            obtain ⟨hi, hw⟩ := hw
            refine va_iald hx hb hK hP 1 0 rfl rfl hi dX9_plan_142 ?_
            refine lv_goto (tgt := 147) hx hb dX9_plan_143 (by decide) ?_
            refine lv_icmp_gt (tgt := 154) hx hb dX9_plan_147 (by decide) (fun hc => ?_) (fun hc => ?_)
            · have hw := hw.1 hc
              refine lv_iconst (v := 0) hx hb dX9_plan_154 (by decide) ?_
              refine lv_istore (lv' := [(5, .int 0), (4, .int (v4 + 0)), (7, .int ((v3 / r_5) - (v3 / r_5) / 9 * 9)), (6, .int v6), (3, .int v3), (2, .int v2), (0, .ref (bd 0)), (1, .int v1)]) hx hb dX9_plan_155 hl (by decide) rfl (fun ls hl => ?_)
              refine lv_iinc (v := v6 + 1) (lv' := [(6, .int (v6 + 1)), (5, .int 0), (4, .int (v4 + 0)), (7, .int ((v3 / r_5) - (v3 / r_5) / 9 * 9)), (3, .int v3), (2, .int v2), (0, .ref (bd 0)), (1, .int v1)]) hx hb dX9_plan_157 hl (k := 3) rfl (by first | rfl | decide) (by decide) rfl (fun ls hl => ?_)
              refine lv_goto (tgt := 87) hx hb dX9_plan_160 (by decide) ?_
              exact ih (v4 + 0) 0 (v6 + 1)  hw _ _ _ hP hD hS (lv_sub hl [0, 1, 2, 4, 5, 6, 7] rfl)
            · have hw := hw.2 hc
              refine lv_iconst (v := 1) hx hb dX9_plan_150 (by decide) ?_
              refine lv_goto (tgt := 155) hx hb dX9_plan_151 (by decide) ?_
              refine lv_istore (lv' := [(5, .int 1), (4, .int (v4 + 0)), (7, .int ((v3 / r_5) - (v3 / r_5) / 9 * 9)), (6, .int v6), (3, .int v3), (2, .int v2), (0, .ref (bd 0)), (1, .int v1)]) hx hb dX9_plan_155 hl (by decide) rfl (fun ls hl => ?_)
              refine lv_iinc (v := v6 + 1) (lv' := [(6, .int (v6 + 1)), (5, .int 1), (4, .int (v4 + 0)), (7, .int ((v3 / r_5) - (v3 / r_5) / 9 * 9)), (3, .int v3), (2, .int v2), (0, .ref (bd 0)), (1, .int v1)]) hx hb dX9_plan_157 hl (k := 3) rfl (by first | rfl | decide) (by decide) rfl (fun ls hl => ?_)
              refine lv_goto (tgt := 87) hx hb dX9_plan_160 (by decide) ?_
              exact ih (v4 + 0) 1 (v6 + 1)  hw _ _ _ hP hD hS (lv_sub hl [0, 1, 2, 4, 5, 6, 7] rfl)
      · have hw := hw.2 hc
        refine lv_iconst (v := 1) hx hb dX9_plan_112 (by decide) ?_
        refine lv_goto (tgt := 117) hx hb dX9_plan_113 (by decide) ?_
        refine lv_iadd hx hb dX9_plan_117 ?_
        refine lv_istore (lv' := [(4, .int (v4 + 1)), (7, .int ((v3 / r_5) - (v3 / r_5) / 9 * 9)), (6, .int v6), (5, .int v5), (3, .int v3), (2, .int v2), (0, .ref (bd 0)), (1, .int v1)]) hx hb dX9_plan_118 hl (by decide) rfl (fun ls hl => ?_)
        refine lv_iload hx hb dX9_plan_120 (lv_at hl 3 rfl) ?_
        refine lv_if_eq (tgt := 154) hx hb dX9_plan_122 (by decide) (fun hc => ?_) (fun hc => ?_)
        · have hw := hw.1 hc
          refine lv_iconst (v := 0) hx hb dX9_plan_154 (by decide) ?_
          refine lv_istore (lv' := [(5, .int 0), (4, .int (v4 + 1)), (7, .int ((v3 / r_5) - (v3 / r_5) / 9 * 9)), (6, .int v6), (3, .int v3), (2, .int v2), (0, .ref (bd 0)), (1, .int v1)]) hx hb dX9_plan_155 hl (by decide) rfl (fun ls hl => ?_)
          refine lv_iinc (v := v6 + 1) (lv' := [(6, .int (v6 + 1)), (5, .int 0), (4, .int (v4 + 1)), (7, .int ((v3 / r_5) - (v3 / r_5) / 9 * 9)), (3, .int v3), (2, .int v2), (0, .ref (bd 0)), (1, .int v1)]) hx hb dX9_plan_157 hl (k := 3) rfl (by first | rfl | decide) (by decide) rfl (fun ls hl => ?_)
          refine lv_goto (tgt := 87) hx hb dX9_plan_160 (by decide) ?_
          exact ih (v4 + 1) 0 (v6 + 1)  hw _ _ _ hP hD hS (lv_sub hl [0, 1, 2, 4, 5, 6, 7] rfl)
        · have hw := hw.2 hc
          refine lv_iload hx hb dX9_plan_125 (lv_at hl 1 rfl) ?_
          refine lv_iload hx hb dX9_plan_127 (lv_at hl 2 rfl) ?_
          refine lv_aload_n hx hb dX9_plan_129 rfl (lv_at hl 6 rfl) ?_
          refine va_get (ci := 11) (v := .int x_wants) (C := RX9) (T := TX9) (N := 47) hx hb hts inw_X9_plan_X9 hown hK hP 0 rfl rfl 45 (by decide) (hts (.fieldLink RX9 276 "DockCallModel" "wants" "I") (by decide +kernel)) (fun _ h9 => h9) rfl dX9_plan_130 ?_
          refine lv_icmp_ge (tgt := 146) hx hb dX9_plan_133 (by decide) (fun hc => ?_) (fun hc => ?_)
          · have hw := hw.1 hc
            refine lv_iconst (v := 0) hx hb dX9_plan_146 (by decide) ?_
            refine lv_icmp_gt (tgt := 154) hx hb dX9_plan_147 (by decide) (fun hc => ?_) (fun hc => ?_)
            · have hw := hw.1 hc
              refine lv_iconst (v := 0) hx hb dX9_plan_154 (by decide) ?_
              refine lv_istore (lv' := [(5, .int 0), (4, .int (v4 + 1)), (7, .int ((v3 / r_5) - (v3 / r_5) / 9 * 9)), (6, .int v6), (3, .int v3), (2, .int v2), (0, .ref (bd 0)), (1, .int v1)]) hx hb dX9_plan_155 hl (by decide) rfl (fun ls hl => ?_)
              refine lv_iinc (v := v6 + 1) (lv' := [(6, .int (v6 + 1)), (5, .int 0), (4, .int (v4 + 1)), (7, .int ((v3 / r_5) - (v3 / r_5) / 9 * 9)), (3, .int v3), (2, .int v2), (0, .ref (bd 0)), (1, .int v1)]) hx hb dX9_plan_157 hl (k := 3) rfl (by first | rfl | decide) (by decide) rfl (fun ls hl => ?_)
              refine lv_goto (tgt := 87) hx hb dX9_plan_160 (by decide) ?_
              exact ih (v4 + 1) 0 (v6 + 1)  hw _ _ _ hP hD hS (lv_sub hl [0, 1, 2, 4, 5, 6, 7] rfl)
            · have hw := hw.2 hc
              refine lv_iconst (v := 1) hx hb dX9_plan_150 (by decide) ?_
              refine lv_goto (tgt := 155) hx hb dX9_plan_151 (by decide) ?_
              refine lv_istore (lv' := [(5, .int 1), (4, .int (v4 + 1)), (7, .int ((v3 / r_5) - (v3 / r_5) / 9 * 9)), (6, .int v6), (3, .int v3), (2, .int v2), (0, .ref (bd 0)), (1, .int v1)]) hx hb dX9_plan_155 hl (by decide) rfl (fun ls hl => ?_)
              refine lv_iinc (v := v6 + 1) (lv' := [(6, .int (v6 + 1)), (5, .int 1), (4, .int (v4 + 1)), (7, .int ((v3 / r_5) - (v3 / r_5) / 9 * 9)), (3, .int v3), (2, .int v2), (0, .ref (bd 0)), (1, .int v1)]) hx hb dX9_plan_157 hl (k := 3) rfl (by first | rfl | decide) (by decide) rfl (fun ls hl => ?_)
              refine lv_goto (tgt := 87) hx hb dX9_plan_160 (by decide) ?_
              exact ih (v4 + 1) 1 (v6 + 1)  hw _ _ _ hP hD hS (lv_sub hl [0, 1, 2, 4, 5, 6, 7] rfl)
          · have hw := hw.2 hc
            refine lv_aload_n hx hb dX9_plan_136 rfl (lv_at hl 6 rfl) ?_
            refine va_get (ci := 11) (v := .ref (bd 29)) (C := RX9) (T := TX9) (N := 47) hx hb hts inw_X9_plan_X9 hown hK hP 0 rfl rfl 43 (by decide) (hts (.fieldLink RX9 100 "DockCallModel" "need" "[I") (by decide +kernel)) (fun _ h9 => h9) rfl dX9_plan_137 ?_
            refine lv_iload hx hb dX9_plan_140 (lv_at hl 2 rfl) ?_
            obtain ⟨hi, hw⟩ := hw
            refine va_iald hx hb hK hP 1 0 rfl rfl hi dX9_plan_142 ?_
            refine lv_goto (tgt := 147) hx hb dX9_plan_143 (by decide) ?_
            refine lv_icmp_gt (tgt := 154) hx hb dX9_plan_147 (by decide) (fun hc => ?_) (fun hc => ?_)
            · have hw := hw.1 hc
              refine lv_iconst (v := 0) hx hb dX9_plan_154 (by decide) ?_
              refine lv_istore (lv' := [(5, .int 0), (4, .int (v4 + 1)), (7, .int ((v3 / r_5) - (v3 / r_5) / 9 * 9)), (6, .int v6), (3, .int v3), (2, .int v2), (0, .ref (bd 0)), (1, .int v1)]) hx hb dX9_plan_155 hl (by decide) rfl (fun ls hl => ?_)
              refine lv_iinc (v := v6 + 1) (lv' := [(6, .int (v6 + 1)), (5, .int 0), (4, .int (v4 + 1)), (7, .int ((v3 / r_5) - (v3 / r_5) / 9 * 9)), (3, .int v3), (2, .int v2), (0, .ref (bd 0)), (1, .int v1)]) hx hb dX9_plan_157 hl (k := 3) rfl (by first | rfl | decide) (by decide) rfl (fun ls hl => ?_)
              refine lv_goto (tgt := 87) hx hb dX9_plan_160 (by decide) ?_
              exact ih (v4 + 1) 0 (v6 + 1)  hw _ _ _ hP hD hS (lv_sub hl [0, 1, 2, 4, 5, 6, 7] rfl)
            · have hw := hw.2 hc
              refine lv_iconst (v := 1) hx hb dX9_plan_150 (by decide) ?_
              refine lv_goto (tgt := 155) hx hb dX9_plan_151 (by decide) ?_
              refine lv_istore (lv' := [(5, .int 1), (4, .int (v4 + 1)), (7, .int ((v3 / r_5) - (v3 / r_5) / 9 * 9)), (6, .int v6), (3, .int v3), (2, .int v2), (0, .ref (bd 0)), (1, .int v1)]) hx hb dX9_plan_155 hl (by decide) rfl (fun ls hl => ?_)
              refine lv_iinc (v := v6 + 1) (lv' := [(6, .int (v6 + 1)), (5, .int 1), (4, .int (v4 + 1)), (7, .int ((v3 / r_5) - (v3 / r_5) / 9 * 9)), (3, .int v3), (2, .int v2), (0, .ref (bd 0)), (1, .int v1)]) hx hb dX9_plan_157 hl (k := 3) rfl (by first | rfl | decide) (by decide) rfl (fun ls hl => ?_)
              refine lv_goto (tgt := 87) hx hb dX9_plan_160 (by decide) ?_
              exact ih (v4 + 1) 1 (v6 + 1)  hw _ _ _ hP hD hS (lv_sub hl [0, 1, 2, 4, 5, 6, 7] rfl)
set_option maxHeartbeats 4000000 in
set_option maxRecDepth 100000 in
theorem c_Model_plan_h73 {p : Program} {l : Launch} {e : Env} {s : State} {m : MethodId} {args : Array Value} {below : List Frame} {meth : Method} {c : Code} {D : va_G} {y : Nat → ClassId} {bd : Nat → Nat} {A : Nat → Prop} (hx : p.tables.exec = Jvm.exec) (hb : c.code = cX9_plan) (hr : meth.sig.returnType = some .int) (hml : c.maxLocals = 8) (hown : s.vm.findClass RX9 = some m.cls) (hts : ∀ w ∈ wsX9_plan, w.before args s = true) (hlocks : meth.locks = false) (hK : va_K D vwCl (TY y) s) (hE : EV s) (hA : ∀ q, s.heap.size ≤ q → A q) {v1 : Int32} {v2 : Int32} {x_thrown : Int32} {x_wants : Int32} {x_need : Nat → Int32} {x_most : Nat → Int32} {x_men : Int32} {x_ships : Int32} {x_entries : Int32} {x_rules : Int32} {x_calls : Int32} {x_gangs : Int32} {x_idle : Int32} {x_moved : Int64} {x_paid : Int64} {x_taped : Int32} {x_at : Int32} {x_end : Int32} {x_begin : Int32} {x_faultAt : Int32}  {Q : Int32 → Int32 → (Nat → Int32) → Prop}  : ∀ (n : Nat) (v3 : Int32) (x_least : Nat → Int32), wp_Model_plan_h73 v1 v2 x_thrown x_wants x_need x_most Q n v3 x_least → ∀ (H : Heap) (locs : List Loc) (ls : Array Slot), va_P D vwCl [(ce_xm bd x_thrown x_men x_ships x_entries x_rules x_calls x_gangs x_idle x_moved x_paid x_taped x_at x_end x_begin x_faultAt x_wants), ((bd 29), .inl (y 0, 4, .inl x_need)), ((bd 30), .inl (y 0, 4, .inl x_most)), ((bd 31), .inl (y 0, 6561, .inl x_least))] H → va_D A [(ce_xm bd x_thrown x_men x_ships x_entries x_rules x_calls x_gangs x_idle x_moved x_paid x_taped x_at x_end x_begin x_faultAt x_wants), ((bd 29), .inl (y 0, 4, .inl x_need)), ((bd 30), .inl (y 0, 4, .inl x_most)), ((bd 31), .inl (y 0, 6561, .inl x_least))] → va_S A s.heap H locs → lv_has ls 8 [(3, .int v3), (2, .int v2), (0, .ref (bd 0)), (1, .int v1)] → W p l e ({ frames := 6, cells := 0, slots := 0, locals := 155 }) s m args below meth c H locs 0 0 (MQ below (va_Qi (fun (r : Int32) (u : Int32 × (Nat → Int32)) => Q r u.1 u.2) (mAt D y A (fun (u : Int32 × (Nat → Int32)) => [(ce_xm bd u.1 x_men x_ships x_entries x_rules x_calls x_gangs x_idle x_moved x_paid x_taped x_at x_end x_begin x_faultAt x_wants), ((bd 29), .inl (y 0, 4, .inl x_need)), ((bd 30), .inl (y 0, 4, .inl x_most)), ((bd 31), .inl (y 0, 6561, .inl u.2))])) A) args s 0 0 A) (F0 m 73 ls []) := by
  intro n
  induction n with
  | zero => intro v3 x_least hw; rw [wp_Model_plan_h73] at hw; exact hw.elim
  | succ n ih =>
    intro v3 x_least hw H locs ls hP hD hS hl
    rw [wp_Model_plan_h73] at hw
    refine lv_iload_n hx hb dX9_plan_73 rfl (lv_at hl 0 rfl) ?_
    refine lv_iload_n hx hb dX9_plan_74 rfl (lv_at hl 1 rfl) ?_
    refine lv_icmp_gt (tgt := 195) hx hb dX9_plan_75 (by decide) (fun hc => ?_) (fun hc => ?_)
    · have hw := hw.1 hc
      refine lv_aload_n hx hb dX9_plan_195 rfl (lv_at hl 2 rfl) ?_
      refine va_get (ci := 11) (v := .ref (bd 31)) (C := RX9) (T := TX9) (N := 47) hx hb hts inw_X9_plan_X9 hown hK hP 0 rfl rfl 46 (by decide) (hts (.fieldLink RX9 106 "DockCallModel" "least" "[I") (by decide +kernel)) (fun _ h9 => h9) rfl dX9_plan_196 ?_
      refine lv_iload_n hx hb dX9_plan_199 rfl (lv_at hl 1 rfl) ?_
      obtain ⟨hi, hw⟩ := hw
      refine va_iald hx hb hK hP 3 0 rfl rfl hi dX9_plan_200 ?_
      exact W.iret (v := x_least v2.toNatClampNeg) hx hb hr (fun t ht hW => ⟨⟨x_least v2.toNatClampNeg, (x_thrown, x_least), rfl, hw, mAt.to hP hK hD ht hW⟩, hS.F ht⟩) hS.2.2 dX9_plan_201
    · have hw := hw.2 hc
      refine lv_iconst (v := 0) hx hb dX9_plan_78 (by decide) ?_
      refine lv_istore (lv' := [(4, .int 0), (3, .int v3), (2, .int v2), (0, .ref (bd 0)), (1, .int v1)]) hx hb dX9_plan_79 hl (by decide) rfl (fun ls hl => ?_)
      refine lv_iconst (v := 1) hx hb dX9_plan_81 (by decide) ?_
      refine lv_istore (lv' := [(5, .int 1), (4, .int 0), (3, .int v3), (2, .int v2), (0, .ref (bd 0)), (1, .int v1)]) hx hb dX9_plan_82 hl (by decide) rfl (fun ls hl => ?_)
      refine lv_iconst (v := 0) hx hb dX9_plan_84 (by decide) ?_
      refine lv_istore (lv' := [(6, .int 0), (5, .int 1), (4, .int 0), (3, .int v3), (2, .int v2), (0, .ref (bd 0)), (1, .int v1)]) hx hb dX9_plan_85 hl (by decide) rfl (fun ls hl => ?_)
      obtain ⟨n', hw⟩ := hw
      exact c_Model_plan_h87 hx hb hr hml hown hts hlocks hK hE hA ih n' 0 1 0 hw _ _ _ hP hD hS (lv_sub hl [0, 1, 2, 3, 4, 5, 6] rfl)
set_option maxHeartbeats 4000000 in
set_option maxRecDepth 100000 in
theorem c_Model_plan_h36 {p : Program} {l : Launch} {e : Env} {s : State} {m : MethodId} {args : Array Value} {below : List Frame} {meth : Method} {c : Code} {D : va_G} {y : Nat → ClassId} {bd : Nat → Nat} {A : Nat → Prop} (hx : p.tables.exec = Jvm.exec) (hb : c.code = cX9_plan) (hr : meth.sig.returnType = some .int) (hml : c.maxLocals = 8) (hown : s.vm.findClass RX9 = some m.cls) (hts : ∀ w ∈ wsX9_plan, w.before args s = true) (hlocks : meth.locks = false) (hK : va_K D vwCl (TY y) s) (hE : EV s) (hA : ∀ q, s.heap.size ≤ q → A q) {v1 : Int32} {x_thrown : Int32} {x_wants : Int32} {x_need : Nat → Int32} {x_most : Nat → Int32} {x_least : Nat → Int32} {x_men : Int32} {x_ships : Int32} {x_entries : Int32} {x_rules : Int32} {x_calls : Int32} {x_gangs : Int32} {x_idle : Int32} {x_moved : Int64} {x_paid : Int64} {x_taped : Int32} {x_at : Int32} {x_end : Int32} {x_begin : Int32} {x_faultAt : Int32}  {Q : Int32 → Int32 → (Nat → Int32) → Prop}  : ∀ (n : Nat) (v2 : Int32) (v3 : Int32), wp_Model_plan_h36 v1 x_thrown x_wants x_need x_most x_least Q n v2 v3 → ∀ (H : Heap) (locs : List Loc) (ls : Array Slot), va_P D vwCl [(ce_xm bd x_thrown x_men x_ships x_entries x_rules x_calls x_gangs x_idle x_moved x_paid x_taped x_at x_end x_begin x_faultAt x_wants), ((bd 29), .inl (y 0, 4, .inl x_need)), ((bd 30), .inl (y 0, 4, .inl x_most)), ((bd 31), .inl (y 0, 6561, .inl x_least))] H → va_D A [(ce_xm bd x_thrown x_men x_ships x_entries x_rules x_calls x_gangs x_idle x_moved x_paid x_taped x_at x_end x_begin x_faultAt x_wants), ((bd 29), .inl (y 0, 4, .inl x_need)), ((bd 30), .inl (y 0, 4, .inl x_most)), ((bd 31), .inl (y 0, 6561, .inl x_least))] → va_S A s.heap H locs → lv_has ls 8 [(3, .int v3), (2, .int v2), (0, .ref (bd 0)), (1, .int v1)] → W p l e ({ frames := 6, cells := 0, slots := 0, locals := 155 }) s m args below meth c H locs 0 0 (MQ below (va_Qi (fun (r : Int32) (u : Int32 × (Nat → Int32)) => Q r u.1 u.2) (mAt D y A (fun (u : Int32 × (Nat → Int32)) => [(ce_xm bd u.1 x_men x_ships x_entries x_rules x_calls x_gangs x_idle x_moved x_paid x_taped x_at x_end x_begin x_faultAt x_wants), ((bd 29), .inl (y 0, 4, .inl x_need)), ((bd 30), .inl (y 0, 4, .inl x_most)), ((bd 31), .inl (y 0, 6561, .inl u.2))])) A) args s 0 0 A) (F0 m 36 ls []) := by
  intro n
  induction n with
  | zero => intro v2 v3 hw; rw [wp_Model_plan_h36] at hw; exact hw.elim
  | succ n ih =>
    intro v2 v3 hw H locs ls hP hD hS hl
    rw [wp_Model_plan_h36] at hw
    refine lv_iload_n hx hb dX9_plan_36 rfl (lv_at hl 0 rfl) ?_
    refine lv_aload_n hx hb dX9_plan_37 rfl (lv_at hl 2 rfl) ?_
    refine va_get (ci := 11) (v := .int x_wants) (C := RX9) (T := TX9) (N := 47) hx hb hts inw_X9_plan_X9 hown hK hP 0 rfl rfl 45 (by decide) (hts (.fieldLink RX9 276 "DockCallModel" "wants" "I") (by decide +kernel)) (fun _ h9 => h9) rfl dX9_plan_38 ?_
    refine lv_icmp_ge (tgt := 64) hx hb dX9_plan_41 (by decide) (fun hc => ?_) (fun hc => ?_)
    · have hw := hw.1 hc
      refine lv_aload_n hx hb dX9_plan_64 rfl (lv_at hl 2 rfl) ?_
      refine va_get (ci := 11) (v := .ref (bd 31)) (C := RX9) (T := TX9) (N := 47) hx hb hts inw_X9_plan_X9 hown hK hP 0 rfl rfl 46 (by decide) (hts (.fieldLink RX9 106 "DockCallModel" "least" "[I") (by decide +kernel)) (fun _ h9 => h9) rfl dX9_plan_65 ?_
      refine lv_iconst (v := 0) hx hb dX9_plan_68 (by decide) ?_
      refine lv_iconst (v := 0) hx hb dX9_plan_69 (by decide) ?_
      refine va_iast hx hb hK hP hD hS 3 0 rfl rfl (by unfold vp_in; decide) dX9_plan_70 (fun H locs hP hD hS => ?_)
      have hP : va_P D vwCl [(ce_xm bd x_thrown x_men x_ships x_entries x_rules x_calls x_gangs x_idle x_moved x_paid x_taped x_at x_end x_begin x_faultAt x_wants), ((bd 29), .inl (y 0, 4, .inl x_need)), ((bd 30), .inl (y 0, 4, .inl x_most)), ((bd 31), .inl (y 0, 6561, .inl (upd x_least (0 : Int32).toNatClampNeg 0)))] H := hP
      have hD : va_D A [(ce_xm bd x_thrown x_men x_ships x_entries x_rules x_calls x_gangs x_idle x_moved x_paid x_taped x_at x_end x_begin x_faultAt x_wants), ((bd 29), .inl (y 0, 4, .inl x_need)), ((bd 30), .inl (y 0, 4, .inl x_most)), ((bd 31), .inl (y 0, 6561, .inl (upd x_least (0 : Int32).toNatClampNeg 0)))] := hD
      refine lv_iconst (v := 1) hx hb dX9_plan_71 (by decide) ?_
      refine lv_istore_n (lv' := [(3, .int 1), (2, .int v2), (0, .ref (bd 0)), (1, .int v1)]) hx hb dX9_plan_72 rfl hl (by decide) rfl (fun ls hl => ?_)
      obtain ⟨n', hw⟩ := hw
      exact c_Model_plan_h73 hx hb hr hml hown hts hlocks hK hE hA  n' 1 (upd x_least (0 : Int32).toNatClampNeg 0) hw _ _ _ hP hD hS (lv_sub hl [0, 1, 2, 3] rfl)
    · have hw := hw.2 hc
      refine lv_iload_n hx hb dX9_plan_44 rfl (lv_at hl 1 rfl) ?_
      refine lv_aload_n hx hb dX9_plan_45 rfl (lv_at hl 2 rfl) ?_
      refine va_get (ci := 11) (v := .ref (bd 29)) (C := RX9) (T := TX9) (N := 47) hx hb hts inw_X9_plan_X9 hown hK hP 0 rfl rfl 43 (by decide) (hts (.fieldLink RX9 100 "DockCallModel" "need" "[I") (by decide +kernel)) (fun _ h9 => h9) rfl dX9_plan_46 ?_
      refine lv_iload_n hx hb dX9_plan_49 rfl (lv_at hl 0 rfl) ?_
      obtain ⟨hi, hw⟩ := hw
      refine va_iald hx hb hK hP 1 0 rfl rfl hi dX9_plan_50 ?_
      refine lv_iload_n hx hb dX9_plan_51 rfl (lv_at hl 0 rfl) ?_
      refine mx_i (wc := []) (wr := [(ce_xm bd x_thrown x_men x_ships x_entries x_rules x_calls x_gangs x_idle x_moved x_paid x_taped x_at x_end x_begin x_faultAt x_wants), ((bd 29), .inl (y 0, 4, .inl x_need)), ((bd 30), .inl (y 0, 4, .inl x_most)), ((bd 31), .inl (y 0, 6561, .inl x_least))]) hP hD hS hA [] [0, 1, 2, 3] [0, 1, 2, 3] rfl rfl (by decide) (by decide) (by decide) (fun (u : Unit) => [(ce_xm bd x_thrown x_men x_ships x_entries x_rules x_calls x_gangs x_idle x_moved x_paid x_taped x_at x_end x_begin x_faultAt x_wants), ((bd 29), .inl (y 0, 4, .inl x_need)), ((bd 30), .inl (y 0, 4, .inl x_most)), ((bd 31), .inl (y 0, 6561, .inl x_least))]) (fun _ => rfl) (va_runS (As := [.int v3]) (rest := [.int (x_need v3.toNatClampNeg), .int v2]) ⟨hx, hb, hml, hown, hts⟩ (c_Model_power l D y H.size v3 hw) (va_cwS 1 hts gX9_plan_X9_power rfl rfl rfl (by decide +kernel) ⟨Nat.le_of_ble_eq_true rfl, Nat.le_of_ble_eq_true rfl⟩) ⟨mPre.blind, mPre.to (hP.sub [] rfl) hK (hD.sub [] (by decide) rfl) hE⟩ rfl rfl hl.1 rfl (lv_room (Nat.le_of_ble_eq_true rfl)) dX9_plan_52 ⟨Nat.le_of_ble_eq_true rfl, Nat.le_of_ble_eq_true rfl⟩) (fun r_6 u H locs hw hP hD hS => ?_)
      try dsimp only at hw
      have hP : va_P D vwCl [(ce_xm bd x_thrown x_men x_ships x_entries x_rules x_calls x_gangs x_idle x_moved x_paid x_taped x_at x_end x_begin x_faultAt x_wants), ((bd 29), .inl (y 0, 4, .inl x_need)), ((bd 30), .inl (y 0, 4, .inl x_most)), ((bd 31), .inl (y 0, 6561, .inl x_least))] H := hP
      have hD : va_D A [(ce_xm bd x_thrown x_men x_ships x_entries x_rules x_calls x_gangs x_idle x_moved x_paid x_taped x_at x_end x_begin x_faultAt x_wants), ((bd 29), .inl (y 0, 4, .inl x_need)), ((bd 30), .inl (y 0, 4, .inl x_most)), ((bd 31), .inl (y 0, 6561, .inl x_least))] := hD
      refine lv_imul hx hb dX9_plan_55 ?_
      refine lv_iadd hx hb dX9_plan_56 ?_
      refine lv_istore_n (lv' := [(2, .int (v2 + ((x_need v3.toNatClampNeg) * r_6))), (3, .int v3), (0, .ref (bd 0)), (1, .int v1)]) hx hb dX9_plan_57 rfl hl (by decide) rfl (fun ls hl => ?_)
      refine lv_iinc (v := v3 + 1) (lv' := [(3, .int (v3 + 1)), (2, .int (v2 + ((x_need v3.toNatClampNeg) * r_6))), (0, .ref (bd 0)), (1, .int v1)]) hx hb dX9_plan_58 hl (k := 1) rfl (by first | rfl | decide) (by decide) rfl (fun ls hl => ?_)
      refine lv_goto (tgt := 36) hx hb dX9_plan_61 (by decide) ?_
      exact ih (v2 + ((x_need v3.toNatClampNeg) * r_6)) (v3 + 1)  hw _ _ _ hP hD hS (lv_sub hl [0, 1, 2, 3] rfl)
set_option maxHeartbeats 4000000 in
set_option maxRecDepth 100000 in
theorem c_Model_plan (l : Launch) (D : va_G) (y : Nat → ClassId) (bd : Nat → Nat) (sz : Nat) (x_thrown : Int32) (x_men : Int32) (x_ships : Int32) (x_entries : Int32) (x_rules : Int32) (x_calls : Int32) (x_gangs : Int32) (x_idle : Int32) (x_moved : Int64) (x_paid : Int64) (x_taped : Int32) (x_at : Int32) (x_end : Int32) (x_begin : Int32) (x_faultAt : Int32) (x_wants : Int32) (x_need : Nat → Int32) (x_most : Nat → Int32) (x_least : Nat → Int32) (p0 : Int32) {Q : Int32 → Int32 → (Nat → Int32) → Prop} (hw : wp_Model_plan x_wants x_need x_most x_least p0 Q) : Met l yX9_plan wsX9_plan ({ frames := 6, cells := 0, slots := 0, locals := 155 }) (va_Pc [.ref (bd 0), .int p0] (mPre D y sz [(ce_xm bd x_thrown x_men x_ships x_entries x_rules x_calls x_gangs x_idle x_moved x_paid x_taped x_at x_end x_begin x_faultAt x_wants), ((bd 29), .inl (y 0, 4, .inl x_need)), ((bd 30), .inl (y 0, 4, .inl x_most)), ((bd 31), .inl (y 0, 6561, .inl x_least))])) (va_Qi (fun (r : Int32) (u : Int32 × (Nat → Int32)) => Q r u.1 u.2) (mAt D y (va_A [(ce_xm bd x_thrown x_men x_ships x_entries x_rules x_calls x_gangs x_idle x_moved x_paid x_taped x_at x_end x_begin x_faultAt x_wants), ((bd 29), .inl (y 0, 4, .inl x_need)), ((bd 30), .inl (y 0, 4, .inl x_most)), ((bd 31), .inl (y 0, 6561, .inl x_least))] sz) (fun (u : Int32 × (Nat → Int32)) => [(ce_xm bd u.1 x_men x_ships x_entries x_rules x_calls x_gangs x_idle x_moved x_paid x_taped x_at x_end x_begin x_faultAt x_wants), ((bd 29), .inl (y 0, 4, .inl x_need)), ((bd 30), .inl (y 0, 4, .inl x_most)), ((bd 31), .inl (y 0, 6561, .inl u.2))])) (va_A [(ce_xm bd x_thrown x_men x_ships x_entries x_rules x_calls x_gangs x_idle x_moved x_paid x_taped x_at x_end x_begin x_faultAt x_wants), ((bd 29), .inl (y 0, 4, .inl x_need)), ((bd 30), .inl (y 0, 4, .inl x_most)), ((bd 31), .inl (y 0, 6561, .inl x_least))] sz)) 0 0 (va_A [(ce_xm bd x_thrown x_men x_ships x_entries x_rules x_calls x_gangs x_idle x_moved x_paid x_taped x_at x_end x_begin x_faultAt x_wants), ((bd 29), .inl (y 0, 4, .inl x_need)), ((bd 30), .inl (y 0, 4, .inl x_most)), ((bd 31), .inl (y 0, 6561, .inl x_least))] sz) := by
  unfold wp_Model_plan at hw
  refine Met.ofW (cc := cX9_plan) (maxL := 8) (ret := some .int) (by decide) rfl ?_
  intro p e s m args below meth c s₁ B hml hv
  obtain ⟨rfl, hsz, hP, hK, hD0, hE⟩ := hv
  have hx := B.exec
  have hb := B.bytes
  have hr := B.returns
  have hts := atoms_spec (ws := wsX9_plan) B.pre
  have hown : s.vm.findClass RX9 = some m.cls := findClass_of_methodNamed B.named
  have hlocks := B.notSynchronized
  subst hsz
  have hD := hD0.self (sz := s.heap.size)
  generalize hAe : va_A [(ce_xm bd x_thrown x_men x_ships x_entries x_rules x_calls x_gangs x_idle x_moved x_paid x_taped x_at x_end x_begin x_faultAt x_wants), ((bd 29), .inl (y 0, 4, .inl x_need)), ((bd 30), .inl (y 0, 4, .inl x_most)), ((bd 31), .inl (y 0, 6561, .inl x_least))] s.heap.size = A at hD ⊢
  have hA : ∀ q : Nat, s.heap.size ≤ q → A q := fun q h => by rw [← hAe]; exact Or.inr h
  have hS : va_S A s.heap s.heap [] := va_S.rf
  have hP : va_P D vwCl [(ce_xm bd x_thrown x_men x_ships x_entries x_rules x_calls x_gangs x_idle x_moved x_paid x_taped x_at x_end x_begin x_faultAt x_wants), ((bd 29), .inl (y 0, 4, .inl x_need)), ((bd 30), .inl (y 0, 4, .inl x_most)), ((bd 31), .inl (y 0, 6561, .inl x_least))] s.heap := hP
  have hl := lv_entry ([.ref (bd 0), .int p0]) (n := 8) (Nat.le_of_ble_eq_true rfl)
  rw [lg_entry_eq]
  generalize (lg_sl ([.ref (bd 0), .int p0]) ++ List.replicate (8 - (lg_sl ([.ref (bd 0), .int p0])).length) Slot.unset).toArray = ls at hl ⊢
  have hl : lv_has ls 8 [(0, .ref (bd 0)), (1, .int p0)] := hl
  refine lv_aload_n hx hb dX9_plan_0 rfl (lv_at hl 0 rfl) ?_
  refine lv_iconst (v := 0) hx hb dX9_plan_1 (by decide) ?_
  refine va_put (ci := 11) (v := .int 0) (ty := .int) (C := RX9) (T := TX9) (N := 47) hx hb hts inw_X9_plan_X9 tyX9 tyX9_ok nmX9 hown hK hP hD hS 0 rfl rfl 0 (by decide) (hts (.fieldLink RX9 109 "DockCallModel" "thrown" "I") (by decide +kernel)) (fun _ h9 => h9) rfl (by decide +kernel) rfl rfl (Nat.le_of_ble_eq_true rfl) dX9_plan_2 (fun H locs hP hD hS => ?_)
  have hP : va_P D vwCl [(ce_xm bd 0 x_men x_ships x_entries x_rules x_calls x_gangs x_idle x_moved x_paid x_taped x_at x_end x_begin x_faultAt x_wants), ((bd 29), .inl (y 0, 4, .inl x_need)), ((bd 30), .inl (y 0, 4, .inl x_most)), ((bd 31), .inl (y 0, 6561, .inl x_least))] H := hP
  have hD : va_D A [(ce_xm bd 0 x_men x_ships x_entries x_rules x_calls x_gangs x_idle x_moved x_paid x_taped x_at x_end x_begin x_faultAt x_wants), ((bd 29), .inl (y 0, 4, .inl x_need)), ((bd 30), .inl (y 0, 4, .inl x_most)), ((bd 31), .inl (y 0, 6561, .inl x_least))] := hD
  refine lv_aload_n hx hb dX9_plan_5 rfl (lv_at hl 0 rfl) ?_
  refine lv_iload_n hx hb dX9_plan_6 rfl (lv_at hl 1 rfl) ?_
  refine lv_i2l hx hb dX9_plan_7 rfl ?_
  refine lv_lconst (v := 1) hx hb dX9_plan_8 (by decide) ?_
  refine lv_ldc2 hx hb hown (hts (.constantLong RX9 272 8) (by decide +kernel)) dX9_plan_9 ?_
  refine mx_i (wc := []) (wr := [(ce_xm bd 0 x_men x_ships x_entries x_rules x_calls x_gangs x_idle x_moved x_paid x_taped x_at x_end x_begin x_faultAt x_wants), ((bd 29), .inl (y 0, 4, .inl x_need)), ((bd 30), .inl (y 0, 4, .inl x_most)), ((bd 31), .inl (y 0, 6561, .inl x_least))]) hP hD hS hA [] [0, 1, 2, 3] [0, 1, 2, 3] rfl rfl (by decide) (by decide) (by decide) (fun (u : Unit) => [(ce_xm bd 0 x_men x_ships x_entries x_rules x_calls x_gangs x_idle x_moved x_paid x_taped x_at x_end x_begin x_faultAt x_wants), ((bd 29), .inl (y 0, 4, .inl x_need)), ((bd 30), .inl (y 0, 4, .inl x_most)), ((bd 31), .inl (y 0, 6561, .inl x_least))]) (fun _ => rfl) (va_runS (As := [.long p0.toInt64, .long 1, .long 8]) (rest := [.ref (bd 0)]) ⟨hx, hb, hml, hown, hts⟩ (c_Model_in l D y H.size p0.toInt64 1 8 hw) (va_cwS 3 hts gX9_plan_X9_in rfl rfl rfl (by decide +kernel) ⟨Nat.le_of_ble_eq_true rfl, Nat.le_of_ble_eq_true rfl⟩) ⟨mPre.blind, mPre.to (hP.sub [] rfl) hK (hD.sub [] (by decide) rfl) hE⟩ rfl rfl hl.1 rfl (lv_room (Nat.le_of_ble_eq_true rfl)) dX9_plan_12 ⟨Nat.le_of_ble_eq_true rfl, Nat.le_of_ble_eq_true rfl⟩) (fun r_1 u H locs hw hP hD hS => ?_)
  try dsimp only at hw
  have hP : va_P D vwCl [(ce_xm bd 0 x_men x_ships x_entries x_rules x_calls x_gangs x_idle x_moved x_paid x_taped x_at x_end x_begin x_faultAt x_wants), ((bd 29), .inl (y 0, 4, .inl x_need)), ((bd 30), .inl (y 0, 4, .inl x_most)), ((bd 31), .inl (y 0, 6561, .inl x_least))] H := hP
  have hD : va_D A [(ce_xm bd 0 x_men x_ships x_entries x_rules x_calls x_gangs x_idle x_moved x_paid x_taped x_at x_end x_begin x_faultAt x_wants), ((bd 29), .inl (y 0, 4, .inl x_need)), ((bd 30), .inl (y 0, 4, .inl x_most)), ((bd 31), .inl (y 0, 6561, .inl x_least))] := hD
  refine lv_if_ne (tgt := 22) hx hb dX9_plan_15 (by decide) (fun hc => ?_) (fun hc => ?_)
  · have hw := hw.2 hc
    refine lv_iconst (v := 0) hx hb dX9_plan_22 (by decide) ?_
    refine lv_iconst (v := 1) hx hb dX9_plan_23 (by decide) ?_
    refine mx_i (wc := [(ce_xm bd 0 x_men x_ships x_entries x_rules x_calls x_gangs x_idle x_moved x_paid x_taped x_at x_end x_begin x_faultAt x_wants)]) (wr := [((bd 29), .inl (y 0, 4, .inl x_need)), ((bd 30), .inl (y 0, 4, .inl x_most)), ((bd 31), .inl (y 0, 6561, .inl x_least))]) hP hD hS hA [0] [1, 2, 3] [3, 0, 1, 2] rfl rfl (by decide) (by decide) (by decide) (fun (u : Int32) => [(ce_xm bd u x_men x_ships x_entries x_rules x_calls x_gangs x_idle x_moved x_paid x_taped x_at x_end x_begin x_faultAt x_wants), ((bd 29), .inl (y 0, 4, .inl x_need)), ((bd 30), .inl (y 0, 4, .inl x_most)), ((bd 31), .inl (y 0, 6561, .inl x_least))]) (fun _ => rfl) (va_runV (As := [.int 0, .int 1]) (rest := []) ⟨hx, hb, hml, hown, hts⟩ (c_Model_throwsIf l D y bd H.size 0 x_men x_ships x_entries x_rules x_calls x_gangs x_idle x_moved x_paid x_taped x_at x_end x_begin x_faultAt x_wants 0 1 hw) (cwV 2 hts gX9_plan_X9_throwsIf rfl rfl rfl (by decide +kernel) ⟨Nat.le_of_ble_eq_true rfl, Nat.le_of_ble_eq_true rfl⟩) ⟨mPre.blind, (va_recv hK hP (ci := 11) (q0 := 0) rfl rfl), mPre.to (hP.sub [0] rfl) hK (hD.sub [0] (by decide) rfl) hE⟩ rfl rfl hl.1 rfl (lv_room (Nat.le_of_ble_eq_true rfl)) dX9_plan_24 ⟨Nat.le_of_ble_eq_true rfl, Nat.le_of_ble_eq_true rfl⟩) (fun r_2 u H locs hw hP hD hS => ?_)
    obtain ⟨x_thrown_3, rfl⟩ : ∃ z, z = u := ⟨_, rfl⟩
    try dsimp only at hw
    have hP : va_P D vwCl [(ce_xm bd x_thrown_3 x_men x_ships x_entries x_rules x_calls x_gangs x_idle x_moved x_paid x_taped x_at x_end x_begin x_faultAt x_wants), ((bd 29), .inl (y 0, 4, .inl x_need)), ((bd 30), .inl (y 0, 4, .inl x_most)), ((bd 31), .inl (y 0, 6561, .inl x_least))] H := hP
    have hD : va_D A [(ce_xm bd x_thrown_3 x_men x_ships x_entries x_rules x_calls x_gangs x_idle x_moved x_paid x_taped x_at x_end x_begin x_faultAt x_wants), ((bd 29), .inl (y 0, 4, .inl x_need)), ((bd 30), .inl (y 0, 4, .inl x_most)), ((bd 31), .inl (y 0, 6561, .inl x_least))] := hD
    refine lv_if_eq (tgt := 32) hx hb dX9_plan_27 (by decide) (fun hc => ?_) (fun hc => ?_)
    · have hw := hw.1 hc
      refine lv_iconst (v := 0) hx hb dX9_plan_32 (by decide) ?_
      refine lv_istore_n (lv' := [(2, .int 0), (0, .ref (bd 0)), (1, .int p0)]) hx hb dX9_plan_33 rfl hl (by decide) rfl (fun ls hl => ?_)
      refine lv_iconst (v := 0) hx hb dX9_plan_34 (by decide) ?_
      refine lv_istore_n (lv' := [(3, .int 0), (2, .int 0), (0, .ref (bd 0)), (1, .int p0)]) hx hb dX9_plan_35 rfl hl (by decide) rfl (fun ls hl => ?_)
      obtain ⟨n', hw⟩ := hw
      exact c_Model_plan_h36 hx hb hr hml hown hts hlocks hK hE hA  n' 0 0 hw _ _ _ hP hD hS (lv_sub hl [0, 1, 2, 3] rfl)
    · have hw := hw.2 hc
      refine lv_iconst (v := 0) hx hb dX9_plan_30 (by decide) ?_
      exact W.iret (v := 0) hx hb hr (fun t ht hW => ⟨⟨0, (x_thrown_3, x_least), rfl, hw, mAt.to hP hK hD ht hW⟩, hS.F ht⟩) hS.2.2 dX9_plan_31
  · have hw := hw.1 hc
    refine lv_iconst (v := 1) hx hb dX9_plan_18 (by decide) ?_
    refine lv_goto (tgt := 23) hx hb dX9_plan_19 (by decide) ?_
    refine lv_iconst (v := 1) hx hb dX9_plan_23 (by decide) ?_
    refine mx_i (wc := [(ce_xm bd 0 x_men x_ships x_entries x_rules x_calls x_gangs x_idle x_moved x_paid x_taped x_at x_end x_begin x_faultAt x_wants)]) (wr := [((bd 29), .inl (y 0, 4, .inl x_need)), ((bd 30), .inl (y 0, 4, .inl x_most)), ((bd 31), .inl (y 0, 6561, .inl x_least))]) hP hD hS hA [0] [1, 2, 3] [3, 0, 1, 2] rfl rfl (by decide) (by decide) (by decide) (fun (u : Int32) => [(ce_xm bd u x_men x_ships x_entries x_rules x_calls x_gangs x_idle x_moved x_paid x_taped x_at x_end x_begin x_faultAt x_wants), ((bd 29), .inl (y 0, 4, .inl x_need)), ((bd 30), .inl (y 0, 4, .inl x_most)), ((bd 31), .inl (y 0, 6561, .inl x_least))]) (fun _ => rfl) (va_runV (As := [.int 1, .int 1]) (rest := []) ⟨hx, hb, hml, hown, hts⟩ (c_Model_throwsIf l D y bd H.size 0 x_men x_ships x_entries x_rules x_calls x_gangs x_idle x_moved x_paid x_taped x_at x_end x_begin x_faultAt x_wants 1 1 hw) (cwV 2 hts gX9_plan_X9_throwsIf rfl rfl rfl (by decide +kernel) ⟨Nat.le_of_ble_eq_true rfl, Nat.le_of_ble_eq_true rfl⟩) ⟨mPre.blind, (va_recv hK hP (ci := 11) (q0 := 0) rfl rfl), mPre.to (hP.sub [0] rfl) hK (hD.sub [0] (by decide) rfl) hE⟩ rfl rfl hl.1 rfl (lv_room (Nat.le_of_ble_eq_true rfl)) dX9_plan_24 ⟨Nat.le_of_ble_eq_true rfl, Nat.le_of_ble_eq_true rfl⟩) (fun r_7 u H locs hw hP hD hS => ?_)
    obtain ⟨x_thrown_8, rfl⟩ : ∃ z, z = u := ⟨_, rfl⟩
    try dsimp only at hw
    have hP : va_P D vwCl [(ce_xm bd x_thrown_8 x_men x_ships x_entries x_rules x_calls x_gangs x_idle x_moved x_paid x_taped x_at x_end x_begin x_faultAt x_wants), ((bd 29), .inl (y 0, 4, .inl x_need)), ((bd 30), .inl (y 0, 4, .inl x_most)), ((bd 31), .inl (y 0, 6561, .inl x_least))] H := hP
    have hD : va_D A [(ce_xm bd x_thrown_8 x_men x_ships x_entries x_rules x_calls x_gangs x_idle x_moved x_paid x_taped x_at x_end x_begin x_faultAt x_wants), ((bd 29), .inl (y 0, 4, .inl x_need)), ((bd 30), .inl (y 0, 4, .inl x_most)), ((bd 31), .inl (y 0, 6561, .inl x_least))] := hD
    refine lv_if_eq (tgt := 32) hx hb dX9_plan_27 (by decide) (fun hc => ?_) (fun hc => ?_)
    · have hw := hw.1 hc
      refine lv_iconst (v := 0) hx hb dX9_plan_32 (by decide) ?_
      refine lv_istore_n (lv' := [(2, .int 0), (0, .ref (bd 0)), (1, .int p0)]) hx hb dX9_plan_33 rfl hl (by decide) rfl (fun ls hl => ?_)
      refine lv_iconst (v := 0) hx hb dX9_plan_34 (by decide) ?_
      refine lv_istore_n (lv' := [(3, .int 0), (2, .int 0), (0, .ref (bd 0)), (1, .int p0)]) hx hb dX9_plan_35 rfl hl (by decide) rfl (fun ls hl => ?_)
      obtain ⟨n', hw⟩ := hw
      exact c_Model_plan_h36 hx hb hr hml hown hts hlocks hK hE hA  n' 0 0 hw _ _ _ hP hD hS (lv_sub hl [0, 1, 2, 3] rfl)
    · have hw := hw.2 hc
      refine lv_iconst (v := 0) hx hb dX9_plan_30 (by decide) ?_
      exact W.iret (v := 0) hx hb hr (fun t ht hW => ⟨⟨0, (x_thrown_8, x_least), rfl, hw, mAt.to hP hK hD ht hW⟩, hS.F ht⟩) hS.2.2 dX9_plan_31
