theorem inw_X9_look_X9 : ∀ w ∈ wsX90, w ∈ wsX9_look := fun _ h => List.mem_cons_of_mem _ (List.mem_append_left _ (List.mem_append_right _ h))
def wp_Model_look (x_men : Int32) (x_calls : Int32) (x_skills : Nat → Int32) (x_turns : Nat → Int32) (x_barred : Nat → Int32) (x_refused : Nat → Int32) (x_atShip : Nat → Int32) (x_atHatch : Nat → Int32) (p0 : Int32) (p1 : Int32) (Q : Int32 → Int32 → Prop) : Prop := (wp_Model_noMan x_men p0 (fun r_1 => (wp_Model_throwsIf 0 r_1 1 (fun r_2 x_thrown_3 => ((r_2 = 0 → ((p1 = 0 → (vp_in p0 24 ∧ Q (x_skills p0.toNatClampNeg) x_thrown_3)) ∧ (¬ p1 = 0 → ((p1 = 1 → (vp_in p0 24 ∧ Q (x_turns p0.toNatClampNeg) x_thrown_3)) ∧ (¬ p1 = 1 → ((p1 = 2 → (vp_in p0 24 ∧ ((x_barred p0.toNatClampNeg < x_calls → Q 0 x_thrown_3) ∧ (¬ x_barred p0.toNatClampNeg < x_calls → Q 1 x_thrown_3)))) ∧ (¬ p1 = 2 → ((p1 = 3 → (vp_in p0 24 ∧ Q (x_refused p0.toNatClampNeg) x_thrown_3)) ∧ (¬ p1 = 3 → ((p1 = 4 → (vp_in p0 24 ∧ Q (x_atShip p0.toNatClampNeg) x_thrown_3)) ∧ (¬ p1 = 4 → ((p1 = 5 → (vp_in p0 24 ∧ Q (x_atHatch p0.toNatClampNeg) x_thrown_3)) ∧ (¬ p1 = 5 → Q 0 2))))))))))))) ∧ (¬ r_2 = 0 → Q 0 x_thrown_3))))))
set_option maxHeartbeats 4000000 in
set_option maxRecDepth 100000 in
theorem c_Model_look (l : Launch) (D : va_G) (y : Nat → ClassId) (bd : Nat → Nat) (sz : Nat) (x_thrown : Int32) (x_men : Int32) (x_ships : Int32) (x_entries : Int32) (x_rules : Int32) (x_calls : Int32) (x_gangs : Int32) (x_idle : Int32) (x_moved : Int64) (x_paid : Int64) (x_taped : Int32) (x_at : Int32) (x_end : Int32) (x_begin : Int32) (x_faultAt : Int32) (x_wants : Int32) (x_skills : Nat → Int32) (x_turns : Nat → Int32) (x_barred : Nat → Int32) (x_refused : Nat → Int32) (x_atShip : Nat → Int32) (x_atHatch : Nat → Int32) (p0 : Int32) (p1 : Int32) {Q : Int32 → Int32 → Prop} (hw : wp_Model_look x_men x_calls x_skills x_turns x_barred x_refused x_atShip x_atHatch p0 p1 Q) : Met l yX9_look wsX9_look ({ frames := 2, cells := 0, slots := 0, locals := 46 }) (va_Pc [.ref (bd 0), .int p0, .int p1] (mPre D y sz [(ce_xm bd x_thrown x_men x_ships x_entries x_rules x_calls x_gangs x_idle x_moved x_paid x_taped x_at x_end x_begin x_faultAt x_wants), ((bd 1), .inl (y 0, 24, .inl x_skills)), ((bd 2), .inl (y 0, 24, .inl x_turns)), ((bd 3), .inl (y 0, 24, .inl x_barred)), ((bd 4), .inl (y 0, 24, .inl x_refused)), ((bd 5), .inl (y 0, 24, .inl x_atShip)), ((bd 6), .inl (y 0, 24, .inl x_atHatch))])) (va_Qi (fun (r : Int32) (u : Int32) => Q r u) (mAt D y (va_A [(ce_xm bd x_thrown x_men x_ships x_entries x_rules x_calls x_gangs x_idle x_moved x_paid x_taped x_at x_end x_begin x_faultAt x_wants), ((bd 1), .inl (y 0, 24, .inl x_skills)), ((bd 2), .inl (y 0, 24, .inl x_turns)), ((bd 3), .inl (y 0, 24, .inl x_barred)), ((bd 4), .inl (y 0, 24, .inl x_refused)), ((bd 5), .inl (y 0, 24, .inl x_atShip)), ((bd 6), .inl (y 0, 24, .inl x_atHatch))] sz) (fun (u : Int32) => [(ce_xm bd u x_men x_ships x_entries x_rules x_calls x_gangs x_idle x_moved x_paid x_taped x_at x_end x_begin x_faultAt x_wants), ((bd 1), .inl (y 0, 24, .inl x_skills)), ((bd 2), .inl (y 0, 24, .inl x_turns)), ((bd 3), .inl (y 0, 24, .inl x_barred)), ((bd 4), .inl (y 0, 24, .inl x_refused)), ((bd 5), .inl (y 0, 24, .inl x_atShip)), ((bd 6), .inl (y 0, 24, .inl x_atHatch))])) (va_A [(ce_xm bd x_thrown x_men x_ships x_entries x_rules x_calls x_gangs x_idle x_moved x_paid x_taped x_at x_end x_begin x_faultAt x_wants), ((bd 1), .inl (y 0, 24, .inl x_skills)), ((bd 2), .inl (y 0, 24, .inl x_turns)), ((bd 3), .inl (y 0, 24, .inl x_barred)), ((bd 4), .inl (y 0, 24, .inl x_refused)), ((bd 5), .inl (y 0, 24, .inl x_atShip)), ((bd 6), .inl (y 0, 24, .inl x_atHatch))] sz)) 0 0 (va_A [(ce_xm bd x_thrown x_men x_ships x_entries x_rules x_calls x_gangs x_idle x_moved x_paid x_taped x_at x_end x_begin x_faultAt x_wants), ((bd 1), .inl (y 0, 24, .inl x_skills)), ((bd 2), .inl (y 0, 24, .inl x_turns)), ((bd 3), .inl (y 0, 24, .inl x_barred)), ((bd 4), .inl (y 0, 24, .inl x_refused)), ((bd 5), .inl (y 0, 24, .inl x_atShip)), ((bd 6), .inl (y 0, 24, .inl x_atHatch))] sz) := by
  unfold wp_Model_look at hw
  refine Met.ofW (cc := cX9_look) (maxL := 3) (ret := some .int) (by decide) rfl ?_
  intro p e s m args below meth c s₁ B hml hv
  obtain ⟨rfl, hsz, hP, hK, hD0, hE⟩ := hv
  have hx := B.exec
  have hb := B.bytes
  have hr := B.returns
  have hts := atoms_spec (ws := wsX9_look) B.pre
  have hown : s.vm.findClass RX9 = some m.cls := findClass_of_methodNamed B.named
  have hlocks := B.notSynchronized
  subst hsz
  have hD := hD0.self (sz := s.heap.size)
  generalize hAe : va_A [(ce_xm bd x_thrown x_men x_ships x_entries x_rules x_calls x_gangs x_idle x_moved x_paid x_taped x_at x_end x_begin x_faultAt x_wants), ((bd 1), .inl (y 0, 24, .inl x_skills)), ((bd 2), .inl (y 0, 24, .inl x_turns)), ((bd 3), .inl (y 0, 24, .inl x_barred)), ((bd 4), .inl (y 0, 24, .inl x_refused)), ((bd 5), .inl (y 0, 24, .inl x_atShip)), ((bd 6), .inl (y 0, 24, .inl x_atHatch))] s.heap.size = A at hD ⊢
  have hA : ∀ q : Nat, s.heap.size ≤ q → A q := fun q h => by rw [← hAe]; exact Or.inr h
  have hS : va_S A s.heap s.heap [] := va_S.rf
  have hP : va_P D vwCl [(ce_xm bd x_thrown x_men x_ships x_entries x_rules x_calls x_gangs x_idle x_moved x_paid x_taped x_at x_end x_begin x_faultAt x_wants), ((bd 1), .inl (y 0, 24, .inl x_skills)), ((bd 2), .inl (y 0, 24, .inl x_turns)), ((bd 3), .inl (y 0, 24, .inl x_barred)), ((bd 4), .inl (y 0, 24, .inl x_refused)), ((bd 5), .inl (y 0, 24, .inl x_atShip)), ((bd 6), .inl (y 0, 24, .inl x_atHatch))] s.heap := hP
  have hl := lv_entry ([.ref (bd 0), .int p0, .int p1]) (n := 3) (Nat.le_of_ble_eq_true rfl)
  rw [lg_entry_eq]
  generalize (lg_sl ([.ref (bd 0), .int p0, .int p1]) ++ List.replicate (3 - (lg_sl ([.ref (bd 0), .int p0, .int p1])).length) Slot.unset).toArray = ls at hl ⊢
  have hl : lv_has ls 3 [(0, .ref (bd 0)), (1, .int p0), (2, .int p1)] := hl
  refine lv_aload_n hx hb dX9_look_0 rfl (lv_at hl 0 rfl) ?_
  refine lv_iconst (v := 0) hx hb dX9_look_1 (by decide) ?_
  refine va_put (ci := 11) (v := .int 0) (ty := .int) (C := RX9) (T := TX9) (N := 47) hx hb hts inw_X9_look_X9 tyX9 tyX9_ok nmX9 hown hK hP hD hS 0 rfl rfl 0 (by decide) (hts (.fieldLink RX9 109 "DockCallModel" "thrown" "I") (by decide +kernel)) (fun _ h9 => h9) rfl (by decide +kernel) rfl rfl (Nat.le_of_ble_eq_true rfl) dX9_look_2 (fun H locs hP hD hS => ?_)
  have hP : va_P D vwCl [(ce_xm bd 0 x_men x_ships x_entries x_rules x_calls x_gangs x_idle x_moved x_paid x_taped x_at x_end x_begin x_faultAt x_wants), ((bd 1), .inl (y 0, 24, .inl x_skills)), ((bd 2), .inl (y 0, 24, .inl x_turns)), ((bd 3), .inl (y 0, 24, .inl x_barred)), ((bd 4), .inl (y 0, 24, .inl x_refused)), ((bd 5), .inl (y 0, 24, .inl x_atShip)), ((bd 6), .inl (y 0, 24, .inl x_atHatch))] H := hP
  have hD : va_D A [(ce_xm bd 0 x_men x_ships x_entries x_rules x_calls x_gangs x_idle x_moved x_paid x_taped x_at x_end x_begin x_faultAt x_wants), ((bd 1), .inl (y 0, 24, .inl x_skills)), ((bd 2), .inl (y 0, 24, .inl x_turns)), ((bd 3), .inl (y 0, 24, .inl x_barred)), ((bd 4), .inl (y 0, 24, .inl x_refused)), ((bd 5), .inl (y 0, 24, .inl x_atShip)), ((bd 6), .inl (y 0, 24, .inl x_atHatch))] := hD
  refine lv_aload_n hx hb dX9_look_5 rfl (lv_at hl 0 rfl) ?_
  refine lv_aload_n hx hb dX9_look_6 rfl (lv_at hl 0 rfl) ?_
  refine lv_iload_n hx hb dX9_look_7 rfl (lv_at hl 1 rfl) ?_
  refine mx_i (wc := [(ce_xm bd 0 x_men x_ships x_entries x_rules x_calls x_gangs x_idle x_moved x_paid x_taped x_at x_end x_begin x_faultAt x_wants)]) (wr := [((bd 1), .inl (y 0, 24, .inl x_skills)), ((bd 2), .inl (y 0, 24, .inl x_turns)), ((bd 3), .inl (y 0, 24, .inl x_barred)), ((bd 4), .inl (y 0, 24, .inl x_refused)), ((bd 5), .inl (y 0, 24, .inl x_atShip)), ((bd 6), .inl (y 0, 24, .inl x_atHatch))]) hP hD hS hA [0] [1, 2, 3, 4, 5, 6] [6, 0, 1, 2, 3, 4, 5] rfl rfl (by decide) (by decide) (by decide) (fun (u : Unit) => [(ce_xm bd 0 x_men x_ships x_entries x_rules x_calls x_gangs x_idle x_moved x_paid x_taped x_at x_end x_begin x_faultAt x_wants), ((bd 1), .inl (y 0, 24, .inl x_skills)), ((bd 2), .inl (y 0, 24, .inl x_turns)), ((bd 3), .inl (y 0, 24, .inl x_barred)), ((bd 4), .inl (y 0, 24, .inl x_refused)), ((bd 5), .inl (y 0, 24, .inl x_atShip)), ((bd 6), .inl (y 0, 24, .inl x_atHatch))]) (fun _ => rfl) (va_runV (As := [.int p0]) (rest := [.ref (bd 0)]) ⟨hx, hb, hml, hown, hts⟩ (c_Model_noMan l D y bd H.size 0 x_men x_ships x_entries x_rules x_calls x_gangs x_idle x_moved x_paid x_taped x_at x_end x_begin x_faultAt x_wants p0 hw) (cwV 1 hts gX9_look_X9_noMan rfl rfl rfl (by decide +kernel) ⟨Nat.le_of_ble_eq_true rfl, Nat.le_of_ble_eq_true rfl⟩) ⟨mPre.blind, (va_recv hK hP (ci := 11) (q0 := 0) rfl rfl), mPre.to (hP.sub [0] rfl) hK (hD.sub [0] (by decide) rfl) hE⟩ rfl rfl hl.1 rfl (lv_room (Nat.le_of_ble_eq_true rfl)) dX9_look_8 ⟨Nat.le_of_ble_eq_true rfl, Nat.le_of_ble_eq_true rfl⟩) (fun r_1 u H locs hw hP hD hS => ?_)
  try dsimp only at hw
  have hP : va_P D vwCl [(ce_xm bd 0 x_men x_ships x_entries x_rules x_calls x_gangs x_idle x_moved x_paid x_taped x_at x_end x_begin x_faultAt x_wants), ((bd 1), .inl (y 0, 24, .inl x_skills)), ((bd 2), .inl (y 0, 24, .inl x_turns)), ((bd 3), .inl (y 0, 24, .inl x_barred)), ((bd 4), .inl (y 0, 24, .inl x_refused)), ((bd 5), .inl (y 0, 24, .inl x_atShip)), ((bd 6), .inl (y 0, 24, .inl x_atHatch))] H := hP
  have hD : va_D A [(ce_xm bd 0 x_men x_ships x_entries x_rules x_calls x_gangs x_idle x_moved x_paid x_taped x_at x_end x_begin x_faultAt x_wants), ((bd 1), .inl (y 0, 24, .inl x_skills)), ((bd 2), .inl (y 0, 24, .inl x_turns)), ((bd 3), .inl (y 0, 24, .inl x_barred)), ((bd 4), .inl (y 0, 24, .inl x_refused)), ((bd 5), .inl (y 0, 24, .inl x_atShip)), ((bd 6), .inl (y 0, 24, .inl x_atHatch))] := hD
  refine lv_iconst (v := 1) hx hb dX9_look_11 (by decide) ?_
  refine mx_i (wc := [(ce_xm bd 0 x_men x_ships x_entries x_rules x_calls x_gangs x_idle x_moved x_paid x_taped x_at x_end x_begin x_faultAt x_wants)]) (wr := [((bd 1), .inl (y 0, 24, .inl x_skills)), ((bd 2), .inl (y 0, 24, .inl x_turns)), ((bd 3), .inl (y 0, 24, .inl x_barred)), ((bd 4), .inl (y 0, 24, .inl x_refused)), ((bd 5), .inl (y 0, 24, .inl x_atShip)), ((bd 6), .inl (y 0, 24, .inl x_atHatch))]) hP hD hS hA [0] [1, 2, 3, 4, 5, 6] [6, 0, 1, 2, 3, 4, 5] rfl rfl (by decide) (by decide) (by decide) (fun (u : Int32) => [(ce_xm bd u x_men x_ships x_entries x_rules x_calls x_gangs x_idle x_moved x_paid x_taped x_at x_end x_begin x_faultAt x_wants), ((bd 1), .inl (y 0, 24, .inl x_skills)), ((bd 2), .inl (y 0, 24, .inl x_turns)), ((bd 3), .inl (y 0, 24, .inl x_barred)), ((bd 4), .inl (y 0, 24, .inl x_refused)), ((bd 5), .inl (y 0, 24, .inl x_atShip)), ((bd 6), .inl (y 0, 24, .inl x_atHatch))]) (fun _ => rfl) (va_runV (As := [.int r_1, .int 1]) (rest := []) ⟨hx, hb, hml, hown, hts⟩ (c_Model_throwsIf l D y bd H.size 0 x_men x_ships x_entries x_rules x_calls x_gangs x_idle x_moved x_paid x_taped x_at x_end x_begin x_faultAt x_wants r_1 1 hw) (cwV 2 hts gX9_look_X9_throwsIf rfl rfl rfl (by decide +kernel) ⟨Nat.le_of_ble_eq_true rfl, Nat.le_of_ble_eq_true rfl⟩) ⟨mPre.blind, (va_recv hK hP (ci := 11) (q0 := 0) rfl rfl), mPre.to (hP.sub [0] rfl) hK (hD.sub [0] (by decide) rfl) hE⟩ rfl rfl hl.1 rfl (lv_room (Nat.le_of_ble_eq_true rfl)) dX9_look_12 ⟨Nat.le_of_ble_eq_true rfl, Nat.le_of_ble_eq_true rfl⟩) (fun r_2 u H locs hw hP hD hS => ?_)
  obtain ⟨x_thrown_3, rfl⟩ : ∃ z, z = u := ⟨_, rfl⟩
  try dsimp only at hw
  have hP : va_P D vwCl [(ce_xm bd x_thrown_3 x_men x_ships x_entries x_rules x_calls x_gangs x_idle x_moved x_paid x_taped x_at x_end x_begin x_faultAt x_wants), ((bd 1), .inl (y 0, 24, .inl x_skills)), ((bd 2), .inl (y 0, 24, .inl x_turns)), ((bd 3), .inl (y 0, 24, .inl x_barred)), ((bd 4), .inl (y 0, 24, .inl x_refused)), ((bd 5), .inl (y 0, 24, .inl x_atShip)), ((bd 6), .inl (y 0, 24, .inl x_atHatch))] H := hP
  have hD : va_D A [(ce_xm bd x_thrown_3 x_men x_ships x_entries x_rules x_calls x_gangs x_idle x_moved x_paid x_taped x_at x_end x_begin x_faultAt x_wants), ((bd 1), .inl (y 0, 24, .inl x_skills)), ((bd 2), .inl (y 0, 24, .inl x_turns)), ((bd 3), .inl (y 0, 24, .inl x_barred)), ((bd 4), .inl (y 0, 24, .inl x_refused)), ((bd 5), .inl (y 0, 24, .inl x_atShip)), ((bd 6), .inl (y 0, 24, .inl x_atHatch))] := hD
  refine lv_if_eq (tgt := 20) hx hb dX9_look_15 (by decide) (fun hc => ?_) (fun hc => ?_)
  · have hw := hw.1 hc
    refine lv_iload_n hx hb dX9_look_20 rfl (lv_at hl 2 rfl) ?_
    by_cases tc0 : p1 = 0
    · have hw := hw.1 tc0
      refine lv_tableIn (off := 39) (tgt := 60) hx hb dX9_look_21 (by rw [tc0]; decide) (by rw [tc0]; decide) (by rw [tc0]; decide) (by decide) ?_
      refine lv_aload_n hx hb dX9_look_60 rfl (lv_at hl 0 rfl) ?_
      refine va_get (ci := 11) (v := .ref (bd 1)) (C := RX9) (T := TX9) (N := 47) hx hb hts inw_X9_look_X9 hown hK hP 0 rfl rfl 1 (by decide) (hts (.fieldLink RX9 9 "DockCallModel" "skills" "[I") (by decide +kernel)) (fun _ h9 => h9) rfl dX9_look_61 ?_
      refine lv_iload_n hx hb dX9_look_64 rfl (lv_at hl 1 rfl) ?_
      obtain ⟨hi, hw⟩ := hw
      refine va_iald hx hb hK hP 1 0 rfl rfl hi dX9_look_65 ?_
      exact W.iret (v := x_skills p0.toNatClampNeg) hx hb hr (fun t ht hW => ⟨⟨x_skills p0.toNatClampNeg, (x_thrown_3), rfl, hw, mAt.to hP hK hD ht hW⟩, hS.F ht⟩) hS.2.2 dX9_look_66
    · have hw := hw.2 tc0
      by_cases tc1 : p1 = 1
      · have hw := hw.1 tc1
        refine lv_tableIn (off := 46) (tgt := 67) hx hb dX9_look_21 (by rw [tc1]; decide) (by rw [tc1]; decide) (by rw [tc1]; decide) (by decide) ?_
        refine lv_aload_n hx hb dX9_look_67 rfl (lv_at hl 0 rfl) ?_
        refine va_get (ci := 11) (v := .ref (bd 2)) (C := RX9) (T := TX9) (N := 47) hx hb hts inw_X9_look_X9 hown hK hP 0 rfl rfl 2 (by decide) (hts (.fieldLink RX9 13 "DockCallModel" "turns" "[I") (by decide +kernel)) (fun _ h9 => h9) rfl dX9_look_68 ?_
        refine lv_iload_n hx hb dX9_look_71 rfl (lv_at hl 1 rfl) ?_
        obtain ⟨hi, hw⟩ := hw
        refine va_iald hx hb hK hP 2 0 rfl rfl hi dX9_look_72 ?_
        exact W.iret (v := x_turns p0.toNatClampNeg) hx hb hr (fun t ht hW => ⟨⟨x_turns p0.toNatClampNeg, (x_thrown_3), rfl, hw, mAt.to hP hK hD ht hW⟩, hS.F ht⟩) hS.2.2 dX9_look_73
      · have hw := hw.2 tc1
        by_cases tc2 : p1 = 2
        · have hw := hw.1 tc2
          refine lv_tableIn (off := 53) (tgt := 74) hx hb dX9_look_21 (by rw [tc2]; decide) (by rw [tc2]; decide) (by rw [tc2]; decide) (by decide) ?_
          refine lv_aload_n hx hb dX9_look_74 rfl (lv_at hl 0 rfl) ?_
          refine va_get (ci := 11) (v := .ref (bd 3)) (C := RX9) (T := TX9) (N := 47) hx hb hts inw_X9_look_X9 hown hK hP 0 rfl rfl 3 (by decide) (hts (.fieldLink RX9 16 "DockCallModel" "barred" "[I") (by decide +kernel)) (fun _ h9 => h9) rfl dX9_look_75 ?_
          refine lv_iload_n hx hb dX9_look_78 rfl (lv_at hl 1 rfl) ?_
          obtain ⟨hi, hw⟩ := hw
          refine va_iald hx hb hK hP 3 0 rfl rfl hi dX9_look_79 ?_
          refine lv_aload_n hx hb dX9_look_80 rfl (lv_at hl 0 rfl) ?_
          refine va_get (ci := 11) (v := .int x_calls) (C := RX9) (T := TX9) (N := 47) hx hb hts inw_X9_look_X9 hown hK hP 0 rfl rfl 25 (by decide) (hts (.fieldLink RX9 128 "DockCallModel" "calls" "I") (by decide +kernel)) (fun _ h9 => h9) rfl dX9_look_81 ?_
          refine lv_icmp_lt (tgt := 91) hx hb dX9_look_84 (by decide) (fun hc => ?_) (fun hc => ?_)
          · have hw := hw.1 hc
            refine lv_iconst (v := 0) hx hb dX9_look_91 (by decide) ?_
            exact W.iret (v := 0) hx hb hr (fun t ht hW => ⟨⟨0, (x_thrown_3), rfl, hw, mAt.to hP hK hD ht hW⟩, hS.F ht⟩) hS.2.2 dX9_look_92
          · have hw := hw.2 hc
            refine lv_iconst (v := 1) hx hb dX9_look_87 (by decide) ?_
            refine lv_goto (tgt := 92) hx hb dX9_look_88 (by decide) ?_
            exact W.iret (v := 1) hx hb hr (fun t ht hW => ⟨⟨1, (x_thrown_3), rfl, hw, mAt.to hP hK hD ht hW⟩, hS.F ht⟩) hS.2.2 dX9_look_92
        · have hw := hw.2 tc2
          by_cases tc3 : p1 = 3
          · have hw := hw.1 tc3
            refine lv_tableIn (off := 72) (tgt := 93) hx hb dX9_look_21 (by rw [tc3]; decide) (by rw [tc3]; decide) (by rw [tc3]; decide) (by decide) ?_
            refine lv_aload_n hx hb dX9_look_93 rfl (lv_at hl 0 rfl) ?_
            refine va_get (ci := 11) (v := .ref (bd 4)) (C := RX9) (T := TX9) (N := 47) hx hb hts inw_X9_look_X9 hown hK hP 0 rfl rfl 4 (by decide) (hts (.fieldLink RX9 19 "DockCallModel" "refused" "[I") (by decide +kernel)) (fun _ h9 => h9) rfl dX9_look_94 ?_
            refine lv_iload_n hx hb dX9_look_97 rfl (lv_at hl 1 rfl) ?_
            obtain ⟨hi, hw⟩ := hw
            refine va_iald hx hb hK hP 4 0 rfl rfl hi dX9_look_98 ?_
            exact W.iret (v := x_refused p0.toNatClampNeg) hx hb hr (fun t ht hW => ⟨⟨x_refused p0.toNatClampNeg, (x_thrown_3), rfl, hw, mAt.to hP hK hD ht hW⟩, hS.F ht⟩) hS.2.2 dX9_look_99
          · have hw := hw.2 tc3
            by_cases tc4 : p1 = 4
            · have hw := hw.1 tc4
              refine lv_tableIn (off := 79) (tgt := 100) hx hb dX9_look_21 (by rw [tc4]; decide) (by rw [tc4]; decide) (by rw [tc4]; decide) (by decide) ?_
              refine lv_aload_n hx hb dX9_look_100 rfl (lv_at hl 0 rfl) ?_
              refine va_get (ci := 11) (v := .ref (bd 5)) (C := RX9) (T := TX9) (N := 47) hx hb hts inw_X9_look_X9 hown hK hP 0 rfl rfl 5 (by decide) (hts (.fieldLink RX9 22 "DockCallModel" "atShip" "[I") (by decide +kernel)) (fun _ h9 => h9) rfl dX9_look_101 ?_
              refine lv_iload_n hx hb dX9_look_104 rfl (lv_at hl 1 rfl) ?_
              obtain ⟨hi, hw⟩ := hw
              refine va_iald hx hb hK hP 5 0 rfl rfl hi dX9_look_105 ?_
              exact W.iret (v := x_atShip p0.toNatClampNeg) hx hb hr (fun t ht hW => ⟨⟨x_atShip p0.toNatClampNeg, (x_thrown_3), rfl, hw, mAt.to hP hK hD ht hW⟩, hS.F ht⟩) hS.2.2 dX9_look_106
            · have hw := hw.2 tc4
              by_cases tc5 : p1 = 5
              · have hw := hw.1 tc5
                refine lv_tableIn (off := 86) (tgt := 107) hx hb dX9_look_21 (by rw [tc5]; decide) (by rw [tc5]; decide) (by rw [tc5]; decide) (by decide) ?_
                refine lv_aload_n hx hb dX9_look_107 rfl (lv_at hl 0 rfl) ?_
                refine va_get (ci := 11) (v := .ref (bd 6)) (C := RX9) (T := TX9) (N := 47) hx hb hts inw_X9_look_X9 hown hK hP 0 rfl rfl 6 (by decide) (hts (.fieldLink RX9 25 "DockCallModel" "atHatch" "[I") (by decide +kernel)) (fun _ h9 => h9) rfl dX9_look_108 ?_
                refine lv_iload_n hx hb dX9_look_111 rfl (lv_at hl 1 rfl) ?_
                obtain ⟨hi, hw⟩ := hw
                refine va_iald hx hb hK hP 6 0 rfl rfl hi dX9_look_112 ?_
                exact W.iret (v := x_atHatch p0.toNatClampNeg) hx hb hr (fun t ht hW => ⟨⟨x_atHatch p0.toNatClampNeg, (x_thrown_3), rfl, hw, mAt.to hP hK hD ht hW⟩, hS.F ht⟩) hS.2.2 dX9_look_113
              · have hw := hw.2 tc5
                refine lv_tableOut (tgt := 114) hx hb dX9_look_21 (tw_o 5 rfl (by decide) (fun k hk => by rcases (show k = 0 ∨ k = 1 ∨ k = 2 ∨ k = 3 ∨ k = 4 ∨ k = 5 by omega) with rfl | rfl | rfl | rfl | rfl | rfl <;> first | exact tc0 | exact tc1 | exact tc2 | exact tc3 | exact tc4 | exact tc5)) (by decide) ?_
                refine lv_aload_n hx hb dX9_look_114 rfl (lv_at hl 0 rfl) ?_
                refine lv_iconst (v := 2) hx hb dX9_look_115 (by decide) ?_
                refine va_put (ci := 11) (v := .int 2) (ty := .int) (C := RX9) (T := TX9) (N := 47) hx hb hts inw_X9_look_X9 tyX9 tyX9_ok nmX9 hown hK hP hD hS 0 rfl rfl 0 (by decide) (hts (.fieldLink RX9 109 "DockCallModel" "thrown" "I") (by decide +kernel)) (fun _ h9 => h9) rfl (by decide +kernel) rfl rfl (Nat.le_of_ble_eq_true rfl) dX9_look_116 (fun H locs hP hD hS => ?_)
                have hP : va_P D vwCl [(ce_xm bd 2 x_men x_ships x_entries x_rules x_calls x_gangs x_idle x_moved x_paid x_taped x_at x_end x_begin x_faultAt x_wants), ((bd 1), .inl (y 0, 24, .inl x_skills)), ((bd 2), .inl (y 0, 24, .inl x_turns)), ((bd 3), .inl (y 0, 24, .inl x_barred)), ((bd 4), .inl (y 0, 24, .inl x_refused)), ((bd 5), .inl (y 0, 24, .inl x_atShip)), ((bd 6), .inl (y 0, 24, .inl x_atHatch))] H := hP
                have hD : va_D A [(ce_xm bd 2 x_men x_ships x_entries x_rules x_calls x_gangs x_idle x_moved x_paid x_taped x_at x_end x_begin x_faultAt x_wants), ((bd 1), .inl (y 0, 24, .inl x_skills)), ((bd 2), .inl (y 0, 24, .inl x_turns)), ((bd 3), .inl (y 0, 24, .inl x_barred)), ((bd 4), .inl (y 0, 24, .inl x_refused)), ((bd 5), .inl (y 0, 24, .inl x_atShip)), ((bd 6), .inl (y 0, 24, .inl x_atHatch))] := hD
                refine lv_iconst (v := 0) hx hb dX9_look_119 (by decide) ?_
                exact W.iret (v := 0) hx hb hr (fun t ht hW => ⟨⟨0, (2), rfl, hw, mAt.to hP hK hD ht hW⟩, hS.F ht⟩) hS.2.2 dX9_look_120
  · have hw := hw.2 hc
    refine lv_iconst (v := 0) hx hb dX9_look_18 (by decide) ?_
    exact W.iret (v := 0) hx hb hr (fun t ht hW => ⟨⟨0, (x_thrown_3), rfl, hw, mAt.to hP hK hD ht hW⟩, hS.F ht⟩) hS.2.2 dX9_look_19
theorem inw_X9_tons_X9 : ∀ w ∈ wsX90, w ∈ wsX9_tons := fun _ h => List.mem_cons_of_mem _ (List.mem_append_left _ (List.mem_append_right _ h))
def wp_Model_tons (x_ships : Int32) (x_hatches : Nat → Int32) (x_tons : Nat → Int32) (p0 : Int32) (p1 : Int32) (Q : Int32 → Int32 → Prop) : Prop := (wp_Model_noShip x_ships p0 (fun r_1 => ((r_1 = 0 → (vp_in p0 10 ∧ (wp_Model_in p1.toInt64 0 (((x_hatches p0.toNatClampNeg) - 1).toInt64) (fun r_4 => ((r_4 = 0 → (wp_Model_throwsIf 0 1 1 (fun r_7 x_thrown_8 => ((r_7 = 0 → (vp_in ((4 * p0) + p1) 40 ∧ Q (x_tons ((4 * p0) + p1).toNatClampNeg) x_thrown_8)) ∧ (¬ r_7 = 0 → Q 0 x_thrown_8))))) ∧ (¬ r_4 = 0 → (wp_Model_throwsIf 0 0 1 (fun r_5 x_thrown_6 => ((r_5 = 0 → (vp_in ((4 * p0) + p1) 40 ∧ Q (x_tons ((4 * p0) + p1).toNatClampNeg) x_thrown_6)) ∧ (¬ r_5 = 0 → Q 0 x_thrown_6)))))))))) ∧ (¬ r_1 = 0 → (wp_Model_throwsIf 0 1 1 (fun r_2 x_thrown_3 => ((r_2 = 0 → (vp_in ((4 * p0) + p1) 40 ∧ Q (x_tons ((4 * p0) + p1).toNatClampNeg) x_thrown_3)) ∧ (¬ r_2 = 0 → Q 0 x_thrown_3))))))))
set_option maxHeartbeats 4000000 in
set_option maxRecDepth 100000 in
theorem c_Model_tons (l : Launch) (D : va_G) (y : Nat → ClassId) (bd : Nat → Nat) (sz : Nat) (x_thrown : Int32) (x_men : Int32) (x_ships : Int32) (x_entries : Int32) (x_rules : Int32) (x_calls : Int32) (x_gangs : Int32) (x_idle : Int32) (x_moved : Int64) (x_paid : Int64) (x_taped : Int32) (x_at : Int32) (x_end : Int32) (x_begin : Int32) (x_faultAt : Int32) (x_wants : Int32) (x_hatches : Nat → Int32) (x_tons : Nat → Int32) (p0 : Int32) (p1 : Int32) {Q : Int32 → Int32 → Prop} (hw : wp_Model_tons x_ships x_hatches x_tons p0 p1 Q) : Met l yX9_tons wsX9_tons ({ frames := 2, cells := 0, slots := 0, locals := 46 }) (va_Pc [.ref (bd 0), .int p0, .int p1] (mPre D y sz [(ce_xm bd x_thrown x_men x_ships x_entries x_rules x_calls x_gangs x_idle x_moved x_paid x_taped x_at x_end x_begin x_faultAt x_wants), ((bd 8), .inl (y 0, 10, .inl x_hatches)), ((bd 10), .inl (y 0, 40, .inl x_tons))])) (va_Qi (fun (r : Int32) (u : Int32) => Q r u) (mAt D y (va_A [(ce_xm bd x_thrown x_men x_ships x_entries x_rules x_calls x_gangs x_idle x_moved x_paid x_taped x_at x_end x_begin x_faultAt x_wants), ((bd 8), .inl (y 0, 10, .inl x_hatches)), ((bd 10), .inl (y 0, 40, .inl x_tons))] sz) (fun (u : Int32) => [(ce_xm bd u x_men x_ships x_entries x_rules x_calls x_gangs x_idle x_moved x_paid x_taped x_at x_end x_begin x_faultAt x_wants), ((bd 8), .inl (y 0, 10, .inl x_hatches)), ((bd 10), .inl (y 0, 40, .inl x_tons))])) (va_A [(ce_xm bd x_thrown x_men x_ships x_entries x_rules x_calls x_gangs x_idle x_moved x_paid x_taped x_at x_end x_begin x_faultAt x_wants), ((bd 8), .inl (y 0, 10, .inl x_hatches)), ((bd 10), .inl (y 0, 40, .inl x_tons))] sz)) 0 0 (va_A [(ce_xm bd x_thrown x_men x_ships x_entries x_rules x_calls x_gangs x_idle x_moved x_paid x_taped x_at x_end x_begin x_faultAt x_wants), ((bd 8), .inl (y 0, 10, .inl x_hatches)), ((bd 10), .inl (y 0, 40, .inl x_tons))] sz) := by
  unfold wp_Model_tons at hw
  refine Met.ofW (cc := cX9_tons) (maxL := 3) (ret := some .int) (by decide) rfl ?_
  intro p e s m args below meth c s₁ B hml hv
  obtain ⟨rfl, hsz, hP, hK, hD0, hE⟩ := hv
  have hx := B.exec
  have hb := B.bytes
  have hr := B.returns
  have hts := atoms_spec (ws := wsX9_tons) B.pre
  have hown : s.vm.findClass RX9 = some m.cls := findClass_of_methodNamed B.named
  have hlocks := B.notSynchronized
  subst hsz
  have hD := hD0.self (sz := s.heap.size)
  generalize hAe : va_A [(ce_xm bd x_thrown x_men x_ships x_entries x_rules x_calls x_gangs x_idle x_moved x_paid x_taped x_at x_end x_begin x_faultAt x_wants), ((bd 8), .inl (y 0, 10, .inl x_hatches)), ((bd 10), .inl (y 0, 40, .inl x_tons))] s.heap.size = A at hD ⊢
  have hA : ∀ q : Nat, s.heap.size ≤ q → A q := fun q h => by rw [← hAe]; exact Or.inr h
  have hS : va_S A s.heap s.heap [] := va_S.rf
  have hP : va_P D vwCl [(ce_xm bd x_thrown x_men x_ships x_entries x_rules x_calls x_gangs x_idle x_moved x_paid x_taped x_at x_end x_begin x_faultAt x_wants), ((bd 8), .inl (y 0, 10, .inl x_hatches)), ((bd 10), .inl (y 0, 40, .inl x_tons))] s.heap := hP
  have hl := lv_entry ([.ref (bd 0), .int p0, .int p1]) (n := 3) (Nat.le_of_ble_eq_true rfl)
  rw [lg_entry_eq]
  generalize (lg_sl ([.ref (bd 0), .int p0, .int p1]) ++ List.replicate (3 - (lg_sl ([.ref (bd 0), .int p0, .int p1])).length) Slot.unset).toArray = ls at hl ⊢
  have hl : lv_has ls 3 [(0, .ref (bd 0)), (1, .int p0), (2, .int p1)] := hl
  refine lv_aload_n hx hb dX9_tons_0 rfl (lv_at hl 0 rfl) ?_
  refine lv_iconst (v := 0) hx hb dX9_tons_1 (by decide) ?_
  refine va_put (ci := 11) (v := .int 0) (ty := .int) (C := RX9) (T := TX9) (N := 47) hx hb hts inw_X9_tons_X9 tyX9 tyX9_ok nmX9 hown hK hP hD hS 0 rfl rfl 0 (by decide) (hts (.fieldLink RX9 109 "DockCallModel" "thrown" "I") (by decide +kernel)) (fun _ h9 => h9) rfl (by decide +kernel) rfl rfl (Nat.le_of_ble_eq_true rfl) dX9_tons_2 (fun H locs hP hD hS => ?_)
  have hP : va_P D vwCl [(ce_xm bd 0 x_men x_ships x_entries x_rules x_calls x_gangs x_idle x_moved x_paid x_taped x_at x_end x_begin x_faultAt x_wants), ((bd 8), .inl (y 0, 10, .inl x_hatches)), ((bd 10), .inl (y 0, 40, .inl x_tons))] H := hP
  have hD : va_D A [(ce_xm bd 0 x_men x_ships x_entries x_rules x_calls x_gangs x_idle x_moved x_paid x_taped x_at x_end x_begin x_faultAt x_wants), ((bd 8), .inl (y 0, 10, .inl x_hatches)), ((bd 10), .inl (y 0, 40, .inl x_tons))] := hD
  refine lv_aload_n hx hb dX9_tons_5 rfl (lv_at hl 0 rfl) ?_
  refine lv_aload_n hx hb dX9_tons_6 rfl (lv_at hl 0 rfl) ?_
  refine lv_iload_n hx hb dX9_tons_7 rfl (lv_at hl 1 rfl) ?_
  refine mx_i (wc := [(ce_xm bd 0 x_men x_ships x_entries x_rules x_calls x_gangs x_idle x_moved x_paid x_taped x_at x_end x_begin x_faultAt x_wants)]) (wr := [((bd 8), .inl (y 0, 10, .inl x_hatches)), ((bd 10), .inl (y 0, 40, .inl x_tons))]) hP hD hS hA [0] [1, 2] [2, 0, 1] rfl rfl (by decide) (by decide) (by decide) (fun (u : Unit) => [(ce_xm bd 0 x_men x_ships x_entries x_rules x_calls x_gangs x_idle x_moved x_paid x_taped x_at x_end x_begin x_faultAt x_wants), ((bd 8), .inl (y 0, 10, .inl x_hatches)), ((bd 10), .inl (y 0, 40, .inl x_tons))]) (fun _ => rfl) (va_runV (As := [.int p0]) (rest := [.ref (bd 0)]) ⟨hx, hb, hml, hown, hts⟩ (c_Model_noShip l D y bd H.size 0 x_men x_ships x_entries x_rules x_calls x_gangs x_idle x_moved x_paid x_taped x_at x_end x_begin x_faultAt x_wants p0 hw) (cwV 1 hts gX9_tons_X9_noShip rfl rfl rfl (by decide +kernel) ⟨Nat.le_of_ble_eq_true rfl, Nat.le_of_ble_eq_true rfl⟩) ⟨mPre.blind, (va_recv hK hP (ci := 11) (q0 := 0) rfl rfl), mPre.to (hP.sub [0] rfl) hK (hD.sub [0] (by decide) rfl) hE⟩ rfl rfl hl.1 rfl (lv_room (Nat.le_of_ble_eq_true rfl)) dX9_tons_8 ⟨Nat.le_of_ble_eq_true rfl, Nat.le_of_ble_eq_true rfl⟩) (fun r_1 u H locs hw hP hD hS => ?_)
  try dsimp only at hw
  have hP : va_P D vwCl [(ce_xm bd 0 x_men x_ships x_entries x_rules x_calls x_gangs x_idle x_moved x_paid x_taped x_at x_end x_begin x_faultAt x_wants), ((bd 8), .inl (y 0, 10, .inl x_hatches)), ((bd 10), .inl (y 0, 40, .inl x_tons))] H := hP
  have hD : va_D A [(ce_xm bd 0 x_men x_ships x_entries x_rules x_calls x_gangs x_idle x_moved x_paid x_taped x_at x_end x_begin x_faultAt x_wants), ((bd 8), .inl (y 0, 10, .inl x_hatches)), ((bd 10), .inl (y 0, 40, .inl x_tons))] := hD
  refine lv_if_ne (tgt := 32) hx hb dX9_tons_11 (by decide) (fun hc => ?_) (fun hc => ?_)
  · have hw := hw.2 hc
    refine lv_iconst (v := 1) hx hb dX9_tons_32 (by decide) ?_
    refine lv_goto (tgt := 37) hx hb dX9_tons_33 (by decide) ?_
    refine lv_iconst (v := 1) hx hb dX9_tons_37 (by decide) ?_
    refine mx_i (wc := [(ce_xm bd 0 x_men x_ships x_entries x_rules x_calls x_gangs x_idle x_moved x_paid x_taped x_at x_end x_begin x_faultAt x_wants)]) (wr := [((bd 8), .inl (y 0, 10, .inl x_hatches)), ((bd 10), .inl (y 0, 40, .inl x_tons))]) hP hD hS hA [0] [1, 2] [2, 0, 1] rfl rfl (by decide) (by decide) (by decide) (fun (u : Int32) => [(ce_xm bd u x_men x_ships x_entries x_rules x_calls x_gangs x_idle x_moved x_paid x_taped x_at x_end x_begin x_faultAt x_wants), ((bd 8), .inl (y 0, 10, .inl x_hatches)), ((bd 10), .inl (y 0, 40, .inl x_tons))]) (fun _ => rfl) (va_runV (As := [.int 1, .int 1]) (rest := []) ⟨hx, hb, hml, hown, hts⟩ (c_Model_throwsIf l D y bd H.size 0 x_men x_ships x_entries x_rules x_calls x_gangs x_idle x_moved x_paid x_taped x_at x_end x_begin x_faultAt x_wants 1 1 hw) (cwV 2 hts gX9_tons_X9_throwsIf rfl rfl rfl (by decide +kernel) ⟨Nat.le_of_ble_eq_true rfl, Nat.le_of_ble_eq_true rfl⟩) ⟨mPre.blind, (va_recv hK hP (ci := 11) (q0 := 0) rfl rfl), mPre.to (hP.sub [0] rfl) hK (hD.sub [0] (by decide) rfl) hE⟩ rfl rfl hl.1 rfl (lv_room (Nat.le_of_ble_eq_true rfl)) dX9_tons_38 ⟨Nat.le_of_ble_eq_true rfl, Nat.le_of_ble_eq_true rfl⟩) (fun r_2 u H locs hw hP hD hS => ?_)
    obtain ⟨x_thrown_3, rfl⟩ : ∃ z, z = u := ⟨_, rfl⟩
    try dsimp only at hw
    have hP : va_P D vwCl [(ce_xm bd x_thrown_3 x_men x_ships x_entries x_rules x_calls x_gangs x_idle x_moved x_paid x_taped x_at x_end x_begin x_faultAt x_wants), ((bd 8), .inl (y 0, 10, .inl x_hatches)), ((bd 10), .inl (y 0, 40, .inl x_tons))] H := hP
    have hD : va_D A [(ce_xm bd x_thrown_3 x_men x_ships x_entries x_rules x_calls x_gangs x_idle x_moved x_paid x_taped x_at x_end x_begin x_faultAt x_wants), ((bd 8), .inl (y 0, 10, .inl x_hatches)), ((bd 10), .inl (y 0, 40, .inl x_tons))] := hD
    refine lv_if_eq (tgt := 46) hx hb dX9_tons_41 (by decide) (fun hc => ?_) (fun hc => ?_)
    · have hw := hw.1 hc
      refine lv_aload_n hx hb dX9_tons_46 rfl (lv_at hl 0 rfl) ?_
      refine va_get (ci := 11) (v := .ref (bd 10)) (C := RX9) (T := TX9) (N := 47) hx hb hts inw_X9_tons_X9 hown hK hP 0 rfl rfl 11 (by decide) (hts (.fieldLink RX9 37 "DockCallModel" "tons" "[I") (by decide +kernel)) (fun _ h9 => h9) rfl dX9_tons_47 ?_
      refine lv_iconst (v := 4) hx hb dX9_tons_50 (by decide) ?_
      refine lv_iload_n hx hb dX9_tons_51 rfl (lv_at hl 1 rfl) ?_
      refine lv_imul hx hb dX9_tons_52 ?_
      refine lv_iload_n hx hb dX9_tons_53 rfl (lv_at hl 2 rfl) ?_
      refine lv_iadd hx hb dX9_tons_54 ?_
      obtain ⟨hi, hw⟩ := hw
      refine va_iald hx hb hK hP 2 0 rfl rfl hi dX9_tons_55 ?_
      exact W.iret (v := x_tons ((4 * p0) + p1).toNatClampNeg) hx hb hr (fun t ht hW => ⟨⟨x_tons ((4 * p0) + p1).toNatClampNeg, (x_thrown_3), rfl, hw, mAt.to hP hK hD ht hW⟩, hS.F ht⟩) hS.2.2 dX9_tons_56
    · have hw := hw.2 hc
      refine lv_iconst (v := 0) hx hb dX9_tons_44 (by decide) ?_
      exact W.iret (v := 0) hx hb hr (fun t ht hW => ⟨⟨0, (x_thrown_3), rfl, hw, mAt.to hP hK hD ht hW⟩, hS.F ht⟩) hS.2.2 dX9_tons_45
  · have hw := hw.1 hc
    refine lv_iload_n hx hb dX9_tons_14 rfl (lv_at hl 2 rfl) ?_
    refine lv_i2l hx hb dX9_tons_15 rfl ?_
    refine lv_lconst (v := 0) hx hb dX9_tons_16 (by decide) ?_
    refine lv_aload_n hx hb dX9_tons_17 rfl (lv_at hl 0 rfl) ?_
    refine va_get (ci := 11) (v := .ref (bd 8)) (C := RX9) (T := TX9) (N := 47) hx hb hts inw_X9_tons_X9 hown hK hP 0 rfl rfl 9 (by decide) (hts (.fieldLink RX9 31 "DockCallModel" "hatches" "[I") (by decide +kernel)) (fun _ h9 => h9) rfl dX9_tons_18 ?_
    refine lv_iload_n hx hb dX9_tons_21 rfl (lv_at hl 1 rfl) ?_
    obtain ⟨hi, hw⟩ := hw
    refine va_iald hx hb hK hP 1 0 rfl rfl hi dX9_tons_22 ?_
    refine lv_iconst (v := 1) hx hb dX9_tons_23 (by decide) ?_
    refine lv_isub hx hb dX9_tons_24 ?_
    refine lv_i2l hx hb dX9_tons_25 rfl ?_
    refine mx_i (wc := []) (wr := [(ce_xm bd 0 x_men x_ships x_entries x_rules x_calls x_gangs x_idle x_moved x_paid x_taped x_at x_end x_begin x_faultAt x_wants), ((bd 8), .inl (y 0, 10, .inl x_hatches)), ((bd 10), .inl (y 0, 40, .inl x_tons))]) hP hD hS hA [] [0, 1, 2] [0, 1, 2] rfl rfl (by decide) (by decide) (by decide) (fun (u : Unit) => [(ce_xm bd 0 x_men x_ships x_entries x_rules x_calls x_gangs x_idle x_moved x_paid x_taped x_at x_end x_begin x_faultAt x_wants), ((bd 8), .inl (y 0, 10, .inl x_hatches)), ((bd 10), .inl (y 0, 40, .inl x_tons))]) (fun _ => rfl) (va_runS (As := [.long p1.toInt64, .long 0, .long (((x_hatches p0.toNatClampNeg) - 1).toInt64)]) (rest := [.ref (bd 0)]) ⟨hx, hb, hml, hown, hts⟩ (c_Model_in l D y H.size p1.toInt64 0 (((x_hatches p0.toNatClampNeg) - 1).toInt64) hw) (va_cwS 3 hts gX9_tons_X9_in rfl rfl rfl (by decide +kernel) ⟨Nat.le_of_ble_eq_true rfl, Nat.le_of_ble_eq_true rfl⟩) ⟨mPre.blind, mPre.to (hP.sub [] rfl) hK (hD.sub [] (by decide) rfl) hE⟩ rfl rfl hl.1 rfl (lv_room (Nat.le_of_ble_eq_true rfl)) dX9_tons_26 ⟨Nat.le_of_ble_eq_true rfl, Nat.le_of_ble_eq_true rfl⟩) (fun r_4 u H locs hw hP hD hS => ?_)
    try dsimp only at hw
    have hP : va_P D vwCl [(ce_xm bd 0 x_men x_ships x_entries x_rules x_calls x_gangs x_idle x_moved x_paid x_taped x_at x_end x_begin x_faultAt x_wants), ((bd 8), .inl (y 0, 10, .inl x_hatches)), ((bd 10), .inl (y 0, 40, .inl x_tons))] H := hP
    have hD : va_D A [(ce_xm bd 0 x_men x_ships x_entries x_rules x_calls x_gangs x_idle x_moved x_paid x_taped x_at x_end x_begin x_faultAt x_wants), ((bd 8), .inl (y 0, 10, .inl x_hatches)), ((bd 10), .inl (y 0, 40, .inl x_tons))] := hD
    refine lv_if_ne (tgt := 36) hx hb dX9_tons_29 (by decide) (fun hc => ?_) (fun hc => ?_)
    · have hw := hw.2 hc
      refine lv_iconst (v := 0) hx hb dX9_tons_36 (by decide) ?_
      refine lv_iconst (v := 1) hx hb dX9_tons_37 (by decide) ?_
      refine mx_i (wc := [(ce_xm bd 0 x_men x_ships x_entries x_rules x_calls x_gangs x_idle x_moved x_paid x_taped x_at x_end x_begin x_faultAt x_wants)]) (wr := [((bd 8), .inl (y 0, 10, .inl x_hatches)), ((bd 10), .inl (y 0, 40, .inl x_tons))]) hP hD hS hA [0] [1, 2] [2, 0, 1] rfl rfl (by decide) (by decide) (by decide) (fun (u : Int32) => [(ce_xm bd u x_men x_ships x_entries x_rules x_calls x_gangs x_idle x_moved x_paid x_taped x_at x_end x_begin x_faultAt x_wants), ((bd 8), .inl (y 0, 10, .inl x_hatches)), ((bd 10), .inl (y 0, 40, .inl x_tons))]) (fun _ => rfl) (va_runV (As := [.int 0, .int 1]) (rest := []) ⟨hx, hb, hml, hown, hts⟩ (c_Model_throwsIf l D y bd H.size 0 x_men x_ships x_entries x_rules x_calls x_gangs x_idle x_moved x_paid x_taped x_at x_end x_begin x_faultAt x_wants 0 1 hw) (cwV 2 hts gX9_tons_X9_throwsIf rfl rfl rfl (by decide +kernel) ⟨Nat.le_of_ble_eq_true rfl, Nat.le_of_ble_eq_true rfl⟩) ⟨mPre.blind, (va_recv hK hP (ci := 11) (q0 := 0) rfl rfl), mPre.to (hP.sub [0] rfl) hK (hD.sub [0] (by decide) rfl) hE⟩ rfl rfl hl.1 rfl (lv_room (Nat.le_of_ble_eq_true rfl)) dX9_tons_38 ⟨Nat.le_of_ble_eq_true rfl, Nat.le_of_ble_eq_true rfl⟩) (fun r_5 u H locs hw hP hD hS => ?_)
      obtain ⟨x_thrown_6, rfl⟩ : ∃ z, z = u := ⟨_, rfl⟩
      try dsimp only at hw
      have hP : va_P D vwCl [(ce_xm bd x_thrown_6 x_men x_ships x_entries x_rules x_calls x_gangs x_idle x_moved x_paid x_taped x_at x_end x_begin x_faultAt x_wants), ((bd 8), .inl (y 0, 10, .inl x_hatches)), ((bd 10), .inl (y 0, 40, .inl x_tons))] H := hP
      have hD : va_D A [(ce_xm bd x_thrown_6 x_men x_ships x_entries x_rules x_calls x_gangs x_idle x_moved x_paid x_taped x_at x_end x_begin x_faultAt x_wants), ((bd 8), .inl (y 0, 10, .inl x_hatches)), ((bd 10), .inl (y 0, 40, .inl x_tons))] := hD
      refine lv_if_eq (tgt := 46) hx hb dX9_tons_41 (by decide) (fun hc => ?_) (fun hc => ?_)
      · have hw := hw.1 hc
        refine lv_aload_n hx hb dX9_tons_46 rfl (lv_at hl 0 rfl) ?_
        refine va_get (ci := 11) (v := .ref (bd 10)) (C := RX9) (T := TX9) (N := 47) hx hb hts inw_X9_tons_X9 hown hK hP 0 rfl rfl 11 (by decide) (hts (.fieldLink RX9 37 "DockCallModel" "tons" "[I") (by decide +kernel)) (fun _ h9 => h9) rfl dX9_tons_47 ?_
        refine lv_iconst (v := 4) hx hb dX9_tons_50 (by decide) ?_
        refine lv_iload_n hx hb dX9_tons_51 rfl (lv_at hl 1 rfl) ?_
        refine lv_imul hx hb dX9_tons_52 ?_
        refine lv_iload_n hx hb dX9_tons_53 rfl (lv_at hl 2 rfl) ?_
        refine lv_iadd hx hb dX9_tons_54 ?_
        obtain ⟨hi, hw⟩ := hw
        refine va_iald hx hb hK hP 2 0 rfl rfl hi dX9_tons_55 ?_
        exact W.iret (v := x_tons ((4 * p0) + p1).toNatClampNeg) hx hb hr (fun t ht hW => ⟨⟨x_tons ((4 * p0) + p1).toNatClampNeg, (x_thrown_6), rfl, hw, mAt.to hP hK hD ht hW⟩, hS.F ht⟩) hS.2.2 dX9_tons_56
      · have hw := hw.2 hc
        refine lv_iconst (v := 0) hx hb dX9_tons_44 (by decide) ?_
        exact W.iret (v := 0) hx hb hr (fun t ht hW => ⟨⟨0, (x_thrown_6), rfl, hw, mAt.to hP hK hD ht hW⟩, hS.F ht⟩) hS.2.2 dX9_tons_45
    · have hw := hw.1 hc
      refine lv_iconst (v := 1) hx hb dX9_tons_32 (by decide) ?_
      refine lv_goto (tgt := 37) hx hb dX9_tons_33 (by decide) ?_
      refine lv_iconst (v := 1) hx hb dX9_tons_37 (by decide) ?_
      refine mx_i (wc := [(ce_xm bd 0 x_men x_ships x_entries x_rules x_calls x_gangs x_idle x_moved x_paid x_taped x_at x_end x_begin x_faultAt x_wants)]) (wr := [((bd 8), .inl (y 0, 10, .inl x_hatches)), ((bd 10), .inl (y 0, 40, .inl x_tons))]) hP hD hS hA [0] [1, 2] [2, 0, 1] rfl rfl (by decide) (by decide) (by decide) (fun (u : Int32) => [(ce_xm bd u x_men x_ships x_entries x_rules x_calls x_gangs x_idle x_moved x_paid x_taped x_at x_end x_begin x_faultAt x_wants), ((bd 8), .inl (y 0, 10, .inl x_hatches)), ((bd 10), .inl (y 0, 40, .inl x_tons))]) (fun _ => rfl) (va_runV (As := [.int 1, .int 1]) (rest := []) ⟨hx, hb, hml, hown, hts⟩ (c_Model_throwsIf l D y bd H.size 0 x_men x_ships x_entries x_rules x_calls x_gangs x_idle x_moved x_paid x_taped x_at x_end x_begin x_faultAt x_wants 1 1 hw) (cwV 2 hts gX9_tons_X9_throwsIf rfl rfl rfl (by decide +kernel) ⟨Nat.le_of_ble_eq_true rfl, Nat.le_of_ble_eq_true rfl⟩) ⟨mPre.blind, (va_recv hK hP (ci := 11) (q0 := 0) rfl rfl), mPre.to (hP.sub [0] rfl) hK (hD.sub [0] (by decide) rfl) hE⟩ rfl rfl hl.1 rfl (lv_room (Nat.le_of_ble_eq_true rfl)) dX9_tons_38 ⟨Nat.le_of_ble_eq_true rfl, Nat.le_of_ble_eq_true rfl⟩) (fun r_7 u H locs hw hP hD hS => ?_)
      obtain ⟨x_thrown_8, rfl⟩ : ∃ z, z = u := ⟨_, rfl⟩
      try dsimp only at hw
      have hP : va_P D vwCl [(ce_xm bd x_thrown_8 x_men x_ships x_entries x_rules x_calls x_gangs x_idle x_moved x_paid x_taped x_at x_end x_begin x_faultAt x_wants), ((bd 8), .inl (y 0, 10, .inl x_hatches)), ((bd 10), .inl (y 0, 40, .inl x_tons))] H := hP
      have hD : va_D A [(ce_xm bd x_thrown_8 x_men x_ships x_entries x_rules x_calls x_gangs x_idle x_moved x_paid x_taped x_at x_end x_begin x_faultAt x_wants), ((bd 8), .inl (y 0, 10, .inl x_hatches)), ((bd 10), .inl (y 0, 40, .inl x_tons))] := hD
      refine lv_if_eq (tgt := 46) hx hb dX9_tons_41 (by decide) (fun hc => ?_) (fun hc => ?_)
      · have hw := hw.1 hc
        refine lv_aload_n hx hb dX9_tons_46 rfl (lv_at hl 0 rfl) ?_
        refine va_get (ci := 11) (v := .ref (bd 10)) (C := RX9) (T := TX9) (N := 47) hx hb hts inw_X9_tons_X9 hown hK hP 0 rfl rfl 11 (by decide) (hts (.fieldLink RX9 37 "DockCallModel" "tons" "[I") (by decide +kernel)) (fun _ h9 => h9) rfl dX9_tons_47 ?_
        refine lv_iconst (v := 4) hx hb dX9_tons_50 (by decide) ?_
        refine lv_iload_n hx hb dX9_tons_51 rfl (lv_at hl 1 rfl) ?_
        refine lv_imul hx hb dX9_tons_52 ?_
        refine lv_iload_n hx hb dX9_tons_53 rfl (lv_at hl 2 rfl) ?_
        refine lv_iadd hx hb dX9_tons_54 ?_
        obtain ⟨hi, hw⟩ := hw
        refine va_iald hx hb hK hP 2 0 rfl rfl hi dX9_tons_55 ?_
        exact W.iret (v := x_tons ((4 * p0) + p1).toNatClampNeg) hx hb hr (fun t ht hW => ⟨⟨x_tons ((4 * p0) + p1).toNatClampNeg, (x_thrown_8), rfl, hw, mAt.to hP hK hD ht hW⟩, hS.F ht⟩) hS.2.2 dX9_tons_56
      · have hw := hw.2 hc
        refine lv_iconst (v := 0) hx hb dX9_tons_44 (by decide) ?_
        exact W.iret (v := 0) hx hb hr (fun t ht hW => ⟨⟨0, (x_thrown_8), rfl, hw, mAt.to hP hK hD ht hW⟩, hS.F ht⟩) hS.2.2 dX9_tons_45
theorem inw_X9_state_X9 : ∀ w ∈ wsX90, w ∈ wsX9_state := fun _ h => List.mem_cons_of_mem _ (List.mem_append_left _ (List.mem_append_right _ h))
def wp_Model_state (x_ships : Int32) (x_came : Nat → Int32) (x_hatches : Nat → Int32) (x_waited : Nat → Int32) (x_tons : Nat → Int32) (p0 : Int32) (p1 : Int32) (Q : Int32 → Int32 → Prop) : Prop := (wp_Model_noShip x_ships p0 (fun r_1 => (wp_Model_throwsIf 0 r_1 1 (fun r_2 x_thrown_3 => ((r_2 = 0 → ((p1 = 0 → (vp_in p0 10 ∧ Q (x_came p0.toNatClampNeg) x_thrown_3)) ∧ (¬ p1 = 0 → ((p1 = 1 → (vp_in p0 10 ∧ Q (x_hatches p0.toNatClampNeg) x_thrown_3)) ∧ (¬ p1 = 1 → ((p1 = 2 → (wp_Model_tonsOf x_hatches x_tons p0 (fun r_4 => ((r_4 = 0 → Q 1 x_thrown_3) ∧ (¬ r_4 = 0 → Q 0 x_thrown_3))))) ∧ (¬ p1 = 2 → ((p1 = 3 → (vp_in p0 10 ∧ Q (x_waited p0.toNatClampNeg) x_thrown_3)) ∧ (¬ p1 = 3 → Q 0 2))))))))) ∧ (¬ r_2 = 0 → Q 0 x_thrown_3))))))
set_option maxHeartbeats 4000000 in
set_option maxRecDepth 100000 in
theorem c_Model_state (l : Launch) (D : va_G) (y : Nat → ClassId) (bd : Nat → Nat) (sz : Nat) (x_thrown : Int32) (x_men : Int32) (x_ships : Int32) (x_entries : Int32) (x_rules : Int32) (x_calls : Int32) (x_gangs : Int32) (x_idle : Int32) (x_moved : Int64) (x_paid : Int64) (x_taped : Int32) (x_at : Int32) (x_end : Int32) (x_begin : Int32) (x_faultAt : Int32) (x_wants : Int32) (x_came : Nat → Int32) (x_hatches : Nat → Int32) (x_waited : Nat → Int32) (x_tons : Nat → Int32) (p0 : Int32) (p1 : Int32) {Q : Int32 → Int32 → Prop} (hw : wp_Model_state x_ships x_came x_hatches x_waited x_tons p0 p1 Q) : Met l yX9_state wsX9_state ({ frames := 2, cells := 0, slots := 0, locals := 46 }) (va_Pc [.ref (bd 0), .int p0, .int p1] (mPre D y sz [(ce_xm bd x_thrown x_men x_ships x_entries x_rules x_calls x_gangs x_idle x_moved x_paid x_taped x_at x_end x_begin x_faultAt x_wants), ((bd 7), .inl (y 0, 10, .inl x_came)), ((bd 8), .inl (y 0, 10, .inl x_hatches)), ((bd 9), .inl (y 0, 10, .inl x_waited)), ((bd 10), .inl (y 0, 40, .inl x_tons))])) (va_Qi (fun (r : Int32) (u : Int32) => Q r u) (mAt D y (va_A [(ce_xm bd x_thrown x_men x_ships x_entries x_rules x_calls x_gangs x_idle x_moved x_paid x_taped x_at x_end x_begin x_faultAt x_wants), ((bd 7), .inl (y 0, 10, .inl x_came)), ((bd 8), .inl (y 0, 10, .inl x_hatches)), ((bd 9), .inl (y 0, 10, .inl x_waited)), ((bd 10), .inl (y 0, 40, .inl x_tons))] sz) (fun (u : Int32) => [(ce_xm bd u x_men x_ships x_entries x_rules x_calls x_gangs x_idle x_moved x_paid x_taped x_at x_end x_begin x_faultAt x_wants), ((bd 7), .inl (y 0, 10, .inl x_came)), ((bd 8), .inl (y 0, 10, .inl x_hatches)), ((bd 9), .inl (y 0, 10, .inl x_waited)), ((bd 10), .inl (y 0, 40, .inl x_tons))])) (va_A [(ce_xm bd x_thrown x_men x_ships x_entries x_rules x_calls x_gangs x_idle x_moved x_paid x_taped x_at x_end x_begin x_faultAt x_wants), ((bd 7), .inl (y 0, 10, .inl x_came)), ((bd 8), .inl (y 0, 10, .inl x_hatches)), ((bd 9), .inl (y 0, 10, .inl x_waited)), ((bd 10), .inl (y 0, 40, .inl x_tons))] sz)) 0 0 (va_A [(ce_xm bd x_thrown x_men x_ships x_entries x_rules x_calls x_gangs x_idle x_moved x_paid x_taped x_at x_end x_begin x_faultAt x_wants), ((bd 7), .inl (y 0, 10, .inl x_came)), ((bd 8), .inl (y 0, 10, .inl x_hatches)), ((bd 9), .inl (y 0, 10, .inl x_waited)), ((bd 10), .inl (y 0, 40, .inl x_tons))] sz) := by
  unfold wp_Model_state at hw
  refine Met.ofW (cc := cX9_state) (maxL := 3) (ret := some .int) (by decide) rfl ?_
  intro p e s m args below meth c s₁ B hml hv
  obtain ⟨rfl, hsz, hP, hK, hD0, hE⟩ := hv
  have hx := B.exec
  have hb := B.bytes
  have hr := B.returns
  have hts := atoms_spec (ws := wsX9_state) B.pre
  have hown : s.vm.findClass RX9 = some m.cls := findClass_of_methodNamed B.named
  have hlocks := B.notSynchronized
  subst hsz
  have hD := hD0.self (sz := s.heap.size)
  generalize hAe : va_A [(ce_xm bd x_thrown x_men x_ships x_entries x_rules x_calls x_gangs x_idle x_moved x_paid x_taped x_at x_end x_begin x_faultAt x_wants), ((bd 7), .inl (y 0, 10, .inl x_came)), ((bd 8), .inl (y 0, 10, .inl x_hatches)), ((bd 9), .inl (y 0, 10, .inl x_waited)), ((bd 10), .inl (y 0, 40, .inl x_tons))] s.heap.size = A at hD ⊢
  have hA : ∀ q : Nat, s.heap.size ≤ q → A q := fun q h => by rw [← hAe]; exact Or.inr h
  have hS : va_S A s.heap s.heap [] := va_S.rf
  have hP : va_P D vwCl [(ce_xm bd x_thrown x_men x_ships x_entries x_rules x_calls x_gangs x_idle x_moved x_paid x_taped x_at x_end x_begin x_faultAt x_wants), ((bd 7), .inl (y 0, 10, .inl x_came)), ((bd 8), .inl (y 0, 10, .inl x_hatches)), ((bd 9), .inl (y 0, 10, .inl x_waited)), ((bd 10), .inl (y 0, 40, .inl x_tons))] s.heap := hP
  have hl := lv_entry ([.ref (bd 0), .int p0, .int p1]) (n := 3) (Nat.le_of_ble_eq_true rfl)
  rw [lg_entry_eq]
  generalize (lg_sl ([.ref (bd 0), .int p0, .int p1]) ++ List.replicate (3 - (lg_sl ([.ref (bd 0), .int p0, .int p1])).length) Slot.unset).toArray = ls at hl ⊢
  have hl : lv_has ls 3 [(0, .ref (bd 0)), (1, .int p0), (2, .int p1)] := hl
  refine lv_aload_n hx hb dX9_state_0 rfl (lv_at hl 0 rfl) ?_
  refine lv_iconst (v := 0) hx hb dX9_state_1 (by decide) ?_
  refine va_put (ci := 11) (v := .int 0) (ty := .int) (C := RX9) (T := TX9) (N := 47) hx hb hts inw_X9_state_X9 tyX9 tyX9_ok nmX9 hown hK hP hD hS 0 rfl rfl 0 (by decide) (hts (.fieldLink RX9 109 "DockCallModel" "thrown" "I") (by decide +kernel)) (fun _ h9 => h9) rfl (by decide +kernel) rfl rfl (Nat.le_of_ble_eq_true rfl) dX9_state_2 (fun H locs hP hD hS => ?_)
  have hP : va_P D vwCl [(ce_xm bd 0 x_men x_ships x_entries x_rules x_calls x_gangs x_idle x_moved x_paid x_taped x_at x_end x_begin x_faultAt x_wants), ((bd 7), .inl (y 0, 10, .inl x_came)), ((bd 8), .inl (y 0, 10, .inl x_hatches)), ((bd 9), .inl (y 0, 10, .inl x_waited)), ((bd 10), .inl (y 0, 40, .inl x_tons))] H := hP
  have hD : va_D A [(ce_xm bd 0 x_men x_ships x_entries x_rules x_calls x_gangs x_idle x_moved x_paid x_taped x_at x_end x_begin x_faultAt x_wants), ((bd 7), .inl (y 0, 10, .inl x_came)), ((bd 8), .inl (y 0, 10, .inl x_hatches)), ((bd 9), .inl (y 0, 10, .inl x_waited)), ((bd 10), .inl (y 0, 40, .inl x_tons))] := hD
  refine lv_aload_n hx hb dX9_state_5 rfl (lv_at hl 0 rfl) ?_
  refine lv_aload_n hx hb dX9_state_6 rfl (lv_at hl 0 rfl) ?_
  refine lv_iload_n hx hb dX9_state_7 rfl (lv_at hl 1 rfl) ?_
  refine mx_i (wc := [(ce_xm bd 0 x_men x_ships x_entries x_rules x_calls x_gangs x_idle x_moved x_paid x_taped x_at x_end x_begin x_faultAt x_wants)]) (wr := [((bd 7), .inl (y 0, 10, .inl x_came)), ((bd 8), .inl (y 0, 10, .inl x_hatches)), ((bd 9), .inl (y 0, 10, .inl x_waited)), ((bd 10), .inl (y 0, 40, .inl x_tons))]) hP hD hS hA [0] [1, 2, 3, 4] [4, 0, 1, 2, 3] rfl rfl (by decide) (by decide) (by decide) (fun (u : Unit) => [(ce_xm bd 0 x_men x_ships x_entries x_rules x_calls x_gangs x_idle x_moved x_paid x_taped x_at x_end x_begin x_faultAt x_wants), ((bd 7), .inl (y 0, 10, .inl x_came)), ((bd 8), .inl (y 0, 10, .inl x_hatches)), ((bd 9), .inl (y 0, 10, .inl x_waited)), ((bd 10), .inl (y 0, 40, .inl x_tons))]) (fun _ => rfl) (va_runV (As := [.int p0]) (rest := [.ref (bd 0)]) ⟨hx, hb, hml, hown, hts⟩ (c_Model_noShip l D y bd H.size 0 x_men x_ships x_entries x_rules x_calls x_gangs x_idle x_moved x_paid x_taped x_at x_end x_begin x_faultAt x_wants p0 hw) (cwV 1 hts gX9_state_X9_noShip rfl rfl rfl (by decide +kernel) ⟨Nat.le_of_ble_eq_true rfl, Nat.le_of_ble_eq_true rfl⟩) ⟨mPre.blind, (va_recv hK hP (ci := 11) (q0 := 0) rfl rfl), mPre.to (hP.sub [0] rfl) hK (hD.sub [0] (by decide) rfl) hE⟩ rfl rfl hl.1 rfl (lv_room (Nat.le_of_ble_eq_true rfl)) dX9_state_8 ⟨Nat.le_of_ble_eq_true rfl, Nat.le_of_ble_eq_true rfl⟩) (fun r_1 u H locs hw hP hD hS => ?_)
  try dsimp only at hw
  have hP : va_P D vwCl [(ce_xm bd 0 x_men x_ships x_entries x_rules x_calls x_gangs x_idle x_moved x_paid x_taped x_at x_end x_begin x_faultAt x_wants), ((bd 7), .inl (y 0, 10, .inl x_came)), ((bd 8), .inl (y 0, 10, .inl x_hatches)), ((bd 9), .inl (y 0, 10, .inl x_waited)), ((bd 10), .inl (y 0, 40, .inl x_tons))] H := hP
  have hD : va_D A [(ce_xm bd 0 x_men x_ships x_entries x_rules x_calls x_gangs x_idle x_moved x_paid x_taped x_at x_end x_begin x_faultAt x_wants), ((bd 7), .inl (y 0, 10, .inl x_came)), ((bd 8), .inl (y 0, 10, .inl x_hatches)), ((bd 9), .inl (y 0, 10, .inl x_waited)), ((bd 10), .inl (y 0, 40, .inl x_tons))] := hD
  refine lv_iconst (v := 1) hx hb dX9_state_11 (by decide) ?_
  refine mx_i (wc := [(ce_xm bd 0 x_men x_ships x_entries x_rules x_calls x_gangs x_idle x_moved x_paid x_taped x_at x_end x_begin x_faultAt x_wants)]) (wr := [((bd 7), .inl (y 0, 10, .inl x_came)), ((bd 8), .inl (y 0, 10, .inl x_hatches)), ((bd 9), .inl (y 0, 10, .inl x_waited)), ((bd 10), .inl (y 0, 40, .inl x_tons))]) hP hD hS hA [0] [1, 2, 3, 4] [4, 0, 1, 2, 3] rfl rfl (by decide) (by decide) (by decide) (fun (u : Int32) => [(ce_xm bd u x_men x_ships x_entries x_rules x_calls x_gangs x_idle x_moved x_paid x_taped x_at x_end x_begin x_faultAt x_wants), ((bd 7), .inl (y 0, 10, .inl x_came)), ((bd 8), .inl (y 0, 10, .inl x_hatches)), ((bd 9), .inl (y 0, 10, .inl x_waited)), ((bd 10), .inl (y 0, 40, .inl x_tons))]) (fun _ => rfl) (va_runV (As := [.int r_1, .int 1]) (rest := []) ⟨hx, hb, hml, hown, hts⟩ (c_Model_throwsIf l D y bd H.size 0 x_men x_ships x_entries x_rules x_calls x_gangs x_idle x_moved x_paid x_taped x_at x_end x_begin x_faultAt x_wants r_1 1 hw) (cwV 2 hts gX9_state_X9_throwsIf rfl rfl rfl (by decide +kernel) ⟨Nat.le_of_ble_eq_true rfl, Nat.le_of_ble_eq_true rfl⟩) ⟨mPre.blind, (va_recv hK hP (ci := 11) (q0 := 0) rfl rfl), mPre.to (hP.sub [0] rfl) hK (hD.sub [0] (by decide) rfl) hE⟩ rfl rfl hl.1 rfl (lv_room (Nat.le_of_ble_eq_true rfl)) dX9_state_12 ⟨Nat.le_of_ble_eq_true rfl, Nat.le_of_ble_eq_true rfl⟩) (fun r_2 u H locs hw hP hD hS => ?_)
  obtain ⟨x_thrown_3, rfl⟩ : ∃ z, z = u := ⟨_, rfl⟩
  try dsimp only at hw
  have hP : va_P D vwCl [(ce_xm bd x_thrown_3 x_men x_ships x_entries x_rules x_calls x_gangs x_idle x_moved x_paid x_taped x_at x_end x_begin x_faultAt x_wants), ((bd 7), .inl (y 0, 10, .inl x_came)), ((bd 8), .inl (y 0, 10, .inl x_hatches)), ((bd 9), .inl (y 0, 10, .inl x_waited)), ((bd 10), .inl (y 0, 40, .inl x_tons))] H := hP
  have hD : va_D A [(ce_xm bd x_thrown_3 x_men x_ships x_entries x_rules x_calls x_gangs x_idle x_moved x_paid x_taped x_at x_end x_begin x_faultAt x_wants), ((bd 7), .inl (y 0, 10, .inl x_came)), ((bd 8), .inl (y 0, 10, .inl x_hatches)), ((bd 9), .inl (y 0, 10, .inl x_waited)), ((bd 10), .inl (y 0, 40, .inl x_tons))] := hD
  refine lv_if_eq (tgt := 20) hx hb dX9_state_15 (by decide) (fun hc => ?_) (fun hc => ?_)
  · have hw := hw.1 hc
    refine lv_iload_n hx hb dX9_state_20 rfl (lv_at hl 2 rfl) ?_
    by_cases tc0 : p1 = 0
    · have hw := hw.1 tc0
      refine lv_tableIn (off := 31) (tgt := 52) hx hb dX9_state_21 (by rw [tc0]; decide) (by rw [tc0]; decide) (by rw [tc0]; decide) (by decide) ?_
      refine lv_aload_n hx hb dX9_state_52 rfl (lv_at hl 0 rfl) ?_
      refine va_get (ci := 11) (v := .ref (bd 7)) (C := RX9) (T := TX9) (N := 47) hx hb hts inw_X9_state_X9 hown hK hP 0 rfl rfl 8 (by decide) (hts (.fieldLink RX9 28 "DockCallModel" "came" "[I") (by decide +kernel)) (fun _ h9 => h9) rfl dX9_state_53 ?_
      refine lv_iload_n hx hb dX9_state_56 rfl (lv_at hl 1 rfl) ?_
      obtain ⟨hi, hw⟩ := hw
      refine va_iald hx hb hK hP 1 0 rfl rfl hi dX9_state_57 ?_
      exact W.iret (v := x_came p0.toNatClampNeg) hx hb hr (fun t ht hW => ⟨⟨x_came p0.toNatClampNeg, (x_thrown_3), rfl, hw, mAt.to hP hK hD ht hW⟩, hS.F ht⟩) hS.2.2 dX9_state_58
    · have hw := hw.2 tc0
      by_cases tc1 : p1 = 1
      · have hw := hw.1 tc1
        refine lv_tableIn (off := 38) (tgt := 59) hx hb dX9_state_21 (by rw [tc1]; decide) (by rw [tc1]; decide) (by rw [tc1]; decide) (by decide) ?_
        refine lv_aload_n hx hb dX9_state_59 rfl (lv_at hl 0 rfl) ?_
        refine va_get (ci := 11) (v := .ref (bd 8)) (C := RX9) (T := TX9) (N := 47) hx hb hts inw_X9_state_X9 hown hK hP 0 rfl rfl 9 (by decide) (hts (.fieldLink RX9 31 "DockCallModel" "hatches" "[I") (by decide +kernel)) (fun _ h9 => h9) rfl dX9_state_60 ?_
        refine lv_iload_n hx hb dX9_state_63 rfl (lv_at hl 1 rfl) ?_
        obtain ⟨hi, hw⟩ := hw
        refine va_iald hx hb hK hP 2 0 rfl rfl hi dX9_state_64 ?_
        exact W.iret (v := x_hatches p0.toNatClampNeg) hx hb hr (fun t ht hW => ⟨⟨x_hatches p0.toNatClampNeg, (x_thrown_3), rfl, hw, mAt.to hP hK hD ht hW⟩, hS.F ht⟩) hS.2.2 dX9_state_65
      · have hw := hw.2 tc1
        by_cases tc2 : p1 = 2
        · have hw := hw.1 tc2
          refine lv_tableIn (off := 45) (tgt := 66) hx hb dX9_state_21 (by rw [tc2]; decide) (by rw [tc2]; decide) (by rw [tc2]; decide) (by decide) ?_
          refine lv_aload_n hx hb dX9_state_66 rfl (lv_at hl 0 rfl) ?_
          refine lv_iload_n hx hb dX9_state_67 rfl (lv_at hl 1 rfl) ?_
          refine mx_i (wc := [(ce_xm bd x_thrown_3 x_men x_ships x_entries x_rules x_calls x_gangs x_idle x_moved x_paid x_taped x_at x_end x_begin x_faultAt x_wants), ((bd 8), .inl (y 0, 10, .inl x_hatches)), ((bd 10), .inl (y 0, 40, .inl x_tons))]) (wr := [((bd 7), .inl (y 0, 10, .inl x_came)), ((bd 9), .inl (y 0, 10, .inl x_waited))]) hP hD hS hA [0, 2, 4] [1, 3] [2, 0, 3, 1, 4] rfl rfl (by decide) (by decide) (by decide) (fun (u : Unit) => [(ce_xm bd x_thrown_3 x_men x_ships x_entries x_rules x_calls x_gangs x_idle x_moved x_paid x_taped x_at x_end x_begin x_faultAt x_wants), ((bd 7), .inl (y 0, 10, .inl x_came)), ((bd 8), .inl (y 0, 10, .inl x_hatches)), ((bd 9), .inl (y 0, 10, .inl x_waited)), ((bd 10), .inl (y 0, 40, .inl x_tons))]) (fun _ => rfl) (va_runV (As := [.int p0]) (rest := []) ⟨hx, hb, hml, hown, hts⟩ (c_Model_tonsOf l D y bd H.size x_thrown_3 x_men x_ships x_entries x_rules x_calls x_gangs x_idle x_moved x_paid x_taped x_at x_end x_begin x_faultAt x_wants x_hatches x_tons p0 hw) (cwV 1 hts gX9_state_X9_tonsOf rfl rfl rfl (by decide +kernel) ⟨Nat.le_of_ble_eq_true rfl, Nat.le_of_ble_eq_true rfl⟩) ⟨mPre.blind, (va_recv hK hP (ci := 11) (q0 := 0) rfl rfl), mPre.to (hP.sub [0, 2, 4] rfl) hK (hD.sub [0, 2, 4] (by decide) rfl) hE⟩ rfl rfl hl.1 rfl (lv_room (Nat.le_of_ble_eq_true rfl)) dX9_state_68 ⟨Nat.le_of_ble_eq_true rfl, Nat.le_of_ble_eq_true rfl⟩) (fun r_4 u H locs hw hP hD hS => ?_)
          try dsimp only at hw
          have hP : va_P D vwCl [(ce_xm bd x_thrown_3 x_men x_ships x_entries x_rules x_calls x_gangs x_idle x_moved x_paid x_taped x_at x_end x_begin x_faultAt x_wants), ((bd 7), .inl (y 0, 10, .inl x_came)), ((bd 8), .inl (y 0, 10, .inl x_hatches)), ((bd 9), .inl (y 0, 10, .inl x_waited)), ((bd 10), .inl (y 0, 40, .inl x_tons))] H := hP
          have hD : va_D A [(ce_xm bd x_thrown_3 x_men x_ships x_entries x_rules x_calls x_gangs x_idle x_moved x_paid x_taped x_at x_end x_begin x_faultAt x_wants), ((bd 7), .inl (y 0, 10, .inl x_came)), ((bd 8), .inl (y 0, 10, .inl x_hatches)), ((bd 9), .inl (y 0, 10, .inl x_waited)), ((bd 10), .inl (y 0, 40, .inl x_tons))] := hD
          refine lv_if_ne (tgt := 78) hx hb dX9_state_71 (by decide) (fun hc => ?_) (fun hc => ?_)
          · have hw := hw.2 hc
            refine lv_iconst (v := 0) hx hb dX9_state_78 (by decide) ?_
            exact W.iret (v := 0) hx hb hr (fun t ht hW => ⟨⟨0, (x_thrown_3), rfl, hw, mAt.to hP hK hD ht hW⟩, hS.F ht⟩) hS.2.2 dX9_state_79
          · have hw := hw.1 hc
            refine lv_iconst (v := 1) hx hb dX9_state_74 (by decide) ?_
            refine lv_goto (tgt := 79) hx hb dX9_state_75 (by decide) ?_
            exact W.iret (v := 1) hx hb hr (fun t ht hW => ⟨⟨1, (x_thrown_3), rfl, hw, mAt.to hP hK hD ht hW⟩, hS.F ht⟩) hS.2.2 dX9_state_79
        · have hw := hw.2 tc2
          by_cases tc3 : p1 = 3
          · have hw := hw.1 tc3
            refine lv_tableIn (off := 59) (tgt := 80) hx hb dX9_state_21 (by rw [tc3]; decide) (by rw [tc3]; decide) (by rw [tc3]; decide) (by decide) ?_
            refine lv_aload_n hx hb dX9_state_80 rfl (lv_at hl 0 rfl) ?_
            refine va_get (ci := 11) (v := .ref (bd 9)) (C := RX9) (T := TX9) (N := 47) hx hb hts inw_X9_state_X9 hown hK hP 0 rfl rfl 10 (by decide) (hts (.fieldLink RX9 34 "DockCallModel" "waited" "[I") (by decide +kernel)) (fun _ h9 => h9) rfl dX9_state_81 ?_
            refine lv_iload_n hx hb dX9_state_84 rfl (lv_at hl 1 rfl) ?_
            obtain ⟨hi, hw⟩ := hw
            refine va_iald hx hb hK hP 3 0 rfl rfl hi dX9_state_85 ?_
            exact W.iret (v := x_waited p0.toNatClampNeg) hx hb hr (fun t ht hW => ⟨⟨x_waited p0.toNatClampNeg, (x_thrown_3), rfl, hw, mAt.to hP hK hD ht hW⟩, hS.F ht⟩) hS.2.2 dX9_state_86
          · have hw := hw.2 tc3
            refine lv_tableOut (tgt := 87) hx hb dX9_state_21 (tw_o 3 rfl (by decide) (fun k hk => by rcases (show k = 0 ∨ k = 1 ∨ k = 2 ∨ k = 3 by omega) with rfl | rfl | rfl | rfl <;> first | exact tc0 | exact tc1 | exact tc2 | exact tc3)) (by decide) ?_
            refine lv_aload_n hx hb dX9_state_87 rfl (lv_at hl 0 rfl) ?_
            refine lv_iconst (v := 2) hx hb dX9_state_88 (by decide) ?_
            refine va_put (ci := 11) (v := .int 2) (ty := .int) (C := RX9) (T := TX9) (N := 47) hx hb hts inw_X9_state_X9 tyX9 tyX9_ok nmX9 hown hK hP hD hS 0 rfl rfl 0 (by decide) (hts (.fieldLink RX9 109 "DockCallModel" "thrown" "I") (by decide +kernel)) (fun _ h9 => h9) rfl (by decide +kernel) rfl rfl (Nat.le_of_ble_eq_true rfl) dX9_state_89 (fun H locs hP hD hS => ?_)
            have hP : va_P D vwCl [(ce_xm bd 2 x_men x_ships x_entries x_rules x_calls x_gangs x_idle x_moved x_paid x_taped x_at x_end x_begin x_faultAt x_wants), ((bd 7), .inl (y 0, 10, .inl x_came)), ((bd 8), .inl (y 0, 10, .inl x_hatches)), ((bd 9), .inl (y 0, 10, .inl x_waited)), ((bd 10), .inl (y 0, 40, .inl x_tons))] H := hP
            have hD : va_D A [(ce_xm bd 2 x_men x_ships x_entries x_rules x_calls x_gangs x_idle x_moved x_paid x_taped x_at x_end x_begin x_faultAt x_wants), ((bd 7), .inl (y 0, 10, .inl x_came)), ((bd 8), .inl (y 0, 10, .inl x_hatches)), ((bd 9), .inl (y 0, 10, .inl x_waited)), ((bd 10), .inl (y 0, 40, .inl x_tons))] := hD
            refine lv_iconst (v := 0) hx hb dX9_state_92 (by decide) ?_
            exact W.iret (v := 0) hx hb hr (fun t ht hW => ⟨⟨0, (2), rfl, hw, mAt.to hP hK hD ht hW⟩, hS.F ht⟩) hS.2.2 dX9_state_93
  · have hw := hw.2 hc
    refine lv_iconst (v := 0) hx hb dX9_state_18 (by decide) ?_
    exact W.iret (v := 0) hx hb hr (fun t ht hW => ⟨⟨0, (x_thrown_3), rfl, hw, mAt.to hP hK hD ht hW⟩, hS.F ht⟩) hS.2.2 dX9_state_19
theorem inw_X9_moneyOf_X9 : ∀ w ∈ wsX90, w ∈ wsX9_moneyOf := fun _ h => List.mem_cons_of_mem _ (List.mem_append_left _ (List.mem_append_right _ h))
def wp_Model_moneyOf_h10 (v1 : Int32) (v2 : Int32) (x_rules : Int32) (x_rEntry : Nat → Int32) (x_rCall : Nat → Int32) (x_rMoney : Nat → Int32)  (Q : Int32 → Prop) : Nat → Int32 → Int32 → Prop
  | 0, _, _ => False
  | n + 1, v3, v4 => ((x_rules ≤ v4 → Q v3) ∧ (¬ x_rules ≤ v4 → (vp_in v4 100 ∧ ((x_rEntry v4.toNatClampNeg = v1 → (vp_in v4 100 ∧ ((v2 < x_rCall v4.toNatClampNeg → wp_Model_moneyOf_h10 v1 v2 x_rules x_rEntry x_rCall x_rMoney Q n v3 (v4 + 1)) ∧ (¬ v2 < x_rCall v4.toNatClampNeg → (vp_in v4 100 ∧ wp_Model_moneyOf_h10 v1 v2 x_rules x_rEntry x_rCall x_rMoney Q n (x_rMoney v4.toNatClampNeg) (v4 + 1)))))) ∧ (¬ x_rEntry v4.toNatClampNeg = v1 → wp_Model_moneyOf_h10 v1 v2 x_rules x_rEntry x_rCall x_rMoney Q n v3 (v4 + 1))))))
def wp_Model_moneyOf (x_rules : Int32) (x_eMoney : Nat → Int32) (x_rEntry : Nat → Int32) (x_rCall : Nat → Int32) (x_rMoney : Nat → Int32) (p0 : Int32) (p1 : Int32) (Q : Int32 → Prop) : Prop := (vp_in p0 800 ∧ (∃ n' : Nat, wp_Model_moneyOf_h10 p0 p1 x_rules x_rEntry x_rCall x_rMoney Q n' (x_eMoney p0.toNatClampNeg) 0))
set_option maxHeartbeats 4000000 in
set_option maxRecDepth 100000 in
theorem c_Model_moneyOf_h10 {p : Program} {l : Launch} {e : Env} {s : State} {m : MethodId} {args : Array Value} {below : List Frame} {meth : Method} {c : Code} {D : va_G} {y : Nat → ClassId} {bd : Nat → Nat} {A : Nat → Prop} (hx : p.tables.exec = Jvm.exec) (hb : c.code = cX9_moneyOf) (hr : meth.sig.returnType = some .int) (hml : c.maxLocals = 5) (hown : s.vm.findClass RX9 = some m.cls) (hts : ∀ w ∈ wsX9_moneyOf, w.before args s = true) (hlocks : meth.locks = false) (hK : va_K D vwCl (TY y) s) (hE : EV s) (hA : ∀ q, s.heap.size ≤ q → A q) {v1 : Int32} {v2 : Int32} {x_rules : Int32} {x_eMoney : Nat → Int32} {x_rEntry : Nat → Int32} {x_rCall : Nat → Int32} {x_rMoney : Nat → Int32} {x_thrown : Int32} {x_men : Int32} {x_ships : Int32} {x_entries : Int32} {x_calls : Int32} {x_gangs : Int32} {x_idle : Int32} {x_moved : Int64} {x_paid : Int64} {x_taped : Int32} {x_at : Int32} {x_end : Int32} {x_begin : Int32} {x_faultAt : Int32} {x_wants : Int32}  {Q : Int32 → Prop}  : ∀ (n : Nat) (v3 : Int32) (v4 : Int32), wp_Model_moneyOf_h10 v1 v2 x_rules x_rEntry x_rCall x_rMoney Q n v3 v4 → ∀ (H : Heap) (locs : List Loc) (ls : Array Slot), va_P D vwCl [(ce_xm bd x_thrown x_men x_ships x_entries x_rules x_calls x_gangs x_idle x_moved x_paid x_taped x_at x_end x_begin x_faultAt x_wants), ((bd 17), .inl (y 0, 800, .inl x_eMoney)), ((bd 18), .inl (y 0, 100, .inl x_rEntry)), ((bd 19), .inl (y 0, 100, .inl x_rCall)), ((bd 20), .inl (y 0, 100, .inl x_rMoney))] H → va_D A [(ce_xm bd x_thrown x_men x_ships x_entries x_rules x_calls x_gangs x_idle x_moved x_paid x_taped x_at x_end x_begin x_faultAt x_wants), ((bd 17), .inl (y 0, 800, .inl x_eMoney)), ((bd 18), .inl (y 0, 100, .inl x_rEntry)), ((bd 19), .inl (y 0, 100, .inl x_rCall)), ((bd 20), .inl (y 0, 100, .inl x_rMoney))] → va_S A s.heap H locs → lv_has ls 5 [(4, .int v4), (3, .int v3), (0, .ref (bd 0)), (1, .int v1), (2, .int v2)] → W p l e ({ frames := 0, cells := 0, slots := 0, locals := 0 }) s m args below meth c H locs 0 0 (MQ below (va_Qi (fun (r : Int32) (u : Unit) => Q r ) (mAt D y A (fun (u : Unit) => [(ce_xm bd x_thrown x_men x_ships x_entries x_rules x_calls x_gangs x_idle x_moved x_paid x_taped x_at x_end x_begin x_faultAt x_wants), ((bd 17), .inl (y 0, 800, .inl x_eMoney)), ((bd 18), .inl (y 0, 100, .inl x_rEntry)), ((bd 19), .inl (y 0, 100, .inl x_rCall)), ((bd 20), .inl (y 0, 100, .inl x_rMoney))])) A) args s 0 0 A) (F0 m 10 ls []) := by
  intro n
  induction n with
  | zero => intro v3 v4 hw; rw [wp_Model_moneyOf_h10] at hw; exact hw.elim
  | succ n ih =>
    intro v3 v4 hw H locs ls hP hD hS hl
    rw [wp_Model_moneyOf_h10] at hw
    refine lv_iload hx hb dX9_moneyOf_10 (lv_at hl 0 rfl) ?_
    refine lv_aload_n hx hb dX9_moneyOf_12 rfl (lv_at hl 2 rfl) ?_
    refine va_get (ci := 11) (v := .int x_rules) (C := RX9) (T := TX9) (N := 47) hx hb hts inw_X9_moneyOf_X9 hown hK hP 0 rfl rfl 24 (by decide) (hts (.fieldLink RX9 264 "DockCallModel" "rules" "I") (by decide +kernel)) (fun _ h9 => h9) rfl dX9_moneyOf_13 ?_
    refine lv_icmp_ge (tgt := 55) hx hb dX9_moneyOf_16 (by decide) (fun hc => ?_) (fun hc => ?_)
    · have hw := hw.1 hc
      refine lv_iload_n hx hb dX9_moneyOf_55 rfl (lv_at hl 1 rfl) ?_
      exact W.iret (v := v3) hx hb hr (fun t ht hW => ⟨⟨v3, (), rfl, hw, mAt.to hP hK hD ht hW⟩, hS.F ht⟩) hS.2.2 dX9_moneyOf_56
    · have hw := hw.2 hc
      refine lv_aload_n hx hb dX9_moneyOf_19 rfl (lv_at hl 2 rfl) ?_
      refine va_get (ci := 11) (v := .ref (bd 18)) (C := RX9) (T := TX9) (N := 47) hx hb hts inw_X9_moneyOf_X9 hown hK hP 0 rfl rfl 21 (by decide) (hts (.fieldLink RX9 62 "DockCallModel" "rEntry" "[I") (by decide +kernel)) (fun _ h9 => h9) rfl dX9_moneyOf_20 ?_
      refine lv_iload hx hb dX9_moneyOf_23 (lv_at hl 0 rfl) ?_
      obtain ⟨hi, hw⟩ := hw
      refine va_iald hx hb hK hP 2 0 rfl rfl hi dX9_moneyOf_25 ?_
      refine lv_iload_n hx hb dX9_moneyOf_26 rfl (lv_at hl 3 rfl) ?_
      refine lv_icmp_ne (tgt := 49) hx hb dX9_moneyOf_27 (by decide) (fun hc => ?_) (fun hc => ?_)
      · have hw := hw.2 hc
        refine lv_iinc (v := v4 + 1) (lv' := [(4, .int (v4 + 1)), (3, .int v3), (0, .ref (bd 0)), (1, .int v1), (2, .int v2)]) hx hb dX9_moneyOf_49 hl (k := 0) rfl (by first | rfl | decide) (by decide) rfl (fun ls hl => ?_)
        refine lv_goto (tgt := 10) hx hb dX9_moneyOf_52 (by decide) ?_
        exact ih v3 (v4 + 1)  hw _ _ _ hP hD hS (lv_sub hl [0, 1, 2, 3, 4] rfl)
      · have hw := hw.1 hc
        refine lv_aload_n hx hb dX9_moneyOf_30 rfl (lv_at hl 2 rfl) ?_
        refine va_get (ci := 11) (v := .ref (bd 19)) (C := RX9) (T := TX9) (N := 47) hx hb hts inw_X9_moneyOf_X9 hown hK hP 0 rfl rfl 22 (by decide) (hts (.fieldLink RX9 65 "DockCallModel" "rCall" "[I") (by decide +kernel)) (fun _ h9 => h9) rfl dX9_moneyOf_31 ?_
        refine lv_iload hx hb dX9_moneyOf_34 (lv_at hl 0 rfl) ?_
        obtain ⟨hi, hw⟩ := hw
        refine va_iald hx hb hK hP 3 0 rfl rfl hi dX9_moneyOf_36 ?_
        refine lv_iload_n hx hb dX9_moneyOf_37 rfl (lv_at hl 4 rfl) ?_
        refine lv_icmp_gt (tgt := 49) hx hb dX9_moneyOf_38 (by decide) (fun hc => ?_) (fun hc => ?_)
        · have hw := hw.1 hc
          refine lv_iinc (v := v4 + 1) (lv' := [(4, .int (v4 + 1)), (3, .int v3), (0, .ref (bd 0)), (1, .int v1), (2, .int v2)]) hx hb dX9_moneyOf_49 hl (k := 0) rfl (by first | rfl | decide) (by decide) rfl (fun ls hl => ?_)
          refine lv_goto (tgt := 10) hx hb dX9_moneyOf_52 (by decide) ?_
          exact ih v3 (v4 + 1)  hw _ _ _ hP hD hS (lv_sub hl [0, 1, 2, 3, 4] rfl)
        · have hw := hw.2 hc
          refine lv_aload_n hx hb dX9_moneyOf_41 rfl (lv_at hl 2 rfl) ?_
          refine va_get (ci := 11) (v := .ref (bd 20)) (C := RX9) (T := TX9) (N := 47) hx hb hts inw_X9_moneyOf_X9 hown hK hP 0 rfl rfl 23 (by decide) (hts (.fieldLink RX9 68 "DockCallModel" "rMoney" "[I") (by decide +kernel)) (fun _ h9 => h9) rfl dX9_moneyOf_42 ?_
          refine lv_iload hx hb dX9_moneyOf_45 (lv_at hl 0 rfl) ?_
          obtain ⟨hi, hw⟩ := hw
          refine va_iald hx hb hK hP 4 0 rfl rfl hi dX9_moneyOf_47 ?_
          refine lv_istore_n (lv' := [(3, .int (x_rMoney v4.toNatClampNeg)), (4, .int v4), (0, .ref (bd 0)), (1, .int v1), (2, .int v2)]) hx hb dX9_moneyOf_48 rfl hl (by decide) rfl (fun ls hl => ?_)
          refine lv_iinc (v := v4 + 1) (lv' := [(4, .int (v4 + 1)), (3, .int (x_rMoney v4.toNatClampNeg)), (0, .ref (bd 0)), (1, .int v1), (2, .int v2)]) hx hb dX9_moneyOf_49 hl (k := 1) rfl (by first | rfl | decide) (by decide) rfl (fun ls hl => ?_)
          refine lv_goto (tgt := 10) hx hb dX9_moneyOf_52 (by decide) ?_
          exact ih (x_rMoney v4.toNatClampNeg) (v4 + 1)  hw _ _ _ hP hD hS (lv_sub hl [0, 1, 2, 3, 4] rfl)
set_option maxHeartbeats 4000000 in
set_option maxRecDepth 100000 in
theorem c_Model_moneyOf (l : Launch) (D : va_G) (y : Nat → ClassId) (bd : Nat → Nat) (sz : Nat) (x_thrown : Int32) (x_men : Int32) (x_ships : Int32) (x_entries : Int32) (x_rules : Int32) (x_calls : Int32) (x_gangs : Int32) (x_idle : Int32) (x_moved : Int64) (x_paid : Int64) (x_taped : Int32) (x_at : Int32) (x_end : Int32) (x_begin : Int32) (x_faultAt : Int32) (x_wants : Int32) (x_eMoney : Nat → Int32) (x_rEntry : Nat → Int32) (x_rCall : Nat → Int32) (x_rMoney : Nat → Int32) (p0 : Int32) (p1 : Int32) {Q : Int32 → Prop} (hw : wp_Model_moneyOf x_rules x_eMoney x_rEntry x_rCall x_rMoney p0 p1 Q) : Met l yX9_moneyOf wsX9_moneyOf ({ frames := 0, cells := 0, slots := 0, locals := 0 }) (va_Pc [.ref (bd 0), .int p0, .int p1] (mPre D y sz [(ce_xm bd x_thrown x_men x_ships x_entries x_rules x_calls x_gangs x_idle x_moved x_paid x_taped x_at x_end x_begin x_faultAt x_wants), ((bd 17), .inl (y 0, 800, .inl x_eMoney)), ((bd 18), .inl (y 0, 100, .inl x_rEntry)), ((bd 19), .inl (y 0, 100, .inl x_rCall)), ((bd 20), .inl (y 0, 100, .inl x_rMoney))])) (va_Qi (fun (r : Int32) (u : Unit) => Q r ) (mAt D y (va_A [(ce_xm bd x_thrown x_men x_ships x_entries x_rules x_calls x_gangs x_idle x_moved x_paid x_taped x_at x_end x_begin x_faultAt x_wants), ((bd 17), .inl (y 0, 800, .inl x_eMoney)), ((bd 18), .inl (y 0, 100, .inl x_rEntry)), ((bd 19), .inl (y 0, 100, .inl x_rCall)), ((bd 20), .inl (y 0, 100, .inl x_rMoney))] sz) (fun (u : Unit) => [(ce_xm bd x_thrown x_men x_ships x_entries x_rules x_calls x_gangs x_idle x_moved x_paid x_taped x_at x_end x_begin x_faultAt x_wants), ((bd 17), .inl (y 0, 800, .inl x_eMoney)), ((bd 18), .inl (y 0, 100, .inl x_rEntry)), ((bd 19), .inl (y 0, 100, .inl x_rCall)), ((bd 20), .inl (y 0, 100, .inl x_rMoney))])) (va_A [(ce_xm bd x_thrown x_men x_ships x_entries x_rules x_calls x_gangs x_idle x_moved x_paid x_taped x_at x_end x_begin x_faultAt x_wants), ((bd 17), .inl (y 0, 800, .inl x_eMoney)), ((bd 18), .inl (y 0, 100, .inl x_rEntry)), ((bd 19), .inl (y 0, 100, .inl x_rCall)), ((bd 20), .inl (y 0, 100, .inl x_rMoney))] sz)) 0 0 (va_A [(ce_xm bd x_thrown x_men x_ships x_entries x_rules x_calls x_gangs x_idle x_moved x_paid x_taped x_at x_end x_begin x_faultAt x_wants), ((bd 17), .inl (y 0, 800, .inl x_eMoney)), ((bd 18), .inl (y 0, 100, .inl x_rEntry)), ((bd 19), .inl (y 0, 100, .inl x_rCall)), ((bd 20), .inl (y 0, 100, .inl x_rMoney))] sz) := by
  unfold wp_Model_moneyOf at hw
  refine Met.ofW (cc := cX9_moneyOf) (maxL := 5) (ret := some .int) (by decide) rfl ?_
  intro p e s m args below meth c s₁ B hml hv
  obtain ⟨rfl, hsz, hP, hK, hD0, hE⟩ := hv
  have hx := B.exec
  have hb := B.bytes
  have hr := B.returns
  have hts := atoms_spec (ws := wsX9_moneyOf) B.pre
  have hown : s.vm.findClass RX9 = some m.cls := findClass_of_methodNamed B.named
  have hlocks := B.notSynchronized
  subst hsz
  have hD := hD0.self (sz := s.heap.size)
  generalize hAe : va_A [(ce_xm bd x_thrown x_men x_ships x_entries x_rules x_calls x_gangs x_idle x_moved x_paid x_taped x_at x_end x_begin x_faultAt x_wants), ((bd 17), .inl (y 0, 800, .inl x_eMoney)), ((bd 18), .inl (y 0, 100, .inl x_rEntry)), ((bd 19), .inl (y 0, 100, .inl x_rCall)), ((bd 20), .inl (y 0, 100, .inl x_rMoney))] s.heap.size = A at hD ⊢
  have hA : ∀ q : Nat, s.heap.size ≤ q → A q := fun q h => by rw [← hAe]; exact Or.inr h
  have hS : va_S A s.heap s.heap [] := va_S.rf
  have hP : va_P D vwCl [(ce_xm bd x_thrown x_men x_ships x_entries x_rules x_calls x_gangs x_idle x_moved x_paid x_taped x_at x_end x_begin x_faultAt x_wants), ((bd 17), .inl (y 0, 800, .inl x_eMoney)), ((bd 18), .inl (y 0, 100, .inl x_rEntry)), ((bd 19), .inl (y 0, 100, .inl x_rCall)), ((bd 20), .inl (y 0, 100, .inl x_rMoney))] s.heap := hP
  have hl := lv_entry ([.ref (bd 0), .int p0, .int p1]) (n := 5) (Nat.le_of_ble_eq_true rfl)
  rw [lg_entry_eq]
  generalize (lg_sl ([.ref (bd 0), .int p0, .int p1]) ++ List.replicate (5 - (lg_sl ([.ref (bd 0), .int p0, .int p1])).length) Slot.unset).toArray = ls at hl ⊢
  have hl : lv_has ls 5 [(0, .ref (bd 0)), (1, .int p0), (2, .int p1)] := hl
  refine lv_aload_n hx hb dX9_moneyOf_0 rfl (lv_at hl 0 rfl) ?_
  refine va_get (ci := 11) (v := .ref (bd 17)) (C := RX9) (T := TX9) (N := 47) hx hb hts inw_X9_moneyOf_X9 hown hK hP 0 rfl rfl 19 (by decide) (hts (.fieldLink RX9 59 "DockCallModel" "eMoney" "[I") (by decide +kernel)) (fun _ h9 => h9) rfl dX9_moneyOf_1 ?_
  refine lv_iload_n hx hb dX9_moneyOf_4 rfl (lv_at hl 1 rfl) ?_
  obtain ⟨hi, hw⟩ := hw
  refine va_iald hx hb hK hP 1 0 rfl rfl hi dX9_moneyOf_5 ?_
  refine lv_istore_n (lv' := [(3, .int (x_eMoney p0.toNatClampNeg)), (0, .ref (bd 0)), (1, .int p0), (2, .int p1)]) hx hb dX9_moneyOf_6 rfl hl (by decide) rfl (fun ls hl => ?_)
  refine lv_iconst (v := 0) hx hb dX9_moneyOf_7 (by decide) ?_
  refine lv_istore (lv' := [(4, .int 0), (3, .int (x_eMoney p0.toNatClampNeg)), (0, .ref (bd 0)), (1, .int p0), (2, .int p1)]) hx hb dX9_moneyOf_8 hl (by decide) rfl (fun ls hl => ?_)
  obtain ⟨n', hw⟩ := hw
  exact c_Model_moneyOf_h10 hx hb hr hml hown hts hlocks hK hE hA  n' (x_eMoney p0.toNatClampNeg) 0 hw _ _ _ hP hD hS (lv_sub hl [0, 1, 2, 3, 4] rfl)
theorem inw_X9_entry_X9 : ∀ w ∈ wsX90, w ∈ wsX9_entry := fun _ h => List.mem_cons_of_mem _ (List.mem_append_left _ (List.mem_append_right _ h))
def wp_Model_entry (x_entries : Int32) (x_rules : Int32) (x_calls : Int32) (x_eCall : Nat → Int32) (x_eMan : Nat → Int32) (x_eMoney : Nat → Int32) (x_rEntry : Nat → Int32) (x_rCall : Nat → Int32) (x_rMoney : Nat → Int32) (p0 : Int32) (p1 : Int32) (Q : Int32 → Int32 → Prop) : Prop := (wp_Model_in p0.toInt64 0 ((x_entries - 1).toInt64) (fun r_1 => ((r_1 = 0 → (wp_Model_throwsIf 0 1 1 (fun r_5 x_thrown_6 => ((r_5 = 0 → ((p1 = 0 → (vp_in p0 800 ∧ Q (x_eCall p0.toNatClampNeg) x_thrown_6)) ∧ (¬ p1 = 0 → ((p1 = 1 → (vp_in p0 800 ∧ Q (x_eMan p0.toNatClampNeg) x_thrown_6)) ∧ (¬ p1 = 1 → ((p1 = 2 → (vp_in p0 800 ∧ Q (x_eMoney p0.toNatClampNeg) x_thrown_6)) ∧ (¬ p1 = 2 → ((p1 = 3 → (wp_Model_moneyOf x_rules x_eMoney x_rEntry x_rCall x_rMoney p0 x_calls (fun r_7 => Q r_7 x_thrown_6))) ∧ (¬ p1 = 3 → Q 0 2))))))))) ∧ (¬ r_5 = 0 → Q 0 x_thrown_6))))) ∧ (¬ r_1 = 0 → (wp_Model_throwsIf 0 0 1 (fun r_2 x_thrown_3 => ((r_2 = 0 → ((p1 = 0 → (vp_in p0 800 ∧ Q (x_eCall p0.toNatClampNeg) x_thrown_3)) ∧ (¬ p1 = 0 → ((p1 = 1 → (vp_in p0 800 ∧ Q (x_eMan p0.toNatClampNeg) x_thrown_3)) ∧ (¬ p1 = 1 → ((p1 = 2 → (vp_in p0 800 ∧ Q (x_eMoney p0.toNatClampNeg) x_thrown_3)) ∧ (¬ p1 = 2 → ((p1 = 3 → (wp_Model_moneyOf x_rules x_eMoney x_rEntry x_rCall x_rMoney p0 x_calls (fun r_4 => Q r_4 x_thrown_3))) ∧ (¬ p1 = 3 → Q 0 2))))))))) ∧ (¬ r_2 = 0 → Q 0 x_thrown_3))))))))
set_option maxHeartbeats 4000000 in
set_option maxRecDepth 100000 in
theorem c_Model_entry (l : Launch) (D : va_G) (y : Nat → ClassId) (bd : Nat → Nat) (sz : Nat) (x_thrown : Int32) (x_men : Int32) (x_ships : Int32) (x_entries : Int32) (x_rules : Int32) (x_calls : Int32) (x_gangs : Int32) (x_idle : Int32) (x_moved : Int64) (x_paid : Int64) (x_taped : Int32) (x_at : Int32) (x_end : Int32) (x_begin : Int32) (x_faultAt : Int32) (x_wants : Int32) (x_eCall : Nat → Int32) (x_eMan : Nat → Int32) (x_eMoney : Nat → Int32) (x_rEntry : Nat → Int32) (x_rCall : Nat → Int32) (x_rMoney : Nat → Int32) (p0 : Int32) (p1 : Int32) {Q : Int32 → Int32 → Prop} (hw : wp_Model_entry x_entries x_rules x_calls x_eCall x_eMan x_eMoney x_rEntry x_rCall x_rMoney p0 p1 Q) : Met l yX9_entry wsX9_entry ({ frames := 1, cells := 0, slots := 0, locals := 25 }) (va_Pc [.ref (bd 0), .int p0, .int p1] (mPre D y sz [(ce_xm bd x_thrown x_men x_ships x_entries x_rules x_calls x_gangs x_idle x_moved x_paid x_taped x_at x_end x_begin x_faultAt x_wants), ((bd 15), .inl (y 0, 800, .inl x_eCall)), ((bd 16), .inl (y 0, 800, .inl x_eMan)), ((bd 17), .inl (y 0, 800, .inl x_eMoney)), ((bd 18), .inl (y 0, 100, .inl x_rEntry)), ((bd 19), .inl (y 0, 100, .inl x_rCall)), ((bd 20), .inl (y 0, 100, .inl x_rMoney))])) (va_Qi (fun (r : Int32) (u : Int32) => Q r u) (mAt D y (va_A [(ce_xm bd x_thrown x_men x_ships x_entries x_rules x_calls x_gangs x_idle x_moved x_paid x_taped x_at x_end x_begin x_faultAt x_wants), ((bd 15), .inl (y 0, 800, .inl x_eCall)), ((bd 16), .inl (y 0, 800, .inl x_eMan)), ((bd 17), .inl (y 0, 800, .inl x_eMoney)), ((bd 18), .inl (y 0, 100, .inl x_rEntry)), ((bd 19), .inl (y 0, 100, .inl x_rCall)), ((bd 20), .inl (y 0, 100, .inl x_rMoney))] sz) (fun (u : Int32) => [(ce_xm bd u x_men x_ships x_entries x_rules x_calls x_gangs x_idle x_moved x_paid x_taped x_at x_end x_begin x_faultAt x_wants), ((bd 15), .inl (y 0, 800, .inl x_eCall)), ((bd 16), .inl (y 0, 800, .inl x_eMan)), ((bd 17), .inl (y 0, 800, .inl x_eMoney)), ((bd 18), .inl (y 0, 100, .inl x_rEntry)), ((bd 19), .inl (y 0, 100, .inl x_rCall)), ((bd 20), .inl (y 0, 100, .inl x_rMoney))])) (va_A [(ce_xm bd x_thrown x_men x_ships x_entries x_rules x_calls x_gangs x_idle x_moved x_paid x_taped x_at x_end x_begin x_faultAt x_wants), ((bd 15), .inl (y 0, 800, .inl x_eCall)), ((bd 16), .inl (y 0, 800, .inl x_eMan)), ((bd 17), .inl (y 0, 800, .inl x_eMoney)), ((bd 18), .inl (y 0, 100, .inl x_rEntry)), ((bd 19), .inl (y 0, 100, .inl x_rCall)), ((bd 20), .inl (y 0, 100, .inl x_rMoney))] sz)) 0 0 (va_A [(ce_xm bd x_thrown x_men x_ships x_entries x_rules x_calls x_gangs x_idle x_moved x_paid x_taped x_at x_end x_begin x_faultAt x_wants), ((bd 15), .inl (y 0, 800, .inl x_eCall)), ((bd 16), .inl (y 0, 800, .inl x_eMan)), ((bd 17), .inl (y 0, 800, .inl x_eMoney)), ((bd 18), .inl (y 0, 100, .inl x_rEntry)), ((bd 19), .inl (y 0, 100, .inl x_rCall)), ((bd 20), .inl (y 0, 100, .inl x_rMoney))] sz) := by
  unfold wp_Model_entry at hw
  refine Met.ofW (cc := cX9_entry) (maxL := 3) (ret := some .int) (by decide) rfl ?_
  intro p e s m args below meth c s₁ B hml hv
  obtain ⟨rfl, hsz, hP, hK, hD0, hE⟩ := hv
  have hx := B.exec
  have hb := B.bytes
  have hr := B.returns
  have hts := atoms_spec (ws := wsX9_entry) B.pre
  have hown : s.vm.findClass RX9 = some m.cls := findClass_of_methodNamed B.named
  have hlocks := B.notSynchronized
  subst hsz
  have hD := hD0.self (sz := s.heap.size)
  generalize hAe : va_A [(ce_xm bd x_thrown x_men x_ships x_entries x_rules x_calls x_gangs x_idle x_moved x_paid x_taped x_at x_end x_begin x_faultAt x_wants), ((bd 15), .inl (y 0, 800, .inl x_eCall)), ((bd 16), .inl (y 0, 800, .inl x_eMan)), ((bd 17), .inl (y 0, 800, .inl x_eMoney)), ((bd 18), .inl (y 0, 100, .inl x_rEntry)), ((bd 19), .inl (y 0, 100, .inl x_rCall)), ((bd 20), .inl (y 0, 100, .inl x_rMoney))] s.heap.size = A at hD ⊢
  have hA : ∀ q : Nat, s.heap.size ≤ q → A q := fun q h => by rw [← hAe]; exact Or.inr h
  have hS : va_S A s.heap s.heap [] := va_S.rf
  have hP : va_P D vwCl [(ce_xm bd x_thrown x_men x_ships x_entries x_rules x_calls x_gangs x_idle x_moved x_paid x_taped x_at x_end x_begin x_faultAt x_wants), ((bd 15), .inl (y 0, 800, .inl x_eCall)), ((bd 16), .inl (y 0, 800, .inl x_eMan)), ((bd 17), .inl (y 0, 800, .inl x_eMoney)), ((bd 18), .inl (y 0, 100, .inl x_rEntry)), ((bd 19), .inl (y 0, 100, .inl x_rCall)), ((bd 20), .inl (y 0, 100, .inl x_rMoney))] s.heap := hP
  have hl := lv_entry ([.ref (bd 0), .int p0, .int p1]) (n := 3) (Nat.le_of_ble_eq_true rfl)
  rw [lg_entry_eq]
  generalize (lg_sl ([.ref (bd 0), .int p0, .int p1]) ++ List.replicate (3 - (lg_sl ([.ref (bd 0), .int p0, .int p1])).length) Slot.unset).toArray = ls at hl ⊢
  have hl : lv_has ls 3 [(0, .ref (bd 0)), (1, .int p0), (2, .int p1)] := hl
  refine lv_aload_n hx hb dX9_entry_0 rfl (lv_at hl 0 rfl) ?_
  refine lv_iconst (v := 0) hx hb dX9_entry_1 (by decide) ?_
  refine va_put (ci := 11) (v := .int 0) (ty := .int) (C := RX9) (T := TX9) (N := 47) hx hb hts inw_X9_entry_X9 tyX9 tyX9_ok nmX9 hown hK hP hD hS 0 rfl rfl 0 (by decide) (hts (.fieldLink RX9 109 "DockCallModel" "thrown" "I") (by decide +kernel)) (fun _ h9 => h9) rfl (by decide +kernel) rfl rfl (Nat.le_of_ble_eq_true rfl) dX9_entry_2 (fun H locs hP hD hS => ?_)
  have hP : va_P D vwCl [(ce_xm bd 0 x_men x_ships x_entries x_rules x_calls x_gangs x_idle x_moved x_paid x_taped x_at x_end x_begin x_faultAt x_wants), ((bd 15), .inl (y 0, 800, .inl x_eCall)), ((bd 16), .inl (y 0, 800, .inl x_eMan)), ((bd 17), .inl (y 0, 800, .inl x_eMoney)), ((bd 18), .inl (y 0, 100, .inl x_rEntry)), ((bd 19), .inl (y 0, 100, .inl x_rCall)), ((bd 20), .inl (y 0, 100, .inl x_rMoney))] H := hP
  have hD : va_D A [(ce_xm bd 0 x_men x_ships x_entries x_rules x_calls x_gangs x_idle x_moved x_paid x_taped x_at x_end x_begin x_faultAt x_wants), ((bd 15), .inl (y 0, 800, .inl x_eCall)), ((bd 16), .inl (y 0, 800, .inl x_eMan)), ((bd 17), .inl (y 0, 800, .inl x_eMoney)), ((bd 18), .inl (y 0, 100, .inl x_rEntry)), ((bd 19), .inl (y 0, 100, .inl x_rCall)), ((bd 20), .inl (y 0, 100, .inl x_rMoney))] := hD
  refine lv_aload_n hx hb dX9_entry_5 rfl (lv_at hl 0 rfl) ?_
  refine lv_iload_n hx hb dX9_entry_6 rfl (lv_at hl 1 rfl) ?_
  refine lv_i2l hx hb dX9_entry_7 rfl ?_
  refine lv_lconst (v := 0) hx hb dX9_entry_8 (by decide) ?_
  refine lv_aload_n hx hb dX9_entry_9 rfl (lv_at hl 0 rfl) ?_
  refine va_get (ci := 11) (v := .int x_entries) (C := RX9) (T := TX9) (N := 47) hx hb hts inw_X9_entry_X9 hown hK hP 0 rfl rfl 20 (by decide) (hts (.fieldLink RX9 224 "DockCallModel" "entries" "I") (by decide +kernel)) (fun _ h9 => h9) rfl dX9_entry_10 ?_
  refine lv_iconst (v := 1) hx hb dX9_entry_13 (by decide) ?_
  refine lv_isub hx hb dX9_entry_14 ?_
  refine lv_i2l hx hb dX9_entry_15 rfl ?_
  refine mx_i (wc := []) (wr := [(ce_xm bd 0 x_men x_ships x_entries x_rules x_calls x_gangs x_idle x_moved x_paid x_taped x_at x_end x_begin x_faultAt x_wants), ((bd 15), .inl (y 0, 800, .inl x_eCall)), ((bd 16), .inl (y 0, 800, .inl x_eMan)), ((bd 17), .inl (y 0, 800, .inl x_eMoney)), ((bd 18), .inl (y 0, 100, .inl x_rEntry)), ((bd 19), .inl (y 0, 100, .inl x_rCall)), ((bd 20), .inl (y 0, 100, .inl x_rMoney))]) hP hD hS hA [] [0, 1, 2, 3, 4, 5, 6] [0, 1, 2, 3, 4, 5, 6] rfl rfl (by decide) (by decide) (by decide) (fun (u : Unit) => [(ce_xm bd 0 x_men x_ships x_entries x_rules x_calls x_gangs x_idle x_moved x_paid x_taped x_at x_end x_begin x_faultAt x_wants), ((bd 15), .inl (y 0, 800, .inl x_eCall)), ((bd 16), .inl (y 0, 800, .inl x_eMan)), ((bd 17), .inl (y 0, 800, .inl x_eMoney)), ((bd 18), .inl (y 0, 100, .inl x_rEntry)), ((bd 19), .inl (y 0, 100, .inl x_rCall)), ((bd 20), .inl (y 0, 100, .inl x_rMoney))]) (fun _ => rfl) (va_runS (As := [.long p0.toInt64, .long 0, .long ((x_entries - 1).toInt64)]) (rest := [.ref (bd 0)]) ⟨hx, hb, hml, hown, hts⟩ (c_Model_in l D y H.size p0.toInt64 0 ((x_entries - 1).toInt64) hw) (va_cwS 3 hts gX9_entry_X9_in rfl rfl rfl (by decide +kernel) ⟨Nat.le_of_ble_eq_true rfl, Nat.le_of_ble_eq_true rfl⟩) ⟨mPre.blind, mPre.to (hP.sub [] rfl) hK (hD.sub [] (by decide) rfl) hE⟩ rfl rfl hl.1 rfl (lv_room (Nat.le_of_ble_eq_true rfl)) dX9_entry_16 ⟨Nat.le_of_ble_eq_true rfl, Nat.le_of_ble_eq_true rfl⟩) (fun r_1 u H locs hw hP hD hS => ?_)
  try dsimp only at hw
  have hP : va_P D vwCl [(ce_xm bd 0 x_men x_ships x_entries x_rules x_calls x_gangs x_idle x_moved x_paid x_taped x_at x_end x_begin x_faultAt x_wants), ((bd 15), .inl (y 0, 800, .inl x_eCall)), ((bd 16), .inl (y 0, 800, .inl x_eMan)), ((bd 17), .inl (y 0, 800, .inl x_eMoney)), ((bd 18), .inl (y 0, 100, .inl x_rEntry)), ((bd 19), .inl (y 0, 100, .inl x_rCall)), ((bd 20), .inl (y 0, 100, .inl x_rMoney))] H := hP
  have hD : va_D A [(ce_xm bd 0 x_men x_ships x_entries x_rules x_calls x_gangs x_idle x_moved x_paid x_taped x_at x_end x_begin x_faultAt x_wants), ((bd 15), .inl (y 0, 800, .inl x_eCall)), ((bd 16), .inl (y 0, 800, .inl x_eMan)), ((bd 17), .inl (y 0, 800, .inl x_eMoney)), ((bd 18), .inl (y 0, 100, .inl x_rEntry)), ((bd 19), .inl (y 0, 100, .inl x_rCall)), ((bd 20), .inl (y 0, 100, .inl x_rMoney))] := hD
  refine lv_if_ne (tgt := 26) hx hb dX9_entry_19 (by decide) (fun hc => ?_) (fun hc => ?_)
  · have hw := hw.2 hc
    refine lv_iconst (v := 0) hx hb dX9_entry_26 (by decide) ?_
    refine lv_iconst (v := 1) hx hb dX9_entry_27 (by decide) ?_
    refine mx_i (wc := [(ce_xm bd 0 x_men x_ships x_entries x_rules x_calls x_gangs x_idle x_moved x_paid x_taped x_at x_end x_begin x_faultAt x_wants)]) (wr := [((bd 15), .inl (y 0, 800, .inl x_eCall)), ((bd 16), .inl (y 0, 800, .inl x_eMan)), ((bd 17), .inl (y 0, 800, .inl x_eMoney)), ((bd 18), .inl (y 0, 100, .inl x_rEntry)), ((bd 19), .inl (y 0, 100, .inl x_rCall)), ((bd 20), .inl (y 0, 100, .inl x_rMoney))]) hP hD hS hA [0] [1, 2, 3, 4, 5, 6] [6, 0, 1, 2, 3, 4, 5] rfl rfl (by decide) (by decide) (by decide) (fun (u : Int32) => [(ce_xm bd u x_men x_ships x_entries x_rules x_calls x_gangs x_idle x_moved x_paid x_taped x_at x_end x_begin x_faultAt x_wants), ((bd 15), .inl (y 0, 800, .inl x_eCall)), ((bd 16), .inl (y 0, 800, .inl x_eMan)), ((bd 17), .inl (y 0, 800, .inl x_eMoney)), ((bd 18), .inl (y 0, 100, .inl x_rEntry)), ((bd 19), .inl (y 0, 100, .inl x_rCall)), ((bd 20), .inl (y 0, 100, .inl x_rMoney))]) (fun _ => rfl) (va_runV (As := [.int 0, .int 1]) (rest := []) ⟨hx, hb, hml, hown, hts⟩ (c_Model_throwsIf l D y bd H.size 0 x_men x_ships x_entries x_rules x_calls x_gangs x_idle x_moved x_paid x_taped x_at x_end x_begin x_faultAt x_wants 0 1 hw) (cwV 2 hts gX9_entry_X9_throwsIf rfl rfl rfl (by decide +kernel) ⟨Nat.le_of_ble_eq_true rfl, Nat.le_of_ble_eq_true rfl⟩) ⟨mPre.blind, (va_recv hK hP (ci := 11) (q0 := 0) rfl rfl), mPre.to (hP.sub [0] rfl) hK (hD.sub [0] (by decide) rfl) hE⟩ rfl rfl hl.1 rfl (lv_room (Nat.le_of_ble_eq_true rfl)) dX9_entry_28 ⟨Nat.le_of_ble_eq_true rfl, Nat.le_of_ble_eq_true rfl⟩) (fun r_2 u H locs hw hP hD hS => ?_)
    obtain ⟨x_thrown_3, rfl⟩ : ∃ z, z = u := ⟨_, rfl⟩
    try dsimp only at hw
    have hP : va_P D vwCl [(ce_xm bd x_thrown_3 x_men x_ships x_entries x_rules x_calls x_gangs x_idle x_moved x_paid x_taped x_at x_end x_begin x_faultAt x_wants), ((bd 15), .inl (y 0, 800, .inl x_eCall)), ((bd 16), .inl (y 0, 800, .inl x_eMan)), ((bd 17), .inl (y 0, 800, .inl x_eMoney)), ((bd 18), .inl (y 0, 100, .inl x_rEntry)), ((bd 19), .inl (y 0, 100, .inl x_rCall)), ((bd 20), .inl (y 0, 100, .inl x_rMoney))] H := hP
    have hD : va_D A [(ce_xm bd x_thrown_3 x_men x_ships x_entries x_rules x_calls x_gangs x_idle x_moved x_paid x_taped x_at x_end x_begin x_faultAt x_wants), ((bd 15), .inl (y 0, 800, .inl x_eCall)), ((bd 16), .inl (y 0, 800, .inl x_eMan)), ((bd 17), .inl (y 0, 800, .inl x_eMoney)), ((bd 18), .inl (y 0, 100, .inl x_rEntry)), ((bd 19), .inl (y 0, 100, .inl x_rCall)), ((bd 20), .inl (y 0, 100, .inl x_rMoney))] := hD
    refine lv_if_eq (tgt := 36) hx hb dX9_entry_31 (by decide) (fun hc => ?_) (fun hc => ?_)
    · have hw := hw.1 hc
      refine lv_iload_n hx hb dX9_entry_36 rfl (lv_at hl 2 rfl) ?_
      by_cases tc0 : p1 = 0
      · have hw := hw.1 tc0
        refine lv_tableIn (off := 31) (tgt := 68) hx hb dX9_entry_37 (by rw [tc0]; decide) (by rw [tc0]; decide) (by rw [tc0]; decide) (by decide) ?_
        refine lv_aload_n hx hb dX9_entry_68 rfl (lv_at hl 0 rfl) ?_
        refine va_get (ci := 11) (v := .ref (bd 15)) (C := RX9) (T := TX9) (N := 47) hx hb hts inw_X9_entry_X9 hown hK hP 0 rfl rfl 17 (by decide) (hts (.fieldLink RX9 53 "DockCallModel" "eCall" "[I") (by decide +kernel)) (fun _ h9 => h9) rfl dX9_entry_69 ?_
        refine lv_iload_n hx hb dX9_entry_72 rfl (lv_at hl 1 rfl) ?_
        obtain ⟨hi, hw⟩ := hw
        refine va_iald hx hb hK hP 1 0 rfl rfl hi dX9_entry_73 ?_
        exact W.iret (v := x_eCall p0.toNatClampNeg) hx hb hr (fun t ht hW => ⟨⟨x_eCall p0.toNatClampNeg, (x_thrown_3), rfl, hw, mAt.to hP hK hD ht hW⟩, hS.F ht⟩) hS.2.2 dX9_entry_74
      · have hw := hw.2 tc0
        by_cases tc1 : p1 = 1
        · have hw := hw.1 tc1
          refine lv_tableIn (off := 38) (tgt := 75) hx hb dX9_entry_37 (by rw [tc1]; decide) (by rw [tc1]; decide) (by rw [tc1]; decide) (by decide) ?_
          refine lv_aload_n hx hb dX9_entry_75 rfl (lv_at hl 0 rfl) ?_
          refine va_get (ci := 11) (v := .ref (bd 16)) (C := RX9) (T := TX9) (N := 47) hx hb hts inw_X9_entry_X9 hown hK hP 0 rfl rfl 18 (by decide) (hts (.fieldLink RX9 56 "DockCallModel" "eMan" "[I") (by decide +kernel)) (fun _ h9 => h9) rfl dX9_entry_76 ?_
          refine lv_iload_n hx hb dX9_entry_79 rfl (lv_at hl 1 rfl) ?_
          obtain ⟨hi, hw⟩ := hw
          refine va_iald hx hb hK hP 2 0 rfl rfl hi dX9_entry_80 ?_
          exact W.iret (v := x_eMan p0.toNatClampNeg) hx hb hr (fun t ht hW => ⟨⟨x_eMan p0.toNatClampNeg, (x_thrown_3), rfl, hw, mAt.to hP hK hD ht hW⟩, hS.F ht⟩) hS.2.2 dX9_entry_81
        · have hw := hw.2 tc1
          by_cases tc2 : p1 = 2
          · have hw := hw.1 tc2
            refine lv_tableIn (off := 45) (tgt := 82) hx hb dX9_entry_37 (by rw [tc2]; decide) (by rw [tc2]; decide) (by rw [tc2]; decide) (by decide) ?_
            refine lv_aload_n hx hb dX9_entry_82 rfl (lv_at hl 0 rfl) ?_
            refine va_get (ci := 11) (v := .ref (bd 17)) (C := RX9) (T := TX9) (N := 47) hx hb hts inw_X9_entry_X9 hown hK hP 0 rfl rfl 19 (by decide) (hts (.fieldLink RX9 59 "DockCallModel" "eMoney" "[I") (by decide +kernel)) (fun _ h9 => h9) rfl dX9_entry_83 ?_
            refine lv_iload_n hx hb dX9_entry_86 rfl (lv_at hl 1 rfl) ?_
            obtain ⟨hi, hw⟩ := hw
            refine va_iald hx hb hK hP 3 0 rfl rfl hi dX9_entry_87 ?_
            exact W.iret (v := x_eMoney p0.toNatClampNeg) hx hb hr (fun t ht hW => ⟨⟨x_eMoney p0.toNatClampNeg, (x_thrown_3), rfl, hw, mAt.to hP hK hD ht hW⟩, hS.F ht⟩) hS.2.2 dX9_entry_88
          · have hw := hw.2 tc2
            by_cases tc3 : p1 = 3
            · have hw := hw.1 tc3
              refine lv_tableIn (off := 52) (tgt := 89) hx hb dX9_entry_37 (by rw [tc3]; decide) (by rw [tc3]; decide) (by rw [tc3]; decide) (by decide) ?_
              refine lv_aload_n hx hb dX9_entry_89 rfl (lv_at hl 0 rfl) ?_
              refine lv_iload_n hx hb dX9_entry_90 rfl (lv_at hl 1 rfl) ?_
              refine lv_aload_n hx hb dX9_entry_91 rfl (lv_at hl 0 rfl) ?_
              refine va_get (ci := 11) (v := .int x_calls) (C := RX9) (T := TX9) (N := 47) hx hb hts inw_X9_entry_X9 hown hK hP 0 rfl rfl 25 (by decide) (hts (.fieldLink RX9 128 "DockCallModel" "calls" "I") (by decide +kernel)) (fun _ h9 => h9) rfl dX9_entry_92 ?_
              refine mx_i (wc := [(ce_xm bd x_thrown_3 x_men x_ships x_entries x_rules x_calls x_gangs x_idle x_moved x_paid x_taped x_at x_end x_begin x_faultAt x_wants), ((bd 17), .inl (y 0, 800, .inl x_eMoney)), ((bd 18), .inl (y 0, 100, .inl x_rEntry)), ((bd 19), .inl (y 0, 100, .inl x_rCall)), ((bd 20), .inl (y 0, 100, .inl x_rMoney))]) (wr := [((bd 15), .inl (y 0, 800, .inl x_eCall)), ((bd 16), .inl (y 0, 800, .inl x_eMan))]) hP hD hS hA [0, 3, 4, 5, 6] [1, 2] [2, 0, 1, 3, 4, 5, 6] rfl rfl (by decide) (by decide) (by decide) (fun (u : Unit) => [(ce_xm bd x_thrown_3 x_men x_ships x_entries x_rules x_calls x_gangs x_idle x_moved x_paid x_taped x_at x_end x_begin x_faultAt x_wants), ((bd 15), .inl (y 0, 800, .inl x_eCall)), ((bd 16), .inl (y 0, 800, .inl x_eMan)), ((bd 17), .inl (y 0, 800, .inl x_eMoney)), ((bd 18), .inl (y 0, 100, .inl x_rEntry)), ((bd 19), .inl (y 0, 100, .inl x_rCall)), ((bd 20), .inl (y 0, 100, .inl x_rMoney))]) (fun _ => rfl) (va_runV (As := [.int p0, .int x_calls]) (rest := []) ⟨hx, hb, hml, hown, hts⟩ (c_Model_moneyOf l D y bd H.size x_thrown_3 x_men x_ships x_entries x_rules x_calls x_gangs x_idle x_moved x_paid x_taped x_at x_end x_begin x_faultAt x_wants x_eMoney x_rEntry x_rCall x_rMoney p0 x_calls hw) (cwV 2 hts gX9_entry_X9_moneyOf rfl rfl rfl (by decide +kernel) ⟨Nat.le_of_ble_eq_true rfl, Nat.le_of_ble_eq_true rfl⟩) ⟨mPre.blind, (va_recv hK hP (ci := 11) (q0 := 0) rfl rfl), mPre.to (hP.sub [0, 3, 4, 5, 6] rfl) hK (hD.sub [0, 3, 4, 5, 6] (by decide) rfl) hE⟩ rfl rfl hl.1 rfl (lv_room (Nat.le_of_ble_eq_true rfl)) dX9_entry_95 ⟨Nat.le_of_ble_eq_true rfl, Nat.le_of_ble_eq_true rfl⟩) (fun r_4 u H locs hw hP hD hS => ?_)
              try dsimp only at hw
              have hP : va_P D vwCl [(ce_xm bd x_thrown_3 x_men x_ships x_entries x_rules x_calls x_gangs x_idle x_moved x_paid x_taped x_at x_end x_begin x_faultAt x_wants), ((bd 15), .inl (y 0, 800, .inl x_eCall)), ((bd 16), .inl (y 0, 800, .inl x_eMan)), ((bd 17), .inl (y 0, 800, .inl x_eMoney)), ((bd 18), .inl (y 0, 100, .inl x_rEntry)), ((bd 19), .inl (y 0, 100, .inl x_rCall)), ((bd 20), .inl (y 0, 100, .inl x_rMoney))] H := hP
              have hD : va_D A [(ce_xm bd x_thrown_3 x_men x_ships x_entries x_rules x_calls x_gangs x_idle x_moved x_paid x_taped x_at x_end x_begin x_faultAt x_wants), ((bd 15), .inl (y 0, 800, .inl x_eCall)), ((bd 16), .inl (y 0, 800, .inl x_eMan)), ((bd 17), .inl (y 0, 800, .inl x_eMoney)), ((bd 18), .inl (y 0, 100, .inl x_rEntry)), ((bd 19), .inl (y 0, 100, .inl x_rCall)), ((bd 20), .inl (y 0, 100, .inl x_rMoney))] := hD
              exact W.iret (v := r_4) hx hb hr (fun t ht hW => ⟨⟨r_4, (x_thrown_3), rfl, hw, mAt.to hP hK hD ht hW⟩, hS.F ht⟩) hS.2.2 dX9_entry_98
            · have hw := hw.2 tc3
              refine lv_tableOut (tgt := 99) hx hb dX9_entry_37 (tw_o 3 rfl (by decide) (fun k hk => by rcases (show k = 0 ∨ k = 1 ∨ k = 2 ∨ k = 3 by omega) with rfl | rfl | rfl | rfl <;> first | exact tc0 | exact tc1 | exact tc2 | exact tc3)) (by decide) ?_
              refine lv_aload_n hx hb dX9_entry_99 rfl (lv_at hl 0 rfl) ?_
              refine lv_iconst (v := 2) hx hb dX9_entry_100 (by decide) ?_
              refine va_put (ci := 11) (v := .int 2) (ty := .int) (C := RX9) (T := TX9) (N := 47) hx hb hts inw_X9_entry_X9 tyX9 tyX9_ok nmX9 hown hK hP hD hS 0 rfl rfl 0 (by decide) (hts (.fieldLink RX9 109 "DockCallModel" "thrown" "I") (by decide +kernel)) (fun _ h9 => h9) rfl (by decide +kernel) rfl rfl (Nat.le_of_ble_eq_true rfl) dX9_entry_101 (fun H locs hP hD hS => ?_)
              have hP : va_P D vwCl [(ce_xm bd 2 x_men x_ships x_entries x_rules x_calls x_gangs x_idle x_moved x_paid x_taped x_at x_end x_begin x_faultAt x_wants), ((bd 15), .inl (y 0, 800, .inl x_eCall)), ((bd 16), .inl (y 0, 800, .inl x_eMan)), ((bd 17), .inl (y 0, 800, .inl x_eMoney)), ((bd 18), .inl (y 0, 100, .inl x_rEntry)), ((bd 19), .inl (y 0, 100, .inl x_rCall)), ((bd 20), .inl (y 0, 100, .inl x_rMoney))] H := hP
              have hD : va_D A [(ce_xm bd 2 x_men x_ships x_entries x_rules x_calls x_gangs x_idle x_moved x_paid x_taped x_at x_end x_begin x_faultAt x_wants), ((bd 15), .inl (y 0, 800, .inl x_eCall)), ((bd 16), .inl (y 0, 800, .inl x_eMan)), ((bd 17), .inl (y 0, 800, .inl x_eMoney)), ((bd 18), .inl (y 0, 100, .inl x_rEntry)), ((bd 19), .inl (y 0, 100, .inl x_rCall)), ((bd 20), .inl (y 0, 100, .inl x_rMoney))] := hD
              refine lv_iconst (v := 0) hx hb dX9_entry_104 (by decide) ?_
              exact W.iret (v := 0) hx hb hr (fun t ht hW => ⟨⟨0, (2), rfl, hw, mAt.to hP hK hD ht hW⟩, hS.F ht⟩) hS.2.2 dX9_entry_105
    · have hw := hw.2 hc
      refine lv_iconst (v := 0) hx hb dX9_entry_34 (by decide) ?_
      exact W.iret (v := 0) hx hb hr (fun t ht hW => ⟨⟨0, (x_thrown_3), rfl, hw, mAt.to hP hK hD ht hW⟩, hS.F ht⟩) hS.2.2 dX9_entry_35
  · have hw := hw.1 hc
    refine lv_iconst (v := 1) hx hb dX9_entry_22 (by decide) ?_
    refine lv_goto (tgt := 27) hx hb dX9_entry_23 (by decide) ?_
    refine lv_iconst (v := 1) hx hb dX9_entry_27 (by decide) ?_
    refine mx_i (wc := [(ce_xm bd 0 x_men x_ships x_entries x_rules x_calls x_gangs x_idle x_moved x_paid x_taped x_at x_end x_begin x_faultAt x_wants)]) (wr := [((bd 15), .inl (y 0, 800, .inl x_eCall)), ((bd 16), .inl (y 0, 800, .inl x_eMan)), ((bd 17), .inl (y 0, 800, .inl x_eMoney)), ((bd 18), .inl (y 0, 100, .inl x_rEntry)), ((bd 19), .inl (y 0, 100, .inl x_rCall)), ((bd 20), .inl (y 0, 100, .inl x_rMoney))]) hP hD hS hA [0] [1, 2, 3, 4, 5, 6] [6, 0, 1, 2, 3, 4, 5] rfl rfl (by decide) (by decide) (by decide) (fun (u : Int32) => [(ce_xm bd u x_men x_ships x_entries x_rules x_calls x_gangs x_idle x_moved x_paid x_taped x_at x_end x_begin x_faultAt x_wants), ((bd 15), .inl (y 0, 800, .inl x_eCall)), ((bd 16), .inl (y 0, 800, .inl x_eMan)), ((bd 17), .inl (y 0, 800, .inl x_eMoney)), ((bd 18), .inl (y 0, 100, .inl x_rEntry)), ((bd 19), .inl (y 0, 100, .inl x_rCall)), ((bd 20), .inl (y 0, 100, .inl x_rMoney))]) (fun _ => rfl) (va_runV (As := [.int 1, .int 1]) (rest := []) ⟨hx, hb, hml, hown, hts⟩ (c_Model_throwsIf l D y bd H.size 0 x_men x_ships x_entries x_rules x_calls x_gangs x_idle x_moved x_paid x_taped x_at x_end x_begin x_faultAt x_wants 1 1 hw) (cwV 2 hts gX9_entry_X9_throwsIf rfl rfl rfl (by decide +kernel) ⟨Nat.le_of_ble_eq_true rfl, Nat.le_of_ble_eq_true rfl⟩) ⟨mPre.blind, (va_recv hK hP (ci := 11) (q0 := 0) rfl rfl), mPre.to (hP.sub [0] rfl) hK (hD.sub [0] (by decide) rfl) hE⟩ rfl rfl hl.1 rfl (lv_room (Nat.le_of_ble_eq_true rfl)) dX9_entry_28 ⟨Nat.le_of_ble_eq_true rfl, Nat.le_of_ble_eq_true rfl⟩) (fun r_5 u H locs hw hP hD hS => ?_)
    obtain ⟨x_thrown_6, rfl⟩ : ∃ z, z = u := ⟨_, rfl⟩
    try dsimp only at hw
    have hP : va_P D vwCl [(ce_xm bd x_thrown_6 x_men x_ships x_entries x_rules x_calls x_gangs x_idle x_moved x_paid x_taped x_at x_end x_begin x_faultAt x_wants), ((bd 15), .inl (y 0, 800, .inl x_eCall)), ((bd 16), .inl (y 0, 800, .inl x_eMan)), ((bd 17), .inl (y 0, 800, .inl x_eMoney)), ((bd 18), .inl (y 0, 100, .inl x_rEntry)), ((bd 19), .inl (y 0, 100, .inl x_rCall)), ((bd 20), .inl (y 0, 100, .inl x_rMoney))] H := hP
    have hD : va_D A [(ce_xm bd x_thrown_6 x_men x_ships x_entries x_rules x_calls x_gangs x_idle x_moved x_paid x_taped x_at x_end x_begin x_faultAt x_wants), ((bd 15), .inl (y 0, 800, .inl x_eCall)), ((bd 16), .inl (y 0, 800, .inl x_eMan)), ((bd 17), .inl (y 0, 800, .inl x_eMoney)), ((bd 18), .inl (y 0, 100, .inl x_rEntry)), ((bd 19), .inl (y 0, 100, .inl x_rCall)), ((bd 20), .inl (y 0, 100, .inl x_rMoney))] := hD
    refine lv_if_eq (tgt := 36) hx hb dX9_entry_31 (by decide) (fun hc => ?_) (fun hc => ?_)
    · have hw := hw.1 hc
      refine lv_iload_n hx hb dX9_entry_36 rfl (lv_at hl 2 rfl) ?_
      by_cases tc0 : p1 = 0
      · have hw := hw.1 tc0
        refine lv_tableIn (off := 31) (tgt := 68) hx hb dX9_entry_37 (by rw [tc0]; decide) (by rw [tc0]; decide) (by rw [tc0]; decide) (by decide) ?_
        refine lv_aload_n hx hb dX9_entry_68 rfl (lv_at hl 0 rfl) ?_
        refine va_get (ci := 11) (v := .ref (bd 15)) (C := RX9) (T := TX9) (N := 47) hx hb hts inw_X9_entry_X9 hown hK hP 0 rfl rfl 17 (by decide) (hts (.fieldLink RX9 53 "DockCallModel" "eCall" "[I") (by decide +kernel)) (fun _ h9 => h9) rfl dX9_entry_69 ?_
        refine lv_iload_n hx hb dX9_entry_72 rfl (lv_at hl 1 rfl) ?_
        obtain ⟨hi, hw⟩ := hw
        refine va_iald hx hb hK hP 1 0 rfl rfl hi dX9_entry_73 ?_
        exact W.iret (v := x_eCall p0.toNatClampNeg) hx hb hr (fun t ht hW => ⟨⟨x_eCall p0.toNatClampNeg, (x_thrown_6), rfl, hw, mAt.to hP hK hD ht hW⟩, hS.F ht⟩) hS.2.2 dX9_entry_74
      · have hw := hw.2 tc0
        by_cases tc1 : p1 = 1
        · have hw := hw.1 tc1
          refine lv_tableIn (off := 38) (tgt := 75) hx hb dX9_entry_37 (by rw [tc1]; decide) (by rw [tc1]; decide) (by rw [tc1]; decide) (by decide) ?_
          refine lv_aload_n hx hb dX9_entry_75 rfl (lv_at hl 0 rfl) ?_
          refine va_get (ci := 11) (v := .ref (bd 16)) (C := RX9) (T := TX9) (N := 47) hx hb hts inw_X9_entry_X9 hown hK hP 0 rfl rfl 18 (by decide) (hts (.fieldLink RX9 56 "DockCallModel" "eMan" "[I") (by decide +kernel)) (fun _ h9 => h9) rfl dX9_entry_76 ?_
          refine lv_iload_n hx hb dX9_entry_79 rfl (lv_at hl 1 rfl) ?_
          obtain ⟨hi, hw⟩ := hw
          refine va_iald hx hb hK hP 2 0 rfl rfl hi dX9_entry_80 ?_
          exact W.iret (v := x_eMan p0.toNatClampNeg) hx hb hr (fun t ht hW => ⟨⟨x_eMan p0.toNatClampNeg, (x_thrown_6), rfl, hw, mAt.to hP hK hD ht hW⟩, hS.F ht⟩) hS.2.2 dX9_entry_81
        · have hw := hw.2 tc1
          by_cases tc2 : p1 = 2
          · have hw := hw.1 tc2
            refine lv_tableIn (off := 45) (tgt := 82) hx hb dX9_entry_37 (by rw [tc2]; decide) (by rw [tc2]; decide) (by rw [tc2]; decide) (by decide) ?_
            refine lv_aload_n hx hb dX9_entry_82 rfl (lv_at hl 0 rfl) ?_
            refine va_get (ci := 11) (v := .ref (bd 17)) (C := RX9) (T := TX9) (N := 47) hx hb hts inw_X9_entry_X9 hown hK hP 0 rfl rfl 19 (by decide) (hts (.fieldLink RX9 59 "DockCallModel" "eMoney" "[I") (by decide +kernel)) (fun _ h9 => h9) rfl dX9_entry_83 ?_
            refine lv_iload_n hx hb dX9_entry_86 rfl (lv_at hl 1 rfl) ?_
            obtain ⟨hi, hw⟩ := hw
            refine va_iald hx hb hK hP 3 0 rfl rfl hi dX9_entry_87 ?_
            exact W.iret (v := x_eMoney p0.toNatClampNeg) hx hb hr (fun t ht hW => ⟨⟨x_eMoney p0.toNatClampNeg, (x_thrown_6), rfl, hw, mAt.to hP hK hD ht hW⟩, hS.F ht⟩) hS.2.2 dX9_entry_88
          · have hw := hw.2 tc2
            by_cases tc3 : p1 = 3
            · have hw := hw.1 tc3
              refine lv_tableIn (off := 52) (tgt := 89) hx hb dX9_entry_37 (by rw [tc3]; decide) (by rw [tc3]; decide) (by rw [tc3]; decide) (by decide) ?_
              refine lv_aload_n hx hb dX9_entry_89 rfl (lv_at hl 0 rfl) ?_
              refine lv_iload_n hx hb dX9_entry_90 rfl (lv_at hl 1 rfl) ?_
              refine lv_aload_n hx hb dX9_entry_91 rfl (lv_at hl 0 rfl) ?_
              refine va_get (ci := 11) (v := .int x_calls) (C := RX9) (T := TX9) (N := 47) hx hb hts inw_X9_entry_X9 hown hK hP 0 rfl rfl 25 (by decide) (hts (.fieldLink RX9 128 "DockCallModel" "calls" "I") (by decide +kernel)) (fun _ h9 => h9) rfl dX9_entry_92 ?_
              refine mx_i (wc := [(ce_xm bd x_thrown_6 x_men x_ships x_entries x_rules x_calls x_gangs x_idle x_moved x_paid x_taped x_at x_end x_begin x_faultAt x_wants), ((bd 17), .inl (y 0, 800, .inl x_eMoney)), ((bd 18), .inl (y 0, 100, .inl x_rEntry)), ((bd 19), .inl (y 0, 100, .inl x_rCall)), ((bd 20), .inl (y 0, 100, .inl x_rMoney))]) (wr := [((bd 15), .inl (y 0, 800, .inl x_eCall)), ((bd 16), .inl (y 0, 800, .inl x_eMan))]) hP hD hS hA [0, 3, 4, 5, 6] [1, 2] [2, 0, 1, 3, 4, 5, 6] rfl rfl (by decide) (by decide) (by decide) (fun (u : Unit) => [(ce_xm bd x_thrown_6 x_men x_ships x_entries x_rules x_calls x_gangs x_idle x_moved x_paid x_taped x_at x_end x_begin x_faultAt x_wants), ((bd 15), .inl (y 0, 800, .inl x_eCall)), ((bd 16), .inl (y 0, 800, .inl x_eMan)), ((bd 17), .inl (y 0, 800, .inl x_eMoney)), ((bd 18), .inl (y 0, 100, .inl x_rEntry)), ((bd 19), .inl (y 0, 100, .inl x_rCall)), ((bd 20), .inl (y 0, 100, .inl x_rMoney))]) (fun _ => rfl) (va_runV (As := [.int p0, .int x_calls]) (rest := []) ⟨hx, hb, hml, hown, hts⟩ (c_Model_moneyOf l D y bd H.size x_thrown_6 x_men x_ships x_entries x_rules x_calls x_gangs x_idle x_moved x_paid x_taped x_at x_end x_begin x_faultAt x_wants x_eMoney x_rEntry x_rCall x_rMoney p0 x_calls hw) (cwV 2 hts gX9_entry_X9_moneyOf rfl rfl rfl (by decide +kernel) ⟨Nat.le_of_ble_eq_true rfl, Nat.le_of_ble_eq_true rfl⟩) ⟨mPre.blind, (va_recv hK hP (ci := 11) (q0 := 0) rfl rfl), mPre.to (hP.sub [0, 3, 4, 5, 6] rfl) hK (hD.sub [0, 3, 4, 5, 6] (by decide) rfl) hE⟩ rfl rfl hl.1 rfl (lv_room (Nat.le_of_ble_eq_true rfl)) dX9_entry_95 ⟨Nat.le_of_ble_eq_true rfl, Nat.le_of_ble_eq_true rfl⟩) (fun r_7 u H locs hw hP hD hS => ?_)
              try dsimp only at hw
              have hP : va_P D vwCl [(ce_xm bd x_thrown_6 x_men x_ships x_entries x_rules x_calls x_gangs x_idle x_moved x_paid x_taped x_at x_end x_begin x_faultAt x_wants), ((bd 15), .inl (y 0, 800, .inl x_eCall)), ((bd 16), .inl (y 0, 800, .inl x_eMan)), ((bd 17), .inl (y 0, 800, .inl x_eMoney)), ((bd 18), .inl (y 0, 100, .inl x_rEntry)), ((bd 19), .inl (y 0, 100, .inl x_rCall)), ((bd 20), .inl (y 0, 100, .inl x_rMoney))] H := hP
              have hD : va_D A [(ce_xm bd x_thrown_6 x_men x_ships x_entries x_rules x_calls x_gangs x_idle x_moved x_paid x_taped x_at x_end x_begin x_faultAt x_wants), ((bd 15), .inl (y 0, 800, .inl x_eCall)), ((bd 16), .inl (y 0, 800, .inl x_eMan)), ((bd 17), .inl (y 0, 800, .inl x_eMoney)), ((bd 18), .inl (y 0, 100, .inl x_rEntry)), ((bd 19), .inl (y 0, 100, .inl x_rCall)), ((bd 20), .inl (y 0, 100, .inl x_rMoney))] := hD
              exact W.iret (v := r_7) hx hb hr (fun t ht hW => ⟨⟨r_7, (x_thrown_6), rfl, hw, mAt.to hP hK hD ht hW⟩, hS.F ht⟩) hS.2.2 dX9_entry_98
            · have hw := hw.2 tc3
              refine lv_tableOut (tgt := 99) hx hb dX9_entry_37 (tw_o 3 rfl (by decide) (fun k hk => by rcases (show k = 0 ∨ k = 1 ∨ k = 2 ∨ k = 3 by omega) with rfl | rfl | rfl | rfl <;> first | exact tc0 | exact tc1 | exact tc2 | exact tc3)) (by decide) ?_
              refine lv_aload_n hx hb dX9_entry_99 rfl (lv_at hl 0 rfl) ?_
              refine lv_iconst (v := 2) hx hb dX9_entry_100 (by decide) ?_
              refine va_put (ci := 11) (v := .int 2) (ty := .int) (C := RX9) (T := TX9) (N := 47) hx hb hts inw_X9_entry_X9 tyX9 tyX9_ok nmX9 hown hK hP hD hS 0 rfl rfl 0 (by decide) (hts (.fieldLink RX9 109 "DockCallModel" "thrown" "I") (by decide +kernel)) (fun _ h9 => h9) rfl (by decide +kernel) rfl rfl (Nat.le_of_ble_eq_true rfl) dX9_entry_101 (fun H locs hP hD hS => ?_)
              have hP : va_P D vwCl [(ce_xm bd 2 x_men x_ships x_entries x_rules x_calls x_gangs x_idle x_moved x_paid x_taped x_at x_end x_begin x_faultAt x_wants), ((bd 15), .inl (y 0, 800, .inl x_eCall)), ((bd 16), .inl (y 0, 800, .inl x_eMan)), ((bd 17), .inl (y 0, 800, .inl x_eMoney)), ((bd 18), .inl (y 0, 100, .inl x_rEntry)), ((bd 19), .inl (y 0, 100, .inl x_rCall)), ((bd 20), .inl (y 0, 100, .inl x_rMoney))] H := hP
              have hD : va_D A [(ce_xm bd 2 x_men x_ships x_entries x_rules x_calls x_gangs x_idle x_moved x_paid x_taped x_at x_end x_begin x_faultAt x_wants), ((bd 15), .inl (y 0, 800, .inl x_eCall)), ((bd 16), .inl (y 0, 800, .inl x_eMan)), ((bd 17), .inl (y 0, 800, .inl x_eMoney)), ((bd 18), .inl (y 0, 100, .inl x_rEntry)), ((bd 19), .inl (y 0, 100, .inl x_rCall)), ((bd 20), .inl (y 0, 100, .inl x_rMoney))] := hD
              refine lv_iconst (v := 0) hx hb dX9_entry_104 (by decide) ?_
              exact W.iret (v := 0) hx hb hr (fun t ht hW => ⟨⟨0, (2), rfl, hw, mAt.to hP hK hD ht hW⟩, hS.F ht⟩) hS.2.2 dX9_entry_105
    · have hw := hw.2 hc
      refine lv_iconst (v := 0) hx hb dX9_entry_34 (by decide) ?_
      exact W.iret (v := 0) hx hb hr (fun t ht hW => ⟨⟨0, (x_thrown_6), rfl, hw, mAt.to hP hK hD ht hW⟩, hS.F ht⟩) hS.2.2 dX9_entry_35
theorem inw_X9_rule_X9 : ∀ w ∈ wsX90, w ∈ wsX9_rule := fun _ h => List.mem_cons_of_mem _ (List.mem_append_left _ (List.mem_append_right _ h))
def wp_Model_rule (x_entries : Int32) (x_rules : Int32) (x_calls : Int32) (x_rEntry : Nat → Int32) (x_rCall : Nat → Int32) (x_rMoney : Nat → Int32) (p0 : Int32) (p1 : Int32) (Q : Int32 → Int32 → Int32 → (Nat → Int32) → (Nat → Int32) → (Nat → Int32) → Prop) : Prop := (wp_Model_in p0.toInt64 0 ((x_entries - 1).toInt64) (fun r_1 => ((r_1 = 0 → (wp_Model_throwsIf 0 1 1 (fun r_9 x_thrown_10 => ((r_9 = 0 → (wp_Model_in p1.toInt64 0 100000 (fun r_11 => ((r_11 = 0 → (wp_Model_throwsIf x_thrown_10 1 2 (fun r_14 x_thrown_15 => ((r_14 = 0 → ((x_rules = 100 → Q 0 x_thrown_15 x_rules x_rEntry x_rCall x_rMoney) ∧ (¬ x_rules = 100 → (vp_in x_rules 100 ∧ (vp_in x_rules 100 ∧ (vp_in x_rules 100 ∧ Q 1 x_thrown_15 (x_rules + 1) (upd x_rEntry x_rules.toNatClampNeg p0) (upd x_rCall x_rules.toNatClampNeg x_calls) (upd x_rMoney x_rules.toNatClampNeg p1))))))) ∧ (¬ r_14 = 0 → Q 0 x_thrown_15 x_rules x_rEntry x_rCall x_rMoney))))) ∧ (¬ r_11 = 0 → (wp_Model_throwsIf x_thrown_10 0 2 (fun r_12 x_thrown_13 => ((r_12 = 0 → ((x_rules = 100 → Q 0 x_thrown_13 x_rules x_rEntry x_rCall x_rMoney) ∧ (¬ x_rules = 100 → (vp_in x_rules 100 ∧ (vp_in x_rules 100 ∧ (vp_in x_rules 100 ∧ Q 1 x_thrown_13 (x_rules + 1) (upd x_rEntry x_rules.toNatClampNeg p0) (upd x_rCall x_rules.toNatClampNeg x_calls) (upd x_rMoney x_rules.toNatClampNeg p1))))))) ∧ (¬ r_12 = 0 → Q 0 x_thrown_13 x_rules x_rEntry x_rCall x_rMoney))))))))) ∧ (¬ r_9 = 0 → Q 0 x_thrown_10 x_rules x_rEntry x_rCall x_rMoney))))) ∧ (¬ r_1 = 0 → (wp_Model_throwsIf 0 0 1 (fun r_2 x_thrown_3 => ((r_2 = 0 → (wp_Model_in p1.toInt64 0 100000 (fun r_4 => ((r_4 = 0 → (wp_Model_throwsIf x_thrown_3 1 2 (fun r_7 x_thrown_8 => ((r_7 = 0 → ((x_rules = 100 → Q 0 x_thrown_8 x_rules x_rEntry x_rCall x_rMoney) ∧ (¬ x_rules = 100 → (vp_in x_rules 100 ∧ (vp_in x_rules 100 ∧ (vp_in x_rules 100 ∧ Q 1 x_thrown_8 (x_rules + 1) (upd x_rEntry x_rules.toNatClampNeg p0) (upd x_rCall x_rules.toNatClampNeg x_calls) (upd x_rMoney x_rules.toNatClampNeg p1))))))) ∧ (¬ r_7 = 0 → Q 0 x_thrown_8 x_rules x_rEntry x_rCall x_rMoney))))) ∧ (¬ r_4 = 0 → (wp_Model_throwsIf x_thrown_3 0 2 (fun r_5 x_thrown_6 => ((r_5 = 0 → ((x_rules = 100 → Q 0 x_thrown_6 x_rules x_rEntry x_rCall x_rMoney) ∧ (¬ x_rules = 100 → (vp_in x_rules 100 ∧ (vp_in x_rules 100 ∧ (vp_in x_rules 100 ∧ Q 1 x_thrown_6 (x_rules + 1) (upd x_rEntry x_rules.toNatClampNeg p0) (upd x_rCall x_rules.toNatClampNeg x_calls) (upd x_rMoney x_rules.toNatClampNeg p1))))))) ∧ (¬ r_5 = 0 → Q 0 x_thrown_6 x_rules x_rEntry x_rCall x_rMoney))))))))) ∧ (¬ r_2 = 0 → Q 0 x_thrown_3 x_rules x_rEntry x_rCall x_rMoney))))))))
set_option maxHeartbeats 4000000 in
set_option maxRecDepth 100000 in
theorem c_Model_rule (l : Launch) (D : va_G) (y : Nat → ClassId) (bd : Nat → Nat) (sz : Nat) (x_thrown : Int32) (x_men : Int32) (x_ships : Int32) (x_entries : Int32) (x_rules : Int32) (x_calls : Int32) (x_gangs : Int32) (x_idle : Int32) (x_moved : Int64) (x_paid : Int64) (x_taped : Int32) (x_at : Int32) (x_end : Int32) (x_begin : Int32) (x_faultAt : Int32) (x_wants : Int32) (x_rEntry : Nat → Int32) (x_rCall : Nat → Int32) (x_rMoney : Nat → Int32) (p0 : Int32) (p1 : Int32) {Q : Int32 → Int32 → Int32 → (Nat → Int32) → (Nat → Int32) → (Nat → Int32) → Prop} (hw : wp_Model_rule x_entries x_rules x_calls x_rEntry x_rCall x_rMoney p0 p1 Q) : Met l yX9_rule wsX9_rule ({ frames := 1, cells := 0, slots := 0, locals := 25 }) (va_Pc [.ref (bd 0), .int p0, .int p1] (mPre D y sz [(ce_xm bd x_thrown x_men x_ships x_entries x_rules x_calls x_gangs x_idle x_moved x_paid x_taped x_at x_end x_begin x_faultAt x_wants), ((bd 18), .inl (y 0, 100, .inl x_rEntry)), ((bd 19), .inl (y 0, 100, .inl x_rCall)), ((bd 20), .inl (y 0, 100, .inl x_rMoney))])) (va_Qi (fun (r : Int32) (u : Int32 × Int32 × (Nat → Int32) × (Nat → Int32) × (Nat → Int32)) => Q r u.1 u.2.1 u.2.2.1 u.2.2.2.1 u.2.2.2.2) (mAt D y (va_A [(ce_xm bd x_thrown x_men x_ships x_entries x_rules x_calls x_gangs x_idle x_moved x_paid x_taped x_at x_end x_begin x_faultAt x_wants), ((bd 18), .inl (y 0, 100, .inl x_rEntry)), ((bd 19), .inl (y 0, 100, .inl x_rCall)), ((bd 20), .inl (y 0, 100, .inl x_rMoney))] sz) (fun (u : Int32 × Int32 × (Nat → Int32) × (Nat → Int32) × (Nat → Int32)) => [(ce_xm bd u.1 x_men x_ships x_entries u.2.1 x_calls x_gangs x_idle x_moved x_paid x_taped x_at x_end x_begin x_faultAt x_wants), ((bd 18), .inl (y 0, 100, .inl u.2.2.1)), ((bd 19), .inl (y 0, 100, .inl u.2.2.2.1)), ((bd 20), .inl (y 0, 100, .inl u.2.2.2.2))])) (va_A [(ce_xm bd x_thrown x_men x_ships x_entries x_rules x_calls x_gangs x_idle x_moved x_paid x_taped x_at x_end x_begin x_faultAt x_wants), ((bd 18), .inl (y 0, 100, .inl x_rEntry)), ((bd 19), .inl (y 0, 100, .inl x_rCall)), ((bd 20), .inl (y 0, 100, .inl x_rMoney))] sz)) 0 0 (va_A [(ce_xm bd x_thrown x_men x_ships x_entries x_rules x_calls x_gangs x_idle x_moved x_paid x_taped x_at x_end x_begin x_faultAt x_wants), ((bd 18), .inl (y 0, 100, .inl x_rEntry)), ((bd 19), .inl (y 0, 100, .inl x_rCall)), ((bd 20), .inl (y 0, 100, .inl x_rMoney))] sz) := by
  unfold wp_Model_rule at hw
  refine Met.ofW (cc := cX9_rule) (maxL := 3) (ret := some .boolean) (by decide) rfl ?_
  intro p e s m args below meth c s₁ B hml hv
  obtain ⟨rfl, hsz, hP, hK, hD0, hE⟩ := hv
  have hx := B.exec
  have hb := B.bytes
  have hr := B.returns
  have hts := atoms_spec (ws := wsX9_rule) B.pre
  have hown : s.vm.findClass RX9 = some m.cls := findClass_of_methodNamed B.named
  have hlocks := B.notSynchronized
  subst hsz
  have hD := hD0.self (sz := s.heap.size)
  generalize hAe : va_A [(ce_xm bd x_thrown x_men x_ships x_entries x_rules x_calls x_gangs x_idle x_moved x_paid x_taped x_at x_end x_begin x_faultAt x_wants), ((bd 18), .inl (y 0, 100, .inl x_rEntry)), ((bd 19), .inl (y 0, 100, .inl x_rCall)), ((bd 20), .inl (y 0, 100, .inl x_rMoney))] s.heap.size = A at hD ⊢
  have hA : ∀ q : Nat, s.heap.size ≤ q → A q := fun q h => by rw [← hAe]; exact Or.inr h
  have hS : va_S A s.heap s.heap [] := va_S.rf
  have hP : va_P D vwCl [(ce_xm bd x_thrown x_men x_ships x_entries x_rules x_calls x_gangs x_idle x_moved x_paid x_taped x_at x_end x_begin x_faultAt x_wants), ((bd 18), .inl (y 0, 100, .inl x_rEntry)), ((bd 19), .inl (y 0, 100, .inl x_rCall)), ((bd 20), .inl (y 0, 100, .inl x_rMoney))] s.heap := hP
  have hl := lv_entry ([.ref (bd 0), .int p0, .int p1]) (n := 3) (Nat.le_of_ble_eq_true rfl)
  rw [lg_entry_eq]
  generalize (lg_sl ([.ref (bd 0), .int p0, .int p1]) ++ List.replicate (3 - (lg_sl ([.ref (bd 0), .int p0, .int p1])).length) Slot.unset).toArray = ls at hl ⊢
  have hl : lv_has ls 3 [(0, .ref (bd 0)), (1, .int p0), (2, .int p1)] := hl
  refine lv_aload_n hx hb dX9_rule_0 rfl (lv_at hl 0 rfl) ?_
  refine lv_iconst (v := 0) hx hb dX9_rule_1 (by decide) ?_
  refine va_put (ci := 11) (v := .int 0) (ty := .int) (C := RX9) (T := TX9) (N := 47) hx hb hts inw_X9_rule_X9 tyX9 tyX9_ok nmX9 hown hK hP hD hS 0 rfl rfl 0 (by decide) (hts (.fieldLink RX9 109 "DockCallModel" "thrown" "I") (by decide +kernel)) (fun _ h9 => h9) rfl (by decide +kernel) rfl rfl (Nat.le_of_ble_eq_true rfl) dX9_rule_2 (fun H locs hP hD hS => ?_)
  have hP : va_P D vwCl [(ce_xm bd 0 x_men x_ships x_entries x_rules x_calls x_gangs x_idle x_moved x_paid x_taped x_at x_end x_begin x_faultAt x_wants), ((bd 18), .inl (y 0, 100, .inl x_rEntry)), ((bd 19), .inl (y 0, 100, .inl x_rCall)), ((bd 20), .inl (y 0, 100, .inl x_rMoney))] H := hP
  have hD : va_D A [(ce_xm bd 0 x_men x_ships x_entries x_rules x_calls x_gangs x_idle x_moved x_paid x_taped x_at x_end x_begin x_faultAt x_wants), ((bd 18), .inl (y 0, 100, .inl x_rEntry)), ((bd 19), .inl (y 0, 100, .inl x_rCall)), ((bd 20), .inl (y 0, 100, .inl x_rMoney))] := hD
  refine lv_aload_n hx hb dX9_rule_5 rfl (lv_at hl 0 rfl) ?_
  refine lv_iload_n hx hb dX9_rule_6 rfl (lv_at hl 1 rfl) ?_
  refine lv_i2l hx hb dX9_rule_7 rfl ?_
  refine lv_lconst (v := 0) hx hb dX9_rule_8 (by decide) ?_
  refine lv_aload_n hx hb dX9_rule_9 rfl (lv_at hl 0 rfl) ?_
  refine va_get (ci := 11) (v := .int x_entries) (C := RX9) (T := TX9) (N := 47) hx hb hts inw_X9_rule_X9 hown hK hP 0 rfl rfl 20 (by decide) (hts (.fieldLink RX9 224 "DockCallModel" "entries" "I") (by decide +kernel)) (fun _ h9 => h9) rfl dX9_rule_10 ?_
  refine lv_iconst (v := 1) hx hb dX9_rule_13 (by decide) ?_
  refine lv_isub hx hb dX9_rule_14 ?_
  refine lv_i2l hx hb dX9_rule_15 rfl ?_
  refine mx_i (wc := []) (wr := [(ce_xm bd 0 x_men x_ships x_entries x_rules x_calls x_gangs x_idle x_moved x_paid x_taped x_at x_end x_begin x_faultAt x_wants), ((bd 18), .inl (y 0, 100, .inl x_rEntry)), ((bd 19), .inl (y 0, 100, .inl x_rCall)), ((bd 20), .inl (y 0, 100, .inl x_rMoney))]) hP hD hS hA [] [0, 1, 2, 3] [0, 1, 2, 3] rfl rfl (by decide) (by decide) (by decide) (fun (u : Unit) => [(ce_xm bd 0 x_men x_ships x_entries x_rules x_calls x_gangs x_idle x_moved x_paid x_taped x_at x_end x_begin x_faultAt x_wants), ((bd 18), .inl (y 0, 100, .inl x_rEntry)), ((bd 19), .inl (y 0, 100, .inl x_rCall)), ((bd 20), .inl (y 0, 100, .inl x_rMoney))]) (fun _ => rfl) (va_runS (As := [.long p0.toInt64, .long 0, .long ((x_entries - 1).toInt64)]) (rest := [.ref (bd 0)]) ⟨hx, hb, hml, hown, hts⟩ (c_Model_in l D y H.size p0.toInt64 0 ((x_entries - 1).toInt64) hw) (va_cwS 3 hts gX9_rule_X9_in rfl rfl rfl (by decide +kernel) ⟨Nat.le_of_ble_eq_true rfl, Nat.le_of_ble_eq_true rfl⟩) ⟨mPre.blind, mPre.to (hP.sub [] rfl) hK (hD.sub [] (by decide) rfl) hE⟩ rfl rfl hl.1 rfl (lv_room (Nat.le_of_ble_eq_true rfl)) dX9_rule_16 ⟨Nat.le_of_ble_eq_true rfl, Nat.le_of_ble_eq_true rfl⟩) (fun r_1 u H locs hw hP hD hS => ?_)
  try dsimp only at hw
  have hP : va_P D vwCl [(ce_xm bd 0 x_men x_ships x_entries x_rules x_calls x_gangs x_idle x_moved x_paid x_taped x_at x_end x_begin x_faultAt x_wants), ((bd 18), .inl (y 0, 100, .inl x_rEntry)), ((bd 19), .inl (y 0, 100, .inl x_rCall)), ((bd 20), .inl (y 0, 100, .inl x_rMoney))] H := hP
  have hD : va_D A [(ce_xm bd 0 x_men x_ships x_entries x_rules x_calls x_gangs x_idle x_moved x_paid x_taped x_at x_end x_begin x_faultAt x_wants), ((bd 18), .inl (y 0, 100, .inl x_rEntry)), ((bd 19), .inl (y 0, 100, .inl x_rCall)), ((bd 20), .inl (y 0, 100, .inl x_rMoney))] := hD
  refine lv_if_ne (tgt := 26) hx hb dX9_rule_19 (by decide) (fun hc => ?_) (fun hc => ?_)
  · have hw := hw.2 hc
    refine lv_iconst (v := 0) hx hb dX9_rule_26 (by decide) ?_
    refine lv_iconst (v := 1) hx hb dX9_rule_27 (by decide) ?_
    refine mx_i (wc := [(ce_xm bd 0 x_men x_ships x_entries x_rules x_calls x_gangs x_idle x_moved x_paid x_taped x_at x_end x_begin x_faultAt x_wants)]) (wr := [((bd 18), .inl (y 0, 100, .inl x_rEntry)), ((bd 19), .inl (y 0, 100, .inl x_rCall)), ((bd 20), .inl (y 0, 100, .inl x_rMoney))]) hP hD hS hA [0] [1, 2, 3] [3, 0, 1, 2] rfl rfl (by decide) (by decide) (by decide) (fun (u : Int32) => [(ce_xm bd u x_men x_ships x_entries x_rules x_calls x_gangs x_idle x_moved x_paid x_taped x_at x_end x_begin x_faultAt x_wants), ((bd 18), .inl (y 0, 100, .inl x_rEntry)), ((bd 19), .inl (y 0, 100, .inl x_rCall)), ((bd 20), .inl (y 0, 100, .inl x_rMoney))]) (fun _ => rfl) (va_runV (As := [.int 0, .int 1]) (rest := []) ⟨hx, hb, hml, hown, hts⟩ (c_Model_throwsIf l D y bd H.size 0 x_men x_ships x_entries x_rules x_calls x_gangs x_idle x_moved x_paid x_taped x_at x_end x_begin x_faultAt x_wants 0 1 hw) (cwV 2 hts gX9_rule_X9_throwsIf rfl rfl rfl (by decide +kernel) ⟨Nat.le_of_ble_eq_true rfl, Nat.le_of_ble_eq_true rfl⟩) ⟨mPre.blind, (va_recv hK hP (ci := 11) (q0 := 0) rfl rfl), mPre.to (hP.sub [0] rfl) hK (hD.sub [0] (by decide) rfl) hE⟩ rfl rfl hl.1 rfl (lv_room (Nat.le_of_ble_eq_true rfl)) dX9_rule_28 ⟨Nat.le_of_ble_eq_true rfl, Nat.le_of_ble_eq_true rfl⟩) (fun r_2 u H locs hw hP hD hS => ?_)
    obtain ⟨x_thrown_3, rfl⟩ : ∃ z, z = u := ⟨_, rfl⟩
    try dsimp only at hw
    have hP : va_P D vwCl [(ce_xm bd x_thrown_3 x_men x_ships x_entries x_rules x_calls x_gangs x_idle x_moved x_paid x_taped x_at x_end x_begin x_faultAt x_wants), ((bd 18), .inl (y 0, 100, .inl x_rEntry)), ((bd 19), .inl (y 0, 100, .inl x_rCall)), ((bd 20), .inl (y 0, 100, .inl x_rMoney))] H := hP
    have hD : va_D A [(ce_xm bd x_thrown_3 x_men x_ships x_entries x_rules x_calls x_gangs x_idle x_moved x_paid x_taped x_at x_end x_begin x_faultAt x_wants), ((bd 18), .inl (y 0, 100, .inl x_rEntry)), ((bd 19), .inl (y 0, 100, .inl x_rCall)), ((bd 20), .inl (y 0, 100, .inl x_rMoney))] := hD
    refine lv_if_ne (tgt := 68) hx hb dX9_rule_31 (by decide) (fun hc => ?_) (fun hc => ?_)
    · have hw := hw.2 hc
      refine lv_iconst (v := 0) hx hb dX9_rule_68 (by decide) ?_
      exact W.zret (v := 0) hx hb hr (by decide) (fun t ht hW => ⟨⟨0, (x_thrown_3, x_rules, x_rEntry, x_rCall, x_rMoney), rfl, hw, mAt.to hP hK hD ht hW⟩, hS.F ht⟩) hS.2.2 dX9_rule_69
    · have hw := hw.1 hc
      refine lv_aload_n hx hb dX9_rule_34 rfl (lv_at hl 0 rfl) ?_
      refine lv_iload_n hx hb dX9_rule_35 rfl (lv_at hl 2 rfl) ?_
      refine lv_i2l hx hb dX9_rule_36 rfl ?_
      refine lv_lconst (v := 0) hx hb dX9_rule_37 (by decide) ?_
      refine lv_ldc2 hx hb hown (hts (.constantLong RX9 270 100000) (by decide +kernel)) dX9_rule_38 ?_
      refine mx_i (wc := []) (wr := [(ce_xm bd x_thrown_3 x_men x_ships x_entries x_rules x_calls x_gangs x_idle x_moved x_paid x_taped x_at x_end x_begin x_faultAt x_wants), ((bd 18), .inl (y 0, 100, .inl x_rEntry)), ((bd 19), .inl (y 0, 100, .inl x_rCall)), ((bd 20), .inl (y 0, 100, .inl x_rMoney))]) hP hD hS hA [] [0, 1, 2, 3] [0, 1, 2, 3] rfl rfl (by decide) (by decide) (by decide) (fun (u : Unit) => [(ce_xm bd x_thrown_3 x_men x_ships x_entries x_rules x_calls x_gangs x_idle x_moved x_paid x_taped x_at x_end x_begin x_faultAt x_wants), ((bd 18), .inl (y 0, 100, .inl x_rEntry)), ((bd 19), .inl (y 0, 100, .inl x_rCall)), ((bd 20), .inl (y 0, 100, .inl x_rMoney))]) (fun _ => rfl) (va_runS (As := [.long p1.toInt64, .long 0, .long 100000]) (rest := [.ref (bd 0)]) ⟨hx, hb, hml, hown, hts⟩ (c_Model_in l D y H.size p1.toInt64 0 100000 hw) (va_cwS 3 hts gX9_rule_X9_in rfl rfl rfl (by decide +kernel) ⟨Nat.le_of_ble_eq_true rfl, Nat.le_of_ble_eq_true rfl⟩) ⟨mPre.blind, mPre.to (hP.sub [] rfl) hK (hD.sub [] (by decide) rfl) hE⟩ rfl rfl hl.1 rfl (lv_room (Nat.le_of_ble_eq_true rfl)) dX9_rule_41 ⟨Nat.le_of_ble_eq_true rfl, Nat.le_of_ble_eq_true rfl⟩) (fun r_4 u H locs hw hP hD hS => ?_)
      try dsimp only at hw
      have hP : va_P D vwCl [(ce_xm bd x_thrown_3 x_men x_ships x_entries x_rules x_calls x_gangs x_idle x_moved x_paid x_taped x_at x_end x_begin x_faultAt x_wants), ((bd 18), .inl (y 0, 100, .inl x_rEntry)), ((bd 19), .inl (y 0, 100, .inl x_rCall)), ((bd 20), .inl (y 0, 100, .inl x_rMoney))] H := hP
      have hD : va_D A [(ce_xm bd x_thrown_3 x_men x_ships x_entries x_rules x_calls x_gangs x_idle x_moved x_paid x_taped x_at x_end x_begin x_faultAt x_wants), ((bd 18), .inl (y 0, 100, .inl x_rEntry)), ((bd 19), .inl (y 0, 100, .inl x_rCall)), ((bd 20), .inl (y 0, 100, .inl x_rMoney))] := hD
      refine lv_if_ne (tgt := 51) hx hb dX9_rule_44 (by decide) (fun hc => ?_) (fun hc => ?_)
      · have hw := hw.2 hc
        refine lv_iconst (v := 0) hx hb dX9_rule_51 (by decide) ?_
        refine lv_iconst (v := 2) hx hb dX9_rule_52 (by decide) ?_
        refine mx_i (wc := [(ce_xm bd x_thrown_3 x_men x_ships x_entries x_rules x_calls x_gangs x_idle x_moved x_paid x_taped x_at x_end x_begin x_faultAt x_wants)]) (wr := [((bd 18), .inl (y 0, 100, .inl x_rEntry)), ((bd 19), .inl (y 0, 100, .inl x_rCall)), ((bd 20), .inl (y 0, 100, .inl x_rMoney))]) hP hD hS hA [0] [1, 2, 3] [3, 0, 1, 2] rfl rfl (by decide) (by decide) (by decide) (fun (u : Int32) => [(ce_xm bd u x_men x_ships x_entries x_rules x_calls x_gangs x_idle x_moved x_paid x_taped x_at x_end x_begin x_faultAt x_wants), ((bd 18), .inl (y 0, 100, .inl x_rEntry)), ((bd 19), .inl (y 0, 100, .inl x_rCall)), ((bd 20), .inl (y 0, 100, .inl x_rMoney))]) (fun _ => rfl) (va_runV (As := [.int 0, .int 2]) (rest := []) ⟨hx, hb, hml, hown, hts⟩ (c_Model_throwsIf l D y bd H.size x_thrown_3 x_men x_ships x_entries x_rules x_calls x_gangs x_idle x_moved x_paid x_taped x_at x_end x_begin x_faultAt x_wants 0 2 hw) (cwV 2 hts gX9_rule_X9_throwsIf rfl rfl rfl (by decide +kernel) ⟨Nat.le_of_ble_eq_true rfl, Nat.le_of_ble_eq_true rfl⟩) ⟨mPre.blind, (va_recv hK hP (ci := 11) (q0 := 0) rfl rfl), mPre.to (hP.sub [0] rfl) hK (hD.sub [0] (by decide) rfl) hE⟩ rfl rfl hl.1 rfl (lv_room (Nat.le_of_ble_eq_true rfl)) dX9_rule_53 ⟨Nat.le_of_ble_eq_true rfl, Nat.le_of_ble_eq_true rfl⟩) (fun r_5 u H locs hw hP hD hS => ?_)
        obtain ⟨x_thrown_6, rfl⟩ : ∃ z, z = u := ⟨_, rfl⟩
        try dsimp only at hw
        have hP : va_P D vwCl [(ce_xm bd x_thrown_6 x_men x_ships x_entries x_rules x_calls x_gangs x_idle x_moved x_paid x_taped x_at x_end x_begin x_faultAt x_wants), ((bd 18), .inl (y 0, 100, .inl x_rEntry)), ((bd 19), .inl (y 0, 100, .inl x_rCall)), ((bd 20), .inl (y 0, 100, .inl x_rMoney))] H := hP
        have hD : va_D A [(ce_xm bd x_thrown_6 x_men x_ships x_entries x_rules x_calls x_gangs x_idle x_moved x_paid x_taped x_at x_end x_begin x_faultAt x_wants), ((bd 18), .inl (y 0, 100, .inl x_rEntry)), ((bd 19), .inl (y 0, 100, .inl x_rCall)), ((bd 20), .inl (y 0, 100, .inl x_rMoney))] := hD
        refine lv_if_ne (tgt := 68) hx hb dX9_rule_56 (by decide) (fun hc => ?_) (fun hc => ?_)
        · have hw := hw.2 hc
          refine lv_iconst (v := 0) hx hb dX9_rule_68 (by decide) ?_
          exact W.zret (v := 0) hx hb hr (by decide) (fun t ht hW => ⟨⟨0, (x_thrown_6, x_rules, x_rEntry, x_rCall, x_rMoney), rfl, hw, mAt.to hP hK hD ht hW⟩, hS.F ht⟩) hS.2.2 dX9_rule_69
        · have hw := hw.1 hc
          refine lv_aload_n hx hb dX9_rule_59 rfl (lv_at hl 0 rfl) ?_
          refine va_get (ci := 11) (v := .int x_rules) (C := RX9) (T := TX9) (N := 47) hx hb hts inw_X9_rule_X9 hown hK hP 0 rfl rfl 24 (by decide) (hts (.fieldLink RX9 264 "DockCallModel" "rules" "I") (by decide +kernel)) (fun _ h9 => h9) rfl dX9_rule_60 ?_
          refine lv_bipush (v := 100) hx hb dX9_rule_63 (by decide) ?_
          refine lv_icmp_ne (tgt := 70) hx hb dX9_rule_65 (by decide) (fun hc => ?_) (fun hc => ?_)
          · have hw := hw.2 hc
            refine lv_aload_n hx hb dX9_rule_70 rfl (lv_at hl 0 rfl) ?_
            refine va_get (ci := 11) (v := .ref (bd 18)) (C := RX9) (T := TX9) (N := 47) hx hb hts inw_X9_rule_X9 hown hK hP 0 rfl rfl 21 (by decide) (hts (.fieldLink RX9 62 "DockCallModel" "rEntry" "[I") (by decide +kernel)) (fun _ h9 => h9) rfl dX9_rule_71 ?_
            refine lv_aload_n hx hb dX9_rule_74 rfl (lv_at hl 0 rfl) ?_
            refine va_get (ci := 11) (v := .int x_rules) (C := RX9) (T := TX9) (N := 47) hx hb hts inw_X9_rule_X9 hown hK hP 0 rfl rfl 24 (by decide) (hts (.fieldLink RX9 264 "DockCallModel" "rules" "I") (by decide +kernel)) (fun _ h9 => h9) rfl dX9_rule_75 ?_
            refine lv_iload_n hx hb dX9_rule_78 rfl (lv_at hl 1 rfl) ?_
            obtain ⟨hi, hw⟩ := hw
            refine va_iast hx hb hK hP hD hS 1 0 rfl rfl hi dX9_rule_79 (fun H locs hP hD hS => ?_)
            have hP : va_P D vwCl [(ce_xm bd x_thrown_6 x_men x_ships x_entries x_rules x_calls x_gangs x_idle x_moved x_paid x_taped x_at x_end x_begin x_faultAt x_wants), ((bd 18), .inl (y 0, 100, .inl (upd x_rEntry x_rules.toNatClampNeg p0))), ((bd 19), .inl (y 0, 100, .inl x_rCall)), ((bd 20), .inl (y 0, 100, .inl x_rMoney))] H := hP
            have hD : va_D A [(ce_xm bd x_thrown_6 x_men x_ships x_entries x_rules x_calls x_gangs x_idle x_moved x_paid x_taped x_at x_end x_begin x_faultAt x_wants), ((bd 18), .inl (y 0, 100, .inl (upd x_rEntry x_rules.toNatClampNeg p0))), ((bd 19), .inl (y 0, 100, .inl x_rCall)), ((bd 20), .inl (y 0, 100, .inl x_rMoney))] := hD
            refine lv_aload_n hx hb dX9_rule_80 rfl (lv_at hl 0 rfl) ?_
            refine va_get (ci := 11) (v := .ref (bd 19)) (C := RX9) (T := TX9) (N := 47) hx hb hts inw_X9_rule_X9 hown hK hP 0 rfl rfl 22 (by decide) (hts (.fieldLink RX9 65 "DockCallModel" "rCall" "[I") (by decide +kernel)) (fun _ h9 => h9) rfl dX9_rule_81 ?_
            refine lv_aload_n hx hb dX9_rule_84 rfl (lv_at hl 0 rfl) ?_
            refine va_get (ci := 11) (v := .int x_rules) (C := RX9) (T := TX9) (N := 47) hx hb hts inw_X9_rule_X9 hown hK hP 0 rfl rfl 24 (by decide) (hts (.fieldLink RX9 264 "DockCallModel" "rules" "I") (by decide +kernel)) (fun _ h9 => h9) rfl dX9_rule_85 ?_
            refine lv_aload_n hx hb dX9_rule_88 rfl (lv_at hl 0 rfl) ?_
            refine va_get (ci := 11) (v := .int x_calls) (C := RX9) (T := TX9) (N := 47) hx hb hts inw_X9_rule_X9 hown hK hP 0 rfl rfl 25 (by decide) (hts (.fieldLink RX9 128 "DockCallModel" "calls" "I") (by decide +kernel)) (fun _ h9 => h9) rfl dX9_rule_89 ?_
            obtain ⟨hi, hw⟩ := hw
            refine va_iast hx hb hK hP hD hS 2 0 rfl rfl hi dX9_rule_92 (fun H locs hP hD hS => ?_)
            have hP : va_P D vwCl [(ce_xm bd x_thrown_6 x_men x_ships x_entries x_rules x_calls x_gangs x_idle x_moved x_paid x_taped x_at x_end x_begin x_faultAt x_wants), ((bd 18), .inl (y 0, 100, .inl (upd x_rEntry x_rules.toNatClampNeg p0))), ((bd 19), .inl (y 0, 100, .inl (upd x_rCall x_rules.toNatClampNeg x_calls))), ((bd 20), .inl (y 0, 100, .inl x_rMoney))] H := hP
            have hD : va_D A [(ce_xm bd x_thrown_6 x_men x_ships x_entries x_rules x_calls x_gangs x_idle x_moved x_paid x_taped x_at x_end x_begin x_faultAt x_wants), ((bd 18), .inl (y 0, 100, .inl (upd x_rEntry x_rules.toNatClampNeg p0))), ((bd 19), .inl (y 0, 100, .inl (upd x_rCall x_rules.toNatClampNeg x_calls))), ((bd 20), .inl (y 0, 100, .inl x_rMoney))] := hD
            refine lv_aload_n hx hb dX9_rule_93 rfl (lv_at hl 0 rfl) ?_
            refine va_get (ci := 11) (v := .ref (bd 20)) (C := RX9) (T := TX9) (N := 47) hx hb hts inw_X9_rule_X9 hown hK hP 0 rfl rfl 23 (by decide) (hts (.fieldLink RX9 68 "DockCallModel" "rMoney" "[I") (by decide +kernel)) (fun _ h9 => h9) rfl dX9_rule_94 ?_
            refine lv_aload_n hx hb dX9_rule_97 rfl (lv_at hl 0 rfl) ?_
            refine va_get (ci := 11) (v := .int x_rules) (C := RX9) (T := TX9) (N := 47) hx hb hts inw_X9_rule_X9 hown hK hP 0 rfl rfl 24 (by decide) (hts (.fieldLink RX9 264 "DockCallModel" "rules" "I") (by decide +kernel)) (fun _ h9 => h9) rfl dX9_rule_98 ?_
            refine lv_iload_n hx hb dX9_rule_101 rfl (lv_at hl 2 rfl) ?_
            obtain ⟨hi, hw⟩ := hw
            refine va_iast hx hb hK hP hD hS 3 0 rfl rfl hi dX9_rule_102 (fun H locs hP hD hS => ?_)
            have hP : va_P D vwCl [(ce_xm bd x_thrown_6 x_men x_ships x_entries x_rules x_calls x_gangs x_idle x_moved x_paid x_taped x_at x_end x_begin x_faultAt x_wants), ((bd 18), .inl (y 0, 100, .inl (upd x_rEntry x_rules.toNatClampNeg p0))), ((bd 19), .inl (y 0, 100, .inl (upd x_rCall x_rules.toNatClampNeg x_calls))), ((bd 20), .inl (y 0, 100, .inl (upd x_rMoney x_rules.toNatClampNeg p1)))] H := hP
            have hD : va_D A [(ce_xm bd x_thrown_6 x_men x_ships x_entries x_rules x_calls x_gangs x_idle x_moved x_paid x_taped x_at x_end x_begin x_faultAt x_wants), ((bd 18), .inl (y 0, 100, .inl (upd x_rEntry x_rules.toNatClampNeg p0))), ((bd 19), .inl (y 0, 100, .inl (upd x_rCall x_rules.toNatClampNeg x_calls))), ((bd 20), .inl (y 0, 100, .inl (upd x_rMoney x_rules.toNatClampNeg p1)))] := hD
            refine lv_aload_n hx hb dX9_rule_103 rfl (lv_at hl 0 rfl) ?_
            refine lv_dup hx hb dX9_rule_104 rfl ?_
            refine va_get (ci := 11) (v := .int x_rules) (C := RX9) (T := TX9) (N := 47) hx hb hts inw_X9_rule_X9 hown hK hP 0 rfl rfl 24 (by decide) (hts (.fieldLink RX9 264 "DockCallModel" "rules" "I") (by decide +kernel)) (fun _ h9 => h9) rfl dX9_rule_105 ?_
            refine lv_iconst (v := 1) hx hb dX9_rule_108 (by decide) ?_
            refine lv_iadd hx hb dX9_rule_109 ?_
            refine va_put (ci := 11) (v := .int (x_rules + 1)) (ty := .int) (C := RX9) (T := TX9) (N := 47) hx hb hts inw_X9_rule_X9 tyX9 tyX9_ok nmX9 hown hK hP hD hS 0 rfl rfl 24 (by decide) (hts (.fieldLink RX9 264 "DockCallModel" "rules" "I") (by decide +kernel)) (fun _ h9 => h9) rfl (by decide +kernel) rfl rfl (Nat.le_of_ble_eq_true rfl) dX9_rule_110 (fun H locs hP hD hS => ?_)
            have hP : va_P D vwCl [(ce_xm bd x_thrown_6 x_men x_ships x_entries (x_rules + 1) x_calls x_gangs x_idle x_moved x_paid x_taped x_at x_end x_begin x_faultAt x_wants), ((bd 18), .inl (y 0, 100, .inl (upd x_rEntry x_rules.toNatClampNeg p0))), ((bd 19), .inl (y 0, 100, .inl (upd x_rCall x_rules.toNatClampNeg x_calls))), ((bd 20), .inl (y 0, 100, .inl (upd x_rMoney x_rules.toNatClampNeg p1)))] H := hP
            have hD : va_D A [(ce_xm bd x_thrown_6 x_men x_ships x_entries (x_rules + 1) x_calls x_gangs x_idle x_moved x_paid x_taped x_at x_end x_begin x_faultAt x_wants), ((bd 18), .inl (y 0, 100, .inl (upd x_rEntry x_rules.toNatClampNeg p0))), ((bd 19), .inl (y 0, 100, .inl (upd x_rCall x_rules.toNatClampNeg x_calls))), ((bd 20), .inl (y 0, 100, .inl (upd x_rMoney x_rules.toNatClampNeg p1)))] := hD
            refine lv_iconst (v := 1) hx hb dX9_rule_113 (by decide) ?_
            exact W.zret (v := 1) hx hb hr (by decide) (fun t ht hW => ⟨⟨1, (x_thrown_6, x_rules + 1, upd x_rEntry x_rules.toNatClampNeg p0, upd x_rCall x_rules.toNatClampNeg x_calls, upd x_rMoney x_rules.toNatClampNeg p1), rfl, hw, mAt.to hP hK hD ht hW⟩, hS.F ht⟩) hS.2.2 dX9_rule_114
          · have hw := hw.1 hc
            refine lv_iconst (v := 0) hx hb dX9_rule_68 (by decide) ?_
            exact W.zret (v := 0) hx hb hr (by decide) (fun t ht hW => ⟨⟨0, (x_thrown_6, x_rules, x_rEntry, x_rCall, x_rMoney), rfl, hw, mAt.to hP hK hD ht hW⟩, hS.F ht⟩) hS.2.2 dX9_rule_69
      · have hw := hw.1 hc
        refine lv_iconst (v := 1) hx hb dX9_rule_47 (by decide) ?_
        refine lv_goto (tgt := 52) hx hb dX9_rule_48 (by decide) ?_
        refine lv_iconst (v := 2) hx hb dX9_rule_52 (by decide) ?_
        refine mx_i (wc := [(ce_xm bd x_thrown_3 x_men x_ships x_entries x_rules x_calls x_gangs x_idle x_moved x_paid x_taped x_at x_end x_begin x_faultAt x_wants)]) (wr := [((bd 18), .inl (y 0, 100, .inl x_rEntry)), ((bd 19), .inl (y 0, 100, .inl x_rCall)), ((bd 20), .inl (y 0, 100, .inl x_rMoney))]) hP hD hS hA [0] [1, 2, 3] [3, 0, 1, 2] rfl rfl (by decide) (by decide) (by decide) (fun (u : Int32) => [(ce_xm bd u x_men x_ships x_entries x_rules x_calls x_gangs x_idle x_moved x_paid x_taped x_at x_end x_begin x_faultAt x_wants), ((bd 18), .inl (y 0, 100, .inl x_rEntry)), ((bd 19), .inl (y 0, 100, .inl x_rCall)), ((bd 20), .inl (y 0, 100, .inl x_rMoney))]) (fun _ => rfl) (va_runV (As := [.int 1, .int 2]) (rest := []) ⟨hx, hb, hml, hown, hts⟩ (c_Model_throwsIf l D y bd H.size x_thrown_3 x_men x_ships x_entries x_rules x_calls x_gangs x_idle x_moved x_paid x_taped x_at x_end x_begin x_faultAt x_wants 1 2 hw) (cwV 2 hts gX9_rule_X9_throwsIf rfl rfl rfl (by decide +kernel) ⟨Nat.le_of_ble_eq_true rfl, Nat.le_of_ble_eq_true rfl⟩) ⟨mPre.blind, (va_recv hK hP (ci := 11) (q0 := 0) rfl rfl), mPre.to (hP.sub [0] rfl) hK (hD.sub [0] (by decide) rfl) hE⟩ rfl rfl hl.1 rfl (lv_room (Nat.le_of_ble_eq_true rfl)) dX9_rule_53 ⟨Nat.le_of_ble_eq_true rfl, Nat.le_of_ble_eq_true rfl⟩) (fun r_7 u H locs hw hP hD hS => ?_)
        obtain ⟨x_thrown_8, rfl⟩ : ∃ z, z = u := ⟨_, rfl⟩
        try dsimp only at hw
        have hP : va_P D vwCl [(ce_xm bd x_thrown_8 x_men x_ships x_entries x_rules x_calls x_gangs x_idle x_moved x_paid x_taped x_at x_end x_begin x_faultAt x_wants), ((bd 18), .inl (y 0, 100, .inl x_rEntry)), ((bd 19), .inl (y 0, 100, .inl x_rCall)), ((bd 20), .inl (y 0, 100, .inl x_rMoney))] H := hP
        have hD : va_D A [(ce_xm bd x_thrown_8 x_men x_ships x_entries x_rules x_calls x_gangs x_idle x_moved x_paid x_taped x_at x_end x_begin x_faultAt x_wants), ((bd 18), .inl (y 0, 100, .inl x_rEntry)), ((bd 19), .inl (y 0, 100, .inl x_rCall)), ((bd 20), .inl (y 0, 100, .inl x_rMoney))] := hD
        refine lv_if_ne (tgt := 68) hx hb dX9_rule_56 (by decide) (fun hc => ?_) (fun hc => ?_)
        · have hw := hw.2 hc
          refine lv_iconst (v := 0) hx hb dX9_rule_68 (by decide) ?_
          exact W.zret (v := 0) hx hb hr (by decide) (fun t ht hW => ⟨⟨0, (x_thrown_8, x_rules, x_rEntry, x_rCall, x_rMoney), rfl, hw, mAt.to hP hK hD ht hW⟩, hS.F ht⟩) hS.2.2 dX9_rule_69
        · have hw := hw.1 hc
          refine lv_aload_n hx hb dX9_rule_59 rfl (lv_at hl 0 rfl) ?_
          refine va_get (ci := 11) (v := .int x_rules) (C := RX9) (T := TX9) (N := 47) hx hb hts inw_X9_rule_X9 hown hK hP 0 rfl rfl 24 (by decide) (hts (.fieldLink RX9 264 "DockCallModel" "rules" "I") (by decide +kernel)) (fun _ h9 => h9) rfl dX9_rule_60 ?_
          refine lv_bipush (v := 100) hx hb dX9_rule_63 (by decide) ?_
          refine lv_icmp_ne (tgt := 70) hx hb dX9_rule_65 (by decide) (fun hc => ?_) (fun hc => ?_)
          · have hw := hw.2 hc
            refine lv_aload_n hx hb dX9_rule_70 rfl (lv_at hl 0 rfl) ?_
            refine va_get (ci := 11) (v := .ref (bd 18)) (C := RX9) (T := TX9) (N := 47) hx hb hts inw_X9_rule_X9 hown hK hP 0 rfl rfl 21 (by decide) (hts (.fieldLink RX9 62 "DockCallModel" "rEntry" "[I") (by decide +kernel)) (fun _ h9 => h9) rfl dX9_rule_71 ?_
            refine lv_aload_n hx hb dX9_rule_74 rfl (lv_at hl 0 rfl) ?_
            refine va_get (ci := 11) (v := .int x_rules) (C := RX9) (T := TX9) (N := 47) hx hb hts inw_X9_rule_X9 hown hK hP 0 rfl rfl 24 (by decide) (hts (.fieldLink RX9 264 "DockCallModel" "rules" "I") (by decide +kernel)) (fun _ h9 => h9) rfl dX9_rule_75 ?_
            refine lv_iload_n hx hb dX9_rule_78 rfl (lv_at hl 1 rfl) ?_
            obtain ⟨hi, hw⟩ := hw
            refine va_iast hx hb hK hP hD hS 1 0 rfl rfl hi dX9_rule_79 (fun H locs hP hD hS => ?_)
            have hP : va_P D vwCl [(ce_xm bd x_thrown_8 x_men x_ships x_entries x_rules x_calls x_gangs x_idle x_moved x_paid x_taped x_at x_end x_begin x_faultAt x_wants), ((bd 18), .inl (y 0, 100, .inl (upd x_rEntry x_rules.toNatClampNeg p0))), ((bd 19), .inl (y 0, 100, .inl x_rCall)), ((bd 20), .inl (y 0, 100, .inl x_rMoney))] H := hP
            have hD : va_D A [(ce_xm bd x_thrown_8 x_men x_ships x_entries x_rules x_calls x_gangs x_idle x_moved x_paid x_taped x_at x_end x_begin x_faultAt x_wants), ((bd 18), .inl (y 0, 100, .inl (upd x_rEntry x_rules.toNatClampNeg p0))), ((bd 19), .inl (y 0, 100, .inl x_rCall)), ((bd 20), .inl (y 0, 100, .inl x_rMoney))] := hD
            refine lv_aload_n hx hb dX9_rule_80 rfl (lv_at hl 0 rfl) ?_
            refine va_get (ci := 11) (v := .ref (bd 19)) (C := RX9) (T := TX9) (N := 47) hx hb hts inw_X9_rule_X9 hown hK hP 0 rfl rfl 22 (by decide) (hts (.fieldLink RX9 65 "DockCallModel" "rCall" "[I") (by decide +kernel)) (fun _ h9 => h9) rfl dX9_rule_81 ?_
            refine lv_aload_n hx hb dX9_rule_84 rfl (lv_at hl 0 rfl) ?_
            refine va_get (ci := 11) (v := .int x_rules) (C := RX9) (T := TX9) (N := 47) hx hb hts inw_X9_rule_X9 hown hK hP 0 rfl rfl 24 (by decide) (hts (.fieldLink RX9 264 "DockCallModel" "rules" "I") (by decide +kernel)) (fun _ h9 => h9) rfl dX9_rule_85 ?_
            refine lv_aload_n hx hb dX9_rule_88 rfl (lv_at hl 0 rfl) ?_
            refine va_get (ci := 11) (v := .int x_calls) (C := RX9) (T := TX9) (N := 47) hx hb hts inw_X9_rule_X9 hown hK hP 0 rfl rfl 25 (by decide) (hts (.fieldLink RX9 128 "DockCallModel" "calls" "I") (by decide +kernel)) (fun _ h9 => h9) rfl dX9_rule_89 ?_
            obtain ⟨hi, hw⟩ := hw
            refine va_iast hx hb hK hP hD hS 2 0 rfl rfl hi dX9_rule_92 (fun H locs hP hD hS => ?_)
            have hP : va_P D vwCl [(ce_xm bd x_thrown_8 x_men x_ships x_entries x_rules x_calls x_gangs x_idle x_moved x_paid x_taped x_at x_end x_begin x_faultAt x_wants), ((bd 18), .inl (y 0, 100, .inl (upd x_rEntry x_rules.toNatClampNeg p0))), ((bd 19), .inl (y 0, 100, .inl (upd x_rCall x_rules.toNatClampNeg x_calls))), ((bd 20), .inl (y 0, 100, .inl x_rMoney))] H := hP
            have hD : va_D A [(ce_xm bd x_thrown_8 x_men x_ships x_entries x_rules x_calls x_gangs x_idle x_moved x_paid x_taped x_at x_end x_begin x_faultAt x_wants), ((bd 18), .inl (y 0, 100, .inl (upd x_rEntry x_rules.toNatClampNeg p0))), ((bd 19), .inl (y 0, 100, .inl (upd x_rCall x_rules.toNatClampNeg x_calls))), ((bd 20), .inl (y 0, 100, .inl x_rMoney))] := hD
            refine lv_aload_n hx hb dX9_rule_93 rfl (lv_at hl 0 rfl) ?_
            refine va_get (ci := 11) (v := .ref (bd 20)) (C := RX9) (T := TX9) (N := 47) hx hb hts inw_X9_rule_X9 hown hK hP 0 rfl rfl 23 (by decide) (hts (.fieldLink RX9 68 "DockCallModel" "rMoney" "[I") (by decide +kernel)) (fun _ h9 => h9) rfl dX9_rule_94 ?_
            refine lv_aload_n hx hb dX9_rule_97 rfl (lv_at hl 0 rfl) ?_
            refine va_get (ci := 11) (v := .int x_rules) (C := RX9) (T := TX9) (N := 47) hx hb hts inw_X9_rule_X9 hown hK hP 0 rfl rfl 24 (by decide) (hts (.fieldLink RX9 264 "DockCallModel" "rules" "I") (by decide +kernel)) (fun _ h9 => h9) rfl dX9_rule_98 ?_
            refine lv_iload_n hx hb dX9_rule_101 rfl (lv_at hl 2 rfl) ?_
            obtain ⟨hi, hw⟩ := hw
            refine va_iast hx hb hK hP hD hS 3 0 rfl rfl hi dX9_rule_102 (fun H locs hP hD hS => ?_)
            have hP : va_P D vwCl [(ce_xm bd x_thrown_8 x_men x_ships x_entries x_rules x_calls x_gangs x_idle x_moved x_paid x_taped x_at x_end x_begin x_faultAt x_wants), ((bd 18), .inl (y 0, 100, .inl (upd x_rEntry x_rules.toNatClampNeg p0))), ((bd 19), .inl (y 0, 100, .inl (upd x_rCall x_rules.toNatClampNeg x_calls))), ((bd 20), .inl (y 0, 100, .inl (upd x_rMoney x_rules.toNatClampNeg p1)))] H := hP
            have hD : va_D A [(ce_xm bd x_thrown_8 x_men x_ships x_entries x_rules x_calls x_gangs x_idle x_moved x_paid x_taped x_at x_end x_begin x_faultAt x_wants), ((bd 18), .inl (y 0, 100, .inl (upd x_rEntry x_rules.toNatClampNeg p0))), ((bd 19), .inl (y 0, 100, .inl (upd x_rCall x_rules.toNatClampNeg x_calls))), ((bd 20), .inl (y 0, 100, .inl (upd x_rMoney x_rules.toNatClampNeg p1)))] := hD
            refine lv_aload_n hx hb dX9_rule_103 rfl (lv_at hl 0 rfl) ?_
            refine lv_dup hx hb dX9_rule_104 rfl ?_
            refine va_get (ci := 11) (v := .int x_rules) (C := RX9) (T := TX9) (N := 47) hx hb hts inw_X9_rule_X9 hown hK hP 0 rfl rfl 24 (by decide) (hts (.fieldLink RX9 264 "DockCallModel" "rules" "I") (by decide +kernel)) (fun _ h9 => h9) rfl dX9_rule_105 ?_
            refine lv_iconst (v := 1) hx hb dX9_rule_108 (by decide) ?_
            refine lv_iadd hx hb dX9_rule_109 ?_
            refine va_put (ci := 11) (v := .int (x_rules + 1)) (ty := .int) (C := RX9) (T := TX9) (N := 47) hx hb hts inw_X9_rule_X9 tyX9 tyX9_ok nmX9 hown hK hP hD hS 0 rfl rfl 24 (by decide) (hts (.fieldLink RX9 264 "DockCallModel" "rules" "I") (by decide +kernel)) (fun _ h9 => h9) rfl (by decide +kernel) rfl rfl (Nat.le_of_ble_eq_true rfl) dX9_rule_110 (fun H locs hP hD hS => ?_)
            have hP : va_P D vwCl [(ce_xm bd x_thrown_8 x_men x_ships x_entries (x_rules + 1) x_calls x_gangs x_idle x_moved x_paid x_taped x_at x_end x_begin x_faultAt x_wants), ((bd 18), .inl (y 0, 100, .inl (upd x_rEntry x_rules.toNatClampNeg p0))), ((bd 19), .inl (y 0, 100, .inl (upd x_rCall x_rules.toNatClampNeg x_calls))), ((bd 20), .inl (y 0, 100, .inl (upd x_rMoney x_rules.toNatClampNeg p1)))] H := hP
            have hD : va_D A [(ce_xm bd x_thrown_8 x_men x_ships x_entries (x_rules + 1) x_calls x_gangs x_idle x_moved x_paid x_taped x_at x_end x_begin x_faultAt x_wants), ((bd 18), .inl (y 0, 100, .inl (upd x_rEntry x_rules.toNatClampNeg p0))), ((bd 19), .inl (y 0, 100, .inl (upd x_rCall x_rules.toNatClampNeg x_calls))), ((bd 20), .inl (y 0, 100, .inl (upd x_rMoney x_rules.toNatClampNeg p1)))] := hD
            refine lv_iconst (v := 1) hx hb dX9_rule_113 (by decide) ?_
            exact W.zret (v := 1) hx hb hr (by decide) (fun t ht hW => ⟨⟨1, (x_thrown_8, x_rules + 1, upd x_rEntry x_rules.toNatClampNeg p0, upd x_rCall x_rules.toNatClampNeg x_calls, upd x_rMoney x_rules.toNatClampNeg p1), rfl, hw, mAt.to hP hK hD ht hW⟩, hS.F ht⟩) hS.2.2 dX9_rule_114
          · have hw := hw.1 hc
            refine lv_iconst (v := 0) hx hb dX9_rule_68 (by decide) ?_
            exact W.zret (v := 0) hx hb hr (by decide) (fun t ht hW => ⟨⟨0, (x_thrown_8, x_rules, x_rEntry, x_rCall, x_rMoney), rfl, hw, mAt.to hP hK hD ht hW⟩, hS.F ht⟩) hS.2.2 dX9_rule_69
  · have hw := hw.1 hc
    refine lv_iconst (v := 1) hx hb dX9_rule_22 (by decide) ?_
    refine lv_goto (tgt := 27) hx hb dX9_rule_23 (by decide) ?_
    refine lv_iconst (v := 1) hx hb dX9_rule_27 (by decide) ?_
    refine mx_i (wc := [(ce_xm bd 0 x_men x_ships x_entries x_rules x_calls x_gangs x_idle x_moved x_paid x_taped x_at x_end x_begin x_faultAt x_wants)]) (wr := [((bd 18), .inl (y 0, 100, .inl x_rEntry)), ((bd 19), .inl (y 0, 100, .inl x_rCall)), ((bd 20), .inl (y 0, 100, .inl x_rMoney))]) hP hD hS hA [0] [1, 2, 3] [3, 0, 1, 2] rfl rfl (by decide) (by decide) (by decide) (fun (u : Int32) => [(ce_xm bd u x_men x_ships x_entries x_rules x_calls x_gangs x_idle x_moved x_paid x_taped x_at x_end x_begin x_faultAt x_wants), ((bd 18), .inl (y 0, 100, .inl x_rEntry)), ((bd 19), .inl (y 0, 100, .inl x_rCall)), ((bd 20), .inl (y 0, 100, .inl x_rMoney))]) (fun _ => rfl) (va_runV (As := [.int 1, .int 1]) (rest := []) ⟨hx, hb, hml, hown, hts⟩ (c_Model_throwsIf l D y bd H.size 0 x_men x_ships x_entries x_rules x_calls x_gangs x_idle x_moved x_paid x_taped x_at x_end x_begin x_faultAt x_wants 1 1 hw) (cwV 2 hts gX9_rule_X9_throwsIf rfl rfl rfl (by decide +kernel) ⟨Nat.le_of_ble_eq_true rfl, Nat.le_of_ble_eq_true rfl⟩) ⟨mPre.blind, (va_recv hK hP (ci := 11) (q0 := 0) rfl rfl), mPre.to (hP.sub [0] rfl) hK (hD.sub [0] (by decide) rfl) hE⟩ rfl rfl hl.1 rfl (lv_room (Nat.le_of_ble_eq_true rfl)) dX9_rule_28 ⟨Nat.le_of_ble_eq_true rfl, Nat.le_of_ble_eq_true rfl⟩) (fun r_9 u H locs hw hP hD hS => ?_)
    obtain ⟨x_thrown_10, rfl⟩ : ∃ z, z = u := ⟨_, rfl⟩
    try dsimp only at hw
    have hP : va_P D vwCl [(ce_xm bd x_thrown_10 x_men x_ships x_entries x_rules x_calls x_gangs x_idle x_moved x_paid x_taped x_at x_end x_begin x_faultAt x_wants), ((bd 18), .inl (y 0, 100, .inl x_rEntry)), ((bd 19), .inl (y 0, 100, .inl x_rCall)), ((bd 20), .inl (y 0, 100, .inl x_rMoney))] H := hP
    have hD : va_D A [(ce_xm bd x_thrown_10 x_men x_ships x_entries x_rules x_calls x_gangs x_idle x_moved x_paid x_taped x_at x_end x_begin x_faultAt x_wants), ((bd 18), .inl (y 0, 100, .inl x_rEntry)), ((bd 19), .inl (y 0, 100, .inl x_rCall)), ((bd 20), .inl (y 0, 100, .inl x_rMoney))] := hD
    refine lv_if_ne (tgt := 68) hx hb dX9_rule_31 (by decide) (fun hc => ?_) (fun hc => ?_)
    · have hw := hw.2 hc
      refine lv_iconst (v := 0) hx hb dX9_rule_68 (by decide) ?_
      exact W.zret (v := 0) hx hb hr (by decide) (fun t ht hW => ⟨⟨0, (x_thrown_10, x_rules, x_rEntry, x_rCall, x_rMoney), rfl, hw, mAt.to hP hK hD ht hW⟩, hS.F ht⟩) hS.2.2 dX9_rule_69
    · have hw := hw.1 hc
      refine lv_aload_n hx hb dX9_rule_34 rfl (lv_at hl 0 rfl) ?_
      refine lv_iload_n hx hb dX9_rule_35 rfl (lv_at hl 2 rfl) ?_
      refine lv_i2l hx hb dX9_rule_36 rfl ?_
      refine lv_lconst (v := 0) hx hb dX9_rule_37 (by decide) ?_
      refine lv_ldc2 hx hb hown (hts (.constantLong RX9 270 100000) (by decide +kernel)) dX9_rule_38 ?_
      refine mx_i (wc := []) (wr := [(ce_xm bd x_thrown_10 x_men x_ships x_entries x_rules x_calls x_gangs x_idle x_moved x_paid x_taped x_at x_end x_begin x_faultAt x_wants), ((bd 18), .inl (y 0, 100, .inl x_rEntry)), ((bd 19), .inl (y 0, 100, .inl x_rCall)), ((bd 20), .inl (y 0, 100, .inl x_rMoney))]) hP hD hS hA [] [0, 1, 2, 3] [0, 1, 2, 3] rfl rfl (by decide) (by decide) (by decide) (fun (u : Unit) => [(ce_xm bd x_thrown_10 x_men x_ships x_entries x_rules x_calls x_gangs x_idle x_moved x_paid x_taped x_at x_end x_begin x_faultAt x_wants), ((bd 18), .inl (y 0, 100, .inl x_rEntry)), ((bd 19), .inl (y 0, 100, .inl x_rCall)), ((bd 20), .inl (y 0, 100, .inl x_rMoney))]) (fun _ => rfl) (va_runS (As := [.long p1.toInt64, .long 0, .long 100000]) (rest := [.ref (bd 0)]) ⟨hx, hb, hml, hown, hts⟩ (c_Model_in l D y H.size p1.toInt64 0 100000 hw) (va_cwS 3 hts gX9_rule_X9_in rfl rfl rfl (by decide +kernel) ⟨Nat.le_of_ble_eq_true rfl, Nat.le_of_ble_eq_true rfl⟩) ⟨mPre.blind, mPre.to (hP.sub [] rfl) hK (hD.sub [] (by decide) rfl) hE⟩ rfl rfl hl.1 rfl (lv_room (Nat.le_of_ble_eq_true rfl)) dX9_rule_41 ⟨Nat.le_of_ble_eq_true rfl, Nat.le_of_ble_eq_true rfl⟩) (fun r_11 u H locs hw hP hD hS => ?_)
      try dsimp only at hw
      have hP : va_P D vwCl [(ce_xm bd x_thrown_10 x_men x_ships x_entries x_rules x_calls x_gangs x_idle x_moved x_paid x_taped x_at x_end x_begin x_faultAt x_wants), ((bd 18), .inl (y 0, 100, .inl x_rEntry)), ((bd 19), .inl (y 0, 100, .inl x_rCall)), ((bd 20), .inl (y 0, 100, .inl x_rMoney))] H := hP
      have hD : va_D A [(ce_xm bd x_thrown_10 x_men x_ships x_entries x_rules x_calls x_gangs x_idle x_moved x_paid x_taped x_at x_end x_begin x_faultAt x_wants), ((bd 18), .inl (y 0, 100, .inl x_rEntry)), ((bd 19), .inl (y 0, 100, .inl x_rCall)), ((bd 20), .inl (y 0, 100, .inl x_rMoney))] := hD
      refine lv_if_ne (tgt := 51) hx hb dX9_rule_44 (by decide) (fun hc => ?_) (fun hc => ?_)
      · have hw := hw.2 hc
        refine lv_iconst (v := 0) hx hb dX9_rule_51 (by decide) ?_
        refine lv_iconst (v := 2) hx hb dX9_rule_52 (by decide) ?_
        refine mx_i (wc := [(ce_xm bd x_thrown_10 x_men x_ships x_entries x_rules x_calls x_gangs x_idle x_moved x_paid x_taped x_at x_end x_begin x_faultAt x_wants)]) (wr := [((bd 18), .inl (y 0, 100, .inl x_rEntry)), ((bd 19), .inl (y 0, 100, .inl x_rCall)), ((bd 20), .inl (y 0, 100, .inl x_rMoney))]) hP hD hS hA [0] [1, 2, 3] [3, 0, 1, 2] rfl rfl (by decide) (by decide) (by decide) (fun (u : Int32) => [(ce_xm bd u x_men x_ships x_entries x_rules x_calls x_gangs x_idle x_moved x_paid x_taped x_at x_end x_begin x_faultAt x_wants), ((bd 18), .inl (y 0, 100, .inl x_rEntry)), ((bd 19), .inl (y 0, 100, .inl x_rCall)), ((bd 20), .inl (y 0, 100, .inl x_rMoney))]) (fun _ => rfl) (va_runV (As := [.int 0, .int 2]) (rest := []) ⟨hx, hb, hml, hown, hts⟩ (c_Model_throwsIf l D y bd H.size x_thrown_10 x_men x_ships x_entries x_rules x_calls x_gangs x_idle x_moved x_paid x_taped x_at x_end x_begin x_faultAt x_wants 0 2 hw) (cwV 2 hts gX9_rule_X9_throwsIf rfl rfl rfl (by decide +kernel) ⟨Nat.le_of_ble_eq_true rfl, Nat.le_of_ble_eq_true rfl⟩) ⟨mPre.blind, (va_recv hK hP (ci := 11) (q0 := 0) rfl rfl), mPre.to (hP.sub [0] rfl) hK (hD.sub [0] (by decide) rfl) hE⟩ rfl rfl hl.1 rfl (lv_room (Nat.le_of_ble_eq_true rfl)) dX9_rule_53 ⟨Nat.le_of_ble_eq_true rfl, Nat.le_of_ble_eq_true rfl⟩) (fun r_12 u H locs hw hP hD hS => ?_)
        obtain ⟨x_thrown_13, rfl⟩ : ∃ z, z = u := ⟨_, rfl⟩
        try dsimp only at hw
        have hP : va_P D vwCl [(ce_xm bd x_thrown_13 x_men x_ships x_entries x_rules x_calls x_gangs x_idle x_moved x_paid x_taped x_at x_end x_begin x_faultAt x_wants), ((bd 18), .inl (y 0, 100, .inl x_rEntry)), ((bd 19), .inl (y 0, 100, .inl x_rCall)), ((bd 20), .inl (y 0, 100, .inl x_rMoney))] H := hP
        have hD : va_D A [(ce_xm bd x_thrown_13 x_men x_ships x_entries x_rules x_calls x_gangs x_idle x_moved x_paid x_taped x_at x_end x_begin x_faultAt x_wants), ((bd 18), .inl (y 0, 100, .inl x_rEntry)), ((bd 19), .inl (y 0, 100, .inl x_rCall)), ((bd 20), .inl (y 0, 100, .inl x_rMoney))] := hD
        refine lv_if_ne (tgt := 68) hx hb dX9_rule_56 (by decide) (fun hc => ?_) (fun hc => ?_)
        · have hw := hw.2 hc
          refine lv_iconst (v := 0) hx hb dX9_rule_68 (by decide) ?_
          exact W.zret (v := 0) hx hb hr (by decide) (fun t ht hW => ⟨⟨0, (x_thrown_13, x_rules, x_rEntry, x_rCall, x_rMoney), rfl, hw, mAt.to hP hK hD ht hW⟩, hS.F ht⟩) hS.2.2 dX9_rule_69
        · have hw := hw.1 hc
          refine lv_aload_n hx hb dX9_rule_59 rfl (lv_at hl 0 rfl) ?_
          refine va_get (ci := 11) (v := .int x_rules) (C := RX9) (T := TX9) (N := 47) hx hb hts inw_X9_rule_X9 hown hK hP 0 rfl rfl 24 (by decide) (hts (.fieldLink RX9 264 "DockCallModel" "rules" "I") (by decide +kernel)) (fun _ h9 => h9) rfl dX9_rule_60 ?_
          refine lv_bipush (v := 100) hx hb dX9_rule_63 (by decide) ?_
          refine lv_icmp_ne (tgt := 70) hx hb dX9_rule_65 (by decide) (fun hc => ?_) (fun hc => ?_)
          · have hw := hw.2 hc
            refine lv_aload_n hx hb dX9_rule_70 rfl (lv_at hl 0 rfl) ?_
            refine va_get (ci := 11) (v := .ref (bd 18)) (C := RX9) (T := TX9) (N := 47) hx hb hts inw_X9_rule_X9 hown hK hP 0 rfl rfl 21 (by decide) (hts (.fieldLink RX9 62 "DockCallModel" "rEntry" "[I") (by decide +kernel)) (fun _ h9 => h9) rfl dX9_rule_71 ?_
            refine lv_aload_n hx hb dX9_rule_74 rfl (lv_at hl 0 rfl) ?_
            refine va_get (ci := 11) (v := .int x_rules) (C := RX9) (T := TX9) (N := 47) hx hb hts inw_X9_rule_X9 hown hK hP 0 rfl rfl 24 (by decide) (hts (.fieldLink RX9 264 "DockCallModel" "rules" "I") (by decide +kernel)) (fun _ h9 => h9) rfl dX9_rule_75 ?_
            refine lv_iload_n hx hb dX9_rule_78 rfl (lv_at hl 1 rfl) ?_
            obtain ⟨hi, hw⟩ := hw
            refine va_iast hx hb hK hP hD hS 1 0 rfl rfl hi dX9_rule_79 (fun H locs hP hD hS => ?_)
            have hP : va_P D vwCl [(ce_xm bd x_thrown_13 x_men x_ships x_entries x_rules x_calls x_gangs x_idle x_moved x_paid x_taped x_at x_end x_begin x_faultAt x_wants), ((bd 18), .inl (y 0, 100, .inl (upd x_rEntry x_rules.toNatClampNeg p0))), ((bd 19), .inl (y 0, 100, .inl x_rCall)), ((bd 20), .inl (y 0, 100, .inl x_rMoney))] H := hP
            have hD : va_D A [(ce_xm bd x_thrown_13 x_men x_ships x_entries x_rules x_calls x_gangs x_idle x_moved x_paid x_taped x_at x_end x_begin x_faultAt x_wants), ((bd 18), .inl (y 0, 100, .inl (upd x_rEntry x_rules.toNatClampNeg p0))), ((bd 19), .inl (y 0, 100, .inl x_rCall)), ((bd 20), .inl (y 0, 100, .inl x_rMoney))] := hD
            refine lv_aload_n hx hb dX9_rule_80 rfl (lv_at hl 0 rfl) ?_
            refine va_get (ci := 11) (v := .ref (bd 19)) (C := RX9) (T := TX9) (N := 47) hx hb hts inw_X9_rule_X9 hown hK hP 0 rfl rfl 22 (by decide) (hts (.fieldLink RX9 65 "DockCallModel" "rCall" "[I") (by decide +kernel)) (fun _ h9 => h9) rfl dX9_rule_81 ?_
            refine lv_aload_n hx hb dX9_rule_84 rfl (lv_at hl 0 rfl) ?_
            refine va_get (ci := 11) (v := .int x_rules) (C := RX9) (T := TX9) (N := 47) hx hb hts inw_X9_rule_X9 hown hK hP 0 rfl rfl 24 (by decide) (hts (.fieldLink RX9 264 "DockCallModel" "rules" "I") (by decide +kernel)) (fun _ h9 => h9) rfl dX9_rule_85 ?_
            refine lv_aload_n hx hb dX9_rule_88 rfl (lv_at hl 0 rfl) ?_
            refine va_get (ci := 11) (v := .int x_calls) (C := RX9) (T := TX9) (N := 47) hx hb hts inw_X9_rule_X9 hown hK hP 0 rfl rfl 25 (by decide) (hts (.fieldLink RX9 128 "DockCallModel" "calls" "I") (by decide +kernel)) (fun _ h9 => h9) rfl dX9_rule_89 ?_
            obtain ⟨hi, hw⟩ := hw
            refine va_iast hx hb hK hP hD hS 2 0 rfl rfl hi dX9_rule_92 (fun H locs hP hD hS => ?_)
            have hP : va_P D vwCl [(ce_xm bd x_thrown_13 x_men x_ships x_entries x_rules x_calls x_gangs x_idle x_moved x_paid x_taped x_at x_end x_begin x_faultAt x_wants), ((bd 18), .inl (y 0, 100, .inl (upd x_rEntry x_rules.toNatClampNeg p0))), ((bd 19), .inl (y 0, 100, .inl (upd x_rCall x_rules.toNatClampNeg x_calls))), ((bd 20), .inl (y 0, 100, .inl x_rMoney))] H := hP
            have hD : va_D A [(ce_xm bd x_thrown_13 x_men x_ships x_entries x_rules x_calls x_gangs x_idle x_moved x_paid x_taped x_at x_end x_begin x_faultAt x_wants), ((bd 18), .inl (y 0, 100, .inl (upd x_rEntry x_rules.toNatClampNeg p0))), ((bd 19), .inl (y 0, 100, .inl (upd x_rCall x_rules.toNatClampNeg x_calls))), ((bd 20), .inl (y 0, 100, .inl x_rMoney))] := hD
            refine lv_aload_n hx hb dX9_rule_93 rfl (lv_at hl 0 rfl) ?_
            refine va_get (ci := 11) (v := .ref (bd 20)) (C := RX9) (T := TX9) (N := 47) hx hb hts inw_X9_rule_X9 hown hK hP 0 rfl rfl 23 (by decide) (hts (.fieldLink RX9 68 "DockCallModel" "rMoney" "[I") (by decide +kernel)) (fun _ h9 => h9) rfl dX9_rule_94 ?_
            refine lv_aload_n hx hb dX9_rule_97 rfl (lv_at hl 0 rfl) ?_
            refine va_get (ci := 11) (v := .int x_rules) (C := RX9) (T := TX9) (N := 47) hx hb hts inw_X9_rule_X9 hown hK hP 0 rfl rfl 24 (by decide) (hts (.fieldLink RX9 264 "DockCallModel" "rules" "I") (by decide +kernel)) (fun _ h9 => h9) rfl dX9_rule_98 ?_
            refine lv_iload_n hx hb dX9_rule_101 rfl (lv_at hl 2 rfl) ?_
            obtain ⟨hi, hw⟩ := hw
            refine va_iast hx hb hK hP hD hS 3 0 rfl rfl hi dX9_rule_102 (fun H locs hP hD hS => ?_)
            have hP : va_P D vwCl [(ce_xm bd x_thrown_13 x_men x_ships x_entries x_rules x_calls x_gangs x_idle x_moved x_paid x_taped x_at x_end x_begin x_faultAt x_wants), ((bd 18), .inl (y 0, 100, .inl (upd x_rEntry x_rules.toNatClampNeg p0))), ((bd 19), .inl (y 0, 100, .inl (upd x_rCall x_rules.toNatClampNeg x_calls))), ((bd 20), .inl (y 0, 100, .inl (upd x_rMoney x_rules.toNatClampNeg p1)))] H := hP
            have hD : va_D A [(ce_xm bd x_thrown_13 x_men x_ships x_entries x_rules x_calls x_gangs x_idle x_moved x_paid x_taped x_at x_end x_begin x_faultAt x_wants), ((bd 18), .inl (y 0, 100, .inl (upd x_rEntry x_rules.toNatClampNeg p0))), ((bd 19), .inl (y 0, 100, .inl (upd x_rCall x_rules.toNatClampNeg x_calls))), ((bd 20), .inl (y 0, 100, .inl (upd x_rMoney x_rules.toNatClampNeg p1)))] := hD
            refine lv_aload_n hx hb dX9_rule_103 rfl (lv_at hl 0 rfl) ?_
            refine lv_dup hx hb dX9_rule_104 rfl ?_
            refine va_get (ci := 11) (v := .int x_rules) (C := RX9) (T := TX9) (N := 47) hx hb hts inw_X9_rule_X9 hown hK hP 0 rfl rfl 24 (by decide) (hts (.fieldLink RX9 264 "DockCallModel" "rules" "I") (by decide +kernel)) (fun _ h9 => h9) rfl dX9_rule_105 ?_
            refine lv_iconst (v := 1) hx hb dX9_rule_108 (by decide) ?_
            refine lv_iadd hx hb dX9_rule_109 ?_
            refine va_put (ci := 11) (v := .int (x_rules + 1)) (ty := .int) (C := RX9) (T := TX9) (N := 47) hx hb hts inw_X9_rule_X9 tyX9 tyX9_ok nmX9 hown hK hP hD hS 0 rfl rfl 24 (by decide) (hts (.fieldLink RX9 264 "DockCallModel" "rules" "I") (by decide +kernel)) (fun _ h9 => h9) rfl (by decide +kernel) rfl rfl (Nat.le_of_ble_eq_true rfl) dX9_rule_110 (fun H locs hP hD hS => ?_)
            have hP : va_P D vwCl [(ce_xm bd x_thrown_13 x_men x_ships x_entries (x_rules + 1) x_calls x_gangs x_idle x_moved x_paid x_taped x_at x_end x_begin x_faultAt x_wants), ((bd 18), .inl (y 0, 100, .inl (upd x_rEntry x_rules.toNatClampNeg p0))), ((bd 19), .inl (y 0, 100, .inl (upd x_rCall x_rules.toNatClampNeg x_calls))), ((bd 20), .inl (y 0, 100, .inl (upd x_rMoney x_rules.toNatClampNeg p1)))] H := hP
            have hD : va_D A [(ce_xm bd x_thrown_13 x_men x_ships x_entries (x_rules + 1) x_calls x_gangs x_idle x_moved x_paid x_taped x_at x_end x_begin x_faultAt x_wants), ((bd 18), .inl (y 0, 100, .inl (upd x_rEntry x_rules.toNatClampNeg p0))), ((bd 19), .inl (y 0, 100, .inl (upd x_rCall x_rules.toNatClampNeg x_calls))), ((bd 20), .inl (y 0, 100, .inl (upd x_rMoney x_rules.toNatClampNeg p1)))] := hD
            refine lv_iconst (v := 1) hx hb dX9_rule_113 (by decide) ?_
            exact W.zret (v := 1) hx hb hr (by decide) (fun t ht hW => ⟨⟨1, (x_thrown_13, x_rules + 1, upd x_rEntry x_rules.toNatClampNeg p0, upd x_rCall x_rules.toNatClampNeg x_calls, upd x_rMoney x_rules.toNatClampNeg p1), rfl, hw, mAt.to hP hK hD ht hW⟩, hS.F ht⟩) hS.2.2 dX9_rule_114
          · have hw := hw.1 hc
            refine lv_iconst (v := 0) hx hb dX9_rule_68 (by decide) ?_
            exact W.zret (v := 0) hx hb hr (by decide) (fun t ht hW => ⟨⟨0, (x_thrown_13, x_rules, x_rEntry, x_rCall, x_rMoney), rfl, hw, mAt.to hP hK hD ht hW⟩, hS.F ht⟩) hS.2.2 dX9_rule_69
      · have hw := hw.1 hc
        refine lv_iconst (v := 1) hx hb dX9_rule_47 (by decide) ?_
        refine lv_goto (tgt := 52) hx hb dX9_rule_48 (by decide) ?_
        refine lv_iconst (v := 2) hx hb dX9_rule_52 (by decide) ?_
        refine mx_i (wc := [(ce_xm bd x_thrown_10 x_men x_ships x_entries x_rules x_calls x_gangs x_idle x_moved x_paid x_taped x_at x_end x_begin x_faultAt x_wants)]) (wr := [((bd 18), .inl (y 0, 100, .inl x_rEntry)), ((bd 19), .inl (y 0, 100, .inl x_rCall)), ((bd 20), .inl (y 0, 100, .inl x_rMoney))]) hP hD hS hA [0] [1, 2, 3] [3, 0, 1, 2] rfl rfl (by decide) (by decide) (by decide) (fun (u : Int32) => [(ce_xm bd u x_men x_ships x_entries x_rules x_calls x_gangs x_idle x_moved x_paid x_taped x_at x_end x_begin x_faultAt x_wants), ((bd 18), .inl (y 0, 100, .inl x_rEntry)), ((bd 19), .inl (y 0, 100, .inl x_rCall)), ((bd 20), .inl (y 0, 100, .inl x_rMoney))]) (fun _ => rfl) (va_runV (As := [.int 1, .int 2]) (rest := []) ⟨hx, hb, hml, hown, hts⟩ (c_Model_throwsIf l D y bd H.size x_thrown_10 x_men x_ships x_entries x_rules x_calls x_gangs x_idle x_moved x_paid x_taped x_at x_end x_begin x_faultAt x_wants 1 2 hw) (cwV 2 hts gX9_rule_X9_throwsIf rfl rfl rfl (by decide +kernel) ⟨Nat.le_of_ble_eq_true rfl, Nat.le_of_ble_eq_true rfl⟩) ⟨mPre.blind, (va_recv hK hP (ci := 11) (q0 := 0) rfl rfl), mPre.to (hP.sub [0] rfl) hK (hD.sub [0] (by decide) rfl) hE⟩ rfl rfl hl.1 rfl (lv_room (Nat.le_of_ble_eq_true rfl)) dX9_rule_53 ⟨Nat.le_of_ble_eq_true rfl, Nat.le_of_ble_eq_true rfl⟩) (fun r_14 u H locs hw hP hD hS => ?_)
        obtain ⟨x_thrown_15, rfl⟩ : ∃ z, z = u := ⟨_, rfl⟩
        try dsimp only at hw
        have hP : va_P D vwCl [(ce_xm bd x_thrown_15 x_men x_ships x_entries x_rules x_calls x_gangs x_idle x_moved x_paid x_taped x_at x_end x_begin x_faultAt x_wants), ((bd 18), .inl (y 0, 100, .inl x_rEntry)), ((bd 19), .inl (y 0, 100, .inl x_rCall)), ((bd 20), .inl (y 0, 100, .inl x_rMoney))] H := hP
        have hD : va_D A [(ce_xm bd x_thrown_15 x_men x_ships x_entries x_rules x_calls x_gangs x_idle x_moved x_paid x_taped x_at x_end x_begin x_faultAt x_wants), ((bd 18), .inl (y 0, 100, .inl x_rEntry)), ((bd 19), .inl (y 0, 100, .inl x_rCall)), ((bd 20), .inl (y 0, 100, .inl x_rMoney))] := hD
        refine lv_if_ne (tgt := 68) hx hb dX9_rule_56 (by decide) (fun hc => ?_) (fun hc => ?_)
        · have hw := hw.2 hc
          refine lv_iconst (v := 0) hx hb dX9_rule_68 (by decide) ?_
          exact W.zret (v := 0) hx hb hr (by decide) (fun t ht hW => ⟨⟨0, (x_thrown_15, x_rules, x_rEntry, x_rCall, x_rMoney), rfl, hw, mAt.to hP hK hD ht hW⟩, hS.F ht⟩) hS.2.2 dX9_rule_69
        · have hw := hw.1 hc
          refine lv_aload_n hx hb dX9_rule_59 rfl (lv_at hl 0 rfl) ?_
          refine va_get (ci := 11) (v := .int x_rules) (C := RX9) (T := TX9) (N := 47) hx hb hts inw_X9_rule_X9 hown hK hP 0 rfl rfl 24 (by decide) (hts (.fieldLink RX9 264 "DockCallModel" "rules" "I") (by decide +kernel)) (fun _ h9 => h9) rfl dX9_rule_60 ?_
          refine lv_bipush (v := 100) hx hb dX9_rule_63 (by decide) ?_
          refine lv_icmp_ne (tgt := 70) hx hb dX9_rule_65 (by decide) (fun hc => ?_) (fun hc => ?_)
          · have hw := hw.2 hc
            refine lv_aload_n hx hb dX9_rule_70 rfl (lv_at hl 0 rfl) ?_
            refine va_get (ci := 11) (v := .ref (bd 18)) (C := RX9) (T := TX9) (N := 47) hx hb hts inw_X9_rule_X9 hown hK hP 0 rfl rfl 21 (by decide) (hts (.fieldLink RX9 62 "DockCallModel" "rEntry" "[I") (by decide +kernel)) (fun _ h9 => h9) rfl dX9_rule_71 ?_
            refine lv_aload_n hx hb dX9_rule_74 rfl (lv_at hl 0 rfl) ?_
            refine va_get (ci := 11) (v := .int x_rules) (C := RX9) (T := TX9) (N := 47) hx hb hts inw_X9_rule_X9 hown hK hP 0 rfl rfl 24 (by decide) (hts (.fieldLink RX9 264 "DockCallModel" "rules" "I") (by decide +kernel)) (fun _ h9 => h9) rfl dX9_rule_75 ?_
            refine lv_iload_n hx hb dX9_rule_78 rfl (lv_at hl 1 rfl) ?_
            obtain ⟨hi, hw⟩ := hw
            refine va_iast hx hb hK hP hD hS 1 0 rfl rfl hi dX9_rule_79 (fun H locs hP hD hS => ?_)
            have hP : va_P D vwCl [(ce_xm bd x_thrown_15 x_men x_ships x_entries x_rules x_calls x_gangs x_idle x_moved x_paid x_taped x_at x_end x_begin x_faultAt x_wants), ((bd 18), .inl (y 0, 100, .inl (upd x_rEntry x_rules.toNatClampNeg p0))), ((bd 19), .inl (y 0, 100, .inl x_rCall)), ((bd 20), .inl (y 0, 100, .inl x_rMoney))] H := hP
            have hD : va_D A [(ce_xm bd x_thrown_15 x_men x_ships x_entries x_rules x_calls x_gangs x_idle x_moved x_paid x_taped x_at x_end x_begin x_faultAt x_wants), ((bd 18), .inl (y 0, 100, .inl (upd x_rEntry x_rules.toNatClampNeg p0))), ((bd 19), .inl (y 0, 100, .inl x_rCall)), ((bd 20), .inl (y 0, 100, .inl x_rMoney))] := hD
            refine lv_aload_n hx hb dX9_rule_80 rfl (lv_at hl 0 rfl) ?_
            refine va_get (ci := 11) (v := .ref (bd 19)) (C := RX9) (T := TX9) (N := 47) hx hb hts inw_X9_rule_X9 hown hK hP 0 rfl rfl 22 (by decide) (hts (.fieldLink RX9 65 "DockCallModel" "rCall" "[I") (by decide +kernel)) (fun _ h9 => h9) rfl dX9_rule_81 ?_
            refine lv_aload_n hx hb dX9_rule_84 rfl (lv_at hl 0 rfl) ?_
            refine va_get (ci := 11) (v := .int x_rules) (C := RX9) (T := TX9) (N := 47) hx hb hts inw_X9_rule_X9 hown hK hP 0 rfl rfl 24 (by decide) (hts (.fieldLink RX9 264 "DockCallModel" "rules" "I") (by decide +kernel)) (fun _ h9 => h9) rfl dX9_rule_85 ?_
            refine lv_aload_n hx hb dX9_rule_88 rfl (lv_at hl 0 rfl) ?_
            refine va_get (ci := 11) (v := .int x_calls) (C := RX9) (T := TX9) (N := 47) hx hb hts inw_X9_rule_X9 hown hK hP 0 rfl rfl 25 (by decide) (hts (.fieldLink RX9 128 "DockCallModel" "calls" "I") (by decide +kernel)) (fun _ h9 => h9) rfl dX9_rule_89 ?_
            obtain ⟨hi, hw⟩ := hw
            refine va_iast hx hb hK hP hD hS 2 0 rfl rfl hi dX9_rule_92 (fun H locs hP hD hS => ?_)
            have hP : va_P D vwCl [(ce_xm bd x_thrown_15 x_men x_ships x_entries x_rules x_calls x_gangs x_idle x_moved x_paid x_taped x_at x_end x_begin x_faultAt x_wants), ((bd 18), .inl (y 0, 100, .inl (upd x_rEntry x_rules.toNatClampNeg p0))), ((bd 19), .inl (y 0, 100, .inl (upd x_rCall x_rules.toNatClampNeg x_calls))), ((bd 20), .inl (y 0, 100, .inl x_rMoney))] H := hP
            have hD : va_D A [(ce_xm bd x_thrown_15 x_men x_ships x_entries x_rules x_calls x_gangs x_idle x_moved x_paid x_taped x_at x_end x_begin x_faultAt x_wants), ((bd 18), .inl (y 0, 100, .inl (upd x_rEntry x_rules.toNatClampNeg p0))), ((bd 19), .inl (y 0, 100, .inl (upd x_rCall x_rules.toNatClampNeg x_calls))), ((bd 20), .inl (y 0, 100, .inl x_rMoney))] := hD
            refine lv_aload_n hx hb dX9_rule_93 rfl (lv_at hl 0 rfl) ?_
            refine va_get (ci := 11) (v := .ref (bd 20)) (C := RX9) (T := TX9) (N := 47) hx hb hts inw_X9_rule_X9 hown hK hP 0 rfl rfl 23 (by decide) (hts (.fieldLink RX9 68 "DockCallModel" "rMoney" "[I") (by decide +kernel)) (fun _ h9 => h9) rfl dX9_rule_94 ?_
            refine lv_aload_n hx hb dX9_rule_97 rfl (lv_at hl 0 rfl) ?_
            refine va_get (ci := 11) (v := .int x_rules) (C := RX9) (T := TX9) (N := 47) hx hb hts inw_X9_rule_X9 hown hK hP 0 rfl rfl 24 (by decide) (hts (.fieldLink RX9 264 "DockCallModel" "rules" "I") (by decide +kernel)) (fun _ h9 => h9) rfl dX9_rule_98 ?_
            refine lv_iload_n hx hb dX9_rule_101 rfl (lv_at hl 2 rfl) ?_
            obtain ⟨hi, hw⟩ := hw
            refine va_iast hx hb hK hP hD hS 3 0 rfl rfl hi dX9_rule_102 (fun H locs hP hD hS => ?_)
            have hP : va_P D vwCl [(ce_xm bd x_thrown_15 x_men x_ships x_entries x_rules x_calls x_gangs x_idle x_moved x_paid x_taped x_at x_end x_begin x_faultAt x_wants), ((bd 18), .inl (y 0, 100, .inl (upd x_rEntry x_rules.toNatClampNeg p0))), ((bd 19), .inl (y 0, 100, .inl (upd x_rCall x_rules.toNatClampNeg x_calls))), ((bd 20), .inl (y 0, 100, .inl (upd x_rMoney x_rules.toNatClampNeg p1)))] H := hP
            have hD : va_D A [(ce_xm bd x_thrown_15 x_men x_ships x_entries x_rules x_calls x_gangs x_idle x_moved x_paid x_taped x_at x_end x_begin x_faultAt x_wants), ((bd 18), .inl (y 0, 100, .inl (upd x_rEntry x_rules.toNatClampNeg p0))), ((bd 19), .inl (y 0, 100, .inl (upd x_rCall x_rules.toNatClampNeg x_calls))), ((bd 20), .inl (y 0, 100, .inl (upd x_rMoney x_rules.toNatClampNeg p1)))] := hD
            refine lv_aload_n hx hb dX9_rule_103 rfl (lv_at hl 0 rfl) ?_
            refine lv_dup hx hb dX9_rule_104 rfl ?_
            refine va_get (ci := 11) (v := .int x_rules) (C := RX9) (T := TX9) (N := 47) hx hb hts inw_X9_rule_X9 hown hK hP 0 rfl rfl 24 (by decide) (hts (.fieldLink RX9 264 "DockCallModel" "rules" "I") (by decide +kernel)) (fun _ h9 => h9) rfl dX9_rule_105 ?_
            refine lv_iconst (v := 1) hx hb dX9_rule_108 (by decide) ?_
            refine lv_iadd hx hb dX9_rule_109 ?_
            refine va_put (ci := 11) (v := .int (x_rules + 1)) (ty := .int) (C := RX9) (T := TX9) (N := 47) hx hb hts inw_X9_rule_X9 tyX9 tyX9_ok nmX9 hown hK hP hD hS 0 rfl rfl 24 (by decide) (hts (.fieldLink RX9 264 "DockCallModel" "rules" "I") (by decide +kernel)) (fun _ h9 => h9) rfl (by decide +kernel) rfl rfl (Nat.le_of_ble_eq_true rfl) dX9_rule_110 (fun H locs hP hD hS => ?_)
            have hP : va_P D vwCl [(ce_xm bd x_thrown_15 x_men x_ships x_entries (x_rules + 1) x_calls x_gangs x_idle x_moved x_paid x_taped x_at x_end x_begin x_faultAt x_wants), ((bd 18), .inl (y 0, 100, .inl (upd x_rEntry x_rules.toNatClampNeg p0))), ((bd 19), .inl (y 0, 100, .inl (upd x_rCall x_rules.toNatClampNeg x_calls))), ((bd 20), .inl (y 0, 100, .inl (upd x_rMoney x_rules.toNatClampNeg p1)))] H := hP
            have hD : va_D A [(ce_xm bd x_thrown_15 x_men x_ships x_entries (x_rules + 1) x_calls x_gangs x_idle x_moved x_paid x_taped x_at x_end x_begin x_faultAt x_wants), ((bd 18), .inl (y 0, 100, .inl (upd x_rEntry x_rules.toNatClampNeg p0))), ((bd 19), .inl (y 0, 100, .inl (upd x_rCall x_rules.toNatClampNeg x_calls))), ((bd 20), .inl (y 0, 100, .inl (upd x_rMoney x_rules.toNatClampNeg p1)))] := hD
            refine lv_iconst (v := 1) hx hb dX9_rule_113 (by decide) ?_
            exact W.zret (v := 1) hx hb hr (by decide) (fun t ht hW => ⟨⟨1, (x_thrown_15, x_rules + 1, upd x_rEntry x_rules.toNatClampNeg p0, upd x_rCall x_rules.toNatClampNeg x_calls, upd x_rMoney x_rules.toNatClampNeg p1), rfl, hw, mAt.to hP hK hD ht hW⟩, hS.F ht⟩) hS.2.2 dX9_rule_114
          · have hw := hw.1 hc
            refine lv_iconst (v := 0) hx hb dX9_rule_68 (by decide) ?_
            exact W.zret (v := 0) hx hb hr (by decide) (fun t ht hW => ⟨⟨0, (x_thrown_15, x_rules, x_rEntry, x_rCall, x_rMoney), rfl, hw, mAt.to hP hK hD ht hW⟩, hS.F ht⟩) hS.2.2 dX9_rule_69
theorem inw_X9_earned_X9 : ∀ w ∈ wsX90, w ∈ wsX9_earned := fun _ h => List.mem_cons_of_mem _ (List.mem_append_left _ (List.mem_append_right _ h))
def wp_Model_earned_h26 (v1 : Int32) (v2 : Int32) (v3 : Int32) (x_thrown : Int32) (x_entries : Int32) (x_rules : Int32) (x_eCall : Nat → Int32) (x_eMan : Nat → Int32) (x_eMoney : Nat → Int32) (x_rEntry : Nat → Int32) (x_rCall : Nat → Int32) (x_rMoney : Nat → Int32)  (Q : Int32 → Int32 → Prop) : Nat → Int32 → Int32 → Prop
  | 0, _, _ => False
  | n + 1, v4, v5 => ((x_entries ≤ v5 → Q v4 x_thrown) ∧ (¬ x_entries ≤ v5 → (vp_in v5 800 ∧ ((x_eMan v5.toNatClampNeg = v1 → (vp_in v5 800 ∧ ((v2 < x_eCall v5.toNatClampNeg → wp_Model_earned_h26 v1 v2 v3 x_thrown x_entries x_rules x_eCall x_eMan x_eMoney x_rEntry x_rCall x_rMoney Q n v4 (v5 + 1)) ∧ (¬ v2 < x_eCall v5.toNatClampNeg → (vp_in v5 800 ∧ ((v3 ≤ x_eCall v5.toNatClampNeg → wp_Model_earned_h26 v1 v2 v3 x_thrown x_entries x_rules x_eCall x_eMan x_eMoney x_rEntry x_rCall x_rMoney Q n v4 (v5 + 1)) ∧ (¬ v3 ≤ x_eCall v5.toNatClampNeg → (wp_Model_moneyOf x_rules x_eMoney x_rEntry x_rCall x_rMoney v5 v3 (fun r_4 => wp_Model_earned_h26 v1 v2 v3 x_thrown x_entries x_rules x_eCall x_eMan x_eMoney x_rEntry x_rCall x_rMoney Q n (v4 + r_4) (v5 + 1)))))))))) ∧ (¬ x_eMan v5.toNatClampNeg = v1 → wp_Model_earned_h26 v1 v2 v3 x_thrown x_entries x_rules x_eCall x_eMan x_eMoney x_rEntry x_rCall x_rMoney Q n v4 (v5 + 1))))))
def wp_Model_earned (x_men : Int32) (x_entries : Int32) (x_rules : Int32) (x_eCall : Nat → Int32) (x_eMan : Nat → Int32) (x_eMoney : Nat → Int32) (x_rEntry : Nat → Int32) (x_rCall : Nat → Int32) (x_rMoney : Nat → Int32) (p0 : Int32) (p1 : Int32) (p2 : Int32) (Q : Int32 → Int32 → Prop) : Prop := (wp_Model_noMan x_men p0 (fun r_1 => (wp_Model_throwsIf 0 r_1 1 (fun r_2 x_thrown_3 => ((r_2 = 0 → (∃ n' : Nat, wp_Model_earned_h26 p0 p1 p2 x_thrown_3 x_entries x_rules x_eCall x_eMan x_eMoney x_rEntry x_rCall x_rMoney Q n' 0 0)) ∧ (¬ r_2 = 0 → Q 0 x_thrown_3))))))
set_option maxHeartbeats 4000000 in
set_option maxRecDepth 100000 in
theorem c_Model_earned_h26 {p : Program} {l : Launch} {e : Env} {s : State} {m : MethodId} {args : Array Value} {below : List Frame} {meth : Method} {c : Code} {D : va_G} {y : Nat → ClassId} {bd : Nat → Nat} {A : Nat → Prop} (hx : p.tables.exec = Jvm.exec) (hb : c.code = cX9_earned) (hr : meth.sig.returnType = some .int) (hml : c.maxLocals = 6) (hown : s.vm.findClass RX9 = some m.cls) (hts : ∀ w ∈ wsX9_earned, w.before args s = true) (hlocks : meth.locks = false) (hK : va_K D vwCl (TY y) s) (hE : EV s) (hA : ∀ q, s.heap.size ≤ q → A q) {v1 : Int32} {v2 : Int32} {v3 : Int32} {x_thrown : Int32} {x_men : Int32} {x_entries : Int32} {x_rules : Int32} {x_eCall : Nat → Int32} {x_eMan : Nat → Int32} {x_eMoney : Nat → Int32} {x_rEntry : Nat → Int32} {x_rCall : Nat → Int32} {x_rMoney : Nat → Int32} {x_ships : Int32} {x_calls : Int32} {x_gangs : Int32} {x_idle : Int32} {x_moved : Int64} {x_paid : Int64} {x_taped : Int32} {x_at : Int32} {x_end : Int32} {x_begin : Int32} {x_faultAt : Int32} {x_wants : Int32}  {Q : Int32 → Int32 → Prop}  : ∀ (n : Nat) (v4 : Int32) (v5 : Int32), wp_Model_earned_h26 v1 v2 v3 x_thrown x_entries x_rules x_eCall x_eMan x_eMoney x_rEntry x_rCall x_rMoney Q n v4 v5 → ∀ (H : Heap) (locs : List Loc) (ls : Array Slot), va_P D vwCl [(ce_xm bd x_thrown x_men x_ships x_entries x_rules x_calls x_gangs x_idle x_moved x_paid x_taped x_at x_end x_begin x_faultAt x_wants), ((bd 15), .inl (y 0, 800, .inl x_eCall)), ((bd 16), .inl (y 0, 800, .inl x_eMan)), ((bd 17), .inl (y 0, 800, .inl x_eMoney)), ((bd 18), .inl (y 0, 100, .inl x_rEntry)), ((bd 19), .inl (y 0, 100, .inl x_rCall)), ((bd 20), .inl (y 0, 100, .inl x_rMoney))] H → va_D A [(ce_xm bd x_thrown x_men x_ships x_entries x_rules x_calls x_gangs x_idle x_moved x_paid x_taped x_at x_end x_begin x_faultAt x_wants), ((bd 15), .inl (y 0, 800, .inl x_eCall)), ((bd 16), .inl (y 0, 800, .inl x_eMan)), ((bd 17), .inl (y 0, 800, .inl x_eMoney)), ((bd 18), .inl (y 0, 100, .inl x_rEntry)), ((bd 19), .inl (y 0, 100, .inl x_rCall)), ((bd 20), .inl (y 0, 100, .inl x_rMoney))] → va_S A s.heap H locs → lv_has ls 6 [(5, .int v5), (4, .int v4), (0, .ref (bd 0)), (1, .int v1), (2, .int v2), (3, .int v3)] → W p l e ({ frames := 2, cells := 0, slots := 0, locals := 46 }) s m args below meth c H locs 0 0 (MQ below (va_Qi (fun (r : Int32) (u : Int32) => Q r u) (mAt D y A (fun (u : Int32) => [(ce_xm bd u x_men x_ships x_entries x_rules x_calls x_gangs x_idle x_moved x_paid x_taped x_at x_end x_begin x_faultAt x_wants), ((bd 15), .inl (y 0, 800, .inl x_eCall)), ((bd 16), .inl (y 0, 800, .inl x_eMan)), ((bd 17), .inl (y 0, 800, .inl x_eMoney)), ((bd 18), .inl (y 0, 100, .inl x_rEntry)), ((bd 19), .inl (y 0, 100, .inl x_rCall)), ((bd 20), .inl (y 0, 100, .inl x_rMoney))])) A) args s 0 0 A) (F0 m 26 ls []) := by
  intro n
  induction n with
  | zero => intro v4 v5 hw; rw [wp_Model_earned_h26] at hw; exact hw.elim
  | succ n ih =>
    intro v4 v5 hw H locs ls hP hD hS hl
    rw [wp_Model_earned_h26] at hw
    refine lv_iload hx hb dX9_earned_26 (lv_at hl 0 rfl) ?_
    refine lv_aload_n hx hb dX9_earned_28 rfl (lv_at hl 2 rfl) ?_
    refine va_get (ci := 11) (v := .int x_entries) (C := RX9) (T := TX9) (N := 47) hx hb hts inw_X9_earned_X9 hown hK hP 0 rfl rfl 20 (by decide) (hts (.fieldLink RX9 224 "DockCallModel" "entries" "I") (by decide +kernel)) (fun _ h9 => h9) rfl dX9_earned_29 ?_
    refine lv_icmp_ge (tgt := 86) hx hb dX9_earned_32 (by decide) (fun hc => ?_) (fun hc => ?_)
    · have hw := hw.1 hc
      refine lv_iload hx hb dX9_earned_86 (lv_at hl 1 rfl) ?_
      exact W.iret (v := v4) hx hb hr (fun t ht hW => ⟨⟨v4, (x_thrown), rfl, hw, mAt.to hP hK hD ht hW⟩, hS.F ht⟩) hS.2.2 dX9_earned_88
    · have hw := hw.2 hc
      refine lv_aload_n hx hb dX9_earned_35 rfl (lv_at hl 2 rfl) ?_
      refine va_get (ci := 11) (v := .ref (bd 16)) (C := RX9) (T := TX9) (N := 47) hx hb hts inw_X9_earned_X9 hown hK hP 0 rfl rfl 18 (by decide) (hts (.fieldLink RX9 56 "DockCallModel" "eMan" "[I") (by decide +kernel)) (fun _ h9 => h9) rfl dX9_earned_36 ?_
      refine lv_iload hx hb dX9_earned_39 (lv_at hl 0 rfl) ?_
      obtain ⟨hi, hw⟩ := hw
      refine va_iald hx hb hK hP 2 0 rfl rfl hi dX9_earned_41 ?_
      refine lv_iload_n hx hb dX9_earned_42 rfl (lv_at hl 3 rfl) ?_
      refine lv_icmp_ne (tgt := 80) hx hb dX9_earned_43 (by decide) (fun hc => ?_) (fun hc => ?_)
      · have hw := hw.2 hc
        refine lv_iinc (v := v5 + 1) (lv' := [(5, .int (v5 + 1)), (4, .int v4), (0, .ref (bd 0)), (1, .int v1), (2, .int v2), (3, .int v3)]) hx hb dX9_earned_80 hl (k := 0) rfl (by first | rfl | decide) (by decide) rfl (fun ls hl => ?_)
        refine lv_goto (tgt := 26) hx hb dX9_earned_83 (by decide) ?_
        exact ih v4 (v5 + 1)  hw _ _ _ hP hD hS (lv_sub hl [0, 1, 2, 3, 4, 5] rfl)
      · have hw := hw.1 hc
        refine lv_aload_n hx hb dX9_earned_46 rfl (lv_at hl 2 rfl) ?_
        refine va_get (ci := 11) (v := .ref (bd 15)) (C := RX9) (T := TX9) (N := 47) hx hb hts inw_X9_earned_X9 hown hK hP 0 rfl rfl 17 (by decide) (hts (.fieldLink RX9 53 "DockCallModel" "eCall" "[I") (by decide +kernel)) (fun _ h9 => h9) rfl dX9_earned_47 ?_
        refine lv_iload hx hb dX9_earned_50 (lv_at hl 0 rfl) ?_
        obtain ⟨hi, hw⟩ := hw
        refine va_iald hx hb hK hP 1 0 rfl rfl hi dX9_earned_52 ?_
        refine lv_iload_n hx hb dX9_earned_53 rfl (lv_at hl 4 rfl) ?_
        refine lv_icmp_gt (tgt := 80) hx hb dX9_earned_54 (by decide) (fun hc => ?_) (fun hc => ?_)
        · have hw := hw.1 hc
          refine lv_iinc (v := v5 + 1) (lv' := [(5, .int (v5 + 1)), (4, .int v4), (0, .ref (bd 0)), (1, .int v1), (2, .int v2), (3, .int v3)]) hx hb dX9_earned_80 hl (k := 0) rfl (by first | rfl | decide) (by decide) rfl (fun ls hl => ?_)
          refine lv_goto (tgt := 26) hx hb dX9_earned_83 (by decide) ?_
          exact ih v4 (v5 + 1)  hw _ _ _ hP hD hS (lv_sub hl [0, 1, 2, 3, 4, 5] rfl)
        · have hw := hw.2 hc
          refine lv_aload_n hx hb dX9_earned_57 rfl (lv_at hl 2 rfl) ?_
          refine va_get (ci := 11) (v := .ref (bd 15)) (C := RX9) (T := TX9) (N := 47) hx hb hts inw_X9_earned_X9 hown hK hP 0 rfl rfl 17 (by decide) (hts (.fieldLink RX9 53 "DockCallModel" "eCall" "[I") (by decide +kernel)) (fun _ h9 => h9) rfl dX9_earned_58 ?_
          refine lv_iload hx hb dX9_earned_61 (lv_at hl 0 rfl) ?_
          obtain ⟨hi, hw⟩ := hw
          refine va_iald hx hb hK hP 1 0 rfl rfl hi dX9_earned_63 ?_
          refine lv_iload_n hx hb dX9_earned_64 rfl (lv_at hl 5 rfl) ?_
          refine lv_icmp_ge (tgt := 80) hx hb dX9_earned_65 (by decide) (fun hc => ?_) (fun hc => ?_)
          · have hw := hw.1 hc
            refine lv_iinc (v := v5 + 1) (lv' := [(5, .int (v5 + 1)), (4, .int v4), (0, .ref (bd 0)), (1, .int v1), (2, .int v2), (3, .int v3)]) hx hb dX9_earned_80 hl (k := 0) rfl (by first | rfl | decide) (by decide) rfl (fun ls hl => ?_)
            refine lv_goto (tgt := 26) hx hb dX9_earned_83 (by decide) ?_
            exact ih v4 (v5 + 1)  hw _ _ _ hP hD hS (lv_sub hl [0, 1, 2, 3, 4, 5] rfl)
          · have hw := hw.2 hc
            refine lv_iload hx hb dX9_earned_68 (lv_at hl 1 rfl) ?_
            refine lv_aload_n hx hb dX9_earned_70 rfl (lv_at hl 2 rfl) ?_
            refine lv_iload hx hb dX9_earned_71 (lv_at hl 0 rfl) ?_
            refine lv_iload_n hx hb dX9_earned_73 rfl (lv_at hl 5 rfl) ?_
            refine mx_i (wc := [(ce_xm bd x_thrown x_men x_ships x_entries x_rules x_calls x_gangs x_idle x_moved x_paid x_taped x_at x_end x_begin x_faultAt x_wants), ((bd 17), .inl (y 0, 800, .inl x_eMoney)), ((bd 18), .inl (y 0, 100, .inl x_rEntry)), ((bd 19), .inl (y 0, 100, .inl x_rCall)), ((bd 20), .inl (y 0, 100, .inl x_rMoney))]) (wr := [((bd 15), .inl (y 0, 800, .inl x_eCall)), ((bd 16), .inl (y 0, 800, .inl x_eMan))]) hP hD hS hA [0, 3, 4, 5, 6] [1, 2] [2, 0, 1, 3, 4, 5, 6] rfl rfl (by decide) (by decide) (by decide) (fun (u : Unit) => [(ce_xm bd x_thrown x_men x_ships x_entries x_rules x_calls x_gangs x_idle x_moved x_paid x_taped x_at x_end x_begin x_faultAt x_wants), ((bd 15), .inl (y 0, 800, .inl x_eCall)), ((bd 16), .inl (y 0, 800, .inl x_eMan)), ((bd 17), .inl (y 0, 800, .inl x_eMoney)), ((bd 18), .inl (y 0, 100, .inl x_rEntry)), ((bd 19), .inl (y 0, 100, .inl x_rCall)), ((bd 20), .inl (y 0, 100, .inl x_rMoney))]) (fun _ => rfl) (va_runV (As := [.int v5, .int v3]) (rest := [.int v4]) ⟨hx, hb, hml, hown, hts⟩ (c_Model_moneyOf l D y bd H.size x_thrown x_men x_ships x_entries x_rules x_calls x_gangs x_idle x_moved x_paid x_taped x_at x_end x_begin x_faultAt x_wants x_eMoney x_rEntry x_rCall x_rMoney v5 v3 hw) (cwV 2 hts gX9_earned_X9_moneyOf rfl rfl rfl (by decide +kernel) ⟨Nat.le_of_ble_eq_true rfl, Nat.le_of_ble_eq_true rfl⟩) ⟨mPre.blind, (va_recv hK hP (ci := 11) (q0 := 0) rfl rfl), mPre.to (hP.sub [0, 3, 4, 5, 6] rfl) hK (hD.sub [0, 3, 4, 5, 6] (by decide) rfl) hE⟩ rfl rfl hl.1 rfl (lv_room (Nat.le_of_ble_eq_true rfl)) dX9_earned_74 ⟨Nat.le_of_ble_eq_true rfl, Nat.le_of_ble_eq_true rfl⟩) (fun r_4 u H locs hw hP hD hS => ?_)
            try dsimp only at hw
            have hP : va_P D vwCl [(ce_xm bd x_thrown x_men x_ships x_entries x_rules x_calls x_gangs x_idle x_moved x_paid x_taped x_at x_end x_begin x_faultAt x_wants), ((bd 15), .inl (y 0, 800, .inl x_eCall)), ((bd 16), .inl (y 0, 800, .inl x_eMan)), ((bd 17), .inl (y 0, 800, .inl x_eMoney)), ((bd 18), .inl (y 0, 100, .inl x_rEntry)), ((bd 19), .inl (y 0, 100, .inl x_rCall)), ((bd 20), .inl (y 0, 100, .inl x_rMoney))] H := hP
            have hD : va_D A [(ce_xm bd x_thrown x_men x_ships x_entries x_rules x_calls x_gangs x_idle x_moved x_paid x_taped x_at x_end x_begin x_faultAt x_wants), ((bd 15), .inl (y 0, 800, .inl x_eCall)), ((bd 16), .inl (y 0, 800, .inl x_eMan)), ((bd 17), .inl (y 0, 800, .inl x_eMoney)), ((bd 18), .inl (y 0, 100, .inl x_rEntry)), ((bd 19), .inl (y 0, 100, .inl x_rCall)), ((bd 20), .inl (y 0, 100, .inl x_rMoney))] := hD
            refine lv_iadd hx hb dX9_earned_77 ?_
            refine lv_istore (lv' := [(4, .int (v4 + r_4)), (5, .int v5), (0, .ref (bd 0)), (1, .int v1), (2, .int v2), (3, .int v3)]) hx hb dX9_earned_78 hl (by decide) rfl (fun ls hl => ?_)
            refine lv_iinc (v := v5 + 1) (lv' := [(5, .int (v5 + 1)), (4, .int (v4 + r_4)), (0, .ref (bd 0)), (1, .int v1), (2, .int v2), (3, .int v3)]) hx hb dX9_earned_80 hl (k := 1) rfl (by first | rfl | decide) (by decide) rfl (fun ls hl => ?_)
            refine lv_goto (tgt := 26) hx hb dX9_earned_83 (by decide) ?_
            exact ih (v4 + r_4) (v5 + 1)  hw _ _ _ hP hD hS (lv_sub hl [0, 1, 2, 3, 4, 5] rfl)
set_option maxHeartbeats 4000000 in
set_option maxRecDepth 100000 in
theorem c_Model_earned (l : Launch) (D : va_G) (y : Nat → ClassId) (bd : Nat → Nat) (sz : Nat) (x_thrown : Int32) (x_men : Int32) (x_ships : Int32) (x_entries : Int32) (x_rules : Int32) (x_calls : Int32) (x_gangs : Int32) (x_idle : Int32) (x_moved : Int64) (x_paid : Int64) (x_taped : Int32) (x_at : Int32) (x_end : Int32) (x_begin : Int32) (x_faultAt : Int32) (x_wants : Int32) (x_eCall : Nat → Int32) (x_eMan : Nat → Int32) (x_eMoney : Nat → Int32) (x_rEntry : Nat → Int32) (x_rCall : Nat → Int32) (x_rMoney : Nat → Int32) (p0 : Int32) (p1 : Int32) (p2 : Int32) {Q : Int32 → Int32 → Prop} (hw : wp_Model_earned x_men x_entries x_rules x_eCall x_eMan x_eMoney x_rEntry x_rCall x_rMoney p0 p1 p2 Q) : Met l yX9_earned wsX9_earned ({ frames := 2, cells := 0, slots := 0, locals := 46 }) (va_Pc [.ref (bd 0), .int p0, .int p1, .int p2] (mPre D y sz [(ce_xm bd x_thrown x_men x_ships x_entries x_rules x_calls x_gangs x_idle x_moved x_paid x_taped x_at x_end x_begin x_faultAt x_wants), ((bd 15), .inl (y 0, 800, .inl x_eCall)), ((bd 16), .inl (y 0, 800, .inl x_eMan)), ((bd 17), .inl (y 0, 800, .inl x_eMoney)), ((bd 18), .inl (y 0, 100, .inl x_rEntry)), ((bd 19), .inl (y 0, 100, .inl x_rCall)), ((bd 20), .inl (y 0, 100, .inl x_rMoney))])) (va_Qi (fun (r : Int32) (u : Int32) => Q r u) (mAt D y (va_A [(ce_xm bd x_thrown x_men x_ships x_entries x_rules x_calls x_gangs x_idle x_moved x_paid x_taped x_at x_end x_begin x_faultAt x_wants), ((bd 15), .inl (y 0, 800, .inl x_eCall)), ((bd 16), .inl (y 0, 800, .inl x_eMan)), ((bd 17), .inl (y 0, 800, .inl x_eMoney)), ((bd 18), .inl (y 0, 100, .inl x_rEntry)), ((bd 19), .inl (y 0, 100, .inl x_rCall)), ((bd 20), .inl (y 0, 100, .inl x_rMoney))] sz) (fun (u : Int32) => [(ce_xm bd u x_men x_ships x_entries x_rules x_calls x_gangs x_idle x_moved x_paid x_taped x_at x_end x_begin x_faultAt x_wants), ((bd 15), .inl (y 0, 800, .inl x_eCall)), ((bd 16), .inl (y 0, 800, .inl x_eMan)), ((bd 17), .inl (y 0, 800, .inl x_eMoney)), ((bd 18), .inl (y 0, 100, .inl x_rEntry)), ((bd 19), .inl (y 0, 100, .inl x_rCall)), ((bd 20), .inl (y 0, 100, .inl x_rMoney))])) (va_A [(ce_xm bd x_thrown x_men x_ships x_entries x_rules x_calls x_gangs x_idle x_moved x_paid x_taped x_at x_end x_begin x_faultAt x_wants), ((bd 15), .inl (y 0, 800, .inl x_eCall)), ((bd 16), .inl (y 0, 800, .inl x_eMan)), ((bd 17), .inl (y 0, 800, .inl x_eMoney)), ((bd 18), .inl (y 0, 100, .inl x_rEntry)), ((bd 19), .inl (y 0, 100, .inl x_rCall)), ((bd 20), .inl (y 0, 100, .inl x_rMoney))] sz)) 0 0 (va_A [(ce_xm bd x_thrown x_men x_ships x_entries x_rules x_calls x_gangs x_idle x_moved x_paid x_taped x_at x_end x_begin x_faultAt x_wants), ((bd 15), .inl (y 0, 800, .inl x_eCall)), ((bd 16), .inl (y 0, 800, .inl x_eMan)), ((bd 17), .inl (y 0, 800, .inl x_eMoney)), ((bd 18), .inl (y 0, 100, .inl x_rEntry)), ((bd 19), .inl (y 0, 100, .inl x_rCall)), ((bd 20), .inl (y 0, 100, .inl x_rMoney))] sz) := by
  unfold wp_Model_earned at hw
  refine Met.ofW (cc := cX9_earned) (maxL := 6) (ret := some .int) (by decide) rfl ?_
  intro p e s m args below meth c s₁ B hml hv
  obtain ⟨rfl, hsz, hP, hK, hD0, hE⟩ := hv
  have hx := B.exec
  have hb := B.bytes
  have hr := B.returns
  have hts := atoms_spec (ws := wsX9_earned) B.pre
  have hown : s.vm.findClass RX9 = some m.cls := findClass_of_methodNamed B.named
  have hlocks := B.notSynchronized
  subst hsz
  have hD := hD0.self (sz := s.heap.size)
  generalize hAe : va_A [(ce_xm bd x_thrown x_men x_ships x_entries x_rules x_calls x_gangs x_idle x_moved x_paid x_taped x_at x_end x_begin x_faultAt x_wants), ((bd 15), .inl (y 0, 800, .inl x_eCall)), ((bd 16), .inl (y 0, 800, .inl x_eMan)), ((bd 17), .inl (y 0, 800, .inl x_eMoney)), ((bd 18), .inl (y 0, 100, .inl x_rEntry)), ((bd 19), .inl (y 0, 100, .inl x_rCall)), ((bd 20), .inl (y 0, 100, .inl x_rMoney))] s.heap.size = A at hD ⊢
  have hA : ∀ q : Nat, s.heap.size ≤ q → A q := fun q h => by rw [← hAe]; exact Or.inr h
  have hS : va_S A s.heap s.heap [] := va_S.rf
  have hP : va_P D vwCl [(ce_xm bd x_thrown x_men x_ships x_entries x_rules x_calls x_gangs x_idle x_moved x_paid x_taped x_at x_end x_begin x_faultAt x_wants), ((bd 15), .inl (y 0, 800, .inl x_eCall)), ((bd 16), .inl (y 0, 800, .inl x_eMan)), ((bd 17), .inl (y 0, 800, .inl x_eMoney)), ((bd 18), .inl (y 0, 100, .inl x_rEntry)), ((bd 19), .inl (y 0, 100, .inl x_rCall)), ((bd 20), .inl (y 0, 100, .inl x_rMoney))] s.heap := hP
  have hl := lv_entry ([.ref (bd 0), .int p0, .int p1, .int p2]) (n := 6) (Nat.le_of_ble_eq_true rfl)
  rw [lg_entry_eq]
  generalize (lg_sl ([.ref (bd 0), .int p0, .int p1, .int p2]) ++ List.replicate (6 - (lg_sl ([.ref (bd 0), .int p0, .int p1, .int p2])).length) Slot.unset).toArray = ls at hl ⊢
  have hl : lv_has ls 6 [(0, .ref (bd 0)), (1, .int p0), (2, .int p1), (3, .int p2)] := hl
  refine lv_aload_n hx hb dX9_earned_0 rfl (lv_at hl 0 rfl) ?_
  refine lv_iconst (v := 0) hx hb dX9_earned_1 (by decide) ?_
  refine va_put (ci := 11) (v := .int 0) (ty := .int) (C := RX9) (T := TX9) (N := 47) hx hb hts inw_X9_earned_X9 tyX9 tyX9_ok nmX9 hown hK hP hD hS 0 rfl rfl 0 (by decide) (hts (.fieldLink RX9 109 "DockCallModel" "thrown" "I") (by decide +kernel)) (fun _ h9 => h9) rfl (by decide +kernel) rfl rfl (Nat.le_of_ble_eq_true rfl) dX9_earned_2 (fun H locs hP hD hS => ?_)
  have hP : va_P D vwCl [(ce_xm bd 0 x_men x_ships x_entries x_rules x_calls x_gangs x_idle x_moved x_paid x_taped x_at x_end x_begin x_faultAt x_wants), ((bd 15), .inl (y 0, 800, .inl x_eCall)), ((bd 16), .inl (y 0, 800, .inl x_eMan)), ((bd 17), .inl (y 0, 800, .inl x_eMoney)), ((bd 18), .inl (y 0, 100, .inl x_rEntry)), ((bd 19), .inl (y 0, 100, .inl x_rCall)), ((bd 20), .inl (y 0, 100, .inl x_rMoney))] H := hP
  have hD : va_D A [(ce_xm bd 0 x_men x_ships x_entries x_rules x_calls x_gangs x_idle x_moved x_paid x_taped x_at x_end x_begin x_faultAt x_wants), ((bd 15), .inl (y 0, 800, .inl x_eCall)), ((bd 16), .inl (y 0, 800, .inl x_eMan)), ((bd 17), .inl (y 0, 800, .inl x_eMoney)), ((bd 18), .inl (y 0, 100, .inl x_rEntry)), ((bd 19), .inl (y 0, 100, .inl x_rCall)), ((bd 20), .inl (y 0, 100, .inl x_rMoney))] := hD
  refine lv_aload_n hx hb dX9_earned_5 rfl (lv_at hl 0 rfl) ?_
  refine lv_aload_n hx hb dX9_earned_6 rfl (lv_at hl 0 rfl) ?_
  refine lv_iload_n hx hb dX9_earned_7 rfl (lv_at hl 1 rfl) ?_
  refine mx_i (wc := [(ce_xm bd 0 x_men x_ships x_entries x_rules x_calls x_gangs x_idle x_moved x_paid x_taped x_at x_end x_begin x_faultAt x_wants)]) (wr := [((bd 15), .inl (y 0, 800, .inl x_eCall)), ((bd 16), .inl (y 0, 800, .inl x_eMan)), ((bd 17), .inl (y 0, 800, .inl x_eMoney)), ((bd 18), .inl (y 0, 100, .inl x_rEntry)), ((bd 19), .inl (y 0, 100, .inl x_rCall)), ((bd 20), .inl (y 0, 100, .inl x_rMoney))]) hP hD hS hA [0] [1, 2, 3, 4, 5, 6] [6, 0, 1, 2, 3, 4, 5] rfl rfl (by decide) (by decide) (by decide) (fun (u : Unit) => [(ce_xm bd 0 x_men x_ships x_entries x_rules x_calls x_gangs x_idle x_moved x_paid x_taped x_at x_end x_begin x_faultAt x_wants), ((bd 15), .inl (y 0, 800, .inl x_eCall)), ((bd 16), .inl (y 0, 800, .inl x_eMan)), ((bd 17), .inl (y 0, 800, .inl x_eMoney)), ((bd 18), .inl (y 0, 100, .inl x_rEntry)), ((bd 19), .inl (y 0, 100, .inl x_rCall)), ((bd 20), .inl (y 0, 100, .inl x_rMoney))]) (fun _ => rfl) (va_runV (As := [.int p0]) (rest := [.ref (bd 0)]) ⟨hx, hb, hml, hown, hts⟩ (c_Model_noMan l D y bd H.size 0 x_men x_ships x_entries x_rules x_calls x_gangs x_idle x_moved x_paid x_taped x_at x_end x_begin x_faultAt x_wants p0 hw) (cwV 1 hts gX9_earned_X9_noMan rfl rfl rfl (by decide +kernel) ⟨Nat.le_of_ble_eq_true rfl, Nat.le_of_ble_eq_true rfl⟩) ⟨mPre.blind, (va_recv hK hP (ci := 11) (q0 := 0) rfl rfl), mPre.to (hP.sub [0] rfl) hK (hD.sub [0] (by decide) rfl) hE⟩ rfl rfl hl.1 rfl (lv_room (Nat.le_of_ble_eq_true rfl)) dX9_earned_8 ⟨Nat.le_of_ble_eq_true rfl, Nat.le_of_ble_eq_true rfl⟩) (fun r_1 u H locs hw hP hD hS => ?_)
  try dsimp only at hw
  have hP : va_P D vwCl [(ce_xm bd 0 x_men x_ships x_entries x_rules x_calls x_gangs x_idle x_moved x_paid x_taped x_at x_end x_begin x_faultAt x_wants), ((bd 15), .inl (y 0, 800, .inl x_eCall)), ((bd 16), .inl (y 0, 800, .inl x_eMan)), ((bd 17), .inl (y 0, 800, .inl x_eMoney)), ((bd 18), .inl (y 0, 100, .inl x_rEntry)), ((bd 19), .inl (y 0, 100, .inl x_rCall)), ((bd 20), .inl (y 0, 100, .inl x_rMoney))] H := hP
  have hD : va_D A [(ce_xm bd 0 x_men x_ships x_entries x_rules x_calls x_gangs x_idle x_moved x_paid x_taped x_at x_end x_begin x_faultAt x_wants), ((bd 15), .inl (y 0, 800, .inl x_eCall)), ((bd 16), .inl (y 0, 800, .inl x_eMan)), ((bd 17), .inl (y 0, 800, .inl x_eMoney)), ((bd 18), .inl (y 0, 100, .inl x_rEntry)), ((bd 19), .inl (y 0, 100, .inl x_rCall)), ((bd 20), .inl (y 0, 100, .inl x_rMoney))] := hD
  refine lv_iconst (v := 1) hx hb dX9_earned_11 (by decide) ?_
  refine mx_i (wc := [(ce_xm bd 0 x_men x_ships x_entries x_rules x_calls x_gangs x_idle x_moved x_paid x_taped x_at x_end x_begin x_faultAt x_wants)]) (wr := [((bd 15), .inl (y 0, 800, .inl x_eCall)), ((bd 16), .inl (y 0, 800, .inl x_eMan)), ((bd 17), .inl (y 0, 800, .inl x_eMoney)), ((bd 18), .inl (y 0, 100, .inl x_rEntry)), ((bd 19), .inl (y 0, 100, .inl x_rCall)), ((bd 20), .inl (y 0, 100, .inl x_rMoney))]) hP hD hS hA [0] [1, 2, 3, 4, 5, 6] [6, 0, 1, 2, 3, 4, 5] rfl rfl (by decide) (by decide) (by decide) (fun (u : Int32) => [(ce_xm bd u x_men x_ships x_entries x_rules x_calls x_gangs x_idle x_moved x_paid x_taped x_at x_end x_begin x_faultAt x_wants), ((bd 15), .inl (y 0, 800, .inl x_eCall)), ((bd 16), .inl (y 0, 800, .inl x_eMan)), ((bd 17), .inl (y 0, 800, .inl x_eMoney)), ((bd 18), .inl (y 0, 100, .inl x_rEntry)), ((bd 19), .inl (y 0, 100, .inl x_rCall)), ((bd 20), .inl (y 0, 100, .inl x_rMoney))]) (fun _ => rfl) (va_runV (As := [.int r_1, .int 1]) (rest := []) ⟨hx, hb, hml, hown, hts⟩ (c_Model_throwsIf l D y bd H.size 0 x_men x_ships x_entries x_rules x_calls x_gangs x_idle x_moved x_paid x_taped x_at x_end x_begin x_faultAt x_wants r_1 1 hw) (cwV 2 hts gX9_earned_X9_throwsIf rfl rfl rfl (by decide +kernel) ⟨Nat.le_of_ble_eq_true rfl, Nat.le_of_ble_eq_true rfl⟩) ⟨mPre.blind, (va_recv hK hP (ci := 11) (q0 := 0) rfl rfl), mPre.to (hP.sub [0] rfl) hK (hD.sub [0] (by decide) rfl) hE⟩ rfl rfl hl.1 rfl (lv_room (Nat.le_of_ble_eq_true rfl)) dX9_earned_12 ⟨Nat.le_of_ble_eq_true rfl, Nat.le_of_ble_eq_true rfl⟩) (fun r_2 u H locs hw hP hD hS => ?_)
  obtain ⟨x_thrown_3, rfl⟩ : ∃ z, z = u := ⟨_, rfl⟩
  try dsimp only at hw
  have hP : va_P D vwCl [(ce_xm bd x_thrown_3 x_men x_ships x_entries x_rules x_calls x_gangs x_idle x_moved x_paid x_taped x_at x_end x_begin x_faultAt x_wants), ((bd 15), .inl (y 0, 800, .inl x_eCall)), ((bd 16), .inl (y 0, 800, .inl x_eMan)), ((bd 17), .inl (y 0, 800, .inl x_eMoney)), ((bd 18), .inl (y 0, 100, .inl x_rEntry)), ((bd 19), .inl (y 0, 100, .inl x_rCall)), ((bd 20), .inl (y 0, 100, .inl x_rMoney))] H := hP
  have hD : va_D A [(ce_xm bd x_thrown_3 x_men x_ships x_entries x_rules x_calls x_gangs x_idle x_moved x_paid x_taped x_at x_end x_begin x_faultAt x_wants), ((bd 15), .inl (y 0, 800, .inl x_eCall)), ((bd 16), .inl (y 0, 800, .inl x_eMan)), ((bd 17), .inl (y 0, 800, .inl x_eMoney)), ((bd 18), .inl (y 0, 100, .inl x_rEntry)), ((bd 19), .inl (y 0, 100, .inl x_rCall)), ((bd 20), .inl (y 0, 100, .inl x_rMoney))] := hD
  refine lv_if_eq (tgt := 20) hx hb dX9_earned_15 (by decide) (fun hc => ?_) (fun hc => ?_)
  · have hw := hw.1 hc
    refine lv_iconst (v := 0) hx hb dX9_earned_20 (by decide) ?_
    refine lv_istore (lv' := [(4, .int 0), (0, .ref (bd 0)), (1, .int p0), (2, .int p1), (3, .int p2)]) hx hb dX9_earned_21 hl (by decide) rfl (fun ls hl => ?_)
    refine lv_iconst (v := 0) hx hb dX9_earned_23 (by decide) ?_
    refine lv_istore (lv' := [(5, .int 0), (4, .int 0), (0, .ref (bd 0)), (1, .int p0), (2, .int p1), (3, .int p2)]) hx hb dX9_earned_24 hl (by decide) rfl (fun ls hl => ?_)
    obtain ⟨n', hw⟩ := hw
    exact c_Model_earned_h26 hx hb hr hml hown hts hlocks hK hE hA  n' 0 0 hw _ _ _ hP hD hS (lv_sub hl [0, 1, 2, 3, 4, 5] rfl)
  · have hw := hw.2 hc
    refine lv_iconst (v := 0) hx hb dX9_earned_18 (by decide) ?_
    exact W.iret (v := 0) hx hb hr (fun t ht hW => ⟨⟨0, (x_thrown_3), rfl, hw, mAt.to hP hK hD ht hW⟩, hS.F ht⟩) hS.2.2 dX9_earned_19
theorem inw_X9_want_X9 : ∀ w ∈ wsX90, w ∈ wsX9_want := fun _ h => List.mem_cons_of_mem _ (List.mem_append_left _ (List.mem_append_right _ h))
def wp_Model_want (x_wants : Int32) (x_need : Nat → Int32) (x_most : Nat → Int32) (p0 : Int32) (p1 : Int32) (Q : Int32 → Int32 → Int32 → (Nat → Int32) → (Nat → Int32) → Prop) : Prop := (wp_Model_in p0.toInt64 0 8 (fun r_1 => ((r_1 = 0 → (wp_Model_throwsIf 0 1 1 (fun r_2 x_thrown_3 => ((r_2 = 0 → ((x_wants = 4 → Q (-1) x_thrown_3 x_wants x_need x_most) ∧ (¬ x_wants = 4 → (vp_in x_wants 4 ∧ (vp_in x_wants 4 ∧ Q (x_wants + 1) x_thrown_3 (x_wants + 1) (upd x_need x_wants.toNatClampNeg p0) (upd x_most x_wants.toNatClampNeg p1)))))) ∧ (¬ r_2 = 0 → Q 0 x_thrown_3 x_wants x_need x_most))))) ∧ (¬ r_1 = 0 → (wp_Model_in p1.toInt64 1 4 (fun r_4 => ((r_4 = 0 → (wp_Model_throwsIf 0 1 1 (fun r_7 x_thrown_8 => ((r_7 = 0 → ((x_wants = 4 → Q (-1) x_thrown_8 x_wants x_need x_most) ∧ (¬ x_wants = 4 → (vp_in x_wants 4 ∧ (vp_in x_wants 4 ∧ Q (x_wants + 1) x_thrown_8 (x_wants + 1) (upd x_need x_wants.toNatClampNeg p0) (upd x_most x_wants.toNatClampNeg p1)))))) ∧ (¬ r_7 = 0 → Q 0 x_thrown_8 x_wants x_need x_most))))) ∧ (¬ r_4 = 0 → (wp_Model_throwsIf 0 0 1 (fun r_5 x_thrown_6 => ((r_5 = 0 → ((x_wants = 4 → Q (-1) x_thrown_6 x_wants x_need x_most) ∧ (¬ x_wants = 4 → (vp_in x_wants 4 ∧ (vp_in x_wants 4 ∧ Q (x_wants + 1) x_thrown_6 (x_wants + 1) (upd x_need x_wants.toNatClampNeg p0) (upd x_most x_wants.toNatClampNeg p1)))))) ∧ (¬ r_5 = 0 → Q 0 x_thrown_6 x_wants x_need x_most))))))))))))
set_option maxHeartbeats 4000000 in
set_option maxRecDepth 100000 in
theorem c_Model_want (l : Launch) (D : va_G) (y : Nat → ClassId) (bd : Nat → Nat) (sz : Nat) (x_thrown : Int32) (x_men : Int32) (x_ships : Int32) (x_entries : Int32) (x_rules : Int32) (x_calls : Int32) (x_gangs : Int32) (x_idle : Int32) (x_moved : Int64) (x_paid : Int64) (x_taped : Int32) (x_at : Int32) (x_end : Int32) (x_begin : Int32) (x_faultAt : Int32) (x_wants : Int32) (x_need : Nat → Int32) (x_most : Nat → Int32) (p0 : Int32) (p1 : Int32) {Q : Int32 → Int32 → Int32 → (Nat → Int32) → (Nat → Int32) → Prop} (hw : wp_Model_want x_wants x_need x_most p0 p1 Q) : Met l yX9_want wsX9_want ({ frames := 1, cells := 0, slots := 0, locals := 25 }) (va_Pc [.ref (bd 0), .int p0, .int p1] (mPre D y sz [(ce_xm bd x_thrown x_men x_ships x_entries x_rules x_calls x_gangs x_idle x_moved x_paid x_taped x_at x_end x_begin x_faultAt x_wants), ((bd 29), .inl (y 0, 4, .inl x_need)), ((bd 30), .inl (y 0, 4, .inl x_most))])) (va_Qi (fun (r : Int32) (u : Int32 × Int32 × (Nat → Int32) × (Nat → Int32)) => Q r u.1 u.2.1 u.2.2.1 u.2.2.2) (mAt D y (va_A [(ce_xm bd x_thrown x_men x_ships x_entries x_rules x_calls x_gangs x_idle x_moved x_paid x_taped x_at x_end x_begin x_faultAt x_wants), ((bd 29), .inl (y 0, 4, .inl x_need)), ((bd 30), .inl (y 0, 4, .inl x_most))] sz) (fun (u : Int32 × Int32 × (Nat → Int32) × (Nat → Int32)) => [(ce_xm bd u.1 x_men x_ships x_entries x_rules x_calls x_gangs x_idle x_moved x_paid x_taped x_at x_end x_begin x_faultAt u.2.1), ((bd 29), .inl (y 0, 4, .inl u.2.2.1)), ((bd 30), .inl (y 0, 4, .inl u.2.2.2))])) (va_A [(ce_xm bd x_thrown x_men x_ships x_entries x_rules x_calls x_gangs x_idle x_moved x_paid x_taped x_at x_end x_begin x_faultAt x_wants), ((bd 29), .inl (y 0, 4, .inl x_need)), ((bd 30), .inl (y 0, 4, .inl x_most))] sz)) 0 0 (va_A [(ce_xm bd x_thrown x_men x_ships x_entries x_rules x_calls x_gangs x_idle x_moved x_paid x_taped x_at x_end x_begin x_faultAt x_wants), ((bd 29), .inl (y 0, 4, .inl x_need)), ((bd 30), .inl (y 0, 4, .inl x_most))] sz) := by
  unfold wp_Model_want at hw
  refine Met.ofW (cc := cX9_want) (maxL := 3) (ret := some .int) (by decide) rfl ?_
  intro p e s m args below meth c s₁ B hml hv
  obtain ⟨rfl, hsz, hP, hK, hD0, hE⟩ := hv
  have hx := B.exec
  have hb := B.bytes
  have hr := B.returns
  have hts := atoms_spec (ws := wsX9_want) B.pre
  have hown : s.vm.findClass RX9 = some m.cls := findClass_of_methodNamed B.named
  have hlocks := B.notSynchronized
  subst hsz
  have hD := hD0.self (sz := s.heap.size)
  generalize hAe : va_A [(ce_xm bd x_thrown x_men x_ships x_entries x_rules x_calls x_gangs x_idle x_moved x_paid x_taped x_at x_end x_begin x_faultAt x_wants), ((bd 29), .inl (y 0, 4, .inl x_need)), ((bd 30), .inl (y 0, 4, .inl x_most))] s.heap.size = A at hD ⊢
  have hA : ∀ q : Nat, s.heap.size ≤ q → A q := fun q h => by rw [← hAe]; exact Or.inr h
  have hS : va_S A s.heap s.heap [] := va_S.rf
  have hP : va_P D vwCl [(ce_xm bd x_thrown x_men x_ships x_entries x_rules x_calls x_gangs x_idle x_moved x_paid x_taped x_at x_end x_begin x_faultAt x_wants), ((bd 29), .inl (y 0, 4, .inl x_need)), ((bd 30), .inl (y 0, 4, .inl x_most))] s.heap := hP
  have hl := lv_entry ([.ref (bd 0), .int p0, .int p1]) (n := 3) (Nat.le_of_ble_eq_true rfl)
  rw [lg_entry_eq]
  generalize (lg_sl ([.ref (bd 0), .int p0, .int p1]) ++ List.replicate (3 - (lg_sl ([.ref (bd 0), .int p0, .int p1])).length) Slot.unset).toArray = ls at hl ⊢
  have hl : lv_has ls 3 [(0, .ref (bd 0)), (1, .int p0), (2, .int p1)] := hl
  refine lv_aload_n hx hb dX9_want_0 rfl (lv_at hl 0 rfl) ?_
  refine lv_iconst (v := 0) hx hb dX9_want_1 (by decide) ?_
  refine va_put (ci := 11) (v := .int 0) (ty := .int) (C := RX9) (T := TX9) (N := 47) hx hb hts inw_X9_want_X9 tyX9 tyX9_ok nmX9 hown hK hP hD hS 0 rfl rfl 0 (by decide) (hts (.fieldLink RX9 109 "DockCallModel" "thrown" "I") (by decide +kernel)) (fun _ h9 => h9) rfl (by decide +kernel) rfl rfl (Nat.le_of_ble_eq_true rfl) dX9_want_2 (fun H locs hP hD hS => ?_)
  have hP : va_P D vwCl [(ce_xm bd 0 x_men x_ships x_entries x_rules x_calls x_gangs x_idle x_moved x_paid x_taped x_at x_end x_begin x_faultAt x_wants), ((bd 29), .inl (y 0, 4, .inl x_need)), ((bd 30), .inl (y 0, 4, .inl x_most))] H := hP
  have hD : va_D A [(ce_xm bd 0 x_men x_ships x_entries x_rules x_calls x_gangs x_idle x_moved x_paid x_taped x_at x_end x_begin x_faultAt x_wants), ((bd 29), .inl (y 0, 4, .inl x_need)), ((bd 30), .inl (y 0, 4, .inl x_most))] := hD
  refine lv_aload_n hx hb dX9_want_5 rfl (lv_at hl 0 rfl) ?_
  refine lv_iload_n hx hb dX9_want_6 rfl (lv_at hl 1 rfl) ?_
  refine lv_i2l hx hb dX9_want_7 rfl ?_
  refine lv_lconst (v := 0) hx hb dX9_want_8 (by decide) ?_
  refine lv_ldc2 hx hb hown (hts (.constantLong RX9 272 8) (by decide +kernel)) dX9_want_9 ?_
  refine mx_i (wc := []) (wr := [(ce_xm bd 0 x_men x_ships x_entries x_rules x_calls x_gangs x_idle x_moved x_paid x_taped x_at x_end x_begin x_faultAt x_wants), ((bd 29), .inl (y 0, 4, .inl x_need)), ((bd 30), .inl (y 0, 4, .inl x_most))]) hP hD hS hA [] [0, 1, 2] [0, 1, 2] rfl rfl (by decide) (by decide) (by decide) (fun (u : Unit) => [(ce_xm bd 0 x_men x_ships x_entries x_rules x_calls x_gangs x_idle x_moved x_paid x_taped x_at x_end x_begin x_faultAt x_wants), ((bd 29), .inl (y 0, 4, .inl x_need)), ((bd 30), .inl (y 0, 4, .inl x_most))]) (fun _ => rfl) (va_runS (As := [.long p0.toInt64, .long 0, .long 8]) (rest := [.ref (bd 0)]) ⟨hx, hb, hml, hown, hts⟩ (c_Model_in l D y H.size p0.toInt64 0 8 hw) (va_cwS 3 hts gX9_want_X9_in rfl rfl rfl (by decide +kernel) ⟨Nat.le_of_ble_eq_true rfl, Nat.le_of_ble_eq_true rfl⟩) ⟨mPre.blind, mPre.to (hP.sub [] rfl) hK (hD.sub [] (by decide) rfl) hE⟩ rfl rfl hl.1 rfl (lv_room (Nat.le_of_ble_eq_true rfl)) dX9_want_12 ⟨Nat.le_of_ble_eq_true rfl, Nat.le_of_ble_eq_true rfl⟩) (fun r_1 u H locs hw hP hD hS => ?_)
  try dsimp only at hw
  have hP : va_P D vwCl [(ce_xm bd 0 x_men x_ships x_entries x_rules x_calls x_gangs x_idle x_moved x_paid x_taped x_at x_end x_begin x_faultAt x_wants), ((bd 29), .inl (y 0, 4, .inl x_need)), ((bd 30), .inl (y 0, 4, .inl x_most))] H := hP
  have hD : va_D A [(ce_xm bd 0 x_men x_ships x_entries x_rules x_calls x_gangs x_idle x_moved x_paid x_taped x_at x_end x_begin x_faultAt x_wants), ((bd 29), .inl (y 0, 4, .inl x_need)), ((bd 30), .inl (y 0, 4, .inl x_most))] := hD
  refine lv_if_eq (tgt := 30) hx hb dX9_want_15 (by decide) (fun hc => ?_) (fun hc => ?_)
  · have hw := hw.1 hc
    refine lv_iconst (v := 1) hx hb dX9_want_30 (by decide) ?_
    refine lv_goto (tgt := 35) hx hb dX9_want_31 (by decide) ?_
    refine lv_iconst (v := 1) hx hb dX9_want_35 (by decide) ?_
    refine mx_i (wc := [(ce_xm bd 0 x_men x_ships x_entries x_rules x_calls x_gangs x_idle x_moved x_paid x_taped x_at x_end x_begin x_faultAt x_wants)]) (wr := [((bd 29), .inl (y 0, 4, .inl x_need)), ((bd 30), .inl (y 0, 4, .inl x_most))]) hP hD hS hA [0] [1, 2] [2, 0, 1] rfl rfl (by decide) (by decide) (by decide) (fun (u : Int32) => [(ce_xm bd u x_men x_ships x_entries x_rules x_calls x_gangs x_idle x_moved x_paid x_taped x_at x_end x_begin x_faultAt x_wants), ((bd 29), .inl (y 0, 4, .inl x_need)), ((bd 30), .inl (y 0, 4, .inl x_most))]) (fun _ => rfl) (va_runV (As := [.int 1, .int 1]) (rest := []) ⟨hx, hb, hml, hown, hts⟩ (c_Model_throwsIf l D y bd H.size 0 x_men x_ships x_entries x_rules x_calls x_gangs x_idle x_moved x_paid x_taped x_at x_end x_begin x_faultAt x_wants 1 1 hw) (cwV 2 hts gX9_want_X9_throwsIf rfl rfl rfl (by decide +kernel) ⟨Nat.le_of_ble_eq_true rfl, Nat.le_of_ble_eq_true rfl⟩) ⟨mPre.blind, (va_recv hK hP (ci := 11) (q0 := 0) rfl rfl), mPre.to (hP.sub [0] rfl) hK (hD.sub [0] (by decide) rfl) hE⟩ rfl rfl hl.1 rfl (lv_room (Nat.le_of_ble_eq_true rfl)) dX9_want_36 ⟨Nat.le_of_ble_eq_true rfl, Nat.le_of_ble_eq_true rfl⟩) (fun r_2 u H locs hw hP hD hS => ?_)
    obtain ⟨x_thrown_3, rfl⟩ : ∃ z, z = u := ⟨_, rfl⟩
    try dsimp only at hw
    have hP : va_P D vwCl [(ce_xm bd x_thrown_3 x_men x_ships x_entries x_rules x_calls x_gangs x_idle x_moved x_paid x_taped x_at x_end x_begin x_faultAt x_wants), ((bd 29), .inl (y 0, 4, .inl x_need)), ((bd 30), .inl (y 0, 4, .inl x_most))] H := hP
    have hD : va_D A [(ce_xm bd x_thrown_3 x_men x_ships x_entries x_rules x_calls x_gangs x_idle x_moved x_paid x_taped x_at x_end x_begin x_faultAt x_wants), ((bd 29), .inl (y 0, 4, .inl x_need)), ((bd 30), .inl (y 0, 4, .inl x_most))] := hD
    refine lv_if_eq (tgt := 44) hx hb dX9_want_39 (by decide) (fun hc => ?_) (fun hc => ?_)
    · have hw := hw.1 hc
      refine lv_aload_n hx hb dX9_want_44 rfl (lv_at hl 0 rfl) ?_
      refine va_get (ci := 11) (v := .int x_wants) (C := RX9) (T := TX9) (N := 47) hx hb hts inw_X9_want_X9 hown hK hP 0 rfl rfl 45 (by decide) (hts (.fieldLink RX9 276 "DockCallModel" "wants" "I") (by decide +kernel)) (fun _ h9 => h9) rfl dX9_want_45 ?_
      refine lv_iconst (v := 4) hx hb dX9_want_48 (by decide) ?_
      refine lv_icmp_ne (tgt := 54) hx hb dX9_want_49 (by decide) (fun hc => ?_) (fun hc => ?_)
      · have hw := hw.2 hc
        refine lv_aload_n hx hb dX9_want_54 rfl (lv_at hl 0 rfl) ?_
        refine va_get (ci := 11) (v := .ref (bd 29)) (C := RX9) (T := TX9) (N := 47) hx hb hts inw_X9_want_X9 hown hK hP 0 rfl rfl 43 (by decide) (hts (.fieldLink RX9 100 "DockCallModel" "need" "[I") (by decide +kernel)) (fun _ h9 => h9) rfl dX9_want_55 ?_
        refine lv_aload_n hx hb dX9_want_58 rfl (lv_at hl 0 rfl) ?_
        refine va_get (ci := 11) (v := .int x_wants) (C := RX9) (T := TX9) (N := 47) hx hb hts inw_X9_want_X9 hown hK hP 0 rfl rfl 45 (by decide) (hts (.fieldLink RX9 276 "DockCallModel" "wants" "I") (by decide +kernel)) (fun _ h9 => h9) rfl dX9_want_59 ?_
        refine lv_iload_n hx hb dX9_want_62 rfl (lv_at hl 1 rfl) ?_
        obtain ⟨hi, hw⟩ := hw
        refine va_iast hx hb hK hP hD hS 1 0 rfl rfl hi dX9_want_63 (fun H locs hP hD hS => ?_)
        have hP : va_P D vwCl [(ce_xm bd x_thrown_3 x_men x_ships x_entries x_rules x_calls x_gangs x_idle x_moved x_paid x_taped x_at x_end x_begin x_faultAt x_wants), ((bd 29), .inl (y 0, 4, .inl (upd x_need x_wants.toNatClampNeg p0))), ((bd 30), .inl (y 0, 4, .inl x_most))] H := hP
        have hD : va_D A [(ce_xm bd x_thrown_3 x_men x_ships x_entries x_rules x_calls x_gangs x_idle x_moved x_paid x_taped x_at x_end x_begin x_faultAt x_wants), ((bd 29), .inl (y 0, 4, .inl (upd x_need x_wants.toNatClampNeg p0))), ((bd 30), .inl (y 0, 4, .inl x_most))] := hD
        refine lv_aload_n hx hb dX9_want_64 rfl (lv_at hl 0 rfl) ?_
        refine va_get (ci := 11) (v := .ref (bd 30)) (C := RX9) (T := TX9) (N := 47) hx hb hts inw_X9_want_X9 hown hK hP 0 rfl rfl 44 (by decide) (hts (.fieldLink RX9 103 "DockCallModel" "most" "[I") (by decide +kernel)) (fun _ h9 => h9) rfl dX9_want_65 ?_
        refine lv_aload_n hx hb dX9_want_68 rfl (lv_at hl 0 rfl) ?_
        refine va_get (ci := 11) (v := .int x_wants) (C := RX9) (T := TX9) (N := 47) hx hb hts inw_X9_want_X9 hown hK hP 0 rfl rfl 45 (by decide) (hts (.fieldLink RX9 276 "DockCallModel" "wants" "I") (by decide +kernel)) (fun _ h9 => h9) rfl dX9_want_69 ?_
        refine lv_iload_n hx hb dX9_want_72 rfl (lv_at hl 2 rfl) ?_
        obtain ⟨hi, hw⟩ := hw
        refine va_iast hx hb hK hP hD hS 2 0 rfl rfl hi dX9_want_73 (fun H locs hP hD hS => ?_)
        have hP : va_P D vwCl [(ce_xm bd x_thrown_3 x_men x_ships x_entries x_rules x_calls x_gangs x_idle x_moved x_paid x_taped x_at x_end x_begin x_faultAt x_wants), ((bd 29), .inl (y 0, 4, .inl (upd x_need x_wants.toNatClampNeg p0))), ((bd 30), .inl (y 0, 4, .inl (upd x_most x_wants.toNatClampNeg p1)))] H := hP
        have hD : va_D A [(ce_xm bd x_thrown_3 x_men x_ships x_entries x_rules x_calls x_gangs x_idle x_moved x_paid x_taped x_at x_end x_begin x_faultAt x_wants), ((bd 29), .inl (y 0, 4, .inl (upd x_need x_wants.toNatClampNeg p0))), ((bd 30), .inl (y 0, 4, .inl (upd x_most x_wants.toNatClampNeg p1)))] := hD
        refine lv_aload_n hx hb dX9_want_74 rfl (lv_at hl 0 rfl) ?_
        refine lv_dup hx hb dX9_want_75 rfl ?_
        refine va_get (ci := 11) (v := .int x_wants) (C := RX9) (T := TX9) (N := 47) hx hb hts inw_X9_want_X9 hown hK hP 0 rfl rfl 45 (by decide) (hts (.fieldLink RX9 276 "DockCallModel" "wants" "I") (by decide +kernel)) (fun _ h9 => h9) rfl dX9_want_76 ?_
        refine lv_iconst (v := 1) hx hb dX9_want_79 (by decide) ?_
        refine lv_iadd hx hb dX9_want_80 ?_
        refine va_put (ci := 11) (v := .int (x_wants + 1)) (ty := .int) (C := RX9) (T := TX9) (N := 47) hx hb hts inw_X9_want_X9 tyX9 tyX9_ok nmX9 hown hK hP hD hS 0 rfl rfl 45 (by decide) (hts (.fieldLink RX9 276 "DockCallModel" "wants" "I") (by decide +kernel)) (fun _ h9 => h9) rfl (by decide +kernel) rfl rfl (Nat.le_of_ble_eq_true rfl) dX9_want_81 (fun H locs hP hD hS => ?_)
        have hP : va_P D vwCl [(ce_xm bd x_thrown_3 x_men x_ships x_entries x_rules x_calls x_gangs x_idle x_moved x_paid x_taped x_at x_end x_begin x_faultAt (x_wants + 1)), ((bd 29), .inl (y 0, 4, .inl (upd x_need x_wants.toNatClampNeg p0))), ((bd 30), .inl (y 0, 4, .inl (upd x_most x_wants.toNatClampNeg p1)))] H := hP
        have hD : va_D A [(ce_xm bd x_thrown_3 x_men x_ships x_entries x_rules x_calls x_gangs x_idle x_moved x_paid x_taped x_at x_end x_begin x_faultAt (x_wants + 1)), ((bd 29), .inl (y 0, 4, .inl (upd x_need x_wants.toNatClampNeg p0))), ((bd 30), .inl (y 0, 4, .inl (upd x_most x_wants.toNatClampNeg p1)))] := hD
        refine lv_aload_n hx hb dX9_want_84 rfl (lv_at hl 0 rfl) ?_
        refine va_get (ci := 11) (v := .int (x_wants + 1)) (C := RX9) (T := TX9) (N := 47) hx hb hts inw_X9_want_X9 hown hK hP 0 rfl rfl 45 (by decide) (hts (.fieldLink RX9 276 "DockCallModel" "wants" "I") (by decide +kernel)) (fun _ h9 => h9) rfl dX9_want_85 ?_
        exact W.iret (v := x_wants + 1) hx hb hr (fun t ht hW => ⟨⟨x_wants + 1, (x_thrown_3, x_wants + 1, upd x_need x_wants.toNatClampNeg p0, upd x_most x_wants.toNatClampNeg p1), rfl, hw, mAt.to hP hK hD ht hW⟩, hS.F ht⟩) hS.2.2 dX9_want_88
      · have hw := hw.1 hc
        refine lv_iconst (v := (-1)) hx hb dX9_want_52 (by decide) ?_
        exact W.iret (v := (-1)) hx hb hr (fun t ht hW => ⟨⟨(-1), (x_thrown_3, x_wants, x_need, x_most), rfl, hw, mAt.to hP hK hD ht hW⟩, hS.F ht⟩) hS.2.2 dX9_want_53
    · have hw := hw.2 hc
      refine lv_iconst (v := 0) hx hb dX9_want_42 (by decide) ?_
      exact W.iret (v := 0) hx hb hr (fun t ht hW => ⟨⟨0, (x_thrown_3, x_wants, x_need, x_most), rfl, hw, mAt.to hP hK hD ht hW⟩, hS.F ht⟩) hS.2.2 dX9_want_43
  · have hw := hw.2 hc
    refine lv_iload_n hx hb dX9_want_18 rfl (lv_at hl 2 rfl) ?_
    refine lv_i2l hx hb dX9_want_19 rfl ?_
    refine lv_lconst (v := 1) hx hb dX9_want_20 (by decide) ?_
    refine lv_ldc2 hx hb hown (hts (.constantLong RX9 274 4) (by decide +kernel)) dX9_want_21 ?_
    refine mx_i (wc := []) (wr := [(ce_xm bd 0 x_men x_ships x_entries x_rules x_calls x_gangs x_idle x_moved x_paid x_taped x_at x_end x_begin x_faultAt x_wants), ((bd 29), .inl (y 0, 4, .inl x_need)), ((bd 30), .inl (y 0, 4, .inl x_most))]) hP hD hS hA [] [0, 1, 2] [0, 1, 2] rfl rfl (by decide) (by decide) (by decide) (fun (u : Unit) => [(ce_xm bd 0 x_men x_ships x_entries x_rules x_calls x_gangs x_idle x_moved x_paid x_taped x_at x_end x_begin x_faultAt x_wants), ((bd 29), .inl (y 0, 4, .inl x_need)), ((bd 30), .inl (y 0, 4, .inl x_most))]) (fun _ => rfl) (va_runS (As := [.long p1.toInt64, .long 1, .long 4]) (rest := [.ref (bd 0)]) ⟨hx, hb, hml, hown, hts⟩ (c_Model_in l D y H.size p1.toInt64 1 4 hw) (va_cwS 3 hts gX9_want_X9_in rfl rfl rfl (by decide +kernel) ⟨Nat.le_of_ble_eq_true rfl, Nat.le_of_ble_eq_true rfl⟩) ⟨mPre.blind, mPre.to (hP.sub [] rfl) hK (hD.sub [] (by decide) rfl) hE⟩ rfl rfl hl.1 rfl (lv_room (Nat.le_of_ble_eq_true rfl)) dX9_want_24 ⟨Nat.le_of_ble_eq_true rfl, Nat.le_of_ble_eq_true rfl⟩) (fun r_4 u H locs hw hP hD hS => ?_)
    try dsimp only at hw
    have hP : va_P D vwCl [(ce_xm bd 0 x_men x_ships x_entries x_rules x_calls x_gangs x_idle x_moved x_paid x_taped x_at x_end x_begin x_faultAt x_wants), ((bd 29), .inl (y 0, 4, .inl x_need)), ((bd 30), .inl (y 0, 4, .inl x_most))] H := hP
    have hD : va_D A [(ce_xm bd 0 x_men x_ships x_entries x_rules x_calls x_gangs x_idle x_moved x_paid x_taped x_at x_end x_begin x_faultAt x_wants), ((bd 29), .inl (y 0, 4, .inl x_need)), ((bd 30), .inl (y 0, 4, .inl x_most))] := hD
    refine lv_if_ne (tgt := 34) hx hb dX9_want_27 (by decide) (fun hc => ?_) (fun hc => ?_)
    · have hw := hw.2 hc
      refine lv_iconst (v := 0) hx hb dX9_want_34 (by decide) ?_
      refine lv_iconst (v := 1) hx hb dX9_want_35 (by decide) ?_
      refine mx_i (wc := [(ce_xm bd 0 x_men x_ships x_entries x_rules x_calls x_gangs x_idle x_moved x_paid x_taped x_at x_end x_begin x_faultAt x_wants)]) (wr := [((bd 29), .inl (y 0, 4, .inl x_need)), ((bd 30), .inl (y 0, 4, .inl x_most))]) hP hD hS hA [0] [1, 2] [2, 0, 1] rfl rfl (by decide) (by decide) (by decide) (fun (u : Int32) => [(ce_xm bd u x_men x_ships x_entries x_rules x_calls x_gangs x_idle x_moved x_paid x_taped x_at x_end x_begin x_faultAt x_wants), ((bd 29), .inl (y 0, 4, .inl x_need)), ((bd 30), .inl (y 0, 4, .inl x_most))]) (fun _ => rfl) (va_runV (As := [.int 0, .int 1]) (rest := []) ⟨hx, hb, hml, hown, hts⟩ (c_Model_throwsIf l D y bd H.size 0 x_men x_ships x_entries x_rules x_calls x_gangs x_idle x_moved x_paid x_taped x_at x_end x_begin x_faultAt x_wants 0 1 hw) (cwV 2 hts gX9_want_X9_throwsIf rfl rfl rfl (by decide +kernel) ⟨Nat.le_of_ble_eq_true rfl, Nat.le_of_ble_eq_true rfl⟩) ⟨mPre.blind, (va_recv hK hP (ci := 11) (q0 := 0) rfl rfl), mPre.to (hP.sub [0] rfl) hK (hD.sub [0] (by decide) rfl) hE⟩ rfl rfl hl.1 rfl (lv_room (Nat.le_of_ble_eq_true rfl)) dX9_want_36 ⟨Nat.le_of_ble_eq_true rfl, Nat.le_of_ble_eq_true rfl⟩) (fun r_5 u H locs hw hP hD hS => ?_)
      obtain ⟨x_thrown_6, rfl⟩ : ∃ z, z = u := ⟨_, rfl⟩
      try dsimp only at hw
      have hP : va_P D vwCl [(ce_xm bd x_thrown_6 x_men x_ships x_entries x_rules x_calls x_gangs x_idle x_moved x_paid x_taped x_at x_end x_begin x_faultAt x_wants), ((bd 29), .inl (y 0, 4, .inl x_need)), ((bd 30), .inl (y 0, 4, .inl x_most))] H := hP
      have hD : va_D A [(ce_xm bd x_thrown_6 x_men x_ships x_entries x_rules x_calls x_gangs x_idle x_moved x_paid x_taped x_at x_end x_begin x_faultAt x_wants), ((bd 29), .inl (y 0, 4, .inl x_need)), ((bd 30), .inl (y 0, 4, .inl x_most))] := hD
      refine lv_if_eq (tgt := 44) hx hb dX9_want_39 (by decide) (fun hc => ?_) (fun hc => ?_)
      · have hw := hw.1 hc
        refine lv_aload_n hx hb dX9_want_44 rfl (lv_at hl 0 rfl) ?_
        refine va_get (ci := 11) (v := .int x_wants) (C := RX9) (T := TX9) (N := 47) hx hb hts inw_X9_want_X9 hown hK hP 0 rfl rfl 45 (by decide) (hts (.fieldLink RX9 276 "DockCallModel" "wants" "I") (by decide +kernel)) (fun _ h9 => h9) rfl dX9_want_45 ?_
        refine lv_iconst (v := 4) hx hb dX9_want_48 (by decide) ?_
        refine lv_icmp_ne (tgt := 54) hx hb dX9_want_49 (by decide) (fun hc => ?_) (fun hc => ?_)
        · have hw := hw.2 hc
          refine lv_aload_n hx hb dX9_want_54 rfl (lv_at hl 0 rfl) ?_
          refine va_get (ci := 11) (v := .ref (bd 29)) (C := RX9) (T := TX9) (N := 47) hx hb hts inw_X9_want_X9 hown hK hP 0 rfl rfl 43 (by decide) (hts (.fieldLink RX9 100 "DockCallModel" "need" "[I") (by decide +kernel)) (fun _ h9 => h9) rfl dX9_want_55 ?_
          refine lv_aload_n hx hb dX9_want_58 rfl (lv_at hl 0 rfl) ?_
          refine va_get (ci := 11) (v := .int x_wants) (C := RX9) (T := TX9) (N := 47) hx hb hts inw_X9_want_X9 hown hK hP 0 rfl rfl 45 (by decide) (hts (.fieldLink RX9 276 "DockCallModel" "wants" "I") (by decide +kernel)) (fun _ h9 => h9) rfl dX9_want_59 ?_
          refine lv_iload_n hx hb dX9_want_62 rfl (lv_at hl 1 rfl) ?_
          obtain ⟨hi, hw⟩ := hw
          refine va_iast hx hb hK hP hD hS 1 0 rfl rfl hi dX9_want_63 (fun H locs hP hD hS => ?_)
          have hP : va_P D vwCl [(ce_xm bd x_thrown_6 x_men x_ships x_entries x_rules x_calls x_gangs x_idle x_moved x_paid x_taped x_at x_end x_begin x_faultAt x_wants), ((bd 29), .inl (y 0, 4, .inl (upd x_need x_wants.toNatClampNeg p0))), ((bd 30), .inl (y 0, 4, .inl x_most))] H := hP
          have hD : va_D A [(ce_xm bd x_thrown_6 x_men x_ships x_entries x_rules x_calls x_gangs x_idle x_moved x_paid x_taped x_at x_end x_begin x_faultAt x_wants), ((bd 29), .inl (y 0, 4, .inl (upd x_need x_wants.toNatClampNeg p0))), ((bd 30), .inl (y 0, 4, .inl x_most))] := hD
          refine lv_aload_n hx hb dX9_want_64 rfl (lv_at hl 0 rfl) ?_
          refine va_get (ci := 11) (v := .ref (bd 30)) (C := RX9) (T := TX9) (N := 47) hx hb hts inw_X9_want_X9 hown hK hP 0 rfl rfl 44 (by decide) (hts (.fieldLink RX9 103 "DockCallModel" "most" "[I") (by decide +kernel)) (fun _ h9 => h9) rfl dX9_want_65 ?_
          refine lv_aload_n hx hb dX9_want_68 rfl (lv_at hl 0 rfl) ?_
          refine va_get (ci := 11) (v := .int x_wants) (C := RX9) (T := TX9) (N := 47) hx hb hts inw_X9_want_X9 hown hK hP 0 rfl rfl 45 (by decide) (hts (.fieldLink RX9 276 "DockCallModel" "wants" "I") (by decide +kernel)) (fun _ h9 => h9) rfl dX9_want_69 ?_
          refine lv_iload_n hx hb dX9_want_72 rfl (lv_at hl 2 rfl) ?_
          obtain ⟨hi, hw⟩ := hw
          refine va_iast hx hb hK hP hD hS 2 0 rfl rfl hi dX9_want_73 (fun H locs hP hD hS => ?_)
          have hP : va_P D vwCl [(ce_xm bd x_thrown_6 x_men x_ships x_entries x_rules x_calls x_gangs x_idle x_moved x_paid x_taped x_at x_end x_begin x_faultAt x_wants), ((bd 29), .inl (y 0, 4, .inl (upd x_need x_wants.toNatClampNeg p0))), ((bd 30), .inl (y 0, 4, .inl (upd x_most x_wants.toNatClampNeg p1)))] H := hP
          have hD : va_D A [(ce_xm bd x_thrown_6 x_men x_ships x_entries x_rules x_calls x_gangs x_idle x_moved x_paid x_taped x_at x_end x_begin x_faultAt x_wants), ((bd 29), .inl (y 0, 4, .inl (upd x_need x_wants.toNatClampNeg p0))), ((bd 30), .inl (y 0, 4, .inl (upd x_most x_wants.toNatClampNeg p1)))] := hD
          refine lv_aload_n hx hb dX9_want_74 rfl (lv_at hl 0 rfl) ?_
          refine lv_dup hx hb dX9_want_75 rfl ?_
          refine va_get (ci := 11) (v := .int x_wants) (C := RX9) (T := TX9) (N := 47) hx hb hts inw_X9_want_X9 hown hK hP 0 rfl rfl 45 (by decide) (hts (.fieldLink RX9 276 "DockCallModel" "wants" "I") (by decide +kernel)) (fun _ h9 => h9) rfl dX9_want_76 ?_
          refine lv_iconst (v := 1) hx hb dX9_want_79 (by decide) ?_
          refine lv_iadd hx hb dX9_want_80 ?_
          refine va_put (ci := 11) (v := .int (x_wants + 1)) (ty := .int) (C := RX9) (T := TX9) (N := 47) hx hb hts inw_X9_want_X9 tyX9 tyX9_ok nmX9 hown hK hP hD hS 0 rfl rfl 45 (by decide) (hts (.fieldLink RX9 276 "DockCallModel" "wants" "I") (by decide +kernel)) (fun _ h9 => h9) rfl (by decide +kernel) rfl rfl (Nat.le_of_ble_eq_true rfl) dX9_want_81 (fun H locs hP hD hS => ?_)
          have hP : va_P D vwCl [(ce_xm bd x_thrown_6 x_men x_ships x_entries x_rules x_calls x_gangs x_idle x_moved x_paid x_taped x_at x_end x_begin x_faultAt (x_wants + 1)), ((bd 29), .inl (y 0, 4, .inl (upd x_need x_wants.toNatClampNeg p0))), ((bd 30), .inl (y 0, 4, .inl (upd x_most x_wants.toNatClampNeg p1)))] H := hP
          have hD : va_D A [(ce_xm bd x_thrown_6 x_men x_ships x_entries x_rules x_calls x_gangs x_idle x_moved x_paid x_taped x_at x_end x_begin x_faultAt (x_wants + 1)), ((bd 29), .inl (y 0, 4, .inl (upd x_need x_wants.toNatClampNeg p0))), ((bd 30), .inl (y 0, 4, .inl (upd x_most x_wants.toNatClampNeg p1)))] := hD
          refine lv_aload_n hx hb dX9_want_84 rfl (lv_at hl 0 rfl) ?_
          refine va_get (ci := 11) (v := .int (x_wants + 1)) (C := RX9) (T := TX9) (N := 47) hx hb hts inw_X9_want_X9 hown hK hP 0 rfl rfl 45 (by decide) (hts (.fieldLink RX9 276 "DockCallModel" "wants" "I") (by decide +kernel)) (fun _ h9 => h9) rfl dX9_want_85 ?_
          exact W.iret (v := x_wants + 1) hx hb hr (fun t ht hW => ⟨⟨x_wants + 1, (x_thrown_6, x_wants + 1, upd x_need x_wants.toNatClampNeg p0, upd x_most x_wants.toNatClampNeg p1), rfl, hw, mAt.to hP hK hD ht hW⟩, hS.F ht⟩) hS.2.2 dX9_want_88
        · have hw := hw.1 hc
          refine lv_iconst (v := (-1)) hx hb dX9_want_52 (by decide) ?_
          exact W.iret (v := (-1)) hx hb hr (fun t ht hW => ⟨⟨(-1), (x_thrown_6, x_wants, x_need, x_most), rfl, hw, mAt.to hP hK hD ht hW⟩, hS.F ht⟩) hS.2.2 dX9_want_53
      · have hw := hw.2 hc
        refine lv_iconst (v := 0) hx hb dX9_want_42 (by decide) ?_
        exact W.iret (v := 0) hx hb hr (fun t ht hW => ⟨⟨0, (x_thrown_6, x_wants, x_need, x_most), rfl, hw, mAt.to hP hK hD ht hW⟩, hS.F ht⟩) hS.2.2 dX9_want_43
    · have hw := hw.1 hc
      refine lv_iconst (v := 1) hx hb dX9_want_30 (by decide) ?_
      refine lv_goto (tgt := 35) hx hb dX9_want_31 (by decide) ?_
      refine lv_iconst (v := 1) hx hb dX9_want_35 (by decide) ?_
      refine mx_i (wc := [(ce_xm bd 0 x_men x_ships x_entries x_rules x_calls x_gangs x_idle x_moved x_paid x_taped x_at x_end x_begin x_faultAt x_wants)]) (wr := [((bd 29), .inl (y 0, 4, .inl x_need)), ((bd 30), .inl (y 0, 4, .inl x_most))]) hP hD hS hA [0] [1, 2] [2, 0, 1] rfl rfl (by decide) (by decide) (by decide) (fun (u : Int32) => [(ce_xm bd u x_men x_ships x_entries x_rules x_calls x_gangs x_idle x_moved x_paid x_taped x_at x_end x_begin x_faultAt x_wants), ((bd 29), .inl (y 0, 4, .inl x_need)), ((bd 30), .inl (y 0, 4, .inl x_most))]) (fun _ => rfl) (va_runV (As := [.int 1, .int 1]) (rest := []) ⟨hx, hb, hml, hown, hts⟩ (c_Model_throwsIf l D y bd H.size 0 x_men x_ships x_entries x_rules x_calls x_gangs x_idle x_moved x_paid x_taped x_at x_end x_begin x_faultAt x_wants 1 1 hw) (cwV 2 hts gX9_want_X9_throwsIf rfl rfl rfl (by decide +kernel) ⟨Nat.le_of_ble_eq_true rfl, Nat.le_of_ble_eq_true rfl⟩) ⟨mPre.blind, (va_recv hK hP (ci := 11) (q0 := 0) rfl rfl), mPre.to (hP.sub [0] rfl) hK (hD.sub [0] (by decide) rfl) hE⟩ rfl rfl hl.1 rfl (lv_room (Nat.le_of_ble_eq_true rfl)) dX9_want_36 ⟨Nat.le_of_ble_eq_true rfl, Nat.le_of_ble_eq_true rfl⟩) (fun r_7 u H locs hw hP hD hS => ?_)
      obtain ⟨x_thrown_8, rfl⟩ : ∃ z, z = u := ⟨_, rfl⟩
      try dsimp only at hw
      have hP : va_P D vwCl [(ce_xm bd x_thrown_8 x_men x_ships x_entries x_rules x_calls x_gangs x_idle x_moved x_paid x_taped x_at x_end x_begin x_faultAt x_wants), ((bd 29), .inl (y 0, 4, .inl x_need)), ((bd 30), .inl (y 0, 4, .inl x_most))] H := hP
      have hD : va_D A [(ce_xm bd x_thrown_8 x_men x_ships x_entries x_rules x_calls x_gangs x_idle x_moved x_paid x_taped x_at x_end x_begin x_faultAt x_wants), ((bd 29), .inl (y 0, 4, .inl x_need)), ((bd 30), .inl (y 0, 4, .inl x_most))] := hD
      refine lv_if_eq (tgt := 44) hx hb dX9_want_39 (by decide) (fun hc => ?_) (fun hc => ?_)
      · have hw := hw.1 hc
        refine lv_aload_n hx hb dX9_want_44 rfl (lv_at hl 0 rfl) ?_
        refine va_get (ci := 11) (v := .int x_wants) (C := RX9) (T := TX9) (N := 47) hx hb hts inw_X9_want_X9 hown hK hP 0 rfl rfl 45 (by decide) (hts (.fieldLink RX9 276 "DockCallModel" "wants" "I") (by decide +kernel)) (fun _ h9 => h9) rfl dX9_want_45 ?_
        refine lv_iconst (v := 4) hx hb dX9_want_48 (by decide) ?_
        refine lv_icmp_ne (tgt := 54) hx hb dX9_want_49 (by decide) (fun hc => ?_) (fun hc => ?_)
        · have hw := hw.2 hc
          refine lv_aload_n hx hb dX9_want_54 rfl (lv_at hl 0 rfl) ?_
          refine va_get (ci := 11) (v := .ref (bd 29)) (C := RX9) (T := TX9) (N := 47) hx hb hts inw_X9_want_X9 hown hK hP 0 rfl rfl 43 (by decide) (hts (.fieldLink RX9 100 "DockCallModel" "need" "[I") (by decide +kernel)) (fun _ h9 => h9) rfl dX9_want_55 ?_
          refine lv_aload_n hx hb dX9_want_58 rfl (lv_at hl 0 rfl) ?_
          refine va_get (ci := 11) (v := .int x_wants) (C := RX9) (T := TX9) (N := 47) hx hb hts inw_X9_want_X9 hown hK hP 0 rfl rfl 45 (by decide) (hts (.fieldLink RX9 276 "DockCallModel" "wants" "I") (by decide +kernel)) (fun _ h9 => h9) rfl dX9_want_59 ?_
          refine lv_iload_n hx hb dX9_want_62 rfl (lv_at hl 1 rfl) ?_
          obtain ⟨hi, hw⟩ := hw
          refine va_iast hx hb hK hP hD hS 1 0 rfl rfl hi dX9_want_63 (fun H locs hP hD hS => ?_)
          have hP : va_P D vwCl [(ce_xm bd x_thrown_8 x_men x_ships x_entries x_rules x_calls x_gangs x_idle x_moved x_paid x_taped x_at x_end x_begin x_faultAt x_wants), ((bd 29), .inl (y 0, 4, .inl (upd x_need x_wants.toNatClampNeg p0))), ((bd 30), .inl (y 0, 4, .inl x_most))] H := hP
          have hD : va_D A [(ce_xm bd x_thrown_8 x_men x_ships x_entries x_rules x_calls x_gangs x_idle x_moved x_paid x_taped x_at x_end x_begin x_faultAt x_wants), ((bd 29), .inl (y 0, 4, .inl (upd x_need x_wants.toNatClampNeg p0))), ((bd 30), .inl (y 0, 4, .inl x_most))] := hD
          refine lv_aload_n hx hb dX9_want_64 rfl (lv_at hl 0 rfl) ?_
          refine va_get (ci := 11) (v := .ref (bd 30)) (C := RX9) (T := TX9) (N := 47) hx hb hts inw_X9_want_X9 hown hK hP 0 rfl rfl 44 (by decide) (hts (.fieldLink RX9 103 "DockCallModel" "most" "[I") (by decide +kernel)) (fun _ h9 => h9) rfl dX9_want_65 ?_
          refine lv_aload_n hx hb dX9_want_68 rfl (lv_at hl 0 rfl) ?_
          refine va_get (ci := 11) (v := .int x_wants) (C := RX9) (T := TX9) (N := 47) hx hb hts inw_X9_want_X9 hown hK hP 0 rfl rfl 45 (by decide) (hts (.fieldLink RX9 276 "DockCallModel" "wants" "I") (by decide +kernel)) (fun _ h9 => h9) rfl dX9_want_69 ?_
          refine lv_iload_n hx hb dX9_want_72 rfl (lv_at hl 2 rfl) ?_
          obtain ⟨hi, hw⟩ := hw
          refine va_iast hx hb hK hP hD hS 2 0 rfl rfl hi dX9_want_73 (fun H locs hP hD hS => ?_)
          have hP : va_P D vwCl [(ce_xm bd x_thrown_8 x_men x_ships x_entries x_rules x_calls x_gangs x_idle x_moved x_paid x_taped x_at x_end x_begin x_faultAt x_wants), ((bd 29), .inl (y 0, 4, .inl (upd x_need x_wants.toNatClampNeg p0))), ((bd 30), .inl (y 0, 4, .inl (upd x_most x_wants.toNatClampNeg p1)))] H := hP
          have hD : va_D A [(ce_xm bd x_thrown_8 x_men x_ships x_entries x_rules x_calls x_gangs x_idle x_moved x_paid x_taped x_at x_end x_begin x_faultAt x_wants), ((bd 29), .inl (y 0, 4, .inl (upd x_need x_wants.toNatClampNeg p0))), ((bd 30), .inl (y 0, 4, .inl (upd x_most x_wants.toNatClampNeg p1)))] := hD
          refine lv_aload_n hx hb dX9_want_74 rfl (lv_at hl 0 rfl) ?_
          refine lv_dup hx hb dX9_want_75 rfl ?_
          refine va_get (ci := 11) (v := .int x_wants) (C := RX9) (T := TX9) (N := 47) hx hb hts inw_X9_want_X9 hown hK hP 0 rfl rfl 45 (by decide) (hts (.fieldLink RX9 276 "DockCallModel" "wants" "I") (by decide +kernel)) (fun _ h9 => h9) rfl dX9_want_76 ?_
          refine lv_iconst (v := 1) hx hb dX9_want_79 (by decide) ?_
          refine lv_iadd hx hb dX9_want_80 ?_
          refine va_put (ci := 11) (v := .int (x_wants + 1)) (ty := .int) (C := RX9) (T := TX9) (N := 47) hx hb hts inw_X9_want_X9 tyX9 tyX9_ok nmX9 hown hK hP hD hS 0 rfl rfl 45 (by decide) (hts (.fieldLink RX9 276 "DockCallModel" "wants" "I") (by decide +kernel)) (fun _ h9 => h9) rfl (by decide +kernel) rfl rfl (Nat.le_of_ble_eq_true rfl) dX9_want_81 (fun H locs hP hD hS => ?_)
          have hP : va_P D vwCl [(ce_xm bd x_thrown_8 x_men x_ships x_entries x_rules x_calls x_gangs x_idle x_moved x_paid x_taped x_at x_end x_begin x_faultAt (x_wants + 1)), ((bd 29), .inl (y 0, 4, .inl (upd x_need x_wants.toNatClampNeg p0))), ((bd 30), .inl (y 0, 4, .inl (upd x_most x_wants.toNatClampNeg p1)))] H := hP
          have hD : va_D A [(ce_xm bd x_thrown_8 x_men x_ships x_entries x_rules x_calls x_gangs x_idle x_moved x_paid x_taped x_at x_end x_begin x_faultAt (x_wants + 1)), ((bd 29), .inl (y 0, 4, .inl (upd x_need x_wants.toNatClampNeg p0))), ((bd 30), .inl (y 0, 4, .inl (upd x_most x_wants.toNatClampNeg p1)))] := hD
          refine lv_aload_n hx hb dX9_want_84 rfl (lv_at hl 0 rfl) ?_
          refine va_get (ci := 11) (v := .int (x_wants + 1)) (C := RX9) (T := TX9) (N := 47) hx hb hts inw_X9_want_X9 hown hK hP 0 rfl rfl 45 (by decide) (hts (.fieldLink RX9 276 "DockCallModel" "wants" "I") (by decide +kernel)) (fun _ h9 => h9) rfl dX9_want_85 ?_
          exact W.iret (v := x_wants + 1) hx hb hr (fun t ht hW => ⟨⟨x_wants + 1, (x_thrown_8, x_wants + 1, upd x_need x_wants.toNatClampNeg p0, upd x_most x_wants.toNatClampNeg p1), rfl, hw, mAt.to hP hK hD ht hW⟩, hS.F ht⟩) hS.2.2 dX9_want_88
        · have hw := hw.1 hc
          refine lv_iconst (v := (-1)) hx hb dX9_want_52 (by decide) ?_
          exact W.iret (v := (-1)) hx hb hr (fun t ht hW => ⟨⟨(-1), (x_thrown_8, x_wants, x_need, x_most), rfl, hw, mAt.to hP hK hD ht hW⟩, hS.F ht⟩) hS.2.2 dX9_want_53
      · have hw := hw.2 hc
        refine lv_iconst (v := 0) hx hb dX9_want_42 (by decide) ?_
        exact W.iret (v := 0) hx hb hr (fun t ht hW => ⟨⟨0, (x_thrown_8, x_wants, x_need, x_most), rfl, hw, mAt.to hP hK hD ht hW⟩, hS.F ht⟩) hS.2.2 dX9_want_43
theorem inw_X9_unwant_X9 : ∀ w ∈ wsX90, w ∈ wsX9_unwant := fun _ h => List.mem_cons_of_mem _ (List.mem_append_right _ h)
def wp_Model_unwant (x_wants : Int32) (Q : Int32 → Int32 → Int32 → Prop) : Prop := Q x_wants 0 0
set_option maxHeartbeats 4000000 in
set_option maxRecDepth 100000 in
theorem c_Model_unwant (l : Launch) (D : va_G) (y : Nat → ClassId) (bd : Nat → Nat) (sz : Nat) (x_thrown : Int32) (x_men : Int32) (x_ships : Int32) (x_entries : Int32) (x_rules : Int32) (x_calls : Int32) (x_gangs : Int32) (x_idle : Int32) (x_moved : Int64) (x_paid : Int64) (x_taped : Int32) (x_at : Int32) (x_end : Int32) (x_begin : Int32) (x_faultAt : Int32) (x_wants : Int32)  {Q : Int32 → Int32 → Int32 → Prop} (hw : wp_Model_unwant x_wants Q) : Met l yX9_unwant wsX9_unwant ({ frames := 0, cells := 0, slots := 0, locals := 0 }) (va_Pc [.ref (bd 0)] (mPre D y sz [(ce_xm bd x_thrown x_men x_ships x_entries x_rules x_calls x_gangs x_idle x_moved x_paid x_taped x_at x_end x_begin x_faultAt x_wants)])) (va_Qi (fun (r : Int32) (u : Int32 × Int32) => Q r u.1 u.2) (mAt D y (va_A [(ce_xm bd x_thrown x_men x_ships x_entries x_rules x_calls x_gangs x_idle x_moved x_paid x_taped x_at x_end x_begin x_faultAt x_wants)] sz) (fun (u : Int32 × Int32) => [(ce_xm bd u.1 x_men x_ships x_entries x_rules x_calls x_gangs x_idle x_moved x_paid x_taped x_at x_end x_begin x_faultAt u.2)])) (va_A [(ce_xm bd x_thrown x_men x_ships x_entries x_rules x_calls x_gangs x_idle x_moved x_paid x_taped x_at x_end x_begin x_faultAt x_wants)] sz)) 0 0 (va_A [(ce_xm bd x_thrown x_men x_ships x_entries x_rules x_calls x_gangs x_idle x_moved x_paid x_taped x_at x_end x_begin x_faultAt x_wants)] sz) := by
  unfold wp_Model_unwant at hw
  refine Met.ofW (cc := cX9_unwant) (maxL := 2) (ret := some .int) (by decide) rfl ?_
  intro p e s m args below meth c s₁ B hml hv
  obtain ⟨rfl, hsz, hP, hK, hD0, hE⟩ := hv
  have hx := B.exec
  have hb := B.bytes
  have hr := B.returns
  have hts := atoms_spec (ws := wsX9_unwant) B.pre
  have hown : s.vm.findClass RX9 = some m.cls := findClass_of_methodNamed B.named
  have hlocks := B.notSynchronized
  subst hsz
  have hD := hD0.self (sz := s.heap.size)
  generalize hAe : va_A [(ce_xm bd x_thrown x_men x_ships x_entries x_rules x_calls x_gangs x_idle x_moved x_paid x_taped x_at x_end x_begin x_faultAt x_wants)] s.heap.size = A at hD ⊢
  have hA : ∀ q : Nat, s.heap.size ≤ q → A q := fun q h => by rw [← hAe]; exact Or.inr h
  have hS : va_S A s.heap s.heap [] := va_S.rf
  have hP : va_P D vwCl [(ce_xm bd x_thrown x_men x_ships x_entries x_rules x_calls x_gangs x_idle x_moved x_paid x_taped x_at x_end x_begin x_faultAt x_wants)] s.heap := hP
  have hl := lv_entry ([.ref (bd 0)]) (n := 2) (Nat.le_of_ble_eq_true rfl)
  rw [lg_entry_eq]
  generalize (lg_sl ([.ref (bd 0)]) ++ List.replicate (2 - (lg_sl ([.ref (bd 0)])).length) Slot.unset).toArray = ls at hl ⊢
  have hl : lv_has ls 2 [(0, .ref (bd 0))] := hl
  refine lv_aload_n hx hb dX9_unwant_0 rfl (lv_at hl 0 rfl) ?_
  refine lv_iconst (v := 0) hx hb dX9_unwant_1 (by decide) ?_
  refine va_put (ci := 11) (v := .int 0) (ty := .int) (C := RX9) (T := TX9) (N := 47) hx hb hts inw_X9_unwant_X9 tyX9 tyX9_ok nmX9 hown hK hP hD hS 0 rfl rfl 0 (by decide) (hts (.fieldLink RX9 109 "DockCallModel" "thrown" "I") (by decide +kernel)) (fun _ h9 => h9) rfl (by decide +kernel) rfl rfl (Nat.le_of_ble_eq_true rfl) dX9_unwant_2 (fun H locs hP hD hS => ?_)
  have hP : va_P D vwCl [(ce_xm bd 0 x_men x_ships x_entries x_rules x_calls x_gangs x_idle x_moved x_paid x_taped x_at x_end x_begin x_faultAt x_wants)] H := hP
  have hD : va_D A [(ce_xm bd 0 x_men x_ships x_entries x_rules x_calls x_gangs x_idle x_moved x_paid x_taped x_at x_end x_begin x_faultAt x_wants)] := hD
  refine lv_aload_n hx hb dX9_unwant_5 rfl (lv_at hl 0 rfl) ?_
  refine va_get (ci := 11) (v := .int x_wants) (C := RX9) (T := TX9) (N := 47) hx hb hts inw_X9_unwant_X9 hown hK hP 0 rfl rfl 45 (by decide) (hts (.fieldLink RX9 276 "DockCallModel" "wants" "I") (by decide +kernel)) (fun _ h9 => h9) rfl dX9_unwant_6 ?_
  refine lv_istore_n (lv' := [(1, .int x_wants), (0, .ref (bd 0))]) hx hb dX9_unwant_9 rfl hl (by decide) rfl (fun ls hl => ?_)
  refine lv_aload_n hx hb dX9_unwant_10 rfl (lv_at hl 1 rfl) ?_
  refine lv_iconst (v := 0) hx hb dX9_unwant_11 (by decide) ?_
  refine va_put (ci := 11) (v := .int 0) (ty := .int) (C := RX9) (T := TX9) (N := 47) hx hb hts inw_X9_unwant_X9 tyX9 tyX9_ok nmX9 hown hK hP hD hS 0 rfl rfl 45 (by decide) (hts (.fieldLink RX9 276 "DockCallModel" "wants" "I") (by decide +kernel)) (fun _ h9 => h9) rfl (by decide +kernel) rfl rfl (Nat.le_of_ble_eq_true rfl) dX9_unwant_12 (fun H locs hP hD hS => ?_)
  have hP : va_P D vwCl [(ce_xm bd 0 x_men x_ships x_entries x_rules x_calls x_gangs x_idle x_moved x_paid x_taped x_at x_end x_begin x_faultAt 0)] H := hP
  have hD : va_D A [(ce_xm bd 0 x_men x_ships x_entries x_rules x_calls x_gangs x_idle x_moved x_paid x_taped x_at x_end x_begin x_faultAt 0)] := hD
  refine lv_iload_n hx hb dX9_unwant_15 rfl (lv_at hl 0 rfl) ?_
  exact W.iret (v := x_wants) hx hb hr (fun t ht hW => ⟨⟨x_wants, (0, 0), rfl, hw, mAt.to hP hK hD ht hW⟩, hS.F ht⟩) hS.2.2 dX9_unwant_16
def wp_Model_power (p0 : Int32) (Q : Int32 → Prop) : Prop := ((p0 = 0 → Q 1) ∧ (¬ p0 = 0 → ((p0 = 1 → Q 9) ∧ (¬ p0 = 1 → ((p0 = 2 → Q 81) ∧ (¬ p0 = 2 → Q 729))))))
set_option maxHeartbeats 4000000 in
set_option maxRecDepth 100000 in
theorem c_Model_power (l : Launch) (D : va_G) (y : Nat → ClassId) (sz : Nat)  (p0 : Int32) {Q : Int32 → Prop} (hw : wp_Model_power p0 Q) : Met l yX9_power wsX9_power ({ frames := 0, cells := 0, slots := 0, locals := 0 }) (va_Pc [.int p0] (mPre D y sz [])) (va_Qi (fun (r : Int32) (u : Unit) => Q r ) (mAt D y (va_A [] sz) (fun (u : Unit) => [])) (va_A [] sz)) 0 0 (va_A [] sz) := by
  unfold wp_Model_power at hw
  refine Met.ofW (cc := cX9_power) (maxL := 1) (ret := some .int) (by decide) rfl ?_
  intro p e s m args below meth c s₁ B hml hv
  obtain ⟨rfl, hsz, hP, hK, hD0, hE⟩ := hv
  have hx := B.exec
  have hb := B.bytes
  have hr := B.returns
  have hts := atoms_spec (ws := wsX9_power) B.pre
  have hown : s.vm.findClass RX9 = some m.cls := findClass_of_methodNamed B.named
  have hlocks := B.notSynchronized
  subst hsz
  have hD := hD0.self (sz := s.heap.size)
  generalize hAe : va_A [] s.heap.size = A at hD ⊢
  have hA : ∀ q : Nat, s.heap.size ≤ q → A q := fun q h => by rw [← hAe]; exact Or.inr h
  have hS : va_S A s.heap s.heap [] := va_S.rf
  have hP : va_P D vwCl [] s.heap := hP
  have hl := lv_entry ([.int p0]) (n := 1) (Nat.le_of_ble_eq_true rfl)
  rw [lg_entry_eq]
  generalize (lg_sl ([.int p0]) ++ List.replicate (1 - (lg_sl ([.int p0])).length) Slot.unset).toArray = ls at hl ⊢
  have hl : lv_has ls 1 [(0, .int p0)] := hl
  refine lv_iload_n hx hb dX9_power_0 rfl (lv_at hl 0 rfl) ?_
  refine lv_if_ne (tgt := 8) hx hb dX9_power_1 (by decide) (fun hc => ?_) (fun hc => ?_)
  · have hw := hw.2 hc
    refine lv_iload_n hx hb dX9_power_8 rfl (lv_at hl 0 rfl) ?_
    refine lv_iconst (v := 1) hx hb dX9_power_9 (by decide) ?_
    refine lv_icmp_ne (tgt := 18) hx hb dX9_power_10 (by decide) (fun hc => ?_) (fun hc => ?_)
    · have hw := hw.2 hc
      refine lv_iload_n hx hb dX9_power_18 rfl (lv_at hl 0 rfl) ?_
      refine lv_iconst (v := 2) hx hb dX9_power_19 (by decide) ?_
      refine lv_icmp_ne (tgt := 28) hx hb dX9_power_20 (by decide) (fun hc => ?_) (fun hc => ?_)
      · have hw := hw.2 hc
        refine lv_sipush (v := 729) hx hb dX9_power_28 (by decide) ?_
        exact W.iret (v := 729) hx hb hr (fun t ht hW => ⟨⟨729, (), rfl, hw, mAt.to hP hK hD ht hW⟩, hS.F ht⟩) hS.2.2 dX9_power_31
      · have hw := hw.1 hc
        refine lv_bipush (v := 81) hx hb dX9_power_23 (by decide) ?_
        refine lv_goto (tgt := 31) hx hb dX9_power_25 (by decide) ?_
        exact W.iret (v := 81) hx hb hr (fun t ht hW => ⟨⟨81, (), rfl, hw, mAt.to hP hK hD ht hW⟩, hS.F ht⟩) hS.2.2 dX9_power_31
    · have hw := hw.1 hc
      refine lv_bipush (v := 9) hx hb dX9_power_13 (by decide) ?_
      refine lv_goto (tgt := 31) hx hb dX9_power_15 (by decide) ?_
      exact W.iret (v := 9) hx hb hr (fun t ht hW => ⟨⟨9, (), rfl, hw, mAt.to hP hK hD ht hW⟩, hS.F ht⟩) hS.2.2 dX9_power_31
  · have hw := hw.1 hc
    refine lv_iconst (v := 1) hx hb dX9_power_4 (by decide) ?_
    refine lv_goto (tgt := 31) hx hb dX9_power_5 (by decide) ?_
    exact W.iret (v := 1) hx hb hr (fun t ht hW => ⟨⟨1, (), rfl, hw, mAt.to hP hK hD ht hW⟩, hS.F ht⟩) hS.2.2 dX9_power_31
theorem inw_X9_count_X9 : ∀ w ∈ wsX90, w ∈ wsX9_count := fun _ h => List.mem_cons_of_mem _ (List.mem_append_left _ (List.mem_append_right _ h))
def wp_Model_count_h84 (x_thrown : Int32) (x_ships : Int32) (x_hatches : Nat → Int32) (x_tons : Nat → Int32)  (Q : Int32 → Int32 → Prop) : Nat → Int32 → Int32 → Prop
  | 0, _, _ => False
  | n + 1, v2, v3 => ((x_ships ≤ v3 → Q v2 x_thrown) ∧ (¬ x_ships ≤ v3 → (wp_Model_tonsOf x_hatches x_tons v3 (fun r_1 => wp_Model_count_h84 x_thrown x_ships x_hatches x_tons Q n (v2 + r_1) (v3 + 1)))))
def wp_Model_count (x_men : Int32) (x_ships : Int32) (x_entries : Int32) (x_rules : Int32) (x_calls : Int32) (x_gangs : Int32) (x_idle : Int32) (x_moved : Int64) (x_paid : Int64) (x_hatches : Nat → Int32) (x_tons : Nat → Int32) (p0 : Int32) (Q : Int32 → Int32 → Prop) : Prop := ((p0 = 0 → Q x_men 0) ∧ (¬ p0 = 0 → ((p0 = 1 → Q x_ships 0) ∧ (¬ p0 = 1 → ((p0 = 2 → Q x_calls 0) ∧ (¬ p0 = 2 → ((p0 = 3 → Q x_entries 0) ∧ (¬ p0 = 3 → ((p0 = 4 → (∃ n' : Nat, wp_Model_count_h84 0 x_ships x_hatches x_tons Q n' 0 0)) ∧ (¬ p0 = 4 → ((p0 = 5 → Q x_moved.toInt32 0) ∧ (¬ p0 = 5 → ((p0 = 6 → Q x_gangs 0) ∧ (¬ p0 = 6 → ((p0 = 7 → Q x_idle 0) ∧ (¬ p0 = 7 → ((p0 = 8 → Q x_rules 0) ∧ (¬ p0 = 8 → ((p0 = 9 → Q x_paid.toInt32 0) ∧ (¬ p0 = 9 → Q (-1) 0))))))))))))))))))))
set_option maxHeartbeats 4000000 in
set_option maxRecDepth 100000 in
theorem c_Model_count_h84 {p : Program} {l : Launch} {e : Env} {s : State} {m : MethodId} {args : Array Value} {below : List Frame} {meth : Method} {c : Code} {D : va_G} {y : Nat → ClassId} {bd : Nat → Nat} {A : Nat → Prop} (hx : p.tables.exec = Jvm.exec) (hb : c.code = cX9_count) (hr : meth.sig.returnType = some .int) (hml : c.maxLocals = 4) (hown : s.vm.findClass RX9 = some m.cls) (hts : ∀ w ∈ wsX9_count, w.before args s = true) (hlocks : meth.locks = false) (hK : va_K D vwCl (TY y) s) (hE : EV s) (hA : ∀ q, s.heap.size ≤ q → A q) {v1 : Int32} {x_thrown : Int32} {x_men : Int32} {x_ships : Int32} {x_entries : Int32} {x_rules : Int32} {x_calls : Int32} {x_gangs : Int32} {x_idle : Int32} {x_moved : Int64} {x_paid : Int64} {x_hatches : Nat → Int32} {x_tons : Nat → Int32} {x_taped : Int32} {x_at : Int32} {x_end : Int32} {x_begin : Int32} {x_faultAt : Int32} {x_wants : Int32}  {Q : Int32 → Int32 → Prop}  : ∀ (n : Nat) (v2 : Int32) (v3 : Int32), wp_Model_count_h84 x_thrown x_ships x_hatches x_tons Q n v2 v3 → ∀ (H : Heap) (locs : List Loc) (ls : Array Slot), va_P D vwCl [(ce_xm bd x_thrown x_men x_ships x_entries x_rules x_calls x_gangs x_idle x_moved x_paid x_taped x_at x_end x_begin x_faultAt x_wants), ((bd 8), .inl (y 0, 10, .inl x_hatches)), ((bd 10), .inl (y 0, 40, .inl x_tons))] H → va_D A [(ce_xm bd x_thrown x_men x_ships x_entries x_rules x_calls x_gangs x_idle x_moved x_paid x_taped x_at x_end x_begin x_faultAt x_wants), ((bd 8), .inl (y 0, 10, .inl x_hatches)), ((bd 10), .inl (y 0, 40, .inl x_tons))] → va_S A s.heap H locs → lv_has ls 4 [(3, .int v3), (2, .int v2), (0, .ref (bd 0)), (1, .int v1)] → W p l e ({ frames := 1, cells := 0, slots := 0, locals := 23 }) s m args below meth c H locs 0 0 (MQ below (va_Qi (fun (r : Int32) (u : Int32) => Q r u) (mAt D y A (fun (u : Int32) => [(ce_xm bd u x_men x_ships x_entries x_rules x_calls x_gangs x_idle x_moved x_paid x_taped x_at x_end x_begin x_faultAt x_wants), ((bd 8), .inl (y 0, 10, .inl x_hatches)), ((bd 10), .inl (y 0, 40, .inl x_tons))])) A) args s 0 0 A) (F0 m 84 ls []) := by
  intro n
  induction n with
  | zero => intro v2 v3 hw; rw [wp_Model_count_h84] at hw; exact hw.elim
  | succ n ih =>
    intro v2 v3 hw H locs ls hP hD hS hl
    rw [wp_Model_count_h84] at hw
    refine lv_iload_n hx hb dX9_count_84 rfl (lv_at hl 0 rfl) ?_
    refine lv_aload_n hx hb dX9_count_85 rfl (lv_at hl 2 rfl) ?_
    refine va_get (ci := 11) (v := .int x_ships) (C := RX9) (T := TX9) (N := 47) hx hb hts inw_X9_count_X9 hown hK hP 0 rfl rfl 14 (by decide) (hts (.fieldLink RX9 119 "DockCallModel" "ships" "I") (by decide +kernel)) (fun _ h9 => h9) rfl dX9_count_86 ?_
    refine lv_icmp_ge (tgt := 106) hx hb dX9_count_89 (by decide) (fun hc => ?_) (fun hc => ?_)
    · have hw := hw.1 hc
      refine lv_iload_n hx hb dX9_count_106 rfl (lv_at hl 1 rfl) ?_
      exact W.iret (v := v2) hx hb hr (fun t ht hW => ⟨⟨v2, (x_thrown), rfl, hw, mAt.to hP hK hD ht hW⟩, hS.F ht⟩) hS.2.2 dX9_count_107
    · have hw := hw.2 hc
      refine lv_iload_n hx hb dX9_count_92 rfl (lv_at hl 1 rfl) ?_
      refine lv_aload_n hx hb dX9_count_93 rfl (lv_at hl 2 rfl) ?_
      refine lv_iload_n hx hb dX9_count_94 rfl (lv_at hl 0 rfl) ?_
      refine mx_i (wc := [(ce_xm bd x_thrown x_men x_ships x_entries x_rules x_calls x_gangs x_idle x_moved x_paid x_taped x_at x_end x_begin x_faultAt x_wants), ((bd 8), .inl (y 0, 10, .inl x_hatches)), ((bd 10), .inl (y 0, 40, .inl x_tons))]) (wr := []) hP hD hS hA [0, 1, 2] [] [0, 1, 2] rfl rfl (by decide) (by decide) (by decide) (fun (u : Unit) => [(ce_xm bd x_thrown x_men x_ships x_entries x_rules x_calls x_gangs x_idle x_moved x_paid x_taped x_at x_end x_begin x_faultAt x_wants), ((bd 8), .inl (y 0, 10, .inl x_hatches)), ((bd 10), .inl (y 0, 40, .inl x_tons))]) (fun _ => rfl) (va_runV (As := [.int v3]) (rest := [.int v2]) ⟨hx, hb, hml, hown, hts⟩ (c_Model_tonsOf l D y bd H.size x_thrown x_men x_ships x_entries x_rules x_calls x_gangs x_idle x_moved x_paid x_taped x_at x_end x_begin x_faultAt x_wants x_hatches x_tons v3 hw) (cwV 1 hts gX9_count_X9_tonsOf rfl rfl rfl (by decide +kernel) ⟨Nat.le_of_ble_eq_true rfl, Nat.le_of_ble_eq_true rfl⟩) ⟨mPre.blind, (va_recv hK hP (ci := 11) (q0 := 0) rfl rfl), mPre.to (hP.sub [0, 1, 2] rfl) hK (hD.sub [0, 1, 2] (by decide) rfl) hE⟩ rfl rfl hl.1 rfl (lv_room (Nat.le_of_ble_eq_true rfl)) dX9_count_95 ⟨Nat.le_of_ble_eq_true rfl, Nat.le_of_ble_eq_true rfl⟩) (fun r_1 u H locs hw hP hD hS => ?_)
      try dsimp only at hw
      have hP : va_P D vwCl [(ce_xm bd x_thrown x_men x_ships x_entries x_rules x_calls x_gangs x_idle x_moved x_paid x_taped x_at x_end x_begin x_faultAt x_wants), ((bd 8), .inl (y 0, 10, .inl x_hatches)), ((bd 10), .inl (y 0, 40, .inl x_tons))] H := hP
      have hD : va_D A [(ce_xm bd x_thrown x_men x_ships x_entries x_rules x_calls x_gangs x_idle x_moved x_paid x_taped x_at x_end x_begin x_faultAt x_wants), ((bd 8), .inl (y 0, 10, .inl x_hatches)), ((bd 10), .inl (y 0, 40, .inl x_tons))] := hD
      refine lv_iadd hx hb dX9_count_98 ?_
      refine lv_istore_n (lv' := [(2, .int (v2 + r_1)), (3, .int v3), (0, .ref (bd 0)), (1, .int v1)]) hx hb dX9_count_99 rfl hl (by decide) rfl (fun ls hl => ?_)
      refine lv_iinc (v := v3 + 1) (lv' := [(3, .int (v3 + 1)), (2, .int (v2 + r_1)), (0, .ref (bd 0)), (1, .int v1)]) hx hb dX9_count_100 hl (k := 1) rfl (by first | rfl | decide) (by decide) rfl (fun ls hl => ?_)
      refine lv_goto (tgt := 84) hx hb dX9_count_103 (by decide) ?_
      exact ih (v2 + r_1) (v3 + 1)  hw _ _ _ hP hD hS (lv_sub hl [0, 1, 2, 3] rfl)
set_option maxHeartbeats 4000000 in
set_option maxRecDepth 100000 in
theorem c_Model_count (l : Launch) (D : va_G) (y : Nat → ClassId) (bd : Nat → Nat) (sz : Nat) (x_thrown : Int32) (x_men : Int32) (x_ships : Int32) (x_entries : Int32) (x_rules : Int32) (x_calls : Int32) (x_gangs : Int32) (x_idle : Int32) (x_moved : Int64) (x_paid : Int64) (x_taped : Int32) (x_at : Int32) (x_end : Int32) (x_begin : Int32) (x_faultAt : Int32) (x_wants : Int32) (x_hatches : Nat → Int32) (x_tons : Nat → Int32) (p0 : Int32) {Q : Int32 → Int32 → Prop} (hw : wp_Model_count x_men x_ships x_entries x_rules x_calls x_gangs x_idle x_moved x_paid x_hatches x_tons p0 Q) : Met l yX9_count wsX9_count ({ frames := 1, cells := 0, slots := 0, locals := 23 }) (va_Pc [.ref (bd 0), .int p0] (mPre D y sz [(ce_xm bd x_thrown x_men x_ships x_entries x_rules x_calls x_gangs x_idle x_moved x_paid x_taped x_at x_end x_begin x_faultAt x_wants), ((bd 8), .inl (y 0, 10, .inl x_hatches)), ((bd 10), .inl (y 0, 40, .inl x_tons))])) (va_Qi (fun (r : Int32) (u : Int32) => Q r u) (mAt D y (va_A [(ce_xm bd x_thrown x_men x_ships x_entries x_rules x_calls x_gangs x_idle x_moved x_paid x_taped x_at x_end x_begin x_faultAt x_wants), ((bd 8), .inl (y 0, 10, .inl x_hatches)), ((bd 10), .inl (y 0, 40, .inl x_tons))] sz) (fun (u : Int32) => [(ce_xm bd u x_men x_ships x_entries x_rules x_calls x_gangs x_idle x_moved x_paid x_taped x_at x_end x_begin x_faultAt x_wants), ((bd 8), .inl (y 0, 10, .inl x_hatches)), ((bd 10), .inl (y 0, 40, .inl x_tons))])) (va_A [(ce_xm bd x_thrown x_men x_ships x_entries x_rules x_calls x_gangs x_idle x_moved x_paid x_taped x_at x_end x_begin x_faultAt x_wants), ((bd 8), .inl (y 0, 10, .inl x_hatches)), ((bd 10), .inl (y 0, 40, .inl x_tons))] sz)) 0 0 (va_A [(ce_xm bd x_thrown x_men x_ships x_entries x_rules x_calls x_gangs x_idle x_moved x_paid x_taped x_at x_end x_begin x_faultAt x_wants), ((bd 8), .inl (y 0, 10, .inl x_hatches)), ((bd 10), .inl (y 0, 40, .inl x_tons))] sz) := by
  unfold wp_Model_count at hw
  refine Met.ofW (cc := cX9_count) (maxL := 4) (ret := some .int) (by decide) rfl ?_
  intro p e s m args below meth c s₁ B hml hv
  obtain ⟨rfl, hsz, hP, hK, hD0, hE⟩ := hv
  have hx := B.exec
  have hb := B.bytes
  have hr := B.returns
  have hts := atoms_spec (ws := wsX9_count) B.pre
  have hown : s.vm.findClass RX9 = some m.cls := findClass_of_methodNamed B.named
  have hlocks := B.notSynchronized
  subst hsz
  have hD := hD0.self (sz := s.heap.size)
  generalize hAe : va_A [(ce_xm bd x_thrown x_men x_ships x_entries x_rules x_calls x_gangs x_idle x_moved x_paid x_taped x_at x_end x_begin x_faultAt x_wants), ((bd 8), .inl (y 0, 10, .inl x_hatches)), ((bd 10), .inl (y 0, 40, .inl x_tons))] s.heap.size = A at hD ⊢
  have hA : ∀ q : Nat, s.heap.size ≤ q → A q := fun q h => by rw [← hAe]; exact Or.inr h
  have hS : va_S A s.heap s.heap [] := va_S.rf
  have hP : va_P D vwCl [(ce_xm bd x_thrown x_men x_ships x_entries x_rules x_calls x_gangs x_idle x_moved x_paid x_taped x_at x_end x_begin x_faultAt x_wants), ((bd 8), .inl (y 0, 10, .inl x_hatches)), ((bd 10), .inl (y 0, 40, .inl x_tons))] s.heap := hP
  have hl := lv_entry ([.ref (bd 0), .int p0]) (n := 4) (Nat.le_of_ble_eq_true rfl)
  rw [lg_entry_eq]
  generalize (lg_sl ([.ref (bd 0), .int p0]) ++ List.replicate (4 - (lg_sl ([.ref (bd 0), .int p0])).length) Slot.unset).toArray = ls at hl ⊢
  have hl : lv_has ls 4 [(0, .ref (bd 0)), (1, .int p0)] := hl
  refine lv_aload_n hx hb dX9_count_0 rfl (lv_at hl 0 rfl) ?_
  refine lv_iconst (v := 0) hx hb dX9_count_1 (by decide) ?_
  refine va_put (ci := 11) (v := .int 0) (ty := .int) (C := RX9) (T := TX9) (N := 47) hx hb hts inw_X9_count_X9 tyX9 tyX9_ok nmX9 hown hK hP hD hS 0 rfl rfl 0 (by decide) (hts (.fieldLink RX9 109 "DockCallModel" "thrown" "I") (by decide +kernel)) (fun _ h9 => h9) rfl (by decide +kernel) rfl rfl (Nat.le_of_ble_eq_true rfl) dX9_count_2 (fun H locs hP hD hS => ?_)
  have hP : va_P D vwCl [(ce_xm bd 0 x_men x_ships x_entries x_rules x_calls x_gangs x_idle x_moved x_paid x_taped x_at x_end x_begin x_faultAt x_wants), ((bd 8), .inl (y 0, 10, .inl x_hatches)), ((bd 10), .inl (y 0, 40, .inl x_tons))] H := hP
  have hD : va_D A [(ce_xm bd 0 x_men x_ships x_entries x_rules x_calls x_gangs x_idle x_moved x_paid x_taped x_at x_end x_begin x_faultAt x_wants), ((bd 8), .inl (y 0, 10, .inl x_hatches)), ((bd 10), .inl (y 0, 40, .inl x_tons))] := hD
  refine lv_iload_n hx hb dX9_count_5 rfl (lv_at hl 1 rfl) ?_
  by_cases tc0 : p0 = 0
  · have hw := hw.1 tc0
    refine lv_tableIn (off := 54) (tgt := 60) hx hb dX9_count_6 (by rw [tc0]; decide) (by rw [tc0]; decide) (by rw [tc0]; decide) (by decide) ?_
    refine lv_aload_n hx hb dX9_count_60 rfl (lv_at hl 0 rfl) ?_
    refine va_get (ci := 11) (v := .int x_men) (C := RX9) (T := TX9) (N := 47) hx hb hts inw_X9_count_X9 hown hK hP 0 rfl rfl 7 (by decide) (hts (.fieldLink RX9 112 "DockCallModel" "men" "I") (by decide +kernel)) (fun _ h9 => h9) rfl dX9_count_61 ?_
    exact W.iret (v := x_men) hx hb hr (fun t ht hW => ⟨⟨x_men, (0), rfl, hw, mAt.to hP hK hD ht hW⟩, hS.F ht⟩) hS.2.2 dX9_count_64
  · have hw := hw.2 tc0
    by_cases tc1 : p0 = 1
    · have hw := hw.1 tc1
      refine lv_tableIn (off := 59) (tgt := 65) hx hb dX9_count_6 (by rw [tc1]; decide) (by rw [tc1]; decide) (by rw [tc1]; decide) (by decide) ?_
      refine lv_aload_n hx hb dX9_count_65 rfl (lv_at hl 0 rfl) ?_
      refine va_get (ci := 11) (v := .int x_ships) (C := RX9) (T := TX9) (N := 47) hx hb hts inw_X9_count_X9 hown hK hP 0 rfl rfl 14 (by decide) (hts (.fieldLink RX9 119 "DockCallModel" "ships" "I") (by decide +kernel)) (fun _ h9 => h9) rfl dX9_count_66 ?_
      exact W.iret (v := x_ships) hx hb hr (fun t ht hW => ⟨⟨x_ships, (0), rfl, hw, mAt.to hP hK hD ht hW⟩, hS.F ht⟩) hS.2.2 dX9_count_69
    · have hw := hw.2 tc1
      by_cases tc2 : p0 = 2
      · have hw := hw.1 tc2
        refine lv_tableIn (off := 64) (tgt := 70) hx hb dX9_count_6 (by rw [tc2]; decide) (by rw [tc2]; decide) (by rw [tc2]; decide) (by decide) ?_
        refine lv_aload_n hx hb dX9_count_70 rfl (lv_at hl 0 rfl) ?_
        refine va_get (ci := 11) (v := .int x_calls) (C := RX9) (T := TX9) (N := 47) hx hb hts inw_X9_count_X9 hown hK hP 0 rfl rfl 25 (by decide) (hts (.fieldLink RX9 128 "DockCallModel" "calls" "I") (by decide +kernel)) (fun _ h9 => h9) rfl dX9_count_71 ?_
        exact W.iret (v := x_calls) hx hb hr (fun t ht hW => ⟨⟨x_calls, (0), rfl, hw, mAt.to hP hK hD ht hW⟩, hS.F ht⟩) hS.2.2 dX9_count_74
      · have hw := hw.2 tc2
        by_cases tc3 : p0 = 3
        · have hw := hw.1 tc3
          refine lv_tableIn (off := 69) (tgt := 75) hx hb dX9_count_6 (by rw [tc3]; decide) (by rw [tc3]; decide) (by rw [tc3]; decide) (by decide) ?_
          refine lv_aload_n hx hb dX9_count_75 rfl (lv_at hl 0 rfl) ?_
          refine va_get (ci := 11) (v := .int x_entries) (C := RX9) (T := TX9) (N := 47) hx hb hts inw_X9_count_X9 hown hK hP 0 rfl rfl 20 (by decide) (hts (.fieldLink RX9 224 "DockCallModel" "entries" "I") (by decide +kernel)) (fun _ h9 => h9) rfl dX9_count_76 ?_
          exact W.iret (v := x_entries) hx hb hr (fun t ht hW => ⟨⟨x_entries, (0), rfl, hw, mAt.to hP hK hD ht hW⟩, hS.F ht⟩) hS.2.2 dX9_count_79
        · have hw := hw.2 tc3
          by_cases tc4 : p0 = 4
          · have hw := hw.1 tc4
            refine lv_tableIn (off := 74) (tgt := 80) hx hb dX9_count_6 (by rw [tc4]; decide) (by rw [tc4]; decide) (by rw [tc4]; decide) (by decide) ?_
            refine lv_iconst (v := 0) hx hb dX9_count_80 (by decide) ?_
            refine lv_istore_n (lv' := [(2, .int 0), (0, .ref (bd 0)), (1, .int p0)]) hx hb dX9_count_81 rfl hl (by decide) rfl (fun ls hl => ?_)
            refine lv_iconst (v := 0) hx hb dX9_count_82 (by decide) ?_
            refine lv_istore_n (lv' := [(3, .int 0), (2, .int 0), (0, .ref (bd 0)), (1, .int p0)]) hx hb dX9_count_83 rfl hl (by decide) rfl (fun ls hl => ?_)
            obtain ⟨n', hw⟩ := hw
            exact c_Model_count_h84 hx hb hr hml hown hts hlocks hK hE hA  n' 0 0 hw _ _ _ hP hD hS (lv_sub hl [0, 1, 2, 3] rfl)
          · have hw := hw.2 tc4
            by_cases tc5 : p0 = 5
            · have hw := hw.1 tc5
              refine lv_tableIn (off := 102) (tgt := 108) hx hb dX9_count_6 (by rw [tc5]; decide) (by rw [tc5]; decide) (by rw [tc5]; decide) (by decide) ?_
              refine lv_aload_n hx hb dX9_count_108 rfl (lv_at hl 0 rfl) ?_
              refine va_get (ci := 11) (v := .long x_moved) (C := RX9) (T := TX9) (N := 47) hx hb hts inw_X9_count_X9 hown hK hP 0 rfl rfl 28 (by decide) (hts (.fieldLink RX9 232 "DockCallModel" "moved" "J") (by decide +kernel)) (fun _ h9 => h9) rfl dX9_count_109 ?_
              refine lv_l2i hx hb dX9_count_112 rfl ?_
              exact W.iret (v := x_moved.toInt32) hx hb hr (fun t ht hW => ⟨⟨x_moved.toInt32, (0), rfl, hw, mAt.to hP hK hD ht hW⟩, hS.F ht⟩) hS.2.2 dX9_count_113
            · have hw := hw.2 tc5
              by_cases tc6 : p0 = 6
              · have hw := hw.1 tc6
                refine lv_tableIn (off := 108) (tgt := 114) hx hb dX9_count_6 (by rw [tc6]; decide) (by rw [tc6]; decide) (by rw [tc6]; decide) (by decide) ?_
                refine lv_aload_n hx hb dX9_count_114 rfl (lv_at hl 0 rfl) ?_
                refine va_get (ci := 11) (v := .int x_gangs) (C := RX9) (T := TX9) (N := 47) hx hb hts inw_X9_count_X9 hown hK hP 0 rfl rfl 26 (by decide) (hts (.fieldLink RX9 258 "DockCallModel" "gangs" "I") (by decide +kernel)) (fun _ h9 => h9) rfl dX9_count_115 ?_
                exact W.iret (v := x_gangs) hx hb hr (fun t ht hW => ⟨⟨x_gangs, (0), rfl, hw, mAt.to hP hK hD ht hW⟩, hS.F ht⟩) hS.2.2 dX9_count_118
              · have hw := hw.2 tc6
                by_cases tc7 : p0 = 7
                · have hw := hw.1 tc7
                  refine lv_tableIn (off := 113) (tgt := 119) hx hb dX9_count_6 (by rw [tc7]; decide) (by rw [tc7]; decide) (by rw [tc7]; decide) (by decide) ?_
                  refine lv_aload_n hx hb dX9_count_119 rfl (lv_at hl 0 rfl) ?_
                  refine va_get (ci := 11) (v := .int x_idle) (C := RX9) (T := TX9) (N := 47) hx hb hts inw_X9_count_X9 hown hK hP 0 rfl rfl 27 (by decide) (hts (.fieldLink RX9 245 "DockCallModel" "idle" "I") (by decide +kernel)) (fun _ h9 => h9) rfl dX9_count_120 ?_
                  exact W.iret (v := x_idle) hx hb hr (fun t ht hW => ⟨⟨x_idle, (0), rfl, hw, mAt.to hP hK hD ht hW⟩, hS.F ht⟩) hS.2.2 dX9_count_123
                · have hw := hw.2 tc7
                  by_cases tc8 : p0 = 8
                  · have hw := hw.1 tc8
                    refine lv_tableIn (off := 118) (tgt := 124) hx hb dX9_count_6 (by rw [tc8]; decide) (by rw [tc8]; decide) (by rw [tc8]; decide) (by decide) ?_
                    refine lv_aload_n hx hb dX9_count_124 rfl (lv_at hl 0 rfl) ?_
                    refine va_get (ci := 11) (v := .int x_rules) (C := RX9) (T := TX9) (N := 47) hx hb hts inw_X9_count_X9 hown hK hP 0 rfl rfl 24 (by decide) (hts (.fieldLink RX9 264 "DockCallModel" "rules" "I") (by decide +kernel)) (fun _ h9 => h9) rfl dX9_count_125 ?_
                    exact W.iret (v := x_rules) hx hb hr (fun t ht hW => ⟨⟨x_rules, (0), rfl, hw, mAt.to hP hK hD ht hW⟩, hS.F ht⟩) hS.2.2 dX9_count_128
                  · have hw := hw.2 tc8
                    by_cases tc9 : p0 = 9
                    · have hw := hw.1 tc9
                      refine lv_tableIn (off := 123) (tgt := 129) hx hb dX9_count_6 (by rw [tc9]; decide) (by rw [tc9]; decide) (by rw [tc9]; decide) (by decide) ?_
                      refine lv_aload_n hx hb dX9_count_129 rfl (lv_at hl 0 rfl) ?_
                      refine va_get (ci := 11) (v := .long x_paid) (C := RX9) (T := TX9) (N := 47) hx hb hts inw_X9_count_X9 hown hK hP 0 rfl rfl 29 (by decide) (hts (.fieldLink RX9 220 "DockCallModel" "paid" "J") (by decide +kernel)) (fun _ h9 => h9) rfl dX9_count_130 ?_
                      refine lv_l2i hx hb dX9_count_133 rfl ?_
                      exact W.iret (v := x_paid.toInt32) hx hb hr (fun t ht hW => ⟨⟨x_paid.toInt32, (0), rfl, hw, mAt.to hP hK hD ht hW⟩, hS.F ht⟩) hS.2.2 dX9_count_134
                    · have hw := hw.2 tc9
                      refine lv_tableOut (tgt := 135) hx hb dX9_count_6 (tw_o 9 rfl (by decide) (fun k hk => by rcases (show k = 0 ∨ k = 1 ∨ k = 2 ∨ k = 3 ∨ k = 4 ∨ k = 5 ∨ k = 6 ∨ k = 7 ∨ k = 8 ∨ k = 9 by omega) with rfl | rfl | rfl | rfl | rfl | rfl | rfl | rfl | rfl | rfl <;> first | exact tc0 | exact tc1 | exact tc2 | exact tc3 | exact tc4 | exact tc5 | exact tc6 | exact tc7 | exact tc8 | exact tc9)) (by decide) ?_
                      refine lv_iconst (v := (-1)) hx hb dX9_count_135 (by decide) ?_
                      exact W.iret (v := (-1)) hx hb hr (fun t ht hW => ⟨⟨(-1), (0), rfl, hw, mAt.to hP hK hD ht hW⟩, hS.F ht⟩) hS.2.2 dX9_count_136
