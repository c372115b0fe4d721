theorem inw_X9_isAhead_X9 : ∀ w ∈ wsX90, w ∈ wsX9_isAhead := fun _ h => List.mem_cons_of_mem _ (List.mem_append_left _ (List.mem_append_right _ h))
def wp_Model_isAhead (x_came : Nat → Int32) (x_says : Nat → Int32) (x_start : Nat → Int32) (p0 : Int32) (p1 : Int32) (Q : Int32 → Prop) : Prop := ((x_says (6 : Int32).toNatClampNeg = 0 → (vp_in p0 10 ∧ (vp_in p1 10 ∧ ((x_came p0.toNatClampNeg = x_came p1.toNatClampNeg → ((x_says (6 : Int32).toNatClampNeg = 1 → (vp_in p0 10 ∧ (vp_in p1 10 ∧ ((x_start p0.toNatClampNeg = x_start p1.toNatClampNeg → ((p1 ≤ p0 → Q 0) ∧ (¬ p1 ≤ p0 → Q 1))) ∧ (¬ x_start p0.toNatClampNeg = x_start p1.toNatClampNeg → (vp_in p0 10 ∧ (vp_in p1 10 ∧ ((x_start p0.toNatClampNeg ≤ x_start p1.toNatClampNeg → Q 0) ∧ (¬ x_start p0.toNatClampNeg ≤ x_start p1.toNatClampNeg → Q 1))))))))) ∧ (¬ x_says (6 : Int32).toNatClampNeg = 1 → ((p1 ≤ p0 → Q 0) ∧ (¬ p1 ≤ p0 → Q 1))))) ∧ (¬ x_came p0.toNatClampNeg = x_came p1.toNatClampNeg → (vp_in p0 10 ∧ (vp_in p1 10 ∧ ((x_came p1.toNatClampNeg ≤ x_came p0.toNatClampNeg → Q 0) ∧ (¬ x_came p1.toNatClampNeg ≤ x_came p0.toNatClampNeg → Q 1))))))))) ∧ (¬ x_says (6 : Int32).toNatClampNeg = 0 → ((x_says (6 : Int32).toNatClampNeg = 1 → (vp_in p0 10 ∧ (vp_in p1 10 ∧ ((x_start p0.toNatClampNeg = x_start p1.toNatClampNeg → ((p1 ≤ p0 → Q 0) ∧ (¬ p1 ≤ p0 → Q 1))) ∧ (¬ x_start p0.toNatClampNeg = x_start p1.toNatClampNeg → (vp_in p0 10 ∧ (vp_in p1 10 ∧ ((x_start p0.toNatClampNeg ≤ x_start p1.toNatClampNeg → Q 0) ∧ (¬ x_start p0.toNatClampNeg ≤ x_start p1.toNatClampNeg → Q 1))))))))) ∧ (¬ x_says (6 : Int32).toNatClampNeg = 1 → ((p1 ≤ p0 → Q 0) ∧ (¬ p1 ≤ p0 → Q 1))))))
set_option maxHeartbeats 4000000 in
set_option maxRecDepth 100000 in
theorem c_Model_isAhead (l : Launch) (D : va_G) (y : Nat → ClassId) (bd : Nat → Nat) (sz : Nat) (x_thrown : Int32) (x_men : Int32) (x_ships : Int32) (x_entries : Int32) (x_rules : Int32) (x_calls : Int32) (x_gangs : Int32) (x_idle : Int32) (x_moved : Int64) (x_paid : Int64) (x_taped : Int32) (x_at : Int32) (x_end : Int32) (x_begin : Int32) (x_faultAt : Int32) (x_wants : Int32) (x_came : Nat → Int32) (x_says : Nat → Int32) (x_start : Nat → Int32) (p0 : Int32) (p1 : Int32) {Q : Int32 → Prop} (hw : wp_Model_isAhead x_came x_says x_start p0 p1 Q) : Met l yX9_isAhead wsX9_isAhead ({ frames := 0, cells := 0, slots := 0, locals := 0 }) (va_Pc [.ref (bd 0), .int p0, .int p1] (mPre D y sz [(ce_xm bd x_thrown x_men x_ships x_entries x_rules x_calls x_gangs x_idle x_moved x_paid x_taped x_at x_end x_begin x_faultAt x_wants), ((bd 7), .inl (y 0, 10, .inl x_came)), ((bd 13), .inl (y 0, 11, .inl x_says)), ((bd 24), .inl (y 0, 10, .inl x_start))])) (va_Qi (fun (r : Int32) (u : Unit) => Q r ) (mAt D y (va_A [(ce_xm bd x_thrown x_men x_ships x_entries x_rules x_calls x_gangs x_idle x_moved x_paid x_taped x_at x_end x_begin x_faultAt x_wants), ((bd 7), .inl (y 0, 10, .inl x_came)), ((bd 13), .inl (y 0, 11, .inl x_says)), ((bd 24), .inl (y 0, 10, .inl x_start))] sz) (fun (u : Unit) => [(ce_xm bd x_thrown x_men x_ships x_entries x_rules x_calls x_gangs x_idle x_moved x_paid x_taped x_at x_end x_begin x_faultAt x_wants), ((bd 7), .inl (y 0, 10, .inl x_came)), ((bd 13), .inl (y 0, 11, .inl x_says)), ((bd 24), .inl (y 0, 10, .inl x_start))])) (va_A [(ce_xm bd x_thrown x_men x_ships x_entries x_rules x_calls x_gangs x_idle x_moved x_paid x_taped x_at x_end x_begin x_faultAt x_wants), ((bd 7), .inl (y 0, 10, .inl x_came)), ((bd 13), .inl (y 0, 11, .inl x_says)), ((bd 24), .inl (y 0, 10, .inl x_start))] sz)) 0 0 (va_A [(ce_xm bd x_thrown x_men x_ships x_entries x_rules x_calls x_gangs x_idle x_moved x_paid x_taped x_at x_end x_begin x_faultAt x_wants), ((bd 7), .inl (y 0, 10, .inl x_came)), ((bd 13), .inl (y 0, 11, .inl x_says)), ((bd 24), .inl (y 0, 10, .inl x_start))] sz) := by
  unfold wp_Model_isAhead at hw
  refine Met.ofW (cc := cX9_isAhead) (maxL := 3) (ret := some .boolean) (by decide) rfl ?_
  intro p e s m args below meth c s₁ B hml hv
  obtain ⟨rfl, hsz, hP, hK, hD0, hE⟩ := hv
  have hx := B.exec
  have hb := B.bytes
  have hr := B.returns
  have hts := atoms_spec (ws := wsX9_isAhead) B.pre
  have hown : s.vm.findClass RX9 = some m.cls := findClass_of_methodNamed B.named
  have hlocks := B.notSynchronized
  subst hsz
  have hD := hD0.self (sz := s.heap.size)
  generalize hAe : va_A [(ce_xm bd x_thrown x_men x_ships x_entries x_rules x_calls x_gangs x_idle x_moved x_paid x_taped x_at x_end x_begin x_faultAt x_wants), ((bd 7), .inl (y 0, 10, .inl x_came)), ((bd 13), .inl (y 0, 11, .inl x_says)), ((bd 24), .inl (y 0, 10, .inl x_start))] s.heap.size = A at hD ⊢
  have hA : ∀ q : Nat, s.heap.size ≤ q → A q := fun q h => by rw [← hAe]; exact Or.inr h
  have hS : va_S A s.heap s.heap [] := va_S.rf
  have hP : va_P D vwCl [(ce_xm bd x_thrown x_men x_ships x_entries x_rules x_calls x_gangs x_idle x_moved x_paid x_taped x_at x_end x_begin x_faultAt x_wants), ((bd 7), .inl (y 0, 10, .inl x_came)), ((bd 13), .inl (y 0, 11, .inl x_says)), ((bd 24), .inl (y 0, 10, .inl x_start))] s.heap := hP
  have hl := lv_entry ([.ref (bd 0), .int p0, .int p1]) (n := 3) (Nat.le_of_ble_eq_true rfl)
  rw [lg_entry_eq]
  generalize (lg_sl ([.ref (bd 0), .int p0, .int p1]) ++ List.replicate (3 - (lg_sl ([.ref (bd 0), .int p0, .int p1])).length) Slot.unset).toArray = ls at hl ⊢
  have hl : lv_has ls 3 [(0, .ref (bd 0)), (1, .int p0), (2, .int p1)] := hl
  refine lv_aload_n hx hb dX9_isAhead_0 rfl (lv_at hl 0 rfl) ?_
  refine va_get (ci := 11) (v := .ref (bd 13)) (C := RX9) (T := TX9) (N := 47) hx hb hts inw_X9_isAhead_X9 hown hK hP 0 rfl rfl 15 (by decide) (hts (.fieldLink RX9 47 "DockCallModel" "says" "[I") (by decide +kernel)) (fun _ h9 => h9) rfl dX9_isAhead_1 ?_
  refine lv_bipush (v := 6) hx hb dX9_isAhead_4 (by decide) ?_
  refine va_iald hx hb hK hP 2 0 rfl rfl (by unfold vp_in; decide) dX9_isAhead_6 ?_
  refine lv_if_ne (tgt := 46) hx hb dX9_isAhead_7 (by decide) (fun hc => ?_) (fun hc => ?_)
  · have hw := hw.2 hc
    refine lv_aload_n hx hb dX9_isAhead_46 rfl (lv_at hl 0 rfl) ?_
    refine va_get (ci := 11) (v := .ref (bd 13)) (C := RX9) (T := TX9) (N := 47) hx hb hts inw_X9_isAhead_X9 hown hK hP 0 rfl rfl 15 (by decide) (hts (.fieldLink RX9 47 "DockCallModel" "says" "[I") (by decide +kernel)) (fun _ h9 => h9) rfl dX9_isAhead_47 ?_
    refine lv_bipush (v := 6) hx hb dX9_isAhead_50 (by decide) ?_
    refine va_iald hx hb hK hP 2 0 rfl rfl (by unfold vp_in; decide) dX9_isAhead_52 ?_
    refine lv_iconst (v := 1) hx hb dX9_isAhead_53 (by decide) ?_
    refine lv_icmp_ne (tgt := 93) hx hb dX9_isAhead_54 (by decide) (fun hc => ?_) (fun hc => ?_)
    · have hw := hw.2 hc
      refine lv_iload_n hx hb dX9_isAhead_93 rfl (lv_at hl 1 rfl) ?_
      refine lv_iload_n hx hb dX9_isAhead_94 rfl (lv_at hl 2 rfl) ?_
      refine lv_icmp_ge (tgt := 102) hx hb dX9_isAhead_95 (by decide) (fun hc => ?_) (fun hc => ?_)
      · have hw := hw.1 hc
        refine lv_iconst (v := 0) hx hb dX9_isAhead_102 (by decide) ?_
        exact W.zret (v := 0) hx hb hr (by decide) (fun t ht hW => ⟨⟨0, (), rfl, hw, mAt.to hP hK hD ht hW⟩, hS.F ht⟩) hS.2.2 dX9_isAhead_103
      · have hw := hw.2 hc
        refine lv_iconst (v := 1) hx hb dX9_isAhead_98 (by decide) ?_
        refine lv_goto (tgt := 103) hx hb dX9_isAhead_99 (by decide) ?_
        exact W.zret (v := 1) hx hb hr (by decide) (fun t ht hW => ⟨⟨1, (), rfl, hw, mAt.to hP hK hD ht hW⟩, hS.F ht⟩) hS.2.2 dX9_isAhead_103
    · have hw := hw.1 hc
      refine lv_aload_n hx hb dX9_isAhead_57 rfl (lv_at hl 0 rfl) ?_
      refine va_get (ci := 11) (v := .ref (bd 24)) (C := RX9) (T := TX9) (N := 47) hx hb hts inw_X9_isAhead_X9 hown hK hP 0 rfl rfl 38 (by decide) (hts (.fieldLink RX9 85 "DockCallModel" "start" "[I") (by decide +kernel)) (fun _ h9 => h9) rfl dX9_isAhead_58 ?_
      refine lv_iload_n hx hb dX9_isAhead_61 rfl (lv_at hl 1 rfl) ?_
      obtain ⟨hi, hw⟩ := hw
      refine va_iald hx hb hK hP 3 0 rfl rfl hi dX9_isAhead_62 ?_
      refine lv_aload_n hx hb dX9_isAhead_63 rfl (lv_at hl 0 rfl) ?_
      refine va_get (ci := 11) (v := .ref (bd 24)) (C := RX9) (T := TX9) (N := 47) hx hb hts inw_X9_isAhead_X9 hown hK hP 0 rfl rfl 38 (by decide) (hts (.fieldLink RX9 85 "DockCallModel" "start" "[I") (by decide +kernel)) (fun _ h9 => h9) rfl dX9_isAhead_64 ?_
      refine lv_iload_n hx hb dX9_isAhead_67 rfl (lv_at hl 2 rfl) ?_
      obtain ⟨hi, hw⟩ := hw
      refine va_iald hx hb hK hP 3 0 rfl rfl hi dX9_isAhead_68 ?_
      refine lv_icmp_eq (tgt := 93) hx hb dX9_isAhead_69 (by decide) (fun hc => ?_) (fun hc => ?_)
      · have hw := hw.1 hc
        refine lv_iload_n hx hb dX9_isAhead_93 rfl (lv_at hl 1 rfl) ?_
        refine lv_iload_n hx hb dX9_isAhead_94 rfl (lv_at hl 2 rfl) ?_
        refine lv_icmp_ge (tgt := 102) hx hb dX9_isAhead_95 (by decide) (fun hc => ?_) (fun hc => ?_)
        · have hw := hw.1 hc
          refine lv_iconst (v := 0) hx hb dX9_isAhead_102 (by decide) ?_
          exact W.zret (v := 0) hx hb hr (by decide) (fun t ht hW => ⟨⟨0, (), rfl, hw, mAt.to hP hK hD ht hW⟩, hS.F ht⟩) hS.2.2 dX9_isAhead_103
        · have hw := hw.2 hc
          refine lv_iconst (v := 1) hx hb dX9_isAhead_98 (by decide) ?_
          refine lv_goto (tgt := 103) hx hb dX9_isAhead_99 (by decide) ?_
          exact W.zret (v := 1) hx hb hr (by decide) (fun t ht hW => ⟨⟨1, (), rfl, hw, mAt.to hP hK hD ht hW⟩, hS.F ht⟩) hS.2.2 dX9_isAhead_103
      · have hw := hw.2 hc
        refine lv_aload_n hx hb dX9_isAhead_72 rfl (lv_at hl 0 rfl) ?_
        refine va_get (ci := 11) (v := .ref (bd 24)) (C := RX9) (T := TX9) (N := 47) hx hb hts inw_X9_isAhead_X9 hown hK hP 0 rfl rfl 38 (by decide) (hts (.fieldLink RX9 85 "DockCallModel" "start" "[I") (by decide +kernel)) (fun _ h9 => h9) rfl dX9_isAhead_73 ?_
        refine lv_iload_n hx hb dX9_isAhead_76 rfl (lv_at hl 1 rfl) ?_
        obtain ⟨hi, hw⟩ := hw
        refine va_iald hx hb hK hP 3 0 rfl rfl hi dX9_isAhead_77 ?_
        refine lv_aload_n hx hb dX9_isAhead_78 rfl (lv_at hl 0 rfl) ?_
        refine va_get (ci := 11) (v := .ref (bd 24)) (C := RX9) (T := TX9) (N := 47) hx hb hts inw_X9_isAhead_X9 hown hK hP 0 rfl rfl 38 (by decide) (hts (.fieldLink RX9 85 "DockCallModel" "start" "[I") (by decide +kernel)) (fun _ h9 => h9) rfl dX9_isAhead_79 ?_
        refine lv_iload_n hx hb dX9_isAhead_82 rfl (lv_at hl 2 rfl) ?_
        obtain ⟨hi, hw⟩ := hw
        refine va_iald hx hb hK hP 3 0 rfl rfl hi dX9_isAhead_83 ?_
        refine lv_icmp_le (tgt := 91) hx hb dX9_isAhead_84 (by decide) (fun hc => ?_) (fun hc => ?_)
        · have hw := hw.1 hc
          refine lv_iconst (v := 0) hx hb dX9_isAhead_91 (by decide) ?_
          exact W.zret (v := 0) hx hb hr (by decide) (fun t ht hW => ⟨⟨0, (), rfl, hw, mAt.to hP hK hD ht hW⟩, hS.F ht⟩) hS.2.2 dX9_isAhead_92
        · have hw := hw.2 hc
          refine lv_iconst (v := 1) hx hb dX9_isAhead_87 (by decide) ?_
          refine lv_goto (tgt := 92) hx hb dX9_isAhead_88 (by decide) ?_
          exact W.zret (v := 1) hx hb hr (by decide) (fun t ht hW => ⟨⟨1, (), rfl, hw, mAt.to hP hK hD ht hW⟩, hS.F ht⟩) hS.2.2 dX9_isAhead_92
  · have hw := hw.1 hc
    refine lv_aload_n hx hb dX9_isAhead_10 rfl (lv_at hl 0 rfl) ?_
    refine va_get (ci := 11) (v := .ref (bd 7)) (C := RX9) (T := TX9) (N := 47) hx hb hts inw_X9_isAhead_X9 hown hK hP 0 rfl rfl 8 (by decide) (hts (.fieldLink RX9 28 "DockCallModel" "came" "[I") (by decide +kernel)) (fun _ h9 => h9) rfl dX9_isAhead_11 ?_
    refine lv_iload_n hx hb dX9_isAhead_14 rfl (lv_at hl 1 rfl) ?_
    obtain ⟨hi, hw⟩ := hw
    refine va_iald hx hb hK hP 1 0 rfl rfl hi dX9_isAhead_15 ?_
    refine lv_aload_n hx hb dX9_isAhead_16 rfl (lv_at hl 0 rfl) ?_
    refine va_get (ci := 11) (v := .ref (bd 7)) (C := RX9) (T := TX9) (N := 47) hx hb hts inw_X9_isAhead_X9 hown hK hP 0 rfl rfl 8 (by decide) (hts (.fieldLink RX9 28 "DockCallModel" "came" "[I") (by decide +kernel)) (fun _ h9 => h9) rfl dX9_isAhead_17 ?_
    refine lv_iload_n hx hb dX9_isAhead_20 rfl (lv_at hl 2 rfl) ?_
    obtain ⟨hi, hw⟩ := hw
    refine va_iald hx hb hK hP 1 0 rfl rfl hi dX9_isAhead_21 ?_
    refine lv_icmp_eq (tgt := 46) hx hb dX9_isAhead_22 (by decide) (fun hc => ?_) (fun hc => ?_)
    · have hw := hw.1 hc
      refine lv_aload_n hx hb dX9_isAhead_46 rfl (lv_at hl 0 rfl) ?_
      refine va_get (ci := 11) (v := .ref (bd 13)) (C := RX9) (T := TX9) (N := 47) hx hb hts inw_X9_isAhead_X9 hown hK hP 0 rfl rfl 15 (by decide) (hts (.fieldLink RX9 47 "DockCallModel" "says" "[I") (by decide +kernel)) (fun _ h9 => h9) rfl dX9_isAhead_47 ?_
      refine lv_bipush (v := 6) hx hb dX9_isAhead_50 (by decide) ?_
      refine va_iald hx hb hK hP 2 0 rfl rfl (by unfold vp_in; decide) dX9_isAhead_52 ?_
      refine lv_iconst (v := 1) hx hb dX9_isAhead_53 (by decide) ?_
      refine lv_icmp_ne (tgt := 93) hx hb dX9_isAhead_54 (by decide) (fun hc => ?_) (fun hc => ?_)
      · have hw := hw.2 hc
        refine lv_iload_n hx hb dX9_isAhead_93 rfl (lv_at hl 1 rfl) ?_
        refine lv_iload_n hx hb dX9_isAhead_94 rfl (lv_at hl 2 rfl) ?_
        refine lv_icmp_ge (tgt := 102) hx hb dX9_isAhead_95 (by decide) (fun hc => ?_) (fun hc => ?_)
        · have hw := hw.1 hc
          refine lv_iconst (v := 0) hx hb dX9_isAhead_102 (by decide) ?_
          exact W.zret (v := 0) hx hb hr (by decide) (fun t ht hW => ⟨⟨0, (), rfl, hw, mAt.to hP hK hD ht hW⟩, hS.F ht⟩) hS.2.2 dX9_isAhead_103
        · have hw := hw.2 hc
          refine lv_iconst (v := 1) hx hb dX9_isAhead_98 (by decide) ?_
          refine lv_goto (tgt := 103) hx hb dX9_isAhead_99 (by decide) ?_
          exact W.zret (v := 1) hx hb hr (by decide) (fun t ht hW => ⟨⟨1, (), rfl, hw, mAt.to hP hK hD ht hW⟩, hS.F ht⟩) hS.2.2 dX9_isAhead_103
      · have hw := hw.1 hc
        refine lv_aload_n hx hb dX9_isAhead_57 rfl (lv_at hl 0 rfl) ?_
        refine va_get (ci := 11) (v := .ref (bd 24)) (C := RX9) (T := TX9) (N := 47) hx hb hts inw_X9_isAhead_X9 hown hK hP 0 rfl rfl 38 (by decide) (hts (.fieldLink RX9 85 "DockCallModel" "start" "[I") (by decide +kernel)) (fun _ h9 => h9) rfl dX9_isAhead_58 ?_
        refine lv_iload_n hx hb dX9_isAhead_61 rfl (lv_at hl 1 rfl) ?_
        obtain ⟨hi, hw⟩ := hw
        refine va_iald hx hb hK hP 3 0 rfl rfl hi dX9_isAhead_62 ?_
        refine lv_aload_n hx hb dX9_isAhead_63 rfl (lv_at hl 0 rfl) ?_
        refine va_get (ci := 11) (v := .ref (bd 24)) (C := RX9) (T := TX9) (N := 47) hx hb hts inw_X9_isAhead_X9 hown hK hP 0 rfl rfl 38 (by decide) (hts (.fieldLink RX9 85 "DockCallModel" "start" "[I") (by decide +kernel)) (fun _ h9 => h9) rfl dX9_isAhead_64 ?_
        refine lv_iload_n hx hb dX9_isAhead_67 rfl (lv_at hl 2 rfl) ?_
        obtain ⟨hi, hw⟩ := hw
        refine va_iald hx hb hK hP 3 0 rfl rfl hi dX9_isAhead_68 ?_
        refine lv_icmp_eq (tgt := 93) hx hb dX9_isAhead_69 (by decide) (fun hc => ?_) (fun hc => ?_)
        · have hw := hw.1 hc
          refine lv_iload_n hx hb dX9_isAhead_93 rfl (lv_at hl 1 rfl) ?_
          refine lv_iload_n hx hb dX9_isAhead_94 rfl (lv_at hl 2 rfl) ?_
          refine lv_icmp_ge (tgt := 102) hx hb dX9_isAhead_95 (by decide) (fun hc => ?_) (fun hc => ?_)
          · have hw := hw.1 hc
            refine lv_iconst (v := 0) hx hb dX9_isAhead_102 (by decide) ?_
            exact W.zret (v := 0) hx hb hr (by decide) (fun t ht hW => ⟨⟨0, (), rfl, hw, mAt.to hP hK hD ht hW⟩, hS.F ht⟩) hS.2.2 dX9_isAhead_103
          · have hw := hw.2 hc
            refine lv_iconst (v := 1) hx hb dX9_isAhead_98 (by decide) ?_
            refine lv_goto (tgt := 103) hx hb dX9_isAhead_99 (by decide) ?_
            exact W.zret (v := 1) hx hb hr (by decide) (fun t ht hW => ⟨⟨1, (), rfl, hw, mAt.to hP hK hD ht hW⟩, hS.F ht⟩) hS.2.2 dX9_isAhead_103
        · have hw := hw.2 hc
          refine lv_aload_n hx hb dX9_isAhead_72 rfl (lv_at hl 0 rfl) ?_
          refine va_get (ci := 11) (v := .ref (bd 24)) (C := RX9) (T := TX9) (N := 47) hx hb hts inw_X9_isAhead_X9 hown hK hP 0 rfl rfl 38 (by decide) (hts (.fieldLink RX9 85 "DockCallModel" "start" "[I") (by decide +kernel)) (fun _ h9 => h9) rfl dX9_isAhead_73 ?_
          refine lv_iload_n hx hb dX9_isAhead_76 rfl (lv_at hl 1 rfl) ?_
          obtain ⟨hi, hw⟩ := hw
          refine va_iald hx hb hK hP 3 0 rfl rfl hi dX9_isAhead_77 ?_
          refine lv_aload_n hx hb dX9_isAhead_78 rfl (lv_at hl 0 rfl) ?_
          refine va_get (ci := 11) (v := .ref (bd 24)) (C := RX9) (T := TX9) (N := 47) hx hb hts inw_X9_isAhead_X9 hown hK hP 0 rfl rfl 38 (by decide) (hts (.fieldLink RX9 85 "DockCallModel" "start" "[I") (by decide +kernel)) (fun _ h9 => h9) rfl dX9_isAhead_79 ?_
          refine lv_iload_n hx hb dX9_isAhead_82 rfl (lv_at hl 2 rfl) ?_
          obtain ⟨hi, hw⟩ := hw
          refine va_iald hx hb hK hP 3 0 rfl rfl hi dX9_isAhead_83 ?_
          refine lv_icmp_le (tgt := 91) hx hb dX9_isAhead_84 (by decide) (fun hc => ?_) (fun hc => ?_)
          · have hw := hw.1 hc
            refine lv_iconst (v := 0) hx hb dX9_isAhead_91 (by decide) ?_
            exact W.zret (v := 0) hx hb hr (by decide) (fun t ht hW => ⟨⟨0, (), rfl, hw, mAt.to hP hK hD ht hW⟩, hS.F ht⟩) hS.2.2 dX9_isAhead_92
          · have hw := hw.2 hc
            refine lv_iconst (v := 1) hx hb dX9_isAhead_87 (by decide) ?_
            refine lv_goto (tgt := 92) hx hb dX9_isAhead_88 (by decide) ?_
            exact W.zret (v := 1) hx hb hr (by decide) (fun t ht hW => ⟨⟨1, (), rfl, hw, mAt.to hP hK hD ht hW⟩, hS.F ht⟩) hS.2.2 dX9_isAhead_92
    · have hw := hw.2 hc
      refine lv_aload_n hx hb dX9_isAhead_25 rfl (lv_at hl 0 rfl) ?_
      refine va_get (ci := 11) (v := .ref (bd 7)) (C := RX9) (T := TX9) (N := 47) hx hb hts inw_X9_isAhead_X9 hown hK hP 0 rfl rfl 8 (by decide) (hts (.fieldLink RX9 28 "DockCallModel" "came" "[I") (by decide +kernel)) (fun _ h9 => h9) rfl dX9_isAhead_26 ?_
      refine lv_iload_n hx hb dX9_isAhead_29 rfl (lv_at hl 1 rfl) ?_
      obtain ⟨hi, hw⟩ := hw
      refine va_iald hx hb hK hP 1 0 rfl rfl hi dX9_isAhead_30 ?_
      refine lv_aload_n hx hb dX9_isAhead_31 rfl (lv_at hl 0 rfl) ?_
      refine va_get (ci := 11) (v := .ref (bd 7)) (C := RX9) (T := TX9) (N := 47) hx hb hts inw_X9_isAhead_X9 hown hK hP 0 rfl rfl 8 (by decide) (hts (.fieldLink RX9 28 "DockCallModel" "came" "[I") (by decide +kernel)) (fun _ h9 => h9) rfl dX9_isAhead_32 ?_
      refine lv_iload_n hx hb dX9_isAhead_35 rfl (lv_at hl 2 rfl) ?_
      obtain ⟨hi, hw⟩ := hw
      refine va_iald hx hb hK hP 1 0 rfl rfl hi dX9_isAhead_36 ?_
      refine lv_icmp_ge (tgt := 44) hx hb dX9_isAhead_37 (by decide) (fun hc => ?_) (fun hc => ?_)
      · have hw := hw.1 hc
        refine lv_iconst (v := 0) hx hb dX9_isAhead_44 (by decide) ?_
        exact W.zret (v := 0) hx hb hr (by decide) (fun t ht hW => ⟨⟨0, (), rfl, hw, mAt.to hP hK hD ht hW⟩, hS.F ht⟩) hS.2.2 dX9_isAhead_45
      · have hw := hw.2 hc
        refine lv_iconst (v := 1) hx hb dX9_isAhead_40 (by decide) ?_
        refine lv_goto (tgt := 45) hx hb dX9_isAhead_41 (by decide) ?_
        exact W.zret (v := 1) hx hb hr (by decide) (fun t ht hW => ⟨⟨1, (), rfl, hw, mAt.to hP hK hD ht hW⟩, hS.F ht⟩) hS.2.2 dX9_isAhead_45
theorem inw_X9_nextShip_X9 : ∀ w ∈ wsX90, w ∈ wsX9_nextShip := fun _ h => List.mem_cons_of_mem _ (List.mem_append_left _ (List.mem_append_right _ h))
def wp_Model_nextShip_h4 (x_ships : Int32) (x_came : Nat → Int32) (x_says : Nat → Int32) (x_hadTurn : Nat → Int32) (x_start : Nat → Int32)  (Q : Int32 → Prop) : Nat → Int32 → Int32 → Prop
  | 0, _, _ => False
  | n + 1, v1, v2 => ((x_ships ≤ v2 → Q v1) ∧ (¬ x_ships ≤ v2 → (vp_in v2 10 ∧ ((x_hadTurn v2.toNatClampNeg = 0 → (vp_in v2 10 ∧ ((x_start v2.toNatClampNeg ≤ 0 → wp_Model_nextShip_h4 x_ships x_came x_says x_hadTurn x_start Q n v1 (v2 + 1)) ∧ (¬ x_start v2.toNatClampNeg ≤ 0 → ((v1 < 0 → wp_Model_nextShip_h4 x_ships x_came x_says x_hadTurn x_start Q n v2 (v2 + 1)) ∧ (¬ v1 < 0 → (wp_Model_isAhead x_came x_says x_start v2 v1 (fun r_1 => ((r_1 = 0 → wp_Model_nextShip_h4 x_ships x_came x_says x_hadTurn x_start Q n v1 (v2 + 1)) ∧ (¬ r_1 = 0 → wp_Model_nextShip_h4 x_ships x_came x_says x_hadTurn x_start Q n v2 (v2 + 1))))))))))) ∧ (¬ x_hadTurn v2.toNatClampNeg = 0 → wp_Model_nextShip_h4 x_ships x_came x_says x_hadTurn x_start Q n v1 (v2 + 1))))))
def wp_Model_nextShip (x_ships : Int32) (x_came : Nat → Int32) (x_says : Nat → Int32) (x_hadTurn : Nat → Int32) (x_start : Nat → Int32) (Q : Int32 → Prop) : Prop := (∃ n' : Nat, wp_Model_nextShip_h4 x_ships x_came x_says x_hadTurn x_start Q n' (-1) 0)
set_option maxHeartbeats 4000000 in
set_option maxRecDepth 100000 in
theorem c_Model_nextShip_h4 {p : Program} {l : Launch} {e : Env} {s : State} {m : MethodId} {args : Array Value} {below : List Frame} {meth : Method} {c : Code} {D : va_G} {y : Nat → ClassId} {bd : Nat → Nat} {A : Nat → Prop} (hx : p.tables.exec = Jvm.exec) (hb : c.code = cX9_nextShip) (hr : meth.sig.returnType = some .int) (hml : c.maxLocals = 3) (hown : s.vm.findClass RX9 = some m.cls) (hts : ∀ w ∈ wsX9_nextShip, w.before args s = true) (hlocks : meth.locks = false) (hK : va_K D vwCl (TY y) s) (hE : EV s) (hA : ∀ q, s.heap.size ≤ q → A q) {x_ships : Int32} {x_came : Nat → Int32} {x_says : Nat → Int32} {x_hadTurn : Nat → Int32} {x_start : Nat → Int32} {x_thrown : Int32} {x_men : Int32} {x_entries : Int32} {x_rules : Int32} {x_calls : Int32} {x_gangs : Int32} {x_idle : Int32} {x_moved : Int64} {x_paid : Int64} {x_taped : Int32} {x_at : Int32} {x_end : Int32} {x_begin : Int32} {x_faultAt : Int32} {x_wants : Int32}  {Q : Int32 → Prop}  : ∀ (n : Nat) (v1 : Int32) (v2 : Int32), wp_Model_nextShip_h4 x_ships x_came x_says x_hadTurn x_start Q n v1 v2 → ∀ (H : Heap) (locs : List Loc) (ls : Array Slot), va_P D vwCl [(ce_xm bd x_thrown x_men x_ships x_entries x_rules x_calls x_gangs x_idle x_moved x_paid x_taped x_at x_end x_begin x_faultAt x_wants), ((bd 7), .inl (y 0, 10, .inl x_came)), ((bd 13), .inl (y 0, 11, .inl x_says)), ((bd 23), .inl (y 2, 10, .inl x_hadTurn)), ((bd 24), .inl (y 0, 10, .inl x_start))] H → va_D A [(ce_xm bd x_thrown x_men x_ships x_entries x_rules x_calls x_gangs x_idle x_moved x_paid x_taped x_at x_end x_begin x_faultAt x_wants), ((bd 7), .inl (y 0, 10, .inl x_came)), ((bd 13), .inl (y 0, 11, .inl x_says)), ((bd 23), .inl (y 2, 10, .inl x_hadTurn)), ((bd 24), .inl (y 0, 10, .inl x_start))] → va_S A s.heap H locs → lv_has ls 3 [(2, .int v2), (1, .int v1), (0, .ref (bd 0))] → W p l e ({ frames := 1, cells := 0, slots := 0, locals := 22 }) s m args below meth c H locs 0 0 (MQ below (va_Qi (fun (r : Int32) (u : Unit) => Q r ) (mAt D y A (fun (u : Unit) => [(ce_xm bd x_thrown x_men x_ships x_entries x_rules x_calls x_gangs x_idle x_moved x_paid x_taped x_at x_end x_begin x_faultAt x_wants), ((bd 7), .inl (y 0, 10, .inl x_came)), ((bd 13), .inl (y 0, 11, .inl x_says)), ((bd 23), .inl (y 2, 10, .inl x_hadTurn)), ((bd 24), .inl (y 0, 10, .inl x_start))])) A) args s 0 0 A) (F0 m 4 ls []) := by
  intro n
  induction n with
  | zero => intro v1 v2 hw; rw [wp_Model_nextShip_h4] at hw; exact hw.elim
  | succ n ih =>
    intro v1 v2 hw H locs ls hP hD hS hl
    rw [wp_Model_nextShip_h4] at hw
    refine lv_iload_n hx hb dX9_nextShip_4 rfl (lv_at hl 0 rfl) ?_
    refine lv_aload_n hx hb dX9_nextShip_5 rfl (lv_at hl 2 rfl) ?_
    refine va_get (ci := 11) (v := .int x_ships) (C := RX9) (T := TX9) (N := 47) hx hb hts inw_X9_nextShip_X9 hown hK hP 0 rfl rfl 14 (by decide) (hts (.fieldLink RX9 119 "DockCallModel" "ships" "I") (by decide +kernel)) (fun _ h9 => h9) rfl dX9_nextShip_6 ?_
    refine lv_icmp_ge (tgt := 51) hx hb dX9_nextShip_9 (by decide) (fun hc => ?_) (fun hc => ?_)
    · have hw := hw.1 hc
      refine lv_iload_n hx hb dX9_nextShip_51 rfl (lv_at hl 1 rfl) ?_
      exact W.iret (v := v1) hx hb hr (fun t ht hW => ⟨⟨v1, (), rfl, hw, mAt.to hP hK hD ht hW⟩, hS.F ht⟩) hS.2.2 dX9_nextShip_52
    · have hw := hw.2 hc
      refine lv_aload_n hx hb dX9_nextShip_12 rfl (lv_at hl 2 rfl) ?_
      refine va_get (ci := 11) (v := .ref (bd 23)) (C := RX9) (T := TX9) (N := 47) hx hb hts inw_X9_nextShip_X9 hown hK hP 0 rfl rfl 37 (by decide) (hts (.fieldLink RX9 82 "DockCallModel" "hadTurn" "[Z") (by decide +kernel)) (fun _ h9 => h9) rfl dX9_nextShip_13 ?_
      refine lv_iload_n hx hb dX9_nextShip_16 rfl (lv_at hl 0 rfl) ?_
      obtain ⟨hi, hw⟩ := hw
      refine va_zald hx hb hK hP 3 2 rfl rfl hi dX9_nextShip_17 ?_
      refine lv_if_ne (tgt := 45) hx hb dX9_nextShip_18 (by decide) (fun hc => ?_) (fun hc => ?_)
      · have hw := hw.2 hc
        refine lv_iinc (v := v2 + 1) (lv' := [(2, .int (v2 + 1)), (1, .int v1), (0, .ref (bd 0))]) hx hb dX9_nextShip_45 hl (k := 0) rfl (by first | rfl | decide) (by decide) rfl (fun ls hl => ?_)
        refine lv_goto (tgt := 4) hx hb dX9_nextShip_48 (by decide) ?_
        exact ih v1 (v2 + 1)  hw _ _ _ hP hD hS (lv_sub hl [0, 1, 2] rfl)
      · have hw := hw.1 hc
        refine lv_aload_n hx hb dX9_nextShip_21 rfl (lv_at hl 2 rfl) ?_
        refine va_get (ci := 11) (v := .ref (bd 24)) (C := RX9) (T := TX9) (N := 47) hx hb hts inw_X9_nextShip_X9 hown hK hP 0 rfl rfl 38 (by decide) (hts (.fieldLink RX9 85 "DockCallModel" "start" "[I") (by decide +kernel)) (fun _ h9 => h9) rfl dX9_nextShip_22 ?_
        refine lv_iload_n hx hb dX9_nextShip_25 rfl (lv_at hl 0 rfl) ?_
        obtain ⟨hi, hw⟩ := hw
        refine va_iald hx hb hK hP 4 0 rfl rfl hi dX9_nextShip_26 ?_
        refine lv_if_le (tgt := 45) hx hb dX9_nextShip_27 (by decide) (fun hc => ?_) (fun hc => ?_)
        · have hw := hw.1 hc
          refine lv_iinc (v := v2 + 1) (lv' := [(2, .int (v2 + 1)), (1, .int v1), (0, .ref (bd 0))]) hx hb dX9_nextShip_45 hl (k := 0) rfl (by first | rfl | decide) (by decide) rfl (fun ls hl => ?_)
          refine lv_goto (tgt := 4) hx hb dX9_nextShip_48 (by decide) ?_
          exact ih v1 (v2 + 1)  hw _ _ _ hP hD hS (lv_sub hl [0, 1, 2] rfl)
        · have hw := hw.2 hc
          refine lv_iload_n hx hb dX9_nextShip_30 rfl (lv_at hl 1 rfl) ?_
          refine lv_if_lt (tgt := 43) hx hb dX9_nextShip_31 (by decide) (fun hc => ?_) (fun hc => ?_)
          · have hw := hw.1 hc
            refine lv_iload_n hx hb dX9_nextShip_43 rfl (lv_at hl 0 rfl) ?_
            refine lv_istore_n (lv' := [(1, .int v2), (2, .int v2), (0, .ref (bd 0))]) hx hb dX9_nextShip_44 rfl hl (by decide) rfl (fun ls hl => ?_)
            refine lv_iinc (v := v2 + 1) (lv' := [(2, .int (v2 + 1)), (1, .int v2), (0, .ref (bd 0))]) hx hb dX9_nextShip_45 hl (k := 1) rfl (by first | rfl | decide) (by decide) rfl (fun ls hl => ?_)
            refine lv_goto (tgt := 4) hx hb dX9_nextShip_48 (by decide) ?_
            exact ih v2 (v2 + 1)  hw _ _ _ hP hD hS (lv_sub hl [0, 1, 2] rfl)
          · have hw := hw.2 hc
            refine lv_aload_n hx hb dX9_nextShip_34 rfl (lv_at hl 2 rfl) ?_
            refine lv_iload_n hx hb dX9_nextShip_35 rfl (lv_at hl 0 rfl) ?_
            refine lv_iload_n hx hb dX9_nextShip_36 rfl (lv_at hl 1 rfl) ?_
            refine mx_i (wc := [(ce_xm bd x_thrown x_men x_ships x_entries x_rules x_calls x_gangs x_idle x_moved x_paid x_taped x_at x_end x_begin x_faultAt x_wants), ((bd 7), .inl (y 0, 10, .inl x_came)), ((bd 13), .inl (y 0, 11, .inl x_says)), ((bd 24), .inl (y 0, 10, .inl x_start))]) (wr := [((bd 23), .inl (y 2, 10, .inl x_hadTurn))]) hP hD hS hA [0, 1, 2, 4] [3] [1, 2, 3, 0, 4] rfl rfl (by decide) (by decide) (by decide) (fun (u : Unit) => [(ce_xm bd x_thrown x_men x_ships x_entries x_rules x_calls x_gangs x_idle x_moved x_paid x_taped x_at x_end x_begin x_faultAt x_wants), ((bd 7), .inl (y 0, 10, .inl x_came)), ((bd 13), .inl (y 0, 11, .inl x_says)), ((bd 23), .inl (y 2, 10, .inl x_hadTurn)), ((bd 24), .inl (y 0, 10, .inl x_start))]) (fun _ => rfl) (va_runV (As := [.int v2, .int v1]) (rest := []) ⟨hx, hb, hml, hown, hts⟩ (c_Model_isAhead l D y bd H.size x_thrown x_men x_ships x_entries x_rules x_calls x_gangs x_idle x_moved x_paid x_taped x_at x_end x_begin x_faultAt x_wants x_came x_says x_start v2 v1 hw) (cwV 2 hts gX9_nextShip_X9_isAhead rfl rfl rfl (by decide +kernel) ⟨Nat.le_of_ble_eq_true rfl, Nat.le_of_ble_eq_true rfl⟩) ⟨mPre.blind, (va_recv hK hP (ci := 11) (q0 := 0) rfl rfl), mPre.to (hP.sub [0, 1, 2, 4] rfl) hK (hD.sub [0, 1, 2, 4] (by decide) rfl) hE⟩ rfl rfl hl.1 rfl (lv_room (Nat.le_of_ble_eq_true rfl)) dX9_nextShip_37 ⟨Nat.le_of_ble_eq_true rfl, Nat.le_of_ble_eq_true rfl⟩) (fun r_1 u H locs hw hP hD hS => ?_)
            try dsimp only at hw
            have hP : va_P D vwCl [(ce_xm bd x_thrown x_men x_ships x_entries x_rules x_calls x_gangs x_idle x_moved x_paid x_taped x_at x_end x_begin x_faultAt x_wants), ((bd 7), .inl (y 0, 10, .inl x_came)), ((bd 13), .inl (y 0, 11, .inl x_says)), ((bd 23), .inl (y 2, 10, .inl x_hadTurn)), ((bd 24), .inl (y 0, 10, .inl x_start))] H := hP
            have hD : va_D A [(ce_xm bd x_thrown x_men x_ships x_entries x_rules x_calls x_gangs x_idle x_moved x_paid x_taped x_at x_end x_begin x_faultAt x_wants), ((bd 7), .inl (y 0, 10, .inl x_came)), ((bd 13), .inl (y 0, 11, .inl x_says)), ((bd 23), .inl (y 2, 10, .inl x_hadTurn)), ((bd 24), .inl (y 0, 10, .inl x_start))] := hD
            refine lv_if_eq (tgt := 45) hx hb dX9_nextShip_40 (by decide) (fun hc => ?_) (fun hc => ?_)
            · have hw := hw.1 hc
              refine lv_iinc (v := v2 + 1) (lv' := [(2, .int (v2 + 1)), (1, .int v1), (0, .ref (bd 0))]) hx hb dX9_nextShip_45 hl (k := 0) rfl (by first | rfl | decide) (by decide) rfl (fun ls hl => ?_)
              refine lv_goto (tgt := 4) hx hb dX9_nextShip_48 (by decide) ?_
              exact ih v1 (v2 + 1)  hw _ _ _ hP hD hS (lv_sub hl [0, 1, 2] rfl)
            · have hw := hw.2 hc
              refine lv_iload_n hx hb dX9_nextShip_43 rfl (lv_at hl 0 rfl) ?_
              refine lv_istore_n (lv' := [(1, .int v2), (2, .int v2), (0, .ref (bd 0))]) hx hb dX9_nextShip_44 rfl hl (by decide) rfl (fun ls hl => ?_)
              refine lv_iinc (v := v2 + 1) (lv' := [(2, .int (v2 + 1)), (1, .int v2), (0, .ref (bd 0))]) hx hb dX9_nextShip_45 hl (k := 1) rfl (by first | rfl | decide) (by decide) rfl (fun ls hl => ?_)
              refine lv_goto (tgt := 4) hx hb dX9_nextShip_48 (by decide) ?_
              exact ih v2 (v2 + 1)  hw _ _ _ hP hD hS (lv_sub hl [0, 1, 2] rfl)
set_option maxHeartbeats 4000000 in
set_option maxRecDepth 100000 in
theorem c_Model_nextShip (l : Launch) (D : va_G) (y : Nat → ClassId) (bd : Nat → Nat) (sz : Nat) (x_thrown : Int32) (x_men : Int32) (x_ships : Int32) (x_entries : Int32) (x_rules : Int32) (x_calls : Int32) (x_gangs : Int32) (x_idle : Int32) (x_moved : Int64) (x_paid : Int64) (x_taped : Int32) (x_at : Int32) (x_end : Int32) (x_begin : Int32) (x_faultAt : Int32) (x_wants : Int32) (x_came : Nat → Int32) (x_says : Nat → Int32) (x_hadTurn : Nat → Int32) (x_start : Nat → Int32)  {Q : Int32 → Prop} (hw : wp_Model_nextShip x_ships x_came x_says x_hadTurn x_start Q) : Met l yX9_nextShip wsX9_nextShip ({ frames := 1, cells := 0, slots := 0, locals := 22 }) (va_Pc [.ref (bd 0)] (mPre D y sz [(ce_xm bd x_thrown x_men x_ships x_entries x_rules x_calls x_gangs x_idle x_moved x_paid x_taped x_at x_end x_begin x_faultAt x_wants), ((bd 7), .inl (y 0, 10, .inl x_came)), ((bd 13), .inl (y 0, 11, .inl x_says)), ((bd 23), .inl (y 2, 10, .inl x_hadTurn)), ((bd 24), .inl (y 0, 10, .inl x_start))])) (va_Qi (fun (r : Int32) (u : Unit) => Q r ) (mAt D y (va_A [(ce_xm bd x_thrown x_men x_ships x_entries x_rules x_calls x_gangs x_idle x_moved x_paid x_taped x_at x_end x_begin x_faultAt x_wants), ((bd 7), .inl (y 0, 10, .inl x_came)), ((bd 13), .inl (y 0, 11, .inl x_says)), ((bd 23), .inl (y 2, 10, .inl x_hadTurn)), ((bd 24), .inl (y 0, 10, .inl x_start))] sz) (fun (u : Unit) => [(ce_xm bd x_thrown x_men x_ships x_entries x_rules x_calls x_gangs x_idle x_moved x_paid x_taped x_at x_end x_begin x_faultAt x_wants), ((bd 7), .inl (y 0, 10, .inl x_came)), ((bd 13), .inl (y 0, 11, .inl x_says)), ((bd 23), .inl (y 2, 10, .inl x_hadTurn)), ((bd 24), .inl (y 0, 10, .inl x_start))])) (va_A [(ce_xm bd x_thrown x_men x_ships x_entries x_rules x_calls x_gangs x_idle x_moved x_paid x_taped x_at x_end x_begin x_faultAt x_wants), ((bd 7), .inl (y 0, 10, .inl x_came)), ((bd 13), .inl (y 0, 11, .inl x_says)), ((bd 23), .inl (y 2, 10, .inl x_hadTurn)), ((bd 24), .inl (y 0, 10, .inl x_start))] sz)) 0 0 (va_A [(ce_xm bd x_thrown x_men x_ships x_entries x_rules x_calls x_gangs x_idle x_moved x_paid x_taped x_at x_end x_begin x_faultAt x_wants), ((bd 7), .inl (y 0, 10, .inl x_came)), ((bd 13), .inl (y 0, 11, .inl x_says)), ((bd 23), .inl (y 2, 10, .inl x_hadTurn)), ((bd 24), .inl (y 0, 10, .inl x_start))] sz) := by
  unfold wp_Model_nextShip at hw
  refine Met.ofW (cc := cX9_nextShip) (maxL := 3) (ret := some .int) (by decide) rfl ?_
  intro p e s m args below meth c s₁ B hml hv
  obtain ⟨rfl, hsz, hP, hK, hD0, hE⟩ := hv
  have hx := B.exec
  have hb := B.bytes
  have hr := B.returns
  have hts := atoms_spec (ws := wsX9_nextShip) B.pre
  have hown : s.vm.findClass RX9 = some m.cls := findClass_of_methodNamed B.named
  have hlocks := B.notSynchronized
  subst hsz
  have hD := hD0.self (sz := s.heap.size)
  generalize hAe : va_A [(ce_xm bd x_thrown x_men x_ships x_entries x_rules x_calls x_gangs x_idle x_moved x_paid x_taped x_at x_end x_begin x_faultAt x_wants), ((bd 7), .inl (y 0, 10, .inl x_came)), ((bd 13), .inl (y 0, 11, .inl x_says)), ((bd 23), .inl (y 2, 10, .inl x_hadTurn)), ((bd 24), .inl (y 0, 10, .inl x_start))] s.heap.size = A at hD ⊢
  have hA : ∀ q : Nat, s.heap.size ≤ q → A q := fun q h => by rw [← hAe]; exact Or.inr h
  have hS : va_S A s.heap s.heap [] := va_S.rf
  have hP : va_P D vwCl [(ce_xm bd x_thrown x_men x_ships x_entries x_rules x_calls x_gangs x_idle x_moved x_paid x_taped x_at x_end x_begin x_faultAt x_wants), ((bd 7), .inl (y 0, 10, .inl x_came)), ((bd 13), .inl (y 0, 11, .inl x_says)), ((bd 23), .inl (y 2, 10, .inl x_hadTurn)), ((bd 24), .inl (y 0, 10, .inl x_start))] s.heap := hP
  have hl := lv_entry ([.ref (bd 0)]) (n := 3) (Nat.le_of_ble_eq_true rfl)
  rw [lg_entry_eq]
  generalize (lg_sl ([.ref (bd 0)]) ++ List.replicate (3 - (lg_sl ([.ref (bd 0)])).length) Slot.unset).toArray = ls at hl ⊢
  have hl : lv_has ls 3 [(0, .ref (bd 0))] := hl
  refine lv_iconst (v := (-1)) hx hb dX9_nextShip_0 (by decide) ?_
  refine lv_istore_n (lv' := [(1, .int (-1)), (0, .ref (bd 0))]) hx hb dX9_nextShip_1 rfl hl (by decide) rfl (fun ls hl => ?_)
  refine lv_iconst (v := 0) hx hb dX9_nextShip_2 (by decide) ?_
  refine lv_istore_n (lv' := [(2, .int 0), (1, .int (-1)), (0, .ref (bd 0))]) hx hb dX9_nextShip_3 rfl hl (by decide) rfl (fun ls hl => ?_)
  obtain ⟨n', hw⟩ := hw
  exact c_Model_nextShip_h4 hx hb hr hml hown hts hlocks hK hE hA  n' (-1) 0 hw _ _ _ hP hD hS (lv_sub hl [0, 1, 2] rfl)
theorem inw_X9_nextMan_X9 : ∀ w ∈ wsX90, w ∈ wsX9_nextMan := fun _ h => List.mem_cons_of_mem _ (List.mem_append_left _ (List.mem_append_right _ h))
def wp_Model_nextMan_h4 (v1 : Int32) (x_men : Int32) (x_calls : Int32) (x_skills : Nat → Int32) (x_barred : Nat → Int32) (x_isIn : Nat → Int32) (x_wasAsked : Nat → Int32) (x_ahead : Nat → Int32)  (Q : Int32 → Prop) : Nat → Int32 → Int32 → Prop
  | 0, _, _ => False
  | n + 1, v2, v3 => ((x_men ≤ v3 → Q v2) ∧ (¬ x_men ≤ v3 → (vp_in v3 24 ∧ ((((x_skills v3.toNatClampNeg) >>> (v1 &&& 31)) &&& 1 = 0 → wp_Model_nextMan_h4 v1 x_men x_calls x_skills x_barred x_isIn x_wasAsked x_ahead Q n v2 (v3 + 1)) ∧ (¬ ((x_skills v3.toNatClampNeg) >>> (v1 &&& 31)) &&& 1 = 0 → (vp_in v3 24 ∧ ((x_calls ≤ x_barred v3.toNatClampNeg → wp_Model_nextMan_h4 v1 x_men x_calls x_skills x_barred x_isIn x_wasAsked x_ahead Q n v2 (v3 + 1)) ∧ (¬ x_calls ≤ x_barred v3.toNatClampNeg → (vp_in v3 24 ∧ ((x_isIn v3.toNatClampNeg = 0 → (vp_in v3 24 ∧ ((x_wasAsked v3.toNatClampNeg = 0 → ((v2 < 0 → wp_Model_nextMan_h4 v1 x_men x_calls x_skills x_barred x_isIn x_wasAsked x_ahead Q n v3 (v3 + 1)) ∧ (¬ v2 < 0 → (vp_in v3 24 ∧ (vp_in v2 24 ∧ ((x_ahead v2.toNatClampNeg ≤ x_ahead v3.toNatClampNeg → wp_Model_nextMan_h4 v1 x_men x_calls x_skills x_barred x_isIn x_wasAsked x_ahead Q n v2 (v3 + 1)) ∧ (¬ x_ahead v2.toNatClampNeg ≤ x_ahead v3.toNatClampNeg → wp_Model_nextMan_h4 v1 x_men x_calls x_skills x_barred x_isIn x_wasAsked x_ahead Q n v3 (v3 + 1)))))))) ∧ (¬ x_wasAsked v3.toNatClampNeg = 0 → wp_Model_nextMan_h4 v1 x_men x_calls x_skills x_barred x_isIn x_wasAsked x_ahead Q n v2 (v3 + 1))))) ∧ (¬ x_isIn v3.toNatClampNeg = 0 → wp_Model_nextMan_h4 v1 x_men x_calls x_skills x_barred x_isIn x_wasAsked x_ahead Q n v2 (v3 + 1))))))))))))
def wp_Model_nextMan (x_men : Int32) (x_calls : Int32) (x_skills : Nat → Int32) (x_barred : Nat → Int32) (x_isIn : Nat → Int32) (x_wasAsked : Nat → Int32) (x_ahead : Nat → Int32) (p0 : Int32) (Q : Int32 → Prop) : Prop := (∃ n' : Nat, wp_Model_nextMan_h4 p0 x_men x_calls x_skills x_barred x_isIn x_wasAsked x_ahead Q n' (-1) 0)
set_option maxHeartbeats 4000000 in
set_option maxRecDepth 100000 in
theorem c_Model_nextMan_h4 {p : Program} {l : Launch} {e : Env} {s : State} {m : MethodId} {args : Array Value} {below : List Frame} {meth : Method} {c : Code} {D : va_G} {y : Nat → ClassId} {bd : Nat → Nat} {A : Nat → Prop} (hx : p.tables.exec = Jvm.exec) (hb : c.code = cX9_nextMan) (hr : meth.sig.returnType = some .int) (hml : c.maxLocals = 4) (hown : s.vm.findClass RX9 = some m.cls) (hts : ∀ w ∈ wsX9_nextMan, w.before args s = true) (hlocks : meth.locks = false) (hK : va_K D vwCl (TY y) s) (hE : EV s) (hA : ∀ q, s.heap.size ≤ q → A q) {v1 : Int32} {x_men : Int32} {x_calls : Int32} {x_skills : Nat → Int32} {x_barred : Nat → Int32} {x_isIn : Nat → Int32} {x_wasAsked : Nat → Int32} {x_ahead : Nat → Int32} {x_thrown : Int32} {x_ships : Int32} {x_entries : Int32} {x_rules : Int32} {x_gangs : Int32} {x_idle : Int32} {x_moved : Int64} {x_paid : Int64} {x_taped : Int32} {x_at : Int32} {x_end : Int32} {x_begin : Int32} {x_faultAt : Int32} {x_wants : Int32}  {Q : Int32 → Prop}  : ∀ (n : Nat) (v2 : Int32) (v3 : Int32), wp_Model_nextMan_h4 v1 x_men x_calls x_skills x_barred x_isIn x_wasAsked x_ahead Q n v2 v3 → ∀ (H : Heap) (locs : List Loc) (ls : Array Slot), va_P D vwCl [(ce_xm bd x_thrown x_men x_ships x_entries x_rules x_calls x_gangs x_idle x_moved x_paid x_taped x_at x_end x_begin x_faultAt x_wants), ((bd 1), .inl (y 0, 24, .inl x_skills)), ((bd 3), .inl (y 0, 24, .inl x_barred)), ((bd 25), .inl (y 2, 24, .inl x_isIn)), ((bd 26), .inl (y 2, 24, .inl x_wasAsked)), ((bd 28), .inl (y 0, 24, .inl x_ahead))] H → va_D A [(ce_xm bd x_thrown x_men x_ships x_entries x_rules x_calls x_gangs x_idle x_moved x_paid x_taped x_at x_end x_begin x_faultAt x_wants), ((bd 1), .inl (y 0, 24, .inl x_skills)), ((bd 3), .inl (y 0, 24, .inl x_barred)), ((bd 25), .inl (y 2, 24, .inl x_isIn)), ((bd 26), .inl (y 2, 24, .inl x_wasAsked)), ((bd 28), .inl (y 0, 24, .inl x_ahead))] → va_S A s.heap H locs → lv_has ls 4 [(3, .int v3), (2, .int v2), (0, .ref (bd 0)), (1, .int v1)] → W p l e ({ frames := 0, cells := 0, slots := 0, locals := 0 }) s m args below meth c H locs 0 0 (MQ below (va_Qi (fun (r : Int32) (u : Unit) => Q r ) (mAt D y A (fun (u : Unit) => [(ce_xm bd x_thrown x_men x_ships x_entries x_rules x_calls x_gangs x_idle x_moved x_paid x_taped x_at x_end x_begin x_faultAt x_wants), ((bd 1), .inl (y 0, 24, .inl x_skills)), ((bd 3), .inl (y 0, 24, .inl x_barred)), ((bd 25), .inl (y 2, 24, .inl x_isIn)), ((bd 26), .inl (y 2, 24, .inl x_wasAsked)), ((bd 28), .inl (y 0, 24, .inl x_ahead))])) A) args s 0 0 A) (F0 m 4 ls []) := by
  intro n
  induction n with
  | zero => intro v2 v3 hw; rw [wp_Model_nextMan_h4] at hw; exact hw.elim
  | succ n ih =>
    intro v2 v3 hw H locs ls hP hD hS hl
    rw [wp_Model_nextMan_h4] at hw
    refine lv_iload_n hx hb dX9_nextMan_4 rfl (lv_at hl 0 rfl) ?_
    refine lv_aload_n hx hb dX9_nextMan_5 rfl (lv_at hl 2 rfl) ?_
    refine va_get (ci := 11) (v := .int x_men) (C := RX9) (T := TX9) (N := 47) hx hb hts inw_X9_nextMan_X9 hown hK hP 0 rfl rfl 7 (by decide) (hts (.fieldLink RX9 112 "DockCallModel" "men" "I") (by decide +kernel)) (fun _ h9 => h9) rfl dX9_nextMan_6 ?_
    refine lv_icmp_ge (tgt := 86) hx hb dX9_nextMan_9 (by decide) (fun hc => ?_) (fun hc => ?_)
    · have hw := hw.1 hc
      refine lv_iload_n hx hb dX9_nextMan_86 rfl (lv_at hl 1 rfl) ?_
      exact W.iret (v := v2) hx hb hr (fun t ht hW => ⟨⟨v2, (), rfl, hw, mAt.to hP hK hD ht hW⟩, hS.F ht⟩) hS.2.2 dX9_nextMan_87
    · have hw := hw.2 hc
      refine lv_aload_n hx hb dX9_nextMan_12 rfl (lv_at hl 2 rfl) ?_
      refine va_get (ci := 11) (v := .ref (bd 1)) (C := RX9) (T := TX9) (N := 47) hx hb hts inw_X9_nextMan_X9 hown hK hP 0 rfl rfl 1 (by decide) (hts (.fieldLink RX9 9 "DockCallModel" "skills" "[I") (by decide +kernel)) (fun _ h9 => h9) rfl dX9_nextMan_13 ?_
      refine lv_iload_n hx hb dX9_nextMan_16 rfl (lv_at hl 0 rfl) ?_
      obtain ⟨hi, hw⟩ := hw
      refine va_iald hx hb hK hP 1 0 rfl rfl hi dX9_nextMan_17 ?_
      refine lv_iload_n hx hb dX9_nextMan_18 rfl (lv_at hl 3 rfl) ?_
      refine lv_ishr hx hb dX9_nextMan_19 ?_
      refine lv_iconst (v := 1) hx hb dX9_nextMan_20 (by decide) ?_
      refine lv_iand hx hb dX9_nextMan_21 ?_
      refine lv_if_eq (tgt := 80) hx hb dX9_nextMan_22 (by decide) (fun hc => ?_) (fun hc => ?_)
      · have hw := hw.1 hc
        refine lv_iinc (v := v3 + 1) (lv' := [(3, .int (v3 + 1)), (2, .int v2), (0, .ref (bd 0)), (1, .int v1)]) hx hb dX9_nextMan_80 hl (k := 0) rfl (by first | rfl | decide) (by decide) rfl (fun ls hl => ?_)
        refine lv_goto (tgt := 4) hx hb dX9_nextMan_83 (by decide) ?_
        exact ih v2 (v3 + 1)  hw _ _ _ hP hD hS (lv_sub hl [0, 1, 2, 3] rfl)
      · have hw := hw.2 hc
        refine lv_aload_n hx hb dX9_nextMan_25 rfl (lv_at hl 2 rfl) ?_
        refine va_get (ci := 11) (v := .ref (bd 3)) (C := RX9) (T := TX9) (N := 47) hx hb hts inw_X9_nextMan_X9 hown hK hP 0 rfl rfl 3 (by decide) (hts (.fieldLink RX9 16 "DockCallModel" "barred" "[I") (by decide +kernel)) (fun _ h9 => h9) rfl dX9_nextMan_26 ?_
        refine lv_iload_n hx hb dX9_nextMan_29 rfl (lv_at hl 0 rfl) ?_
        obtain ⟨hi, hw⟩ := hw
        refine va_iald hx hb hK hP 2 0 rfl rfl hi dX9_nextMan_30 ?_
        refine lv_aload_n hx hb dX9_nextMan_31 rfl (lv_at hl 2 rfl) ?_
        refine va_get (ci := 11) (v := .int x_calls) (C := RX9) (T := TX9) (N := 47) hx hb hts inw_X9_nextMan_X9 hown hK hP 0 rfl rfl 25 (by decide) (hts (.fieldLink RX9 128 "DockCallModel" "calls" "I") (by decide +kernel)) (fun _ h9 => h9) rfl dX9_nextMan_32 ?_
        refine lv_icmp_ge (tgt := 80) hx hb dX9_nextMan_35 (by decide) (fun hc => ?_) (fun hc => ?_)
        · have hw := hw.1 hc
          refine lv_iinc (v := v3 + 1) (lv' := [(3, .int (v3 + 1)), (2, .int v2), (0, .ref (bd 0)), (1, .int v1)]) hx hb dX9_nextMan_80 hl (k := 0) rfl (by first | rfl | decide) (by decide) rfl (fun ls hl => ?_)
          refine lv_goto (tgt := 4) hx hb dX9_nextMan_83 (by decide) ?_
          exact ih v2 (v3 + 1)  hw _ _ _ hP hD hS (lv_sub hl [0, 1, 2, 3] rfl)
        · have hw := hw.2 hc
          refine lv_aload_n hx hb dX9_nextMan_38 rfl (lv_at hl 2 rfl) ?_
          refine va_get (ci := 11) (v := .ref (bd 25)) (C := RX9) (T := TX9) (N := 47) hx hb hts inw_X9_nextMan_X9 hown hK hP 0 rfl rfl 39 (by decide) (hts (.fieldLink RX9 88 "DockCallModel" "isIn" "[Z") (by decide +kernel)) (fun _ h9 => h9) rfl dX9_nextMan_39 ?_
          refine lv_iload_n hx hb dX9_nextMan_42 rfl (lv_at hl 0 rfl) ?_
          obtain ⟨hi, hw⟩ := hw
          refine va_zald hx hb hK hP 3 2 rfl rfl hi dX9_nextMan_43 ?_
          refine lv_if_ne (tgt := 80) hx hb dX9_nextMan_44 (by decide) (fun hc => ?_) (fun hc => ?_)
          · have hw := hw.2 hc
            refine lv_iinc (v := v3 + 1) (lv' := [(3, .int (v3 + 1)), (2, .int v2), (0, .ref (bd 0)), (1, .int v1)]) hx hb dX9_nextMan_80 hl (k := 0) rfl (by first | rfl | decide) (by decide) rfl (fun ls hl => ?_)
            refine lv_goto (tgt := 4) hx hb dX9_nextMan_83 (by decide) ?_
            exact ih v2 (v3 + 1)  hw _ _ _ hP hD hS (lv_sub hl [0, 1, 2, 3] rfl)
          · have hw := hw.1 hc
            refine lv_aload_n hx hb dX9_nextMan_47 rfl (lv_at hl 2 rfl) ?_
            refine va_get (ci := 11) (v := .ref (bd 26)) (C := RX9) (T := TX9) (N := 47) hx hb hts inw_X9_nextMan_X9 hown hK hP 0 rfl rfl 40 (by decide) (hts (.fieldLink RX9 91 "DockCallModel" "wasAsked" "[Z") (by decide +kernel)) (fun _ h9 => h9) rfl dX9_nextMan_48 ?_
            refine lv_iload_n hx hb dX9_nextMan_51 rfl (lv_at hl 0 rfl) ?_
            obtain ⟨hi, hw⟩ := hw
            refine va_zald hx hb hK hP 4 2 rfl rfl hi dX9_nextMan_52 ?_
            refine lv_if_eq (tgt := 59) hx hb dX9_nextMan_53 (by decide) (fun hc => ?_) (fun hc => ?_)
            · have hw := hw.1 hc
              refine lv_iload_n hx hb dX9_nextMan_59 rfl (lv_at hl 1 rfl) ?_
              refine lv_if_lt (tgt := 78) hx hb dX9_nextMan_60 (by decide) (fun hc => ?_) (fun hc => ?_)
              · have hw := hw.1 hc
                refine lv_iload_n hx hb dX9_nextMan_78 rfl (lv_at hl 0 rfl) ?_
                refine lv_istore_n (lv' := [(2, .int v3), (3, .int v3), (0, .ref (bd 0)), (1, .int v1)]) hx hb dX9_nextMan_79 rfl hl (by decide) rfl (fun ls hl => ?_)
                refine lv_iinc (v := v3 + 1) (lv' := [(3, .int (v3 + 1)), (2, .int v3), (0, .ref (bd 0)), (1, .int v1)]) hx hb dX9_nextMan_80 hl (k := 1) rfl (by first | rfl | decide) (by decide) rfl (fun ls hl => ?_)
                refine lv_goto (tgt := 4) hx hb dX9_nextMan_83 (by decide) ?_
                exact ih v3 (v3 + 1)  hw _ _ _ hP hD hS (lv_sub hl [0, 1, 2, 3] rfl)
              · have hw := hw.2 hc
                refine lv_aload_n hx hb dX9_nextMan_63 rfl (lv_at hl 2 rfl) ?_
                refine va_get (ci := 11) (v := .ref (bd 28)) (C := RX9) (T := TX9) (N := 47) hx hb hts inw_X9_nextMan_X9 hown hK hP 0 rfl rfl 42 (by decide) (hts (.fieldLink RX9 97 "DockCallModel" "ahead" "[I") (by decide +kernel)) (fun _ h9 => h9) rfl dX9_nextMan_64 ?_
                refine lv_iload_n hx hb dX9_nextMan_67 rfl (lv_at hl 0 rfl) ?_
                obtain ⟨hi, hw⟩ := hw
                refine va_iald hx hb hK hP 5 0 rfl rfl hi dX9_nextMan_68 ?_
                refine lv_aload_n hx hb dX9_nextMan_69 rfl (lv_at hl 2 rfl) ?_
                refine va_get (ci := 11) (v := .ref (bd 28)) (C := RX9) (T := TX9) (N := 47) hx hb hts inw_X9_nextMan_X9 hown hK hP 0 rfl rfl 42 (by decide) (hts (.fieldLink RX9 97 "DockCallModel" "ahead" "[I") (by decide +kernel)) (fun _ h9 => h9) rfl dX9_nextMan_70 ?_
                refine lv_iload_n hx hb dX9_nextMan_73 rfl (lv_at hl 1 rfl) ?_
                obtain ⟨hi, hw⟩ := hw
                refine va_iald hx hb hK hP 5 0 rfl rfl hi dX9_nextMan_74 ?_
                refine lv_icmp_ge (tgt := 80) hx hb dX9_nextMan_75 (by decide) (fun hc => ?_) (fun hc => ?_)
                · have hw := hw.1 hc
                  refine lv_iinc (v := v3 + 1) (lv' := [(3, .int (v3 + 1)), (2, .int v2), (0, .ref (bd 0)), (1, .int v1)]) hx hb dX9_nextMan_80 hl (k := 0) rfl (by first | rfl | decide) (by decide) rfl (fun ls hl => ?_)
                  refine lv_goto (tgt := 4) hx hb dX9_nextMan_83 (by decide) ?_
                  exact ih v2 (v3 + 1)  hw _ _ _ hP hD hS (lv_sub hl [0, 1, 2, 3] rfl)
                · have hw := hw.2 hc
                  refine lv_iload_n hx hb dX9_nextMan_78 rfl (lv_at hl 0 rfl) ?_
                  refine lv_istore_n (lv' := [(2, .int v3), (3, .int v3), (0, .ref (bd 0)), (1, .int v1)]) hx hb dX9_nextMan_79 rfl hl (by decide) rfl (fun ls hl => ?_)
                  refine lv_iinc (v := v3 + 1) (lv' := [(3, .int (v3 + 1)), (2, .int v3), (0, .ref (bd 0)), (1, .int v1)]) hx hb dX9_nextMan_80 hl (k := 1) rfl (by first | rfl | decide) (by decide) rfl (fun ls hl => ?_)
                  refine lv_goto (tgt := 4) hx hb dX9_nextMan_83 (by decide) ?_
                  exact ih v3 (v3 + 1)  hw _ _ _ hP hD hS (lv_sub hl [0, 1, 2, 3] rfl)
            · have hw := hw.2 hc
              refine lv_goto (tgt := 80) hx hb dX9_nextMan_56 (by decide) ?_
              refine lv_iinc (v := v3 + 1) (lv' := [(3, .int (v3 + 1)), (2, .int v2), (0, .ref (bd 0)), (1, .int v1)]) hx hb dX9_nextMan_80 hl (k := 0) rfl (by first | rfl | decide) (by decide) rfl (fun ls hl => ?_)
              refine lv_goto (tgt := 4) hx hb dX9_nextMan_83 (by decide) ?_
              exact ih v2 (v3 + 1)  hw _ _ _ hP hD hS (lv_sub hl [0, 1, 2, 3] rfl)
set_option maxHeartbeats 4000000 in
set_option maxRecDepth 100000 in
theorem c_Model_nextMan (l : Launch) (D : va_G) (y : Nat → ClassId) (bd : Nat → Nat) (sz : Nat) (x_thrown : Int32) (x_men : Int32) (x_ships : Int32) (x_entries : Int32) (x_rules : Int32) (x_calls : Int32) (x_gangs : Int32) (x_idle : Int32) (x_moved : Int64) (x_paid : Int64) (x_taped : Int32) (x_at : Int32) (x_end : Int32) (x_begin : Int32) (x_faultAt : Int32) (x_wants : Int32) (x_skills : Nat → Int32) (x_barred : Nat → Int32) (x_isIn : Nat → Int32) (x_wasAsked : Nat → Int32) (x_ahead : Nat → Int32) (p0 : Int32) {Q : Int32 → Prop} (hw : wp_Model_nextMan x_men x_calls x_skills x_barred x_isIn x_wasAsked x_ahead p0 Q) : Met l yX9_nextMan wsX9_nextMan ({ frames := 0, cells := 0, slots := 0, locals := 0 }) (va_Pc [.ref (bd 0), .int p0] (mPre D y sz [(ce_xm bd x_thrown x_men x_ships x_entries x_rules x_calls x_gangs x_idle x_moved x_paid x_taped x_at x_end x_begin x_faultAt x_wants), ((bd 1), .inl (y 0, 24, .inl x_skills)), ((bd 3), .inl (y 0, 24, .inl x_barred)), ((bd 25), .inl (y 2, 24, .inl x_isIn)), ((bd 26), .inl (y 2, 24, .inl x_wasAsked)), ((bd 28), .inl (y 0, 24, .inl x_ahead))])) (va_Qi (fun (r : Int32) (u : Unit) => Q r ) (mAt D y (va_A [(ce_xm bd x_thrown x_men x_ships x_entries x_rules x_calls x_gangs x_idle x_moved x_paid x_taped x_at x_end x_begin x_faultAt x_wants), ((bd 1), .inl (y 0, 24, .inl x_skills)), ((bd 3), .inl (y 0, 24, .inl x_barred)), ((bd 25), .inl (y 2, 24, .inl x_isIn)), ((bd 26), .inl (y 2, 24, .inl x_wasAsked)), ((bd 28), .inl (y 0, 24, .inl x_ahead))] sz) (fun (u : Unit) => [(ce_xm bd x_thrown x_men x_ships x_entries x_rules x_calls x_gangs x_idle x_moved x_paid x_taped x_at x_end x_begin x_faultAt x_wants), ((bd 1), .inl (y 0, 24, .inl x_skills)), ((bd 3), .inl (y 0, 24, .inl x_barred)), ((bd 25), .inl (y 2, 24, .inl x_isIn)), ((bd 26), .inl (y 2, 24, .inl x_wasAsked)), ((bd 28), .inl (y 0, 24, .inl x_ahead))])) (va_A [(ce_xm bd x_thrown x_men x_ships x_entries x_rules x_calls x_gangs x_idle x_moved x_paid x_taped x_at x_end x_begin x_faultAt x_wants), ((bd 1), .inl (y 0, 24, .inl x_skills)), ((bd 3), .inl (y 0, 24, .inl x_barred)), ((bd 25), .inl (y 2, 24, .inl x_isIn)), ((bd 26), .inl (y 2, 24, .inl x_wasAsked)), ((bd 28), .inl (y 0, 24, .inl x_ahead))] sz)) 0 0 (va_A [(ce_xm bd x_thrown x_men x_ships x_entries x_rules x_calls x_gangs x_idle x_moved x_paid x_taped x_at x_end x_begin x_faultAt x_wants), ((bd 1), .inl (y 0, 24, .inl x_skills)), ((bd 3), .inl (y 0, 24, .inl x_barred)), ((bd 25), .inl (y 2, 24, .inl x_isIn)), ((bd 26), .inl (y 2, 24, .inl x_wasAsked)), ((bd 28), .inl (y 0, 24, .inl x_ahead))] sz) := by
  unfold wp_Model_nextMan at hw
  refine Met.ofW (cc := cX9_nextMan) (maxL := 4) (ret := some .int) (by decide) rfl ?_
  intro p e s m args below meth c s₁ B hml hv
  obtain ⟨rfl, hsz, hP, hK, hD0, hE⟩ := hv
  have hx := B.exec
  have hb := B.bytes
  have hr := B.returns
  have hts := atoms_spec (ws := wsX9_nextMan) B.pre
  have hown : s.vm.findClass RX9 = some m.cls := findClass_of_methodNamed B.named
  have hlocks := B.notSynchronized
  subst hsz
  have hD := hD0.self (sz := s.heap.size)
  generalize hAe : va_A [(ce_xm bd x_thrown x_men x_ships x_entries x_rules x_calls x_gangs x_idle x_moved x_paid x_taped x_at x_end x_begin x_faultAt x_wants), ((bd 1), .inl (y 0, 24, .inl x_skills)), ((bd 3), .inl (y 0, 24, .inl x_barred)), ((bd 25), .inl (y 2, 24, .inl x_isIn)), ((bd 26), .inl (y 2, 24, .inl x_wasAsked)), ((bd 28), .inl (y 0, 24, .inl x_ahead))] s.heap.size = A at hD ⊢
  have hA : ∀ q : Nat, s.heap.size ≤ q → A q := fun q h => by rw [← hAe]; exact Or.inr h
  have hS : va_S A s.heap s.heap [] := va_S.rf
  have hP : va_P D vwCl [(ce_xm bd x_thrown x_men x_ships x_entries x_rules x_calls x_gangs x_idle x_moved x_paid x_taped x_at x_end x_begin x_faultAt x_wants), ((bd 1), .inl (y 0, 24, .inl x_skills)), ((bd 3), .inl (y 0, 24, .inl x_barred)), ((bd 25), .inl (y 2, 24, .inl x_isIn)), ((bd 26), .inl (y 2, 24, .inl x_wasAsked)), ((bd 28), .inl (y 0, 24, .inl x_ahead))] s.heap := hP
  have hl := lv_entry ([.ref (bd 0), .int p0]) (n := 4) (Nat.le_of_ble_eq_true rfl)
  rw [lg_entry_eq]
  generalize (lg_sl ([.ref (bd 0), .int p0]) ++ List.replicate (4 - (lg_sl ([.ref (bd 0), .int p0])).length) Slot.unset).toArray = ls at hl ⊢
  have hl : lv_has ls 4 [(0, .ref (bd 0)), (1, .int p0)] := hl
  refine lv_iconst (v := (-1)) hx hb dX9_nextMan_0 (by decide) ?_
  refine lv_istore_n (lv' := [(2, .int (-1)), (0, .ref (bd 0)), (1, .int p0)]) hx hb dX9_nextMan_1 rfl hl (by decide) rfl (fun ls hl => ?_)
  refine lv_iconst (v := 0) hx hb dX9_nextMan_2 (by decide) ?_
  refine lv_istore_n (lv' := [(3, .int 0), (2, .int (-1)), (0, .ref (bd 0)), (1, .int p0)]) hx hb dX9_nextMan_3 rfl hl (by decide) rfl (fun ls hl => ?_)
  obtain ⟨n', hw⟩ := hw
  exact c_Model_nextMan_h4 hx hb hr hml hown hts hlocks hK hE hA  n' (-1) 0 hw _ _ _ hP hD hS (lv_sub hl [0, 1, 2, 3] rfl)
theorem inw_X9_gathers_X9 : ∀ w ∈ wsX90, w ∈ wsX9_gathers := fun _ h => List.mem_cons_of_mem _ (List.mem_append_left _ (List.mem_append_right _ h))
def wp_Model_gathers_h25 (v1 : Int32) (v2 : Int32) (x_men : Int32) (x_calls : Int32) (x_skills : Nat → Int32) (x_says : Nat → Int32) (x_isIn : Nat → Int32) (x_ahead : Nat → Int32)  (Q : Int32 → (Nat → Int32) → (Nat → Int32) → (Nat → Int32) → (Nat → Int32) → Prop) : Nat → Int32 → (Nat → Int32) → (Nat → Int32) → (Nat → Int32) → (Nat → Int32) → Prop
  | 0, _, _, _, _, _ => False
  | n + 1, v3, x_barred, x_refused, x_wasAsked, x_gang => ((x_says (0 : Int32).toNatClampNeg ≤ v3 → Q 1 x_barred x_refused x_wasAsked x_gang) ∧ (¬ x_says (0 : Int32).toNatClampNeg ≤ v3 → (wp_Model_nextMan x_men x_calls x_skills x_barred x_isIn x_wasAsked x_ahead v1 (fun r_1 => ((0 ≤ r_1 → (vp_in r_1 24 ∧ (((v2 >>> (r_1 &&& 31)) &&& 1 = 1 → (vp_in r_1 24 ∧ (vp_in r_1 24 ∧ (vp_in r_1 24 ∧ wp_Model_gathers_h25 v1 v2 x_men x_calls x_skills x_says x_isIn x_ahead Q n v3 (upd x_barred r_1.toNatClampNeg (x_calls + (x_says (2 : Int32).toNatClampNeg))) (upd x_refused r_1.toNatClampNeg ((x_refused r_1.toNatClampNeg) + 1)) (upd x_wasAsked r_1.toNatClampNeg (vp_nar .boolean 1)) x_gang)))) ∧ (¬ (v2 >>> (r_1 &&& 31)) &&& 1 = 1 → (vp_in v3 8 ∧ wp_Model_gathers_h25 v1 v2 x_men x_calls x_skills x_says x_isIn x_ahead Q n (v3 + 1) x_barred x_refused (upd x_wasAsked r_1.toNatClampNeg (vp_nar .boolean 1)) (upd x_gang v3.toNatClampNeg r_1)))))) ∧ (¬ 0 ≤ r_1 → Q 0 x_barred x_refused x_wasAsked x_gang))))))
def wp_Model_gathers_h2 (v1 : Int32) (v2 : Int32) (x_men : Int32) (x_calls : Int32) (x_skills : Nat → Int32) (x_barred : Nat → Int32) (x_refused : Nat → Int32) (x_says : Nat → Int32) (x_isIn : Nat → Int32) (x_gang : Nat → Int32) (x_ahead : Nat → Int32)  (Q : Int32 → (Nat → Int32) → (Nat → Int32) → (Nat → Int32) → (Nat → Int32) → Prop) : Nat → Int32 → (Nat → Int32) → Prop
  | 0, _, _ => False
  | n + 1, v3, x_wasAsked => ((x_men ≤ v3 → (∃ n' : Nat, wp_Model_gathers_h25 v1 v2 x_men x_calls x_skills x_says x_isIn x_ahead Q n' 0 x_barred x_refused x_wasAsked x_gang)) ∧ (¬ x_men ≤ v3 → (vp_in v3 24 ∧ wp_Model_gathers_h2 v1 v2 x_men x_calls x_skills x_barred x_refused x_says x_isIn x_gang x_ahead Q n (v3 + 1) (upd x_wasAsked v3.toNatClampNeg (vp_nar .boolean 0)))))
def wp_Model_gathers (x_men : Int32) (x_calls : Int32) (x_skills : Nat → Int32) (x_barred : Nat → Int32) (x_refused : Nat → Int32) (x_says : Nat → Int32) (x_isIn : Nat → Int32) (x_wasAsked : Nat → Int32) (x_gang : Nat → Int32) (x_ahead : Nat → Int32) (p0 : Int32) (p1 : Int32) (Q : Int32 → (Nat → Int32) → (Nat → Int32) → (Nat → Int32) → (Nat → Int32) → Prop) : Prop := (∃ n' : Nat, wp_Model_gathers_h2 p0 p1 x_men x_calls x_skills x_barred x_refused x_says x_isIn x_gang x_ahead Q n' 0 x_wasAsked)
set_option maxHeartbeats 4000000 in
set_option maxRecDepth 100000 in
theorem c_Model_gathers_h25 {p : Program} {l : Launch} {e : Env} {s : State} {m : MethodId} {args : Array Value} {below : List Frame} {meth : Method} {c : Code} {D : va_G} {y : Nat → ClassId} {bd : Nat → Nat} {A : Nat → Prop} (hx : p.tables.exec = Jvm.exec) (hb : c.code = cX9_gathers) (hr : meth.sig.returnType = some .boolean) (hml : c.maxLocals = 5) (hown : s.vm.findClass RX9 = some m.cls) (hts : ∀ w ∈ wsX9_gathers, w.before args s = true) (hlocks : meth.locks = false) (hK : va_K D vwCl (TY y) s) (hE : EV s) (hA : ∀ q, s.heap.size ≤ q → A q) {v1 : Int32} {v2 : Int32} {x_men : Int32} {x_calls : Int32} {x_skills : Nat → Int32} {x_says : Nat → Int32} {x_isIn : Nat → Int32} {x_ahead : Nat → Int32} {x_thrown : Int32} {x_ships : Int32} {x_entries : Int32} {x_rules : Int32} {x_gangs : Int32} {x_idle : Int32} {x_moved : Int64} {x_paid : Int64} {x_taped : Int32} {x_at : Int32} {x_end : Int32} {x_begin : Int32} {x_faultAt : Int32} {x_wants : Int32}  {Q : Int32 → (Nat → Int32) → (Nat → Int32) → (Nat → Int32) → (Nat → Int32) → Prop}  : ∀ (n : Nat) (v3 : Int32) (x_barred : Nat → Int32) (x_refused : Nat → Int32) (x_wasAsked : Nat → Int32) (x_gang : Nat → Int32), wp_Model_gathers_h25 v1 v2 x_men x_calls x_skills x_says x_isIn x_ahead Q n v3 x_barred x_refused x_wasAsked x_gang → ∀ (H : Heap) (locs : List Loc) (ls : Array Slot), va_P D vwCl [(ce_xm bd x_thrown x_men x_ships x_entries x_rules x_calls x_gangs x_idle x_moved x_paid x_taped x_at x_end x_begin x_faultAt x_wants), ((bd 1), .inl (y 0, 24, .inl x_skills)), ((bd 3), .inl (y 0, 24, .inl x_barred)), ((bd 4), .inl (y 0, 24, .inl x_refused)), ((bd 13), .inl (y 0, 11, .inl x_says)), ((bd 25), .inl (y 2, 24, .inl x_isIn)), ((bd 26), .inl (y 2, 24, .inl x_wasAsked)), ((bd 27), .inl (y 0, 8, .inl x_gang)), ((bd 28), .inl (y 0, 24, .inl x_ahead))] H → va_D A [(ce_xm bd x_thrown x_men x_ships x_entries x_rules x_calls x_gangs x_idle x_moved x_paid x_taped x_at x_end x_begin x_faultAt x_wants), ((bd 1), .inl (y 0, 24, .inl x_skills)), ((bd 3), .inl (y 0, 24, .inl x_barred)), ((bd 4), .inl (y 0, 24, .inl x_refused)), ((bd 13), .inl (y 0, 11, .inl x_says)), ((bd 25), .inl (y 2, 24, .inl x_isIn)), ((bd 26), .inl (y 2, 24, .inl x_wasAsked)), ((bd 27), .inl (y 0, 8, .inl x_gang)), ((bd 28), .inl (y 0, 24, .inl x_ahead))] → va_S A s.heap H locs → lv_has ls 5 [(3, .int v3), (0, .ref (bd 0)), (1, .int v1), (2, .int v2)] → W p l e ({ frames := 1, cells := 0, slots := 0, locals := 23 }) s m args below meth c H locs 0 0 (MQ below (va_Qi (fun (r : Int32) (u : (Nat → Int32) × (Nat → Int32) × (Nat → Int32) × (Nat → Int32)) => Q r u.1 u.2.1 u.2.2.1 u.2.2.2) (mAt D y A (fun (u : (Nat → Int32) × (Nat → Int32) × (Nat → Int32) × (Nat → Int32)) => [(ce_xm bd x_thrown x_men x_ships x_entries x_rules x_calls x_gangs x_idle x_moved x_paid x_taped x_at x_end x_begin x_faultAt x_wants), ((bd 1), .inl (y 0, 24, .inl x_skills)), ((bd 3), .inl (y 0, 24, .inl u.1)), ((bd 4), .inl (y 0, 24, .inl u.2.1)), ((bd 13), .inl (y 0, 11, .inl x_says)), ((bd 25), .inl (y 2, 24, .inl x_isIn)), ((bd 26), .inl (y 2, 24, .inl u.2.2.1)), ((bd 27), .inl (y 0, 8, .inl u.2.2.2)), ((bd 28), .inl (y 0, 24, .inl x_ahead))])) A) args s 0 0 A) (F0 m 25 ls []) := by
  intro n
  induction n with
  | zero => intro v3 x_barred x_refused x_wasAsked x_gang hw; rw [wp_Model_gathers_h25] at hw; exact hw.elim
  | succ n ih =>
    intro v3 x_barred x_refused x_wasAsked x_gang hw H locs ls hP hD hS hl
    rw [wp_Model_gathers_h25] at hw
    refine lv_iload_n hx hb dX9_gathers_25 rfl (lv_at hl 0 rfl) ?_
    refine lv_aload_n hx hb dX9_gathers_26 rfl (lv_at hl 1 rfl) ?_
    refine va_get (ci := 11) (v := .ref (bd 13)) (C := RX9) (T := TX9) (N := 47) hx hb hts inw_X9_gathers_X9 hown hK hP 0 rfl rfl 15 (by decide) (hts (.fieldLink RX9 47 "DockCallModel" "says" "[I") (by decide +kernel)) (fun _ h9 => h9) rfl dX9_gathers_27 ?_
    refine lv_iconst (v := 0) hx hb dX9_gathers_30 (by decide) ?_
    refine va_iald hx hb hK hP 4 0 rfl rfl (by unfold vp_in; decide) dX9_gathers_31 ?_
    refine lv_icmp_ge (tgt := 113) hx hb dX9_gathers_32 (by decide) (fun hc => ?_) (fun hc => ?_)
    · have hw := hw.1 hc
      refine lv_iconst (v := 1) hx hb dX9_gathers_113 (by decide) ?_
      exact W.zret (v := 1) hx hb hr (by decide) (fun t ht hW => ⟨⟨1, (x_barred, x_refused, x_wasAsked, x_gang), rfl, hw, mAt.to hP hK hD ht hW⟩, hS.F ht⟩) hS.2.2 dX9_gathers_114
    · have hw := hw.2 hc
      refine lv_aload_n hx hb dX9_gathers_35 rfl (lv_at hl 1 rfl) ?_
      refine lv_iload_n hx hb dX9_gathers_36 rfl (lv_at hl 2 rfl) ?_
      refine mx_i (wc := [(ce_xm bd x_thrown x_men x_ships x_entries x_rules x_calls x_gangs x_idle x_moved x_paid x_taped x_at x_end x_begin x_faultAt x_wants), ((bd 1), .inl (y 0, 24, .inl x_skills)), ((bd 3), .inl (y 0, 24, .inl x_barred)), ((bd 25), .inl (y 2, 24, .inl x_isIn)), ((bd 26), .inl (y 2, 24, .inl x_wasAsked)), ((bd 28), .inl (y 0, 24, .inl x_ahead))]) (wr := [((bd 4), .inl (y 0, 24, .inl x_refused)), ((bd 13), .inl (y 0, 11, .inl x_says)), ((bd 27), .inl (y 0, 8, .inl x_gang))]) hP hD hS hA [0, 1, 2, 5, 6, 8] [3, 4, 7] [3, 4, 5, 0, 1, 6, 7, 2, 8] rfl rfl (by decide) (by decide) (by decide) (fun (u : Unit) => [(ce_xm bd x_thrown x_men x_ships x_entries x_rules x_calls x_gangs x_idle x_moved x_paid x_taped x_at x_end x_begin x_faultAt x_wants), ((bd 1), .inl (y 0, 24, .inl x_skills)), ((bd 3), .inl (y 0, 24, .inl x_barred)), ((bd 4), .inl (y 0, 24, .inl x_refused)), ((bd 13), .inl (y 0, 11, .inl x_says)), ((bd 25), .inl (y 2, 24, .inl x_isIn)), ((bd 26), .inl (y 2, 24, .inl x_wasAsked)), ((bd 27), .inl (y 0, 8, .inl x_gang)), ((bd 28), .inl (y 0, 24, .inl x_ahead))]) (fun _ => rfl) (va_runV (As := [.int v1]) (rest := []) ⟨hx, hb, hml, hown, hts⟩ (c_Model_nextMan l D y bd H.size x_thrown x_men x_ships x_entries x_rules x_calls x_gangs x_idle x_moved x_paid x_taped x_at x_end x_begin x_faultAt x_wants x_skills x_barred x_isIn x_wasAsked x_ahead v1 hw) (cwV 1 hts gX9_gathers_X9_nextMan rfl rfl rfl (by decide +kernel) ⟨Nat.le_of_ble_eq_true rfl, Nat.le_of_ble_eq_true rfl⟩) ⟨mPre.blind, (va_recv hK hP (ci := 11) (q0 := 0) rfl rfl), mPre.to (hP.sub [0, 1, 2, 5, 6, 8] rfl) hK (hD.sub [0, 1, 2, 5, 6, 8] (by decide) rfl) hE⟩ rfl rfl hl.1 rfl (lv_room (Nat.le_of_ble_eq_true rfl)) dX9_gathers_37 ⟨Nat.le_of_ble_eq_true rfl, Nat.le_of_ble_eq_true rfl⟩) (fun r_1 u H locs hw hP hD hS => ?_)
      try dsimp only at hw
      have hP : va_P D vwCl [(ce_xm bd x_thrown x_men x_ships x_entries x_rules x_calls x_gangs x_idle x_moved x_paid x_taped x_at x_end x_begin x_faultAt x_wants), ((bd 1), .inl (y 0, 24, .inl x_skills)), ((bd 3), .inl (y 0, 24, .inl x_barred)), ((bd 4), .inl (y 0, 24, .inl x_refused)), ((bd 13), .inl (y 0, 11, .inl x_says)), ((bd 25), .inl (y 2, 24, .inl x_isIn)), ((bd 26), .inl (y 2, 24, .inl x_wasAsked)), ((bd 27), .inl (y 0, 8, .inl x_gang)), ((bd 28), .inl (y 0, 24, .inl x_ahead))] H := hP
      have hD : va_D A [(ce_xm bd x_thrown x_men x_ships x_entries x_rules x_calls x_gangs x_idle x_moved x_paid x_taped x_at x_end x_begin x_faultAt x_wants), ((bd 1), .inl (y 0, 24, .inl x_skills)), ((bd 3), .inl (y 0, 24, .inl x_barred)), ((bd 4), .inl (y 0, 24, .inl x_refused)), ((bd 13), .inl (y 0, 11, .inl x_says)), ((bd 25), .inl (y 2, 24, .inl x_isIn)), ((bd 26), .inl (y 2, 24, .inl x_wasAsked)), ((bd 27), .inl (y 0, 8, .inl x_gang)), ((bd 28), .inl (y 0, 24, .inl x_ahead))] := hD
      refine lv_istore (lv' := [(4, .int r_1), (3, .int v3), (0, .ref (bd 0)), (1, .int v1), (2, .int v2)]) hx hb dX9_gathers_40 hl (by decide) rfl (fun ls hl => ?_)
      refine lv_iload hx hb dX9_gathers_42 (lv_at hl 0 rfl) ?_
      refine lv_if_ge (tgt := 49) hx hb dX9_gathers_44 (by decide) (fun hc => ?_) (fun hc => ?_)
      · have hw := hw.1 hc
        refine lv_aload_n hx hb dX9_gathers_49 rfl (lv_at hl 2 rfl) ?_
        refine va_get (ci := 11) (v := .ref (bd 26)) (C := RX9) (T := TX9) (N := 47) hx hb hts inw_X9_gathers_X9 hown hK hP 0 rfl rfl 40 (by decide) (hts (.fieldLink RX9 91 "DockCallModel" "wasAsked" "[Z") (by decide +kernel)) (fun _ h9 => h9) rfl dX9_gathers_50 ?_
        refine lv_iload hx hb dX9_gathers_53 (lv_at hl 0 rfl) ?_
        refine lv_iconst (v := 1) hx hb dX9_gathers_55 (by decide) ?_
        obtain ⟨hi, hw⟩ := hw
        refine va_zast hx hb hK hP hD hS 6 2 rfl rfl hi dX9_gathers_56 (fun H locs hP hD hS => ?_)
        have hP : va_P D vwCl [(ce_xm bd x_thrown x_men x_ships x_entries x_rules x_calls x_gangs x_idle x_moved x_paid x_taped x_at x_end x_begin x_faultAt x_wants), ((bd 1), .inl (y 0, 24, .inl x_skills)), ((bd 3), .inl (y 0, 24, .inl x_barred)), ((bd 4), .inl (y 0, 24, .inl x_refused)), ((bd 13), .inl (y 0, 11, .inl x_says)), ((bd 25), .inl (y 2, 24, .inl x_isIn)), ((bd 26), .inl (y 2, 24, .inl (upd x_wasAsked r_1.toNatClampNeg (vp_nar .boolean 1)))), ((bd 27), .inl (y 0, 8, .inl x_gang)), ((bd 28), .inl (y 0, 24, .inl x_ahead))] H := hP
        have hD : va_D A [(ce_xm bd x_thrown x_men x_ships x_entries x_rules x_calls x_gangs x_idle x_moved x_paid x_taped x_at x_end x_begin x_faultAt x_wants), ((bd 1), .inl (y 0, 24, .inl x_skills)), ((bd 3), .inl (y 0, 24, .inl x_barred)), ((bd 4), .inl (y 0, 24, .inl x_refused)), ((bd 13), .inl (y 0, 11, .inl x_says)), ((bd 25), .inl (y 2, 24, .inl x_isIn)), ((bd 26), .inl (y 2, 24, .inl (upd x_wasAsked r_1.toNatClampNeg (vp_nar .boolean 1)))), ((bd 27), .inl (y 0, 8, .inl x_gang)), ((bd 28), .inl (y 0, 24, .inl x_ahead))] := hD
        refine lv_iload_n hx hb dX9_gathers_57 rfl (lv_at hl 4 rfl) ?_
        refine lv_iload hx hb dX9_gathers_58 (lv_at hl 0 rfl) ?_
        refine lv_ishr hx hb dX9_gathers_60 ?_
        refine lv_iconst (v := 1) hx hb dX9_gathers_61 (by decide) ?_
        refine lv_iand hx hb dX9_gathers_62 ?_
        refine lv_iconst (v := 1) hx hb dX9_gathers_63 (by decide) ?_
        refine lv_icmp_ne (tgt := 99) hx hb dX9_gathers_64 (by decide) (fun hc => ?_) (fun hc => ?_)
        · have hw := hw.2 hc
          refine lv_aload_n hx hb dX9_gathers_99 rfl (lv_at hl 2 rfl) ?_
          refine va_get (ci := 11) (v := .ref (bd 27)) (C := RX9) (T := TX9) (N := 47) hx hb hts inw_X9_gathers_X9 hown hK hP 0 rfl rfl 41 (by decide) (hts (.fieldLink RX9 94 "DockCallModel" "gang" "[I") (by decide +kernel)) (fun _ h9 => h9) rfl dX9_gathers_100 ?_
          refine lv_iload_n hx hb dX9_gathers_103 rfl (lv_at hl 1 rfl) ?_
          refine lv_iload hx hb dX9_gathers_104 (lv_at hl 0 rfl) ?_
          obtain ⟨hi, hw⟩ := hw
          refine va_iast hx hb hK hP hD hS 7 0 rfl rfl hi dX9_gathers_106 (fun H locs hP hD hS => ?_)
          have hP : va_P D vwCl [(ce_xm bd x_thrown x_men x_ships x_entries x_rules x_calls x_gangs x_idle x_moved x_paid x_taped x_at x_end x_begin x_faultAt x_wants), ((bd 1), .inl (y 0, 24, .inl x_skills)), ((bd 3), .inl (y 0, 24, .inl x_barred)), ((bd 4), .inl (y 0, 24, .inl x_refused)), ((bd 13), .inl (y 0, 11, .inl x_says)), ((bd 25), .inl (y 2, 24, .inl x_isIn)), ((bd 26), .inl (y 2, 24, .inl (upd x_wasAsked r_1.toNatClampNeg (vp_nar .boolean 1)))), ((bd 27), .inl (y 0, 8, .inl (upd x_gang v3.toNatClampNeg r_1))), ((bd 28), .inl (y 0, 24, .inl x_ahead))] H := hP
          have hD : va_D A [(ce_xm bd x_thrown x_men x_ships x_entries x_rules x_calls x_gangs x_idle x_moved x_paid x_taped x_at x_end x_begin x_faultAt x_wants), ((bd 1), .inl (y 0, 24, .inl x_skills)), ((bd 3), .inl (y 0, 24, .inl x_barred)), ((bd 4), .inl (y 0, 24, .inl x_refused)), ((bd 13), .inl (y 0, 11, .inl x_says)), ((bd 25), .inl (y 2, 24, .inl x_isIn)), ((bd 26), .inl (y 2, 24, .inl (upd x_wasAsked r_1.toNatClampNeg (vp_nar .boolean 1)))), ((bd 27), .inl (y 0, 8, .inl (upd x_gang v3.toNatClampNeg r_1))), ((bd 28), .inl (y 0, 24, .inl x_ahead))] := hD
          refine lv_iinc (v := v3 + 1) (lv' := [(3, .int (v3 + 1)), (4, .int r_1), (0, .ref (bd 0)), (1, .int v1), (2, .int v2)]) hx hb dX9_gathers_107 hl (k := 1) rfl (by first | rfl | decide) (by decide) rfl (fun ls hl => ?_)
          refine lv_goto (tgt := 25) hx hb dX9_gathers_110 (by decide) ?_
          exact ih (v3 + 1) x_barred x_refused (upd x_wasAsked r_1.toNatClampNeg (vp_nar .boolean 1)) (upd x_gang v3.toNatClampNeg r_1) hw _ _ _ hP hD hS (lv_sub hl [0, 2, 3, 4] rfl)
        · have hw := hw.1 hc
          refine lv_aload_n hx hb dX9_gathers_67 rfl (lv_at hl 2 rfl) ?_
          refine va_get (ci := 11) (v := .ref (bd 3)) (C := RX9) (T := TX9) (N := 47) hx hb hts inw_X9_gathers_X9 hown hK hP 0 rfl rfl 3 (by decide) (hts (.fieldLink RX9 16 "DockCallModel" "barred" "[I") (by decide +kernel)) (fun _ h9 => h9) rfl dX9_gathers_68 ?_
          refine lv_iload hx hb dX9_gathers_71 (lv_at hl 0 rfl) ?_
          refine lv_aload_n hx hb dX9_gathers_73 rfl (lv_at hl 2 rfl) ?_
          refine va_get (ci := 11) (v := .int x_calls) (C := RX9) (T := TX9) (N := 47) hx hb hts inw_X9_gathers_X9 hown hK hP 0 rfl rfl 25 (by decide) (hts (.fieldLink RX9 128 "DockCallModel" "calls" "I") (by decide +kernel)) (fun _ h9 => h9) rfl dX9_gathers_74 ?_
          refine lv_aload_n hx hb dX9_gathers_77 rfl (lv_at hl 2 rfl) ?_
          refine va_get (ci := 11) (v := .ref (bd 13)) (C := RX9) (T := TX9) (N := 47) hx hb hts inw_X9_gathers_X9 hown hK hP 0 rfl rfl 15 (by decide) (hts (.fieldLink RX9 47 "DockCallModel" "says" "[I") (by decide +kernel)) (fun _ h9 => h9) rfl dX9_gathers_78 ?_
          refine lv_iconst (v := 2) hx hb dX9_gathers_81 (by decide) ?_
          refine va_iald hx hb hK hP 4 0 rfl rfl (by unfold vp_in; decide) dX9_gathers_82 ?_
          refine lv_iadd hx hb dX9_gathers_83 ?_
          obtain ⟨hi, hw⟩ := hw
          refine va_iast hx hb hK hP hD hS 2 0 rfl rfl hi dX9_gathers_84 (fun H locs hP hD hS => ?_)
          have hP : va_P D vwCl [(ce_xm bd x_thrown x_men x_ships x_entries x_rules x_calls x_gangs x_idle x_moved x_paid x_taped x_at x_end x_begin x_faultAt x_wants), ((bd 1), .inl (y 0, 24, .inl x_skills)), ((bd 3), .inl (y 0, 24, .inl (upd x_barred r_1.toNatClampNeg (x_calls + (x_says (2 : Int32).toNatClampNeg))))), ((bd 4), .inl (y 0, 24, .inl x_refused)), ((bd 13), .inl (y 0, 11, .inl x_says)), ((bd 25), .inl (y 2, 24, .inl x_isIn)), ((bd 26), .inl (y 2, 24, .inl (upd x_wasAsked r_1.toNatClampNeg (vp_nar .boolean 1)))), ((bd 27), .inl (y 0, 8, .inl x_gang)), ((bd 28), .inl (y 0, 24, .inl x_ahead))] H := hP
          have hD : va_D A [(ce_xm bd x_thrown x_men x_ships x_entries x_rules x_calls x_gangs x_idle x_moved x_paid x_taped x_at x_end x_begin x_faultAt x_wants), ((bd 1), .inl (y 0, 24, .inl x_skills)), ((bd 3), .inl (y 0, 24, .inl (upd x_barred r_1.toNatClampNeg (x_calls + (x_says (2 : Int32).toNatClampNeg))))), ((bd 4), .inl (y 0, 24, .inl x_refused)), ((bd 13), .inl (y 0, 11, .inl x_says)), ((bd 25), .inl (y 2, 24, .inl x_isIn)), ((bd 26), .inl (y 2, 24, .inl (upd x_wasAsked r_1.toNatClampNeg (vp_nar .boolean 1)))), ((bd 27), .inl (y 0, 8, .inl x_gang)), ((bd 28), .inl (y 0, 24, .inl x_ahead))] := hD
          refine lv_aload_n hx hb dX9_gathers_85 rfl (lv_at hl 2 rfl) ?_
          refine va_get (ci := 11) (v := .ref (bd 4)) (C := RX9) (T := TX9) (N := 47) hx hb hts inw_X9_gathers_X9 hown hK hP 0 rfl rfl 4 (by decide) (hts (.fieldLink RX9 19 "DockCallModel" "refused" "[I") (by decide +kernel)) (fun _ h9 => h9) rfl dX9_gathers_86 ?_
          refine lv_iload hx hb dX9_gathers_89 (lv_at hl 0 rfl) ?_
          refine lv_dup2_11 hx hb dX9_gathers_91 rfl rfl ?_
          obtain ⟨hi, hw⟩ := hw
          refine va_iald hx hb hK hP 3 0 rfl rfl hi dX9_gathers_92 ?_
          refine lv_iconst (v := 1) hx hb dX9_gathers_93 (by decide) ?_
          refine lv_iadd hx hb dX9_gathers_94 ?_
          obtain ⟨hi, hw⟩ := hw
          refine va_iast hx hb hK hP hD hS 3 0 rfl rfl hi dX9_gathers_95 (fun H locs hP hD hS => ?_)
          have hP : va_P D vwCl [(ce_xm bd x_thrown x_men x_ships x_entries x_rules x_calls x_gangs x_idle x_moved x_paid x_taped x_at x_end x_begin x_faultAt x_wants), ((bd 1), .inl (y 0, 24, .inl x_skills)), ((bd 3), .inl (y 0, 24, .inl (upd x_barred r_1.toNatClampNeg (x_calls + (x_says (2 : Int32).toNatClampNeg))))), ((bd 4), .inl (y 0, 24, .inl (upd x_refused r_1.toNatClampNeg ((x_refused r_1.toNatClampNeg) + 1)))), ((bd 13), .inl (y 0, 11, .inl x_says)), ((bd 25), .inl (y 2, 24, .inl x_isIn)), ((bd 26), .inl (y 2, 24, .inl (upd x_wasAsked r_1.toNatClampNeg (vp_nar .boolean 1)))), ((bd 27), .inl (y 0, 8, .inl x_gang)), ((bd 28), .inl (y 0, 24, .inl x_ahead))] H := hP
          have hD : va_D A [(ce_xm bd x_thrown x_men x_ships x_entries x_rules x_calls x_gangs x_idle x_moved x_paid x_taped x_at x_end x_begin x_faultAt x_wants), ((bd 1), .inl (y 0, 24, .inl x_skills)), ((bd 3), .inl (y 0, 24, .inl (upd x_barred r_1.toNatClampNeg (x_calls + (x_says (2 : Int32).toNatClampNeg))))), ((bd 4), .inl (y 0, 24, .inl (upd x_refused r_1.toNatClampNeg ((x_refused r_1.toNatClampNeg) + 1)))), ((bd 13), .inl (y 0, 11, .inl x_says)), ((bd 25), .inl (y 2, 24, .inl x_isIn)), ((bd 26), .inl (y 2, 24, .inl (upd x_wasAsked r_1.toNatClampNeg (vp_nar .boolean 1)))), ((bd 27), .inl (y 0, 8, .inl x_gang)), ((bd 28), .inl (y 0, 24, .inl x_ahead))] := hD
          refine lv_goto (tgt := 25) hx hb dX9_gathers_96 (by decide) ?_
          exact ih v3 (upd x_barred r_1.toNatClampNeg (x_calls + (x_says (2 : Int32).toNatClampNeg))) (upd x_refused r_1.toNatClampNeg ((x_refused r_1.toNatClampNeg) + 1)) (upd x_wasAsked r_1.toNatClampNeg (vp_nar .boolean 1)) x_gang hw _ _ _ hP hD hS (lv_sub hl [1, 2, 3, 4] rfl)
      · have hw := hw.2 hc
        refine lv_iconst (v := 0) hx hb dX9_gathers_47 (by decide) ?_
        exact W.zret (v := 0) hx hb hr (by decide) (fun t ht hW => ⟨⟨0, (x_barred, x_refused, x_wasAsked, x_gang), rfl, hw, mAt.to hP hK hD ht hW⟩, hS.F ht⟩) hS.2.2 dX9_gathers_48
set_option maxHeartbeats 4000000 in
set_option maxRecDepth 100000 in
theorem c_Model_gathers_h2 {p : Program} {l : Launch} {e : Env} {s : State} {m : MethodId} {args : Array Value} {below : List Frame} {meth : Method} {c : Code} {D : va_G} {y : Nat → ClassId} {bd : Nat → Nat} {A : Nat → Prop} (hx : p.tables.exec = Jvm.exec) (hb : c.code = cX9_gathers) (hr : meth.sig.returnType = some .boolean) (hml : c.maxLocals = 5) (hown : s.vm.findClass RX9 = some m.cls) (hts : ∀ w ∈ wsX9_gathers, w.before args s = true) (hlocks : meth.locks = false) (hK : va_K D vwCl (TY y) s) (hE : EV s) (hA : ∀ q, s.heap.size ≤ q → A q) {v1 : Int32} {v2 : Int32} {x_men : Int32} {x_calls : Int32} {x_skills : Nat → Int32} {x_barred : Nat → Int32} {x_refused : Nat → Int32} {x_says : Nat → Int32} {x_isIn : Nat → Int32} {x_gang : Nat → Int32} {x_ahead : Nat → Int32} {x_thrown : Int32} {x_ships : Int32} {x_entries : Int32} {x_rules : Int32} {x_gangs : Int32} {x_idle : Int32} {x_moved : Int64} {x_paid : Int64} {x_taped : Int32} {x_at : Int32} {x_end : Int32} {x_begin : Int32} {x_faultAt : Int32} {x_wants : Int32}  {Q : Int32 → (Nat → Int32) → (Nat → Int32) → (Nat → Int32) → (Nat → Int32) → Prop}  : ∀ (n : Nat) (v3 : Int32) (x_wasAsked : Nat → Int32), wp_Model_gathers_h2 v1 v2 x_men x_calls x_skills x_barred x_refused x_says x_isIn x_gang x_ahead Q n v3 x_wasAsked → ∀ (H : Heap) (locs : List Loc) (ls : Array Slot), va_P D vwCl [(ce_xm bd x_thrown x_men x_ships x_entries x_rules x_calls x_gangs x_idle x_moved x_paid x_taped x_at x_end x_begin x_faultAt x_wants), ((bd 1), .inl (y 0, 24, .inl x_skills)), ((bd 3), .inl (y 0, 24, .inl x_barred)), ((bd 4), .inl (y 0, 24, .inl x_refused)), ((bd 13), .inl (y 0, 11, .inl x_says)), ((bd 25), .inl (y 2, 24, .inl x_isIn)), ((bd 26), .inl (y 2, 24, .inl x_wasAsked)), ((bd 27), .inl (y 0, 8, .inl x_gang)), ((bd 28), .inl (y 0, 24, .inl x_ahead))] H → va_D A [(ce_xm bd x_thrown x_men x_ships x_entries x_rules x_calls x_gangs x_idle x_moved x_paid x_taped x_at x_end x_begin x_faultAt x_wants), ((bd 1), .inl (y 0, 24, .inl x_skills)), ((bd 3), .inl (y 0, 24, .inl x_barred)), ((bd 4), .inl (y 0, 24, .inl x_refused)), ((bd 13), .inl (y 0, 11, .inl x_says)), ((bd 25), .inl (y 2, 24, .inl x_isIn)), ((bd 26), .inl (y 2, 24, .inl x_wasAsked)), ((bd 27), .inl (y 0, 8, .inl x_gang)), ((bd 28), .inl (y 0, 24, .inl x_ahead))] → va_S A s.heap H locs → lv_has ls 5 [(3, .int v3), (0, .ref (bd 0)), (1, .int v1), (2, .int v2)] → W p l e ({ frames := 1, cells := 0, slots := 0, locals := 23 }) s m args below meth c H locs 0 0 (MQ below (va_Qi (fun (r : Int32) (u : (Nat → Int32) × (Nat → Int32) × (Nat → Int32) × (Nat → Int32)) => Q r u.1 u.2.1 u.2.2.1 u.2.2.2) (mAt D y A (fun (u : (Nat → Int32) × (Nat → Int32) × (Nat → Int32) × (Nat → Int32)) => [(ce_xm bd x_thrown x_men x_ships x_entries x_rules x_calls x_gangs x_idle x_moved x_paid x_taped x_at x_end x_begin x_faultAt x_wants), ((bd 1), .inl (y 0, 24, .inl x_skills)), ((bd 3), .inl (y 0, 24, .inl u.1)), ((bd 4), .inl (y 0, 24, .inl u.2.1)), ((bd 13), .inl (y 0, 11, .inl x_says)), ((bd 25), .inl (y 2, 24, .inl x_isIn)), ((bd 26), .inl (y 2, 24, .inl u.2.2.1)), ((bd 27), .inl (y 0, 8, .inl u.2.2.2)), ((bd 28), .inl (y 0, 24, .inl x_ahead))])) A) args s 0 0 A) (F0 m 2 ls []) := by
  intro n
  induction n with
  | zero => intro v3 x_wasAsked hw; rw [wp_Model_gathers_h2] at hw; exact hw.elim
  | succ n ih =>
    intro v3 x_wasAsked hw H locs ls hP hD hS hl
    rw [wp_Model_gathers_h2] at hw
    refine lv_iload_n hx hb dX9_gathers_2 rfl (lv_at hl 0 rfl) ?_
    refine lv_aload_n hx hb dX9_gathers_3 rfl (lv_at hl 1 rfl) ?_
    refine va_get (ci := 11) (v := .int x_men) (C := RX9) (T := TX9) (N := 47) hx hb hts inw_X9_gathers_X9 hown hK hP 0 rfl rfl 7 (by decide) (hts (.fieldLink RX9 112 "DockCallModel" "men" "I") (by decide +kernel)) (fun _ h9 => h9) rfl dX9_gathers_4 ?_
    refine lv_icmp_ge (tgt := 23) hx hb dX9_gathers_7 (by decide) (fun hc => ?_) (fun hc => ?_)
    · have hw := hw.1 hc
      refine lv_iconst (v := 0) hx hb dX9_gathers_23 (by decide) ?_
      refine lv_istore_n (lv' := [(3, .int 0), (0, .ref (bd 0)), (1, .int v1), (2, .int v2)]) hx hb dX9_gathers_24 rfl hl (by decide) rfl (fun ls hl => ?_)
      obtain ⟨n', hw⟩ := hw
      exact c_Model_gathers_h25 hx hb hr hml hown hts hlocks hK hE hA  n' 0 x_barred x_refused x_wasAsked x_gang hw _ _ _ hP hD hS (lv_sub hl [0, 1, 2, 3] rfl)
    · have hw := hw.2 hc
      refine lv_aload_n hx hb dX9_gathers_10 rfl (lv_at hl 1 rfl) ?_
      refine va_get (ci := 11) (v := .ref (bd 26)) (C := RX9) (T := TX9) (N := 47) hx hb hts inw_X9_gathers_X9 hown hK hP 0 rfl rfl 40 (by decide) (hts (.fieldLink RX9 91 "DockCallModel" "wasAsked" "[Z") (by decide +kernel)) (fun _ h9 => h9) rfl dX9_gathers_11 ?_
      refine lv_iload_n hx hb dX9_gathers_14 rfl (lv_at hl 0 rfl) ?_
      refine lv_iconst (v := 0) hx hb dX9_gathers_15 (by decide) ?_
      obtain ⟨hi, hw⟩ := hw
      refine va_zast hx hb hK hP hD hS 6 2 rfl rfl hi dX9_gathers_16 (fun H locs hP hD hS => ?_)
      have hP : va_P D vwCl [(ce_xm bd x_thrown x_men x_ships x_entries x_rules x_calls x_gangs x_idle x_moved x_paid x_taped x_at x_end x_begin x_faultAt x_wants), ((bd 1), .inl (y 0, 24, .inl x_skills)), ((bd 3), .inl (y 0, 24, .inl x_barred)), ((bd 4), .inl (y 0, 24, .inl x_refused)), ((bd 13), .inl (y 0, 11, .inl x_says)), ((bd 25), .inl (y 2, 24, .inl x_isIn)), ((bd 26), .inl (y 2, 24, .inl (upd x_wasAsked v3.toNatClampNeg (vp_nar .boolean 0)))), ((bd 27), .inl (y 0, 8, .inl x_gang)), ((bd 28), .inl (y 0, 24, .inl x_ahead))] H := hP
      have hD : va_D A [(ce_xm bd x_thrown x_men x_ships x_entries x_rules x_calls x_gangs x_idle x_moved x_paid x_taped x_at x_end x_begin x_faultAt x_wants), ((bd 1), .inl (y 0, 24, .inl x_skills)), ((bd 3), .inl (y 0, 24, .inl x_barred)), ((bd 4), .inl (y 0, 24, .inl x_refused)), ((bd 13), .inl (y 0, 11, .inl x_says)), ((bd 25), .inl (y 2, 24, .inl x_isIn)), ((bd 26), .inl (y 2, 24, .inl (upd x_wasAsked v3.toNatClampNeg (vp_nar .boolean 0)))), ((bd 27), .inl (y 0, 8, .inl x_gang)), ((bd 28), .inl (y 0, 24, .inl x_ahead))] := hD
      refine lv_iinc (v := v3 + 1) (lv' := [(3, .int (v3 + 1)), (0, .ref (bd 0)), (1, .int v1), (2, .int v2)]) hx hb dX9_gathers_17 hl (k := 0) rfl (by first | rfl | decide) (by decide) rfl (fun ls hl => ?_)
      refine lv_goto (tgt := 2) hx hb dX9_gathers_20 (by decide) ?_
      exact ih (v3 + 1) (upd x_wasAsked v3.toNatClampNeg (vp_nar .boolean 0)) hw _ _ _ hP hD hS (lv_sub hl [0, 1, 2, 3] rfl)
set_option maxHeartbeats 4000000 in
set_option maxRecDepth 100000 in
theorem c_Model_gathers (l : Launch) (D : va_G) (y : Nat → ClassId) (bd : Nat → Nat) (sz : Nat) (x_thrown : Int32) (x_men : Int32) (x_ships : Int32) (x_entries : Int32) (x_rules : Int32) (x_calls : Int32) (x_gangs : Int32) (x_idle : Int32) (x_moved : Int64) (x_paid : Int64) (x_taped : Int32) (x_at : Int32) (x_end : Int32) (x_begin : Int32) (x_faultAt : Int32) (x_wants : Int32) (x_skills : Nat → Int32) (x_barred : Nat → Int32) (x_refused : Nat → Int32) (x_says : Nat → Int32) (x_isIn : Nat → Int32) (x_wasAsked : Nat → Int32) (x_gang : Nat → Int32) (x_ahead : Nat → Int32) (p0 : Int32) (p1 : Int32) {Q : Int32 → (Nat → Int32) → (Nat → Int32) → (Nat → Int32) → (Nat → Int32) → Prop} (hw : wp_Model_gathers x_men x_calls x_skills x_barred x_refused x_says x_isIn x_wasAsked x_gang x_ahead p0 p1 Q) : Met l yX9_gathers wsX9_gathers ({ frames := 1, cells := 0, slots := 0, locals := 23 }) (va_Pc [.ref (bd 0), .int p0, .int p1] (mPre D y sz [(ce_xm bd x_thrown x_men x_ships x_entries x_rules x_calls x_gangs x_idle x_moved x_paid x_taped x_at x_end x_begin x_faultAt x_wants), ((bd 1), .inl (y 0, 24, .inl x_skills)), ((bd 3), .inl (y 0, 24, .inl x_barred)), ((bd 4), .inl (y 0, 24, .inl x_refused)), ((bd 13), .inl (y 0, 11, .inl x_says)), ((bd 25), .inl (y 2, 24, .inl x_isIn)), ((bd 26), .inl (y 2, 24, .inl x_wasAsked)), ((bd 27), .inl (y 0, 8, .inl x_gang)), ((bd 28), .inl (y 0, 24, .inl x_ahead))])) (va_Qi (fun (r : Int32) (u : (Nat → Int32) × (Nat → Int32) × (Nat → Int32) × (Nat → Int32)) => Q r u.1 u.2.1 u.2.2.1 u.2.2.2) (mAt D y (va_A [(ce_xm bd x_thrown x_men x_ships x_entries x_rules x_calls x_gangs x_idle x_moved x_paid x_taped x_at x_end x_begin x_faultAt x_wants), ((bd 1), .inl (y 0, 24, .inl x_skills)), ((bd 3), .inl (y 0, 24, .inl x_barred)), ((bd 4), .inl (y 0, 24, .inl x_refused)), ((bd 13), .inl (y 0, 11, .inl x_says)), ((bd 25), .inl (y 2, 24, .inl x_isIn)), ((bd 26), .inl (y 2, 24, .inl x_wasAsked)), ((bd 27), .inl (y 0, 8, .inl x_gang)), ((bd 28), .inl (y 0, 24, .inl x_ahead))] sz) (fun (u : (Nat → Int32) × (Nat → Int32) × (Nat → Int32) × (Nat → Int32)) => [(ce_xm bd x_thrown x_men x_ships x_entries x_rules x_calls x_gangs x_idle x_moved x_paid x_taped x_at x_end x_begin x_faultAt x_wants), ((bd 1), .inl (y 0, 24, .inl x_skills)), ((bd 3), .inl (y 0, 24, .inl u.1)), ((bd 4), .inl (y 0, 24, .inl u.2.1)), ((bd 13), .inl (y 0, 11, .inl x_says)), ((bd 25), .inl (y 2, 24, .inl x_isIn)), ((bd 26), .inl (y 2, 24, .inl u.2.2.1)), ((bd 27), .inl (y 0, 8, .inl u.2.2.2)), ((bd 28), .inl (y 0, 24, .inl x_ahead))])) (va_A [(ce_xm bd x_thrown x_men x_ships x_entries x_rules x_calls x_gangs x_idle x_moved x_paid x_taped x_at x_end x_begin x_faultAt x_wants), ((bd 1), .inl (y 0, 24, .inl x_skills)), ((bd 3), .inl (y 0, 24, .inl x_barred)), ((bd 4), .inl (y 0, 24, .inl x_refused)), ((bd 13), .inl (y 0, 11, .inl x_says)), ((bd 25), .inl (y 2, 24, .inl x_isIn)), ((bd 26), .inl (y 2, 24, .inl x_wasAsked)), ((bd 27), .inl (y 0, 8, .inl x_gang)), ((bd 28), .inl (y 0, 24, .inl x_ahead))] sz)) 0 0 (va_A [(ce_xm bd x_thrown x_men x_ships x_entries x_rules x_calls x_gangs x_idle x_moved x_paid x_taped x_at x_end x_begin x_faultAt x_wants), ((bd 1), .inl (y 0, 24, .inl x_skills)), ((bd 3), .inl (y 0, 24, .inl x_barred)), ((bd 4), .inl (y 0, 24, .inl x_refused)), ((bd 13), .inl (y 0, 11, .inl x_says)), ((bd 25), .inl (y 2, 24, .inl x_isIn)), ((bd 26), .inl (y 2, 24, .inl x_wasAsked)), ((bd 27), .inl (y 0, 8, .inl x_gang)), ((bd 28), .inl (y 0, 24, .inl x_ahead))] sz) := by
  unfold wp_Model_gathers at hw
  refine Met.ofW (cc := cX9_gathers) (maxL := 5) (ret := some .boolean) (by decide) rfl ?_
  intro p e s m args below meth c s₁ B hml hv
  obtain ⟨rfl, hsz, hP, hK, hD0, hE⟩ := hv
  have hx := B.exec
  have hb := B.bytes
  have hr := B.returns
  have hts := atoms_spec (ws := wsX9_gathers) B.pre
  have hown : s.vm.findClass RX9 = some m.cls := findClass_of_methodNamed B.named
  have hlocks := B.notSynchronized
  subst hsz
  have hD := hD0.self (sz := s.heap.size)
  generalize hAe : va_A [(ce_xm bd x_thrown x_men x_ships x_entries x_rules x_calls x_gangs x_idle x_moved x_paid x_taped x_at x_end x_begin x_faultAt x_wants), ((bd 1), .inl (y 0, 24, .inl x_skills)), ((bd 3), .inl (y 0, 24, .inl x_barred)), ((bd 4), .inl (y 0, 24, .inl x_refused)), ((bd 13), .inl (y 0, 11, .inl x_says)), ((bd 25), .inl (y 2, 24, .inl x_isIn)), ((bd 26), .inl (y 2, 24, .inl x_wasAsked)), ((bd 27), .inl (y 0, 8, .inl x_gang)), ((bd 28), .inl (y 0, 24, .inl x_ahead))] s.heap.size = A at hD ⊢
  have hA : ∀ q : Nat, s.heap.size ≤ q → A q := fun q h => by rw [← hAe]; exact Or.inr h
  have hS : va_S A s.heap s.heap [] := va_S.rf
  have hP : va_P D vwCl [(ce_xm bd x_thrown x_men x_ships x_entries x_rules x_calls x_gangs x_idle x_moved x_paid x_taped x_at x_end x_begin x_faultAt x_wants), ((bd 1), .inl (y 0, 24, .inl x_skills)), ((bd 3), .inl (y 0, 24, .inl x_barred)), ((bd 4), .inl (y 0, 24, .inl x_refused)), ((bd 13), .inl (y 0, 11, .inl x_says)), ((bd 25), .inl (y 2, 24, .inl x_isIn)), ((bd 26), .inl (y 2, 24, .inl x_wasAsked)), ((bd 27), .inl (y 0, 8, .inl x_gang)), ((bd 28), .inl (y 0, 24, .inl x_ahead))] s.heap := hP
  have hl := lv_entry ([.ref (bd 0), .int p0, .int p1]) (n := 5) (Nat.le_of_ble_eq_true rfl)
  rw [lg_entry_eq]
  generalize (lg_sl ([.ref (bd 0), .int p0, .int p1]) ++ List.replicate (5 - (lg_sl ([.ref (bd 0), .int p0, .int p1])).length) Slot.unset).toArray = ls at hl ⊢
  have hl : lv_has ls 5 [(0, .ref (bd 0)), (1, .int p0), (2, .int p1)] := hl
  refine lv_iconst (v := 0) hx hb dX9_gathers_0 (by decide) ?_
  refine lv_istore_n (lv' := [(3, .int 0), (0, .ref (bd 0)), (1, .int p0), (2, .int p1)]) hx hb dX9_gathers_1 rfl hl (by decide) rfl (fun ls hl => ?_)
  obtain ⟨n', hw⟩ := hw
  exact c_Model_gathers_h2 hx hb hr hml hown hts hlocks hK hE hA  n' 0 x_wasAsked hw _ _ _ hP hD hS (lv_sub hl [0, 1, 2, 3] rfl)
theorem inw_X9_writes_X9 : ∀ w ∈ wsX90, w ∈ wsX9_writes := fun _ h => List.mem_cons_of_mem _ (List.mem_append_left _ (List.mem_append_right _ h))
def wp_Model_writes (x_entries : Int32) (x_calls : Int32) (x_paid : Int64) (x_eCall : Nat → Int32) (x_eMan : Nat → Int32) (x_eMoney : Nat → Int32) (p0 : Int32) (p1 : Int32) (Q : Int32 → Int64 → (Nat → Int32) → (Nat → Int32) → (Nat → Int32) → Prop) : Prop := ((x_entries = 800 → Q x_entries (x_paid + p1.toInt64) x_eCall x_eMan x_eMoney) ∧ (¬ x_entries = 800 → (vp_in x_entries 800 ∧ (vp_in x_entries 800 ∧ (vp_in x_entries 800 ∧ Q (x_entries + 1) (x_paid + p1.toInt64) (upd x_eCall x_entries.toNatClampNeg x_calls) (upd x_eMan x_entries.toNatClampNeg p0) (upd x_eMoney x_entries.toNatClampNeg p1))))))
set_option maxHeartbeats 4000000 in
set_option maxRecDepth 100000 in
theorem c_Model_writes (l : Launch) (D : va_G) (y : Nat → ClassId) (bd : Nat → Nat) (sz : Nat) (x_thrown : Int32) (x_men : Int32) (x_ships : Int32) (x_entries : Int32) (x_rules : Int32) (x_calls : Int32) (x_gangs : Int32) (x_idle : Int32) (x_moved : Int64) (x_paid : Int64) (x_taped : Int32) (x_at : Int32) (x_end : Int32) (x_begin : Int32) (x_faultAt : Int32) (x_wants : Int32) (x_eCall : Nat → Int32) (x_eMan : Nat → Int32) (x_eMoney : Nat → Int32) (p0 : Int32) (p1 : Int32) {Q : Int32 → Int64 → (Nat → Int32) → (Nat → Int32) → (Nat → Int32) → Prop} (hw : wp_Model_writes x_entries x_calls x_paid x_eCall x_eMan x_eMoney p0 p1 Q) : Met l yX9_writes wsX9_writes ({ frames := 0, cells := 0, slots := 0, locals := 0 }) (va_Pc [.ref (bd 0), .int p0, .int p1] (mPre D y sz [(ce_xm bd x_thrown x_men x_ships x_entries x_rules x_calls x_gangs x_idle x_moved x_paid x_taped x_at x_end x_begin x_faultAt x_wants), ((bd 15), .inl (y 0, 800, .inl x_eCall)), ((bd 16), .inl (y 0, 800, .inl x_eMan)), ((bd 17), .inl (y 0, 800, .inl x_eMoney))])) (va_Qv (fun (u : Int32 × Int64 × (Nat → Int32) × (Nat → Int32) × (Nat → Int32)) => Q u.1 u.2.1 u.2.2.1 u.2.2.2.1 u.2.2.2.2) (mAt D y (va_A [(ce_xm bd x_thrown x_men x_ships x_entries x_rules x_calls x_gangs x_idle x_moved x_paid x_taped x_at x_end x_begin x_faultAt x_wants), ((bd 15), .inl (y 0, 800, .inl x_eCall)), ((bd 16), .inl (y 0, 800, .inl x_eMan)), ((bd 17), .inl (y 0, 800, .inl x_eMoney))] sz) (fun (u : Int32 × Int64 × (Nat → Int32) × (Nat → Int32) × (Nat → Int32)) => [(ce_xm bd x_thrown x_men x_ships u.1 x_rules x_calls x_gangs x_idle x_moved u.2.1 x_taped x_at x_end x_begin x_faultAt x_wants), ((bd 15), .inl (y 0, 800, .inl u.2.2.1)), ((bd 16), .inl (y 0, 800, .inl u.2.2.2.1)), ((bd 17), .inl (y 0, 800, .inl u.2.2.2.2))])) (va_A [(ce_xm bd x_thrown x_men x_ships x_entries x_rules x_calls x_gangs x_idle x_moved x_paid x_taped x_at x_end x_begin x_faultAt x_wants), ((bd 15), .inl (y 0, 800, .inl x_eCall)), ((bd 16), .inl (y 0, 800, .inl x_eMan)), ((bd 17), .inl (y 0, 800, .inl x_eMoney))] sz)) 0 0 (va_A [(ce_xm bd x_thrown x_men x_ships x_entries x_rules x_calls x_gangs x_idle x_moved x_paid x_taped x_at x_end x_begin x_faultAt x_wants), ((bd 15), .inl (y 0, 800, .inl x_eCall)), ((bd 16), .inl (y 0, 800, .inl x_eMan)), ((bd 17), .inl (y 0, 800, .inl x_eMoney))] sz) := by
  unfold wp_Model_writes at hw
  refine Met.ofW (cc := cX9_writes) (maxL := 3) (ret := none) (by decide) rfl ?_
  intro p e s m args below meth c s₁ B hml hv
  obtain ⟨rfl, hsz, hP, hK, hD0, hE⟩ := hv
  have hx := B.exec
  have hb := B.bytes
  have hr := B.returns
  have hts := atoms_spec (ws := wsX9_writes) B.pre
  have hown : s.vm.findClass RX9 = some m.cls := findClass_of_methodNamed B.named
  have hlocks := B.notSynchronized
  subst hsz
  have hD := hD0.self (sz := s.heap.size)
  generalize hAe : va_A [(ce_xm bd x_thrown x_men x_ships x_entries x_rules x_calls x_gangs x_idle x_moved x_paid x_taped x_at x_end x_begin x_faultAt x_wants), ((bd 15), .inl (y 0, 800, .inl x_eCall)), ((bd 16), .inl (y 0, 800, .inl x_eMan)), ((bd 17), .inl (y 0, 800, .inl x_eMoney))] s.heap.size = A at hD ⊢
  have hA : ∀ q : Nat, s.heap.size ≤ q → A q := fun q h => by rw [← hAe]; exact Or.inr h
  have hS : va_S A s.heap s.heap [] := va_S.rf
  have hP : va_P D vwCl [(ce_xm bd x_thrown x_men x_ships x_entries x_rules x_calls x_gangs x_idle x_moved x_paid x_taped x_at x_end x_begin x_faultAt x_wants), ((bd 15), .inl (y 0, 800, .inl x_eCall)), ((bd 16), .inl (y 0, 800, .inl x_eMan)), ((bd 17), .inl (y 0, 800, .inl x_eMoney))] s.heap := hP
  have hl := lv_entry ([.ref (bd 0), .int p0, .int p1]) (n := 3) (Nat.le_of_ble_eq_true rfl)
  rw [lg_entry_eq]
  generalize (lg_sl ([.ref (bd 0), .int p0, .int p1]) ++ List.replicate (3 - (lg_sl ([.ref (bd 0), .int p0, .int p1])).length) Slot.unset).toArray = ls at hl ⊢
  have hl : lv_has ls 3 [(0, .ref (bd 0)), (1, .int p0), (2, .int p1)] := hl
  refine lv_aload_n hx hb dX9_writes_0 rfl (lv_at hl 0 rfl) ?_
  refine lv_dup hx hb dX9_writes_1 rfl ?_
  refine va_get (ci := 11) (v := .long x_paid) (C := RX9) (T := TX9) (N := 47) hx hb hts inw_X9_writes_X9 hown hK hP 0 rfl rfl 29 (by decide) (hts (.fieldLink RX9 220 "DockCallModel" "paid" "J") (by decide +kernel)) (fun _ h9 => h9) rfl dX9_writes_2 ?_
  refine lv_iload_n hx hb dX9_writes_5 rfl (lv_at hl 2 rfl) ?_
  refine lv_i2l hx hb dX9_writes_6 rfl ?_
  refine lv_ladd hx hb dX9_writes_7 ?_
  refine va_put (ci := 11) (v := .long (x_paid + p1.toInt64)) (ty := .long) (C := RX9) (T := TX9) (N := 47) hx hb hts inw_X9_writes_X9 tyX9 tyX9_ok nmX9 hown hK hP hD hS 0 rfl rfl 29 (by decide) (hts (.fieldLink RX9 220 "DockCallModel" "paid" "J") (by decide +kernel)) (fun _ h9 => h9) rfl (by decide +kernel) rfl rfl (Nat.le_of_ble_eq_true rfl) dX9_writes_8 (fun H locs hP hD hS => ?_)
  have hP : va_P D vwCl [(ce_xm bd x_thrown x_men x_ships x_entries x_rules x_calls x_gangs x_idle x_moved (x_paid + p1.toInt64) x_taped x_at x_end x_begin x_faultAt x_wants), ((bd 15), .inl (y 0, 800, .inl x_eCall)), ((bd 16), .inl (y 0, 800, .inl x_eMan)), ((bd 17), .inl (y 0, 800, .inl x_eMoney))] H := hP
  have hD : va_D A [(ce_xm bd x_thrown x_men x_ships x_entries x_rules x_calls x_gangs x_idle x_moved (x_paid + p1.toInt64) x_taped x_at x_end x_begin x_faultAt x_wants), ((bd 15), .inl (y 0, 800, .inl x_eCall)), ((bd 16), .inl (y 0, 800, .inl x_eMan)), ((bd 17), .inl (y 0, 800, .inl x_eMoney))] := hD
  refine lv_aload_n hx hb dX9_writes_11 rfl (lv_at hl 0 rfl) ?_
  refine va_get (ci := 11) (v := .int x_entries) (C := RX9) (T := TX9) (N := 47) hx hb hts inw_X9_writes_X9 hown hK hP 0 rfl rfl 20 (by decide) (hts (.fieldLink RX9 224 "DockCallModel" "entries" "I") (by decide +kernel)) (fun _ h9 => h9) rfl dX9_writes_12 ?_
  refine lv_sipush (v := 800) hx hb dX9_writes_15 (by decide) ?_
  refine lv_icmp_ne (tgt := 22) hx hb dX9_writes_18 (by decide) (fun hc => ?_) (fun hc => ?_)
  · have hw := hw.2 hc
    refine lv_aload_n hx hb dX9_writes_22 rfl (lv_at hl 0 rfl) ?_
    refine va_get (ci := 11) (v := .ref (bd 15)) (C := RX9) (T := TX9) (N := 47) hx hb hts inw_X9_writes_X9 hown hK hP 0 rfl rfl 17 (by decide) (hts (.fieldLink RX9 53 "DockCallModel" "eCall" "[I") (by decide +kernel)) (fun _ h9 => h9) rfl dX9_writes_23 ?_
    refine lv_aload_n hx hb dX9_writes_26 rfl (lv_at hl 0 rfl) ?_
    refine va_get (ci := 11) (v := .int x_entries) (C := RX9) (T := TX9) (N := 47) hx hb hts inw_X9_writes_X9 hown hK hP 0 rfl rfl 20 (by decide) (hts (.fieldLink RX9 224 "DockCallModel" "entries" "I") (by decide +kernel)) (fun _ h9 => h9) rfl dX9_writes_27 ?_
    refine lv_aload_n hx hb dX9_writes_30 rfl (lv_at hl 0 rfl) ?_
    refine va_get (ci := 11) (v := .int x_calls) (C := RX9) (T := TX9) (N := 47) hx hb hts inw_X9_writes_X9 hown hK hP 0 rfl rfl 25 (by decide) (hts (.fieldLink RX9 128 "DockCallModel" "calls" "I") (by decide +kernel)) (fun _ h9 => h9) rfl dX9_writes_31 ?_
    obtain ⟨hi, hw⟩ := hw
    refine va_iast hx hb hK hP hD hS 1 0 rfl rfl hi dX9_writes_34 (fun H locs hP hD hS => ?_)
    have hP : va_P D vwCl [(ce_xm bd x_thrown x_men x_ships x_entries x_rules x_calls x_gangs x_idle x_moved (x_paid + p1.toInt64) x_taped x_at x_end x_begin x_faultAt x_wants), ((bd 15), .inl (y 0, 800, .inl (upd x_eCall x_entries.toNatClampNeg x_calls))), ((bd 16), .inl (y 0, 800, .inl x_eMan)), ((bd 17), .inl (y 0, 800, .inl x_eMoney))] H := hP
    have hD : va_D A [(ce_xm bd x_thrown x_men x_ships x_entries x_rules x_calls x_gangs x_idle x_moved (x_paid + p1.toInt64) x_taped x_at x_end x_begin x_faultAt x_wants), ((bd 15), .inl (y 0, 800, .inl (upd x_eCall x_entries.toNatClampNeg x_calls))), ((bd 16), .inl (y 0, 800, .inl x_eMan)), ((bd 17), .inl (y 0, 800, .inl x_eMoney))] := hD
    refine lv_aload_n hx hb dX9_writes_35 rfl (lv_at hl 0 rfl) ?_
    refine va_get (ci := 11) (v := .ref (bd 16)) (C := RX9) (T := TX9) (N := 47) hx hb hts inw_X9_writes_X9 hown hK hP 0 rfl rfl 18 (by decide) (hts (.fieldLink RX9 56 "DockCallModel" "eMan" "[I") (by decide +kernel)) (fun _ h9 => h9) rfl dX9_writes_36 ?_
    refine lv_aload_n hx hb dX9_writes_39 rfl (lv_at hl 0 rfl) ?_
    refine va_get (ci := 11) (v := .int x_entries) (C := RX9) (T := TX9) (N := 47) hx hb hts inw_X9_writes_X9 hown hK hP 0 rfl rfl 20 (by decide) (hts (.fieldLink RX9 224 "DockCallModel" "entries" "I") (by decide +kernel)) (fun _ h9 => h9) rfl dX9_writes_40 ?_
    refine lv_iload_n hx hb dX9_writes_43 rfl (lv_at hl 1 rfl) ?_
    obtain ⟨hi, hw⟩ := hw
    refine va_iast hx hb hK hP hD hS 2 0 rfl rfl hi dX9_writes_44 (fun H locs hP hD hS => ?_)
    have hP : va_P D vwCl [(ce_xm bd x_thrown x_men x_ships x_entries x_rules x_calls x_gangs x_idle x_moved (x_paid + p1.toInt64) x_taped x_at x_end x_begin x_faultAt x_wants), ((bd 15), .inl (y 0, 800, .inl (upd x_eCall x_entries.toNatClampNeg x_calls))), ((bd 16), .inl (y 0, 800, .inl (upd x_eMan x_entries.toNatClampNeg p0))), ((bd 17), .inl (y 0, 800, .inl x_eMoney))] H := hP
    have hD : va_D A [(ce_xm bd x_thrown x_men x_ships x_entries x_rules x_calls x_gangs x_idle x_moved (x_paid + p1.toInt64) x_taped x_at x_end x_begin x_faultAt x_wants), ((bd 15), .inl (y 0, 800, .inl (upd x_eCall x_entries.toNatClampNeg x_calls))), ((bd 16), .inl (y 0, 800, .inl (upd x_eMan x_entries.toNatClampNeg p0))), ((bd 17), .inl (y 0, 800, .inl x_eMoney))] := hD
    refine lv_aload_n hx hb dX9_writes_45 rfl (lv_at hl 0 rfl) ?_
    refine va_get (ci := 11) (v := .ref (bd 17)) (C := RX9) (T := TX9) (N := 47) hx hb hts inw_X9_writes_X9 hown hK hP 0 rfl rfl 19 (by decide) (hts (.fieldLink RX9 59 "DockCallModel" "eMoney" "[I") (by decide +kernel)) (fun _ h9 => h9) rfl dX9_writes_46 ?_
    refine lv_aload_n hx hb dX9_writes_49 rfl (lv_at hl 0 rfl) ?_
    refine va_get (ci := 11) (v := .int x_entries) (C := RX9) (T := TX9) (N := 47) hx hb hts inw_X9_writes_X9 hown hK hP 0 rfl rfl 20 (by decide) (hts (.fieldLink RX9 224 "DockCallModel" "entries" "I") (by decide +kernel)) (fun _ h9 => h9) rfl dX9_writes_50 ?_
    refine lv_iload_n hx hb dX9_writes_53 rfl (lv_at hl 2 rfl) ?_
    obtain ⟨hi, hw⟩ := hw
    refine va_iast hx hb hK hP hD hS 3 0 rfl rfl hi dX9_writes_54 (fun H locs hP hD hS => ?_)
    have hP : va_P D vwCl [(ce_xm bd x_thrown x_men x_ships x_entries x_rules x_calls x_gangs x_idle x_moved (x_paid + p1.toInt64) x_taped x_at x_end x_begin x_faultAt x_wants), ((bd 15), .inl (y 0, 800, .inl (upd x_eCall x_entries.toNatClampNeg x_calls))), ((bd 16), .inl (y 0, 800, .inl (upd x_eMan x_entries.toNatClampNeg p0))), ((bd 17), .inl (y 0, 800, .inl (upd x_eMoney x_entries.toNatClampNeg p1)))] H := hP
    have hD : va_D A [(ce_xm bd x_thrown x_men x_ships x_entries x_rules x_calls x_gangs x_idle x_moved (x_paid + p1.toInt64) x_taped x_at x_end x_begin x_faultAt x_wants), ((bd 15), .inl (y 0, 800, .inl (upd x_eCall x_entries.toNatClampNeg x_calls))), ((bd 16), .inl (y 0, 800, .inl (upd x_eMan x_entries.toNatClampNeg p0))), ((bd 17), .inl (y 0, 800, .inl (upd x_eMoney x_entries.toNatClampNeg p1)))] := hD
    refine lv_aload_n hx hb dX9_writes_55 rfl (lv_at hl 0 rfl) ?_
    refine lv_dup hx hb dX9_writes_56 rfl ?_
    refine va_get (ci := 11) (v := .int x_entries) (C := RX9) (T := TX9) (N := 47) hx hb hts inw_X9_writes_X9 hown hK hP 0 rfl rfl 20 (by decide) (hts (.fieldLink RX9 224 "DockCallModel" "entries" "I") (by decide +kernel)) (fun _ h9 => h9) rfl dX9_writes_57 ?_
    refine lv_iconst (v := 1) hx hb dX9_writes_60 (by decide) ?_
    refine lv_iadd hx hb dX9_writes_61 ?_
    refine va_put (ci := 11) (v := .int (x_entries + 1)) (ty := .int) (C := RX9) (T := TX9) (N := 47) hx hb hts inw_X9_writes_X9 tyX9 tyX9_ok nmX9 hown hK hP hD hS 0 rfl rfl 20 (by decide) (hts (.fieldLink RX9 224 "DockCallModel" "entries" "I") (by decide +kernel)) (fun _ h9 => h9) rfl (by decide +kernel) rfl rfl (Nat.le_of_ble_eq_true rfl) dX9_writes_62 (fun H locs hP hD hS => ?_)
    have hP : va_P D vwCl [(ce_xm bd x_thrown x_men x_ships (x_entries + 1) x_rules x_calls x_gangs x_idle x_moved (x_paid + p1.toInt64) x_taped x_at x_end x_begin x_faultAt x_wants), ((bd 15), .inl (y 0, 800, .inl (upd x_eCall x_entries.toNatClampNeg x_calls))), ((bd 16), .inl (y 0, 800, .inl (upd x_eMan x_entries.toNatClampNeg p0))), ((bd 17), .inl (y 0, 800, .inl (upd x_eMoney x_entries.toNatClampNeg p1)))] H := hP
    have hD : va_D A [(ce_xm bd x_thrown x_men x_ships (x_entries + 1) x_rules x_calls x_gangs x_idle x_moved (x_paid + p1.toInt64) x_taped x_at x_end x_begin x_faultAt x_wants), ((bd 15), .inl (y 0, 800, .inl (upd x_eCall x_entries.toNatClampNeg x_calls))), ((bd 16), .inl (y 0, 800, .inl (upd x_eMan x_entries.toNatClampNeg p0))), ((bd 17), .inl (y 0, 800, .inl (upd x_eMoney x_entries.toNatClampNeg p1)))] := hD
    exact W.vret hx hb hr (fun t ht hW => ⟨⟨(x_entries + 1, x_paid + p1.toInt64, upd x_eCall x_entries.toNatClampNeg x_calls, upd x_eMan x_entries.toNatClampNeg p0, upd x_eMoney x_entries.toNatClampNeg p1), rfl, hw, mAt.to hP hK hD ht hW⟩, hS.F ht⟩) hS.2.2 dX9_writes_65
  · have hw := hw.1 hc
    exact W.vret hx hb hr (fun t ht hW => ⟨⟨(x_entries, x_paid + p1.toInt64, x_eCall, x_eMan, x_eMoney), rfl, hw, mAt.to hP hK hD ht hW⟩, hS.F ht⟩) hS.2.2 dX9_writes_21
theorem inw_X9_works_X9 : ∀ w ∈ wsX90, w ∈ wsX9_works := fun _ h => List.mem_cons_of_mem _ (List.mem_append_left _ (List.mem_append_right _ h))
def wp_Model_works_h176 (v1 : Int32) (v2 : Int32) (v7 : Int32) (x_calls : Int32) (x_moved : Int64) (x_tons : Nat → Int32) (x_says : Nat → Int32) (x_gang : Nat → Int32)  (Q : Int32 → Int64 → Int64 → (Nat → Int32) → (Nat → Int32) → (Nat → Int32) → (Nat → Int32) → (Nat → Int32) → (Nat → Int32) → (Nat → Int32) → (Nat → Int32) → Prop) : Nat → Int32 → Int32 → Int64 → (Nat → Int32) → (Nat → Int32) → (Nat → Int32) → (Nat → Int32) → (Nat → Int32) → (Nat → Int32) → (Nat → Int32) → Prop
  | 0, _, _, _, _, _, _, _, _, _, _ => False
  | n + 1, v8, x_entries, x_paid, x_turns, x_atShip, x_atHatch, x_eCall, x_eMan, x_eMoney, x_isIn => ((x_says (0 : Int32).toNatClampNeg ≤ v8 → Q x_entries x_moved x_paid x_turns x_atShip x_atHatch x_tons x_eCall x_eMan x_eMoney x_isIn) ∧ (¬ x_says (0 : Int32).toNatClampNeg ≤ v8 → (vp_in v8 8 ∧ (vp_in (x_gang v8.toNatClampNeg) 24 ∧ (vp_in (x_gang v8.toNatClampNeg) 24 ∧ (vp_in (x_gang v8.toNatClampNeg) 24 ∧ (vp_in (x_gang v8.toNatClampNeg) 24 ∧ (vp_in (x_gang v8.toNatClampNeg) 24 ∧ (wp_Model_writes x_entries x_calls x_paid x_eCall x_eMan x_eMoney (x_gang v8.toNatClampNeg) v7 (fun x_entries_1 x_paid_2 x_eCall_3 x_eMan_4 x_eMoney_5 => wp_Model_works_h176 v1 v2 v7 x_calls x_moved x_tons x_says x_gang Q n (v8 + 1) x_entries_1 x_paid_2 (upd x_turns (x_gang v8.toNatClampNeg).toNatClampNeg ((x_turns (x_gang v8.toNatClampNeg).toNatClampNeg) + 1)) (upd x_atShip (x_gang v8.toNatClampNeg).toNatClampNeg v1) (upd x_atHatch (x_gang v8.toNatClampNeg).toNatClampNeg v2) x_eCall_3 x_eMan_4 x_eMoney_5 (upd x_isIn (x_gang v8.toNatClampNeg).toNatClampNeg (vp_nar .boolean 1))))))))))))
def wp_Model_works_h16 (v1 : Int32) (v2 : Int32) (v3 : Int32) (v4 : Int32) (x_entries : Int32) (x_calls : Int32) (x_paid : Int64) (x_turns : Nat → Int32) (x_atShip : Nat → Int32) (x_atHatch : Nat → Int32) (x_skill : Nat → Int32) (x_isDry : Nat → Int32) (x_says : Nat → Int32) (x_eCall : Nat → Int32) (x_eMan : Nat → Int32) (x_eMoney : Nat → Int32) (x_isIn : Nat → Int32) (x_gang : Nat → Int32)  (Q : Int32 → Int64 → Int64 → (Nat → Int32) → (Nat → Int32) → (Nat → Int32) → (Nat → Int32) → (Nat → Int32) → (Nat → Int32) → (Nat → Int32) → (Nat → Int32) → Prop) : Nat → Int32 → Int32 → Int32 → Int64 → (Nat → Int32) → Prop
  | 0, _, _, _, _, _ => False
  | n + 1, v5, v6, v7, x_moved, x_tons => ((4 ≤ v7 → (∃ n' : Nat, wp_Model_works_h176 v1 v2 ((((x_says (3 : Int32).toNatClampNeg) * v5) + ((((x_says (3 : Int32).toNatClampNeg) * v6) * (x_says (4 : Int32).toNatClampNeg)) / 100)) + ((x_says (3 : Int32).toNatClampNeg) * (if (0 : Int32) < (((x_says (5 : Int32).toNatClampNeg) - v5) - v6) then (((x_says (5 : Int32).toNatClampNeg) - v5) - v6) else 0))) x_calls x_moved x_tons x_says x_gang Q n' 0 x_entries x_paid x_turns x_atShip x_atHatch x_eCall x_eMan x_eMoney x_isIn)) ∧ (¬ 4 ≤ v7 → (vp_in v4 40 ∧ ((x_tons v4.toNatClampNeg ≤ 0 → (∃ n' : Nat, wp_Model_works_h176 v1 v2 ((((x_says (3 : Int32).toNatClampNeg) * v5) + ((((x_says (3 : Int32).toNatClampNeg) * v6) * (x_says (4 : Int32).toNatClampNeg)) / 100)) + ((x_says (3 : Int32).toNatClampNeg) * (if (0 : Int32) < (((x_says (5 : Int32).toNatClampNeg) - v5) - v6) then (((x_says (5 : Int32).toNatClampNeg) - v5) - v6) else 0))) x_calls x_moved x_tons x_says x_gang Q n' 0 x_entries x_paid x_turns x_atShip x_atHatch x_eCall x_eMan x_eMoney x_isIn)) ∧ (¬ x_tons v4.toNatClampNeg ≤ 0 → (vp_in v4 40 ∧ ((x_isDry v4.toNatClampNeg = 0 → (vp_in v4 40 ∧ (vp_in (7 + (x_skill v4.toNatClampNeg)) 11 ∧ (vp_in v4 40 ∧ (vp_in v4 40 ∧ (vp_in v4 40 ∧ wp_Model_works_h16 v1 v2 v3 v4 x_entries x_calls x_paid x_turns x_atShip x_atHatch x_skill x_isDry x_says x_eCall x_eMan x_eMoney x_isIn x_gang Q n (v5 + 1) v6 (v7 + 1) (x_moved + ((if (x_tons v4.toNatClampNeg) < (x_says (7 + (x_skill v4.toNatClampNeg)).toNatClampNeg) then (x_tons v4.toNatClampNeg) else (x_says (7 + (x_skill v4.toNatClampNeg)).toNatClampNeg)).toInt64)) (upd x_tons v4.toNatClampNeg ((x_tons v4.toNatClampNeg) - (if (x_tons v4.toNatClampNeg) < (x_says (7 + (x_skill v4.toNatClampNeg)).toNatClampNeg) then (x_tons v4.toNatClampNeg) else (x_says (7 + (x_skill v4.toNatClampNeg)).toNatClampNeg)))))))))) ∧ (¬ x_isDry v4.toNatClampNeg = 0 → (((v3 >>> (v7 &&& 31)) &&& 1 = 1 → wp_Model_works_h16 v1 v2 v3 v4 x_entries x_calls x_paid x_turns x_atShip x_atHatch x_skill x_isDry x_says x_eCall x_eMan x_eMoney x_isIn x_gang Q n v5 (v6 + 1) (v7 + 1) x_moved x_tons) ∧ (¬ (v3 >>> (v7 &&& 31)) &&& 1 = 1 → (vp_in v4 40 ∧ (vp_in (7 + (x_skill v4.toNatClampNeg)) 11 ∧ (vp_in v4 40 ∧ (vp_in v4 40 ∧ (vp_in v4 40 ∧ wp_Model_works_h16 v1 v2 v3 v4 x_entries x_calls x_paid x_turns x_atShip x_atHatch x_skill x_isDry x_says x_eCall x_eMan x_eMoney x_isIn x_gang Q n (v5 + 1) v6 (v7 + 1) (x_moved + ((if (x_tons v4.toNatClampNeg) < (x_says (7 + (x_skill v4.toNatClampNeg)).toNatClampNeg) then (x_tons v4.toNatClampNeg) else (x_says (7 + (x_skill v4.toNatClampNeg)).toNatClampNeg)).toInt64)) (upd x_tons v4.toNatClampNeg ((x_tons v4.toNatClampNeg) - (if (x_tons v4.toNatClampNeg) < (x_says (7 + (x_skill v4.toNatClampNeg)).toNatClampNeg) then (x_tons v4.toNatClampNeg) else (x_says (7 + (x_skill v4.toNatClampNeg)).toNatClampNeg)))))))))))))))))))
def wp_Model_works (x_entries : Int32) (x_calls : Int32) (x_moved : Int64) (x_paid : Int64) (x_turns : Nat → Int32) (x_atShip : Nat → Int32) (x_atHatch : Nat → Int32) (x_tons : Nat → Int32) (x_skill : Nat → Int32) (x_isDry : Nat → Int32) (x_says : Nat → Int32) (x_eCall : Nat → Int32) (x_eMan : Nat → Int32) (x_eMoney : Nat → Int32) (x_isIn : Nat → Int32) (x_gang : Nat → Int32) (p0 : Int32) (p1 : Int32) (p2 : Int32) (Q : Int32 → Int64 → Int64 → (Nat → Int32) → (Nat → Int32) → (Nat → Int32) → (Nat → Int32) → (Nat → Int32) → (Nat → Int32) → (Nat → Int32) → (Nat → Int32) → Prop) : Prop := (∃ n' : Nat, wp_Model_works_h16 p0 p1 p2 ((4 * p0) + p1) x_entries x_calls x_paid x_turns x_atShip x_atHatch x_skill x_isDry x_says x_eCall x_eMan x_eMoney x_isIn x_gang Q n' 0 0 0 x_moved x_tons)
set_option maxHeartbeats 4000000 in
set_option maxRecDepth 100000 in
theorem c_Model_works_h176 {p : Program} {l : Launch} {e : Env} {s : State} {m : MethodId} {args : Array Value} {below : List Frame} {meth : Method} {c : Code} {D : va_G} {y : Nat → ClassId} {bd : Nat → Nat} {A : Nat → Prop} (hx : p.tables.exec = Jvm.exec) (hb : c.code = cX9_works) (hr : meth.sig.returnType = none) (hml : c.maxLocals = 10) (hown : s.vm.findClass RX9 = some m.cls) (hts : ∀ w ∈ wsX9_works, w.before args s = true) (hlocks : meth.locks = false) (hK : va_K D vwCl (TY y) s) (hE : EV s) (hA : ∀ q, s.heap.size ≤ q → A q) {v1 : Int32} {v2 : Int32} {v3 : Int32} {v4 : Int32} {v5 : Int32} {v6 : Int32} {v7 : Int32} {x_calls : Int32} {x_moved : Int64} {x_tons : Nat → Int32} {x_skill : Nat → Int32} {x_isDry : Nat → Int32} {x_says : Nat → Int32} {x_gang : Nat → Int32} {x_thrown : Int32} {x_men : Int32} {x_ships : Int32} {x_rules : Int32} {x_gangs : Int32} {x_idle : Int32} {x_taped : Int32} {x_at : Int32} {x_end : Int32} {x_begin : Int32} {x_faultAt : Int32} {x_wants : Int32}  {Q : Int32 → Int64 → Int64 → (Nat → Int32) → (Nat → Int32) → (Nat → Int32) → (Nat → Int32) → (Nat → Int32) → (Nat → Int32) → (Nat → Int32) → (Nat → Int32) → Prop}  : ∀ (n : Nat) (v8 : Int32) (x_entries : Int32) (x_paid : Int64) (x_turns : Nat → Int32) (x_atShip : Nat → Int32) (x_atHatch : Nat → Int32) (x_eCall : Nat → Int32) (x_eMan : Nat → Int32) (x_eMoney : Nat → Int32) (x_isIn : Nat → Int32), wp_Model_works_h176 v1 v2 v7 x_calls x_moved x_tons x_says x_gang Q n v8 x_entries x_paid x_turns x_atShip x_atHatch x_eCall x_eMan x_eMoney x_isIn → ∀ (H : Heap) (locs : List Loc) (ls : Array Slot), va_P D vwCl [(ce_xm bd x_thrown x_men x_ships x_entries x_rules x_calls x_gangs x_idle x_moved x_paid x_taped x_at x_end x_begin x_faultAt x_wants), ((bd 2), .inl (y 0, 24, .inl x_turns)), ((bd 5), .inl (y 0, 24, .inl x_atShip)), ((bd 6), .inl (y 0, 24, .inl x_atHatch)), ((bd 10), .inl (y 0, 40, .inl x_tons)), ((bd 11), .inl (y 0, 40, .inl x_skill)), ((bd 12), .inl (y 2, 40, .inl x_isDry)), ((bd 13), .inl (y 0, 11, .inl x_says)), ((bd 15), .inl (y 0, 800, .inl x_eCall)), ((bd 16), .inl (y 0, 800, .inl x_eMan)), ((bd 17), .inl (y 0, 800, .inl x_eMoney)), ((bd 25), .inl (y 2, 24, .inl x_isIn)), ((bd 27), .inl (y 0, 8, .inl x_gang))] H → va_D A [(ce_xm bd x_thrown x_men x_ships x_entries x_rules x_calls x_gangs x_idle x_moved x_paid x_taped x_at x_end x_begin x_faultAt x_wants), ((bd 2), .inl (y 0, 24, .inl x_turns)), ((bd 5), .inl (y 0, 24, .inl x_atShip)), ((bd 6), .inl (y 0, 24, .inl x_atHatch)), ((bd 10), .inl (y 0, 40, .inl x_tons)), ((bd 11), .inl (y 0, 40, .inl x_skill)), ((bd 12), .inl (y 2, 40, .inl x_isDry)), ((bd 13), .inl (y 0, 11, .inl x_says)), ((bd 15), .inl (y 0, 800, .inl x_eCall)), ((bd 16), .inl (y 0, 800, .inl x_eMan)), ((bd 17), .inl (y 0, 800, .inl x_eMoney)), ((bd 25), .inl (y 2, 24, .inl x_isIn)), ((bd 27), .inl (y 0, 8, .inl x_gang))] → va_S A s.heap H locs → lv_has ls 10 [(8, .int v8), (7, .int v7), (6, .int v6), (5, .int v5), (4, .int v4), (0, .ref (bd 0)), (1, .int v1), (2, .int v2), (3, .int v3)] → W p l e ({ frames := 1, cells := 0, slots := 0, locals := 24 }) s m args below meth c H locs 0 0 (MQ below (va_Qv (fun (u : Int32 × Int64 × Int64 × (Nat → Int32) × (Nat → Int32) × (Nat → Int32) × (Nat → Int32) × (Nat → Int32) × (Nat → Int32) × (Nat → Int32) × (Nat → Int32)) => Q u.1 u.2.1 u.2.2.1 u.2.2.2.1 u.2.2.2.2.1 u.2.2.2.2.2.1 u.2.2.2.2.2.2.1 u.2.2.2.2.2.2.2.1 u.2.2.2.2.2.2.2.2.1 u.2.2.2.2.2.2.2.2.2.1 u.2.2.2.2.2.2.2.2.2.2) (mAt D y A (fun (u : Int32 × Int64 × Int64 × (Nat → Int32) × (Nat → Int32) × (Nat → Int32) × (Nat → Int32) × (Nat → Int32) × (Nat → Int32) × (Nat → Int32) × (Nat → Int32)) => [(ce_xm bd x_thrown x_men x_ships u.1 x_rules x_calls x_gangs x_idle u.2.1 u.2.2.1 x_taped x_at x_end x_begin x_faultAt x_wants), ((bd 2), .inl (y 0, 24, .inl u.2.2.2.1)), ((bd 5), .inl (y 0, 24, .inl u.2.2.2.2.1)), ((bd 6), .inl (y 0, 24, .inl u.2.2.2.2.2.1)), ((bd 10), .inl (y 0, 40, .inl u.2.2.2.2.2.2.1)), ((bd 11), .inl (y 0, 40, .inl x_skill)), ((bd 12), .inl (y 2, 40, .inl x_isDry)), ((bd 13), .inl (y 0, 11, .inl x_says)), ((bd 15), .inl (y 0, 800, .inl u.2.2.2.2.2.2.2.1)), ((bd 16), .inl (y 0, 800, .inl u.2.2.2.2.2.2.2.2.1)), ((bd 17), .inl (y 0, 800, .inl u.2.2.2.2.2.2.2.2.2.1)), ((bd 25), .inl (y 2, 24, .inl u.2.2.2.2.2.2.2.2.2.2)), ((bd 27), .inl (y 0, 8, .inl x_gang))])) A) args s 0 0 A) (F0 m 176 ls []) := by
  intro n
  induction n with
  | zero => intro v8 x_entries x_paid x_turns x_atShip x_atHatch x_eCall x_eMan x_eMoney x_isIn hw; rw [wp_Model_works_h176] at hw; exact hw.elim
  | succ n ih =>
    intro v8 x_entries x_paid x_turns x_atShip x_atHatch x_eCall x_eMan x_eMoney x_isIn hw H locs ls hP hD hS hl
    rw [wp_Model_works_h176] at hw
    refine lv_iload hx hb dX9_works_176 (lv_at hl 0 rfl) ?_
    refine lv_aload_n hx hb dX9_works_178 rfl (lv_at hl 5 rfl) ?_
    refine va_get (ci := 11) (v := .ref (bd 13)) (C := RX9) (T := TX9) (N := 47) hx hb hts inw_X9_works_X9 hown hK hP 0 rfl rfl 15 (by decide) (hts (.fieldLink RX9 47 "DockCallModel" "says" "[I") (by decide +kernel)) (fun _ h9 => h9) rfl dX9_works_179 ?_
    refine lv_iconst (v := 0) hx hb dX9_works_182 (by decide) ?_
    refine va_iald hx hb hK hP 7 0 rfl rfl (by unfold vp_in; decide) dX9_works_183 ?_
    refine lv_icmp_ge (tgt := 245) hx hb dX9_works_184 (by decide) (fun hc => ?_) (fun hc => ?_)
    · have hw := hw.1 hc
      exact W.vret hx hb hr (fun t ht hW => ⟨⟨(x_entries, x_moved, x_paid, x_turns, x_atShip, x_atHatch, x_tons, x_eCall, x_eMan, x_eMoney, x_isIn), rfl, hw, mAt.to hP hK hD ht hW⟩, hS.F ht⟩) hS.2.2 dX9_works_245
    · have hw := hw.2 hc
      refine lv_aload_n hx hb dX9_works_187 rfl (lv_at hl 5 rfl) ?_
      refine va_get (ci := 11) (v := .ref (bd 27)) (C := RX9) (T := TX9) (N := 47) hx hb hts inw_X9_works_X9 hown hK hP 0 rfl rfl 41 (by decide) (hts (.fieldLink RX9 94 "DockCallModel" "gang" "[I") (by decide +kernel)) (fun _ h9 => h9) rfl dX9_works_188 ?_
      refine lv_iload hx hb dX9_works_191 (lv_at hl 0 rfl) ?_
      obtain ⟨hi, hw⟩ := hw
      refine va_iald hx hb hK hP 12 0 rfl rfl hi dX9_works_193 ?_
      refine lv_istore (lv' := [(9, .int (x_gang v8.toNatClampNeg)), (8, .int v8), (7, .int v7), (6, .int v6), (5, .int v5), (4, .int v4), (0, .ref (bd 0)), (1, .int v1), (2, .int v2), (3, .int v3)]) hx hb dX9_works_194 hl (by decide) rfl (fun ls hl => ?_)
      refine lv_aload_n hx hb dX9_works_196 rfl (lv_at hl 6 rfl) ?_
      refine va_get (ci := 11) (v := .ref (bd 25)) (C := RX9) (T := TX9) (N := 47) hx hb hts inw_X9_works_X9 hown hK hP 0 rfl rfl 39 (by decide) (hts (.fieldLink RX9 88 "DockCallModel" "isIn" "[Z") (by decide +kernel)) (fun _ h9 => h9) rfl dX9_works_197 ?_
      refine lv_iload hx hb dX9_works_200 (lv_at hl 0 rfl) ?_
      refine lv_iconst (v := 1) hx hb dX9_works_202 (by decide) ?_
      obtain ⟨hi, hw⟩ := hw
      refine va_zast hx hb hK hP hD hS 11 2 rfl rfl hi dX9_works_203 (fun H locs hP hD hS => ?_)
      have hP : va_P D vwCl [(ce_xm bd x_thrown x_men x_ships x_entries x_rules x_calls x_gangs x_idle x_moved x_paid x_taped x_at x_end x_begin x_faultAt x_wants), ((bd 2), .inl (y 0, 24, .inl x_turns)), ((bd 5), .inl (y 0, 24, .inl x_atShip)), ((bd 6), .inl (y 0, 24, .inl x_atHatch)), ((bd 10), .inl (y 0, 40, .inl x_tons)), ((bd 11), .inl (y 0, 40, .inl x_skill)), ((bd 12), .inl (y 2, 40, .inl x_isDry)), ((bd 13), .inl (y 0, 11, .inl x_says)), ((bd 15), .inl (y 0, 800, .inl x_eCall)), ((bd 16), .inl (y 0, 800, .inl x_eMan)), ((bd 17), .inl (y 0, 800, .inl x_eMoney)), ((bd 25), .inl (y 2, 24, .inl (upd x_isIn (x_gang v8.toNatClampNeg).toNatClampNeg (vp_nar .boolean 1)))), ((bd 27), .inl (y 0, 8, .inl x_gang))] H := hP
      have hD : va_D A [(ce_xm bd x_thrown x_men x_ships x_entries x_rules x_calls x_gangs x_idle x_moved x_paid x_taped x_at x_end x_begin x_faultAt x_wants), ((bd 2), .inl (y 0, 24, .inl x_turns)), ((bd 5), .inl (y 0, 24, .inl x_atShip)), ((bd 6), .inl (y 0, 24, .inl x_atHatch)), ((bd 10), .inl (y 0, 40, .inl x_tons)), ((bd 11), .inl (y 0, 40, .inl x_skill)), ((bd 12), .inl (y 2, 40, .inl x_isDry)), ((bd 13), .inl (y 0, 11, .inl x_says)), ((bd 15), .inl (y 0, 800, .inl x_eCall)), ((bd 16), .inl (y 0, 800, .inl x_eMan)), ((bd 17), .inl (y 0, 800, .inl x_eMoney)), ((bd 25), .inl (y 2, 24, .inl (upd x_isIn (x_gang v8.toNatClampNeg).toNatClampNeg (vp_nar .boolean 1)))), ((bd 27), .inl (y 0, 8, .inl x_gang))] := hD
      refine lv_aload_n hx hb dX9_works_204 rfl (lv_at hl 6 rfl) ?_
      refine va_get (ci := 11) (v := .ref (bd 5)) (C := RX9) (T := TX9) (N := 47) hx hb hts inw_X9_works_X9 hown hK hP 0 rfl rfl 5 (by decide) (hts (.fieldLink RX9 22 "DockCallModel" "atShip" "[I") (by decide +kernel)) (fun _ h9 => h9) rfl dX9_works_205 ?_
      refine lv_iload hx hb dX9_works_208 (lv_at hl 0 rfl) ?_
      refine lv_iload_n hx hb dX9_works_210 rfl (lv_at hl 7 rfl) ?_
      obtain ⟨hi, hw⟩ := hw
      refine va_iast hx hb hK hP hD hS 2 0 rfl rfl hi dX9_works_211 (fun H locs hP hD hS => ?_)
      have hP : va_P D vwCl [(ce_xm bd x_thrown x_men x_ships x_entries x_rules x_calls x_gangs x_idle x_moved x_paid x_taped x_at x_end x_begin x_faultAt x_wants), ((bd 2), .inl (y 0, 24, .inl x_turns)), ((bd 5), .inl (y 0, 24, .inl (upd x_atShip (x_gang v8.toNatClampNeg).toNatClampNeg v1))), ((bd 6), .inl (y 0, 24, .inl x_atHatch)), ((bd 10), .inl (y 0, 40, .inl x_tons)), ((bd 11), .inl (y 0, 40, .inl x_skill)), ((bd 12), .inl (y 2, 40, .inl x_isDry)), ((bd 13), .inl (y 0, 11, .inl x_says)), ((bd 15), .inl (y 0, 800, .inl x_eCall)), ((bd 16), .inl (y 0, 800, .inl x_eMan)), ((bd 17), .inl (y 0, 800, .inl x_eMoney)), ((bd 25), .inl (y 2, 24, .inl (upd x_isIn (x_gang v8.toNatClampNeg).toNatClampNeg (vp_nar .boolean 1)))), ((bd 27), .inl (y 0, 8, .inl x_gang))] H := hP
      have hD : va_D A [(ce_xm bd x_thrown x_men x_ships x_entries x_rules x_calls x_gangs x_idle x_moved x_paid x_taped x_at x_end x_begin x_faultAt x_wants), ((bd 2), .inl (y 0, 24, .inl x_turns)), ((bd 5), .inl (y 0, 24, .inl (upd x_atShip (x_gang v8.toNatClampNeg).toNatClampNeg v1))), ((bd 6), .inl (y 0, 24, .inl x_atHatch)), ((bd 10), .inl (y 0, 40, .inl x_tons)), ((bd 11), .inl (y 0, 40, .inl x_skill)), ((bd 12), .inl (y 2, 40, .inl x_isDry)), ((bd 13), .inl (y 0, 11, .inl x_says)), ((bd 15), .inl (y 0, 800, .inl x_eCall)), ((bd 16), .inl (y 0, 800, .inl x_eMan)), ((bd 17), .inl (y 0, 800, .inl x_eMoney)), ((bd 25), .inl (y 2, 24, .inl (upd x_isIn (x_gang v8.toNatClampNeg).toNatClampNeg (vp_nar .boolean 1)))), ((bd 27), .inl (y 0, 8, .inl x_gang))] := hD
      refine lv_aload_n hx hb dX9_works_212 rfl (lv_at hl 6 rfl) ?_
      refine va_get (ci := 11) (v := .ref (bd 6)) (C := RX9) (T := TX9) (N := 47) hx hb hts inw_X9_works_X9 hown hK hP 0 rfl rfl 6 (by decide) (hts (.fieldLink RX9 25 "DockCallModel" "atHatch" "[I") (by decide +kernel)) (fun _ h9 => h9) rfl dX9_works_213 ?_
      refine lv_iload hx hb dX9_works_216 (lv_at hl 0 rfl) ?_
      refine lv_iload_n hx hb dX9_works_218 rfl (lv_at hl 8 rfl) ?_
      obtain ⟨hi, hw⟩ := hw
      refine va_iast hx hb hK hP hD hS 3 0 rfl rfl hi dX9_works_219 (fun H locs hP hD hS => ?_)
      have hP : va_P D vwCl [(ce_xm bd x_thrown x_men x_ships x_entries x_rules x_calls x_gangs x_idle x_moved x_paid x_taped x_at x_end x_begin x_faultAt x_wants), ((bd 2), .inl (y 0, 24, .inl x_turns)), ((bd 5), .inl (y 0, 24, .inl (upd x_atShip (x_gang v8.toNatClampNeg).toNatClampNeg v1))), ((bd 6), .inl (y 0, 24, .inl (upd x_atHatch (x_gang v8.toNatClampNeg).toNatClampNeg v2))), ((bd 10), .inl (y 0, 40, .inl x_tons)), ((bd 11), .inl (y 0, 40, .inl x_skill)), ((bd 12), .inl (y 2, 40, .inl x_isDry)), ((bd 13), .inl (y 0, 11, .inl x_says)), ((bd 15), .inl (y 0, 800, .inl x_eCall)), ((bd 16), .inl (y 0, 800, .inl x_eMan)), ((bd 17), .inl (y 0, 800, .inl x_eMoney)), ((bd 25), .inl (y 2, 24, .inl (upd x_isIn (x_gang v8.toNatClampNeg).toNatClampNeg (vp_nar .boolean 1)))), ((bd 27), .inl (y 0, 8, .inl x_gang))] H := hP
      have hD : va_D A [(ce_xm bd x_thrown x_men x_ships x_entries x_rules x_calls x_gangs x_idle x_moved x_paid x_taped x_at x_end x_begin x_faultAt x_wants), ((bd 2), .inl (y 0, 24, .inl x_turns)), ((bd 5), .inl (y 0, 24, .inl (upd x_atShip (x_gang v8.toNatClampNeg).toNatClampNeg v1))), ((bd 6), .inl (y 0, 24, .inl (upd x_atHatch (x_gang v8.toNatClampNeg).toNatClampNeg v2))), ((bd 10), .inl (y 0, 40, .inl x_tons)), ((bd 11), .inl (y 0, 40, .inl x_skill)), ((bd 12), .inl (y 2, 40, .inl x_isDry)), ((bd 13), .inl (y 0, 11, .inl x_says)), ((bd 15), .inl (y 0, 800, .inl x_eCall)), ((bd 16), .inl (y 0, 800, .inl x_eMan)), ((bd 17), .inl (y 0, 800, .inl x_eMoney)), ((bd 25), .inl (y 2, 24, .inl (upd x_isIn (x_gang v8.toNatClampNeg).toNatClampNeg (vp_nar .boolean 1)))), ((bd 27), .inl (y 0, 8, .inl x_gang))] := hD
      refine lv_aload_n hx hb dX9_works_220 rfl (lv_at hl 6 rfl) ?_
      refine va_get (ci := 11) (v := .ref (bd 2)) (C := RX9) (T := TX9) (N := 47) hx hb hts inw_X9_works_X9 hown hK hP 0 rfl rfl 2 (by decide) (hts (.fieldLink RX9 13 "DockCallModel" "turns" "[I") (by decide +kernel)) (fun _ h9 => h9) rfl dX9_works_221 ?_
      refine lv_iload hx hb dX9_works_224 (lv_at hl 0 rfl) ?_
      refine lv_dup2_11 hx hb dX9_works_226 rfl rfl ?_
      obtain ⟨hi, hw⟩ := hw
      refine va_iald hx hb hK hP 1 0 rfl rfl hi dX9_works_227 ?_
      refine lv_iconst (v := 1) hx hb dX9_works_228 (by decide) ?_
      refine lv_iadd hx hb dX9_works_229 ?_
      obtain ⟨hi, hw⟩ := hw
      refine va_iast hx hb hK hP hD hS 1 0 rfl rfl hi dX9_works_230 (fun H locs hP hD hS => ?_)
      have hP : va_P D vwCl [(ce_xm bd x_thrown x_men x_ships x_entries x_rules x_calls x_gangs x_idle x_moved x_paid x_taped x_at x_end x_begin x_faultAt x_wants), ((bd 2), .inl (y 0, 24, .inl (upd x_turns (x_gang v8.toNatClampNeg).toNatClampNeg ((x_turns (x_gang v8.toNatClampNeg).toNatClampNeg) + 1)))), ((bd 5), .inl (y 0, 24, .inl (upd x_atShip (x_gang v8.toNatClampNeg).toNatClampNeg v1))), ((bd 6), .inl (y 0, 24, .inl (upd x_atHatch (x_gang v8.toNatClampNeg).toNatClampNeg v2))), ((bd 10), .inl (y 0, 40, .inl x_tons)), ((bd 11), .inl (y 0, 40, .inl x_skill)), ((bd 12), .inl (y 2, 40, .inl x_isDry)), ((bd 13), .inl (y 0, 11, .inl x_says)), ((bd 15), .inl (y 0, 800, .inl x_eCall)), ((bd 16), .inl (y 0, 800, .inl x_eMan)), ((bd 17), .inl (y 0, 800, .inl x_eMoney)), ((bd 25), .inl (y 2, 24, .inl (upd x_isIn (x_gang v8.toNatClampNeg).toNatClampNeg (vp_nar .boolean 1)))), ((bd 27), .inl (y 0, 8, .inl x_gang))] H := hP
      have hD : va_D A [(ce_xm bd x_thrown x_men x_ships x_entries x_rules x_calls x_gangs x_idle x_moved x_paid x_taped x_at x_end x_begin x_faultAt x_wants), ((bd 2), .inl (y 0, 24, .inl (upd x_turns (x_gang v8.toNatClampNeg).toNatClampNeg ((x_turns (x_gang v8.toNatClampNeg).toNatClampNeg) + 1)))), ((bd 5), .inl (y 0, 24, .inl (upd x_atShip (x_gang v8.toNatClampNeg).toNatClampNeg v1))), ((bd 6), .inl (y 0, 24, .inl (upd x_atHatch (x_gang v8.toNatClampNeg).toNatClampNeg v2))), ((bd 10), .inl (y 0, 40, .inl x_tons)), ((bd 11), .inl (y 0, 40, .inl x_skill)), ((bd 12), .inl (y 2, 40, .inl x_isDry)), ((bd 13), .inl (y 0, 11, .inl x_says)), ((bd 15), .inl (y 0, 800, .inl x_eCall)), ((bd 16), .inl (y 0, 800, .inl x_eMan)), ((bd 17), .inl (y 0, 800, .inl x_eMoney)), ((bd 25), .inl (y 2, 24, .inl (upd x_isIn (x_gang v8.toNatClampNeg).toNatClampNeg (vp_nar .boolean 1)))), ((bd 27), .inl (y 0, 8, .inl x_gang))] := hD
      refine lv_aload_n hx hb dX9_works_231 rfl (lv_at hl 6 rfl) ?_
      refine lv_iload hx hb dX9_works_232 (lv_at hl 0 rfl) ?_
      refine lv_iload hx hb dX9_works_234 (lv_at hl 2 rfl) ?_
      refine mx_v (wc := [(ce_xm bd x_thrown x_men x_ships x_entries x_rules x_calls x_gangs x_idle x_moved x_paid x_taped x_at x_end x_begin x_faultAt x_wants), ((bd 15), .inl (y 0, 800, .inl x_eCall)), ((bd 16), .inl (y 0, 800, .inl x_eMan)), ((bd 17), .inl (y 0, 800, .inl x_eMoney))]) (wr := [((bd 2), .inl (y 0, 24, .inl (upd x_turns (x_gang v8.toNatClampNeg).toNatClampNeg ((x_turns (x_gang v8.toNatClampNeg).toNatClampNeg) + 1)))), ((bd 5), .inl (y 0, 24, .inl (upd x_atShip (x_gang v8.toNatClampNeg).toNatClampNeg v1))), ((bd 6), .inl (y 0, 24, .inl (upd x_atHatch (x_gang v8.toNatClampNeg).toNatClampNeg v2))), ((bd 10), .inl (y 0, 40, .inl x_tons)), ((bd 11), .inl (y 0, 40, .inl x_skill)), ((bd 12), .inl (y 2, 40, .inl x_isDry)), ((bd 13), .inl (y 0, 11, .inl x_says)), ((bd 25), .inl (y 2, 24, .inl (upd x_isIn (x_gang v8.toNatClampNeg).toNatClampNeg (vp_nar .boolean 1)))), ((bd 27), .inl (y 0, 8, .inl x_gang))]) hP hD hS hA [0, 8, 9, 10] [1, 2, 3, 4, 5, 6, 7, 11, 12] [9, 0, 1, 2, 3, 4, 5, 6, 10, 11, 12, 7, 8] rfl rfl (by decide) (by decide) (by decide) (fun (u : Int32 × Int64 × (Nat → Int32) × (Nat → Int32) × (Nat → Int32)) => [(ce_xm bd x_thrown x_men x_ships u.1 x_rules x_calls x_gangs x_idle x_moved u.2.1 x_taped x_at x_end x_begin x_faultAt x_wants), ((bd 2), .inl (y 0, 24, .inl (upd x_turns (x_gang v8.toNatClampNeg).toNatClampNeg ((x_turns (x_gang v8.toNatClampNeg).toNatClampNeg) + 1)))), ((bd 5), .inl (y 0, 24, .inl (upd x_atShip (x_gang v8.toNatClampNeg).toNatClampNeg v1))), ((bd 6), .inl (y 0, 24, .inl (upd x_atHatch (x_gang v8.toNatClampNeg).toNatClampNeg v2))), ((bd 10), .inl (y 0, 40, .inl x_tons)), ((bd 11), .inl (y 0, 40, .inl x_skill)), ((bd 12), .inl (y 2, 40, .inl x_isDry)), ((bd 13), .inl (y 0, 11, .inl x_says)), ((bd 15), .inl (y 0, 800, .inl u.2.2.1)), ((bd 16), .inl (y 0, 800, .inl u.2.2.2.1)), ((bd 17), .inl (y 0, 800, .inl u.2.2.2.2)), ((bd 25), .inl (y 2, 24, .inl (upd x_isIn (x_gang v8.toNatClampNeg).toNatClampNeg (vp_nar .boolean 1)))), ((bd 27), .inl (y 0, 8, .inl x_gang))]) (fun _ => rfl) (va_runV (As := [.int (x_gang v8.toNatClampNeg), .int v7]) (rest := []) ⟨hx, hb, hml, hown, hts⟩ (c_Model_writes l D y bd H.size x_thrown x_men x_ships x_entries x_rules x_calls x_gangs x_idle x_moved x_paid x_taped x_at x_end x_begin x_faultAt x_wants x_eCall x_eMan x_eMoney (x_gang v8.toNatClampNeg) v7 hw) (cwV 2 hts gX9_works_X9_writes rfl rfl rfl (by decide +kernel) ⟨Nat.le_of_ble_eq_true rfl, Nat.le_of_ble_eq_true rfl⟩) ⟨mPre.blind, (va_recv hK hP (ci := 11) (q0 := 0) rfl rfl), mPre.to (hP.sub [0, 8, 9, 10] rfl) hK (hD.sub [0, 8, 9, 10] (by decide) rfl) hE⟩ rfl rfl hl.1 rfl (lv_room (Nat.le_of_ble_eq_true rfl)) dX9_works_236 ⟨Nat.le_of_ble_eq_true rfl, Nat.le_of_ble_eq_true rfl⟩) (fun u H locs hw hP hD hS => ?_)
      obtain ⟨x_entries_1, x_paid_2, x_eCall_3, x_eMan_4, x_eMoney_5⟩ := u
      try dsimp only at hw
      have hP : va_P D vwCl [(ce_xm bd x_thrown x_men x_ships x_entries_1 x_rules x_calls x_gangs x_idle x_moved x_paid_2 x_taped x_at x_end x_begin x_faultAt x_wants), ((bd 2), .inl (y 0, 24, .inl (upd x_turns (x_gang v8.toNatClampNeg).toNatClampNeg ((x_turns (x_gang v8.toNatClampNeg).toNatClampNeg) + 1)))), ((bd 5), .inl (y 0, 24, .inl (upd x_atShip (x_gang v8.toNatClampNeg).toNatClampNeg v1))), ((bd 6), .inl (y 0, 24, .inl (upd x_atHatch (x_gang v8.toNatClampNeg).toNatClampNeg v2))), ((bd 10), .inl (y 0, 40, .inl x_tons)), ((bd 11), .inl (y 0, 40, .inl x_skill)), ((bd 12), .inl (y 2, 40, .inl x_isDry)), ((bd 13), .inl (y 0, 11, .inl x_says)), ((bd 15), .inl (y 0, 800, .inl x_eCall_3)), ((bd 16), .inl (y 0, 800, .inl x_eMan_4)), ((bd 17), .inl (y 0, 800, .inl x_eMoney_5)), ((bd 25), .inl (y 2, 24, .inl (upd x_isIn (x_gang v8.toNatClampNeg).toNatClampNeg (vp_nar .boolean 1)))), ((bd 27), .inl (y 0, 8, .inl x_gang))] H := hP
      have hD : va_D A [(ce_xm bd x_thrown x_men x_ships x_entries_1 x_rules x_calls x_gangs x_idle x_moved x_paid_2 x_taped x_at x_end x_begin x_faultAt x_wants), ((bd 2), .inl (y 0, 24, .inl (upd x_turns (x_gang v8.toNatClampNeg).toNatClampNeg ((x_turns (x_gang v8.toNatClampNeg).toNatClampNeg) + 1)))), ((bd 5), .inl (y 0, 24, .inl (upd x_atShip (x_gang v8.toNatClampNeg).toNatClampNeg v1))), ((bd 6), .inl (y 0, 24, .inl (upd x_atHatch (x_gang v8.toNatClampNeg).toNatClampNeg v2))), ((bd 10), .inl (y 0, 40, .inl x_tons)), ((bd 11), .inl (y 0, 40, .inl x_skill)), ((bd 12), .inl (y 2, 40, .inl x_isDry)), ((bd 13), .inl (y 0, 11, .inl x_says)), ((bd 15), .inl (y 0, 800, .inl x_eCall_3)), ((bd 16), .inl (y 0, 800, .inl x_eMan_4)), ((bd 17), .inl (y 0, 800, .inl x_eMoney_5)), ((bd 25), .inl (y 2, 24, .inl (upd x_isIn (x_gang v8.toNatClampNeg).toNatClampNeg (vp_nar .boolean 1)))), ((bd 27), .inl (y 0, 8, .inl x_gang))] := hD
      refine lv_iinc (v := v8 + 1) (lv' := [(8, .int (v8 + 1)), (9, .int (x_gang v8.toNatClampNeg)), (7, .int v7), (6, .int v6), (5, .int v5), (4, .int v4), (0, .ref (bd 0)), (1, .int v1), (2, .int v2), (3, .int v3)]) hx hb dX9_works_239 hl (k := 1) rfl (by first | rfl | decide) (by decide) rfl (fun ls hl => ?_)
      refine lv_goto (tgt := 176) hx hb dX9_works_242 (by decide) ?_
      exact ih (v8 + 1) x_entries_1 x_paid_2 (upd x_turns (x_gang v8.toNatClampNeg).toNatClampNeg ((x_turns (x_gang v8.toNatClampNeg).toNatClampNeg) + 1)) (upd x_atShip (x_gang v8.toNatClampNeg).toNatClampNeg v1) (upd x_atHatch (x_gang v8.toNatClampNeg).toNatClampNeg v2) x_eCall_3 x_eMan_4 x_eMoney_5 (upd x_isIn (x_gang v8.toNatClampNeg).toNatClampNeg (vp_nar .boolean 1)) hw _ _ _ hP hD hS (lv_sub hl [0, 2, 3, 4, 5, 6, 7, 8, 9] rfl)
set_option maxHeartbeats 4000000 in
set_option maxRecDepth 100000 in
theorem c_Model_works_h16 {p : Program} {l : Launch} {e : Env} {s : State} {m : MethodId} {args : Array Value} {below : List Frame} {meth : Method} {c : Code} {D : va_G} {y : Nat → ClassId} {bd : Nat → Nat} {A : Nat → Prop} (hx : p.tables.exec = Jvm.exec) (hb : c.code = cX9_works) (hr : meth.sig.returnType = none) (hml : c.maxLocals = 10) (hown : s.vm.findClass RX9 = some m.cls) (hts : ∀ w ∈ wsX9_works, w.before args s = true) (hlocks : meth.locks = false) (hK : va_K D vwCl (TY y) s) (hE : EV s) (hA : ∀ q, s.heap.size ≤ q → A q) {v1 : Int32} {v2 : Int32} {v3 : Int32} {v4 : Int32} {x_entries : Int32} {x_calls : Int32} {x_paid : Int64} {x_turns : Nat → Int32} {x_atShip : Nat → Int32} {x_atHatch : Nat → Int32} {x_skill : Nat → Int32} {x_isDry : Nat → Int32} {x_says : Nat → Int32} {x_eCall : Nat → Int32} {x_eMan : Nat → Int32} {x_eMoney : Nat → Int32} {x_isIn : Nat → Int32} {x_gang : Nat → Int32} {x_thrown : Int32} {x_men : Int32} {x_ships : Int32} {x_rules : Int32} {x_gangs : Int32} {x_idle : Int32} {x_taped : Int32} {x_at : Int32} {x_end : Int32} {x_begin : Int32} {x_faultAt : Int32} {x_wants : Int32}  {Q : Int32 → Int64 → Int64 → (Nat → Int32) → (Nat → Int32) → (Nat → Int32) → (Nat → Int32) → (Nat → Int32) → (Nat → Int32) → (Nat → Int32) → (Nat → Int32) → Prop}  : ∀ (n : Nat) (v5 : Int32) (v6 : Int32) (v7 : Int32) (x_moved : Int64) (x_tons : Nat → Int32), wp_Model_works_h16 v1 v2 v3 v4 x_entries x_calls x_paid x_turns x_atShip x_atHatch x_skill x_isDry x_says x_eCall x_eMan x_eMoney x_isIn x_gang Q n v5 v6 v7 x_moved x_tons → ∀ (H : Heap) (locs : List Loc) (ls : Array Slot), va_P D vwCl [(ce_xm bd x_thrown x_men x_ships x_entries x_rules x_calls x_gangs x_idle x_moved x_paid x_taped x_at x_end x_begin x_faultAt x_wants), ((bd 2), .inl (y 0, 24, .inl x_turns)), ((bd 5), .inl (y 0, 24, .inl x_atShip)), ((bd 6), .inl (y 0, 24, .inl x_atHatch)), ((bd 10), .inl (y 0, 40, .inl x_tons)), ((bd 11), .inl (y 0, 40, .inl x_skill)), ((bd 12), .inl (y 2, 40, .inl x_isDry)), ((bd 13), .inl (y 0, 11, .inl x_says)), ((bd 15), .inl (y 0, 800, .inl x_eCall)), ((bd 16), .inl (y 0, 800, .inl x_eMan)), ((bd 17), .inl (y 0, 800, .inl x_eMoney)), ((bd 25), .inl (y 2, 24, .inl x_isIn)), ((bd 27), .inl (y 0, 8, .inl x_gang))] H → va_D A [(ce_xm bd x_thrown x_men x_ships x_entries x_rules x_calls x_gangs x_idle x_moved x_paid x_taped x_at x_end x_begin x_faultAt x_wants), ((bd 2), .inl (y 0, 24, .inl x_turns)), ((bd 5), .inl (y 0, 24, .inl x_atShip)), ((bd 6), .inl (y 0, 24, .inl x_atHatch)), ((bd 10), .inl (y 0, 40, .inl x_tons)), ((bd 11), .inl (y 0, 40, .inl x_skill)), ((bd 12), .inl (y 2, 40, .inl x_isDry)), ((bd 13), .inl (y 0, 11, .inl x_says)), ((bd 15), .inl (y 0, 800, .inl x_eCall)), ((bd 16), .inl (y 0, 800, .inl x_eMan)), ((bd 17), .inl (y 0, 800, .inl x_eMoney)), ((bd 25), .inl (y 2, 24, .inl x_isIn)), ((bd 27), .inl (y 0, 8, .inl x_gang))] → va_S A s.heap H locs → lv_has ls 10 [(7, .int v7), (6, .int v6), (5, .int v5), (4, .int v4), (0, .ref (bd 0)), (1, .int v1), (2, .int v2), (3, .int v3)] → W p l e ({ frames := 1, cells := 0, slots := 0, locals := 24 }) s m args below meth c H locs 0 0 (MQ below (va_Qv (fun (u : Int32 × Int64 × Int64 × (Nat → Int32) × (Nat → Int32) × (Nat → Int32) × (Nat → Int32) × (Nat → Int32) × (Nat → Int32) × (Nat → Int32) × (Nat → Int32)) => Q u.1 u.2.1 u.2.2.1 u.2.2.2.1 u.2.2.2.2.1 u.2.2.2.2.2.1 u.2.2.2.2.2.2.1 u.2.2.2.2.2.2.2.1 u.2.2.2.2.2.2.2.2.1 u.2.2.2.2.2.2.2.2.2.1 u.2.2.2.2.2.2.2.2.2.2) (mAt D y A (fun (u : Int32 × Int64 × Int64 × (Nat → Int32) × (Nat → Int32) × (Nat → Int32) × (Nat → Int32) × (Nat → Int32) × (Nat → Int32) × (Nat → Int32) × (Nat → Int32)) => [(ce_xm bd x_thrown x_men x_ships u.1 x_rules x_calls x_gangs x_idle u.2.1 u.2.2.1 x_taped x_at x_end x_begin x_faultAt x_wants), ((bd 2), .inl (y 0, 24, .inl u.2.2.2.1)), ((bd 5), .inl (y 0, 24, .inl u.2.2.2.2.1)), ((bd 6), .inl (y 0, 24, .inl u.2.2.2.2.2.1)), ((bd 10), .inl (y 0, 40, .inl u.2.2.2.2.2.2.1)), ((bd 11), .inl (y 0, 40, .inl x_skill)), ((bd 12), .inl (y 2, 40, .inl x_isDry)), ((bd 13), .inl (y 0, 11, .inl x_says)), ((bd 15), .inl (y 0, 800, .inl u.2.2.2.2.2.2.2.1)), ((bd 16), .inl (y 0, 800, .inl u.2.2.2.2.2.2.2.2.1)), ((bd 17), .inl (y 0, 800, .inl u.2.2.2.2.2.2.2.2.2.1)), ((bd 25), .inl (y 2, 24, .inl u.2.2.2.2.2.2.2.2.2.2)), ((bd 27), .inl (y 0, 8, .inl x_gang))])) A) args s 0 0 A) (F0 m 16 ls []) := by
  intro n
  induction n with
  | zero => intro v5 v6 v7 x_moved x_tons hw; rw [wp_Model_works_h16] at hw; exact hw.elim
  | succ n ih =>
    intro v5 v6 v7 x_moved x_tons hw H locs ls hP hD hS hl
    rw [wp_Model_works_h16] at hw
    refine lv_iload hx hb dX9_works_16 (lv_at hl 0 rfl) ?_
    refine lv_iconst (v := 4) hx hb dX9_works_18 (by decide) ?_
    refine lv_icmp_ge (tgt := 118) hx hb dX9_works_19 (by decide) (fun hc => ?_) (fun hc => ?_)
    · have hw := hw.1 hc
      refine lv_aload_n hx hb dX9_works_118 rfl (lv_at hl 4 rfl) ?_
      refine va_get (ci := 11) (v := .ref (bd 13)) (C := RX9) (T := TX9) (N := 47) hx hb hts inw_X9_works_X9 hown hK hP 0 rfl rfl 15 (by decide) (hts (.fieldLink RX9 47 "DockCallModel" "says" "[I") (by decide +kernel)) (fun _ h9 => h9) rfl dX9_works_119 ?_
      refine lv_iconst (v := 3) hx hb dX9_works_122 (by decide) ?_
      refine va_iald hx hb hK hP 7 0 rfl rfl (by unfold vp_in; decide) dX9_works_123 ?_
      refine lv_iload hx hb dX9_works_124 (lv_at hl 2 rfl) ?_
      refine lv_imul hx hb dX9_works_126 ?_
      refine lv_aload_n hx hb dX9_works_127 rfl (lv_at hl 4 rfl) ?_
      refine va_get (ci := 11) (v := .ref (bd 13)) (C := RX9) (T := TX9) (N := 47) hx hb hts inw_X9_works_X9 hown hK hP 0 rfl rfl 15 (by decide) (hts (.fieldLink RX9 47 "DockCallModel" "says" "[I") (by decide +kernel)) (fun _ h9 => h9) rfl dX9_works_128 ?_
      refine lv_iconst (v := 3) hx hb dX9_works_131 (by decide) ?_
      refine va_iald hx hb hK hP 7 0 rfl rfl (by unfold vp_in; decide) dX9_works_132 ?_
      refine lv_iload hx hb dX9_works_133 (lv_at hl 1 rfl) ?_
      refine lv_imul hx hb dX9_works_135 ?_
      refine lv_aload_n hx hb dX9_works_136 rfl (lv_at hl 4 rfl) ?_
      refine va_get (ci := 11) (v := .ref (bd 13)) (C := RX9) (T := TX9) (N := 47) hx hb hts inw_X9_works_X9 hown hK hP 0 rfl rfl 15 (by decide) (hts (.fieldLink RX9 47 "DockCallModel" "says" "[I") (by decide +kernel)) (fun _ h9 => h9) rfl dX9_works_137 ?_
      refine lv_iconst (v := 4) hx hb dX9_works_140 (by decide) ?_
      refine va_iald hx hb hK hP 7 0 rfl rfl (by unfold vp_in; decide) dX9_works_141 ?_
      refine lv_imul hx hb dX9_works_142 ?_
      refine lv_bipush (v := 100) hx hb dX9_works_143 (by decide) ?_
      refine lv_idiv hx hb dX9_works_145 (by decide) ?_
      refine lv_iadd hx hb dX9_works_146 ?_
      refine lv_aload_n hx hb dX9_works_147 rfl (lv_at hl 4 rfl) ?_
      refine va_get (ci := 11) (v := .ref (bd 13)) (C := RX9) (T := TX9) (N := 47) hx hb hts inw_X9_works_X9 hown hK hP 0 rfl rfl 15 (by decide) (hts (.fieldLink RX9 47 "DockCallModel" "says" "[I") (by decide +kernel)) (fun _ h9 => h9) rfl dX9_works_148 ?_
      refine lv_iconst (v := 3) hx hb dX9_works_151 (by decide) ?_
      refine va_iald hx hb hK hP 7 0 rfl rfl (by unfold vp_in; decide) dX9_works_152 ?_
      refine lv_iconst (v := 0) hx hb dX9_works_153 (by decide) ?_
      refine lv_aload_n hx hb dX9_works_154 rfl (lv_at hl 4 rfl) ?_
      refine va_get (ci := 11) (v := .ref (bd 13)) (C := RX9) (T := TX9) (N := 47) hx hb hts inw_X9_works_X9 hown hK hP 0 rfl rfl 15 (by decide) (hts (.fieldLink RX9 47 "DockCallModel" "says" "[I") (by decide +kernel)) (fun _ h9 => h9) rfl dX9_works_155 ?_
      refine lv_iconst (v := 5) hx hb dX9_works_158 (by decide) ?_
      refine va_iald hx hb hK hP 7 0 rfl rfl (by unfold vp_in; decide) dX9_works_159 ?_
      refine lv_iload hx hb dX9_works_160 (lv_at hl 2 rfl) ?_
      refine lv_isub hx hb dX9_works_162 ?_
      refine lv_iload hx hb dX9_works_163 (lv_at hl 1 rfl) ?_
      refine lv_isub hx hb dX9_works_165 ?_
      refine va_mmax hx hb (by rw [hml]; exact hl.1.symm) hown (hts (.methodLink RX9 235 Lib.Math.max.name) (by decide +kernel)) (hts (.static Lib.Math.max.name) (by decide +kernel)) (hts (.initialized "java/lang/Math") (by decide +kernel)) (hts (.code Lib.Math.max.name Lib.Math.max.code 2 (some .int)) (by decide +kernel)) (Nat.le_of_ble_eq_true rfl) (Nat.le_of_ble_eq_true rfl) (Nat.le_of_ble_eq_true rfl) (Nat.le_of_ble_eq_true rfl) dX9_works_166 ?_
      refine lv_imul hx hb dX9_works_169 ?_
      refine lv_iadd hx hb dX9_works_170 ?_
      refine lv_istore (lv' := [(7, .int ((((x_says (3 : Int32).toNatClampNeg) * v5) + ((((x_says (3 : Int32).toNatClampNeg) * v6) * (x_says (4 : Int32).toNatClampNeg)) / 100)) + ((x_says (3 : Int32).toNatClampNeg) * (if (0 : Int32) < (((x_says (5 : Int32).toNatClampNeg) - v5) - v6) then (((x_says (5 : Int32).toNatClampNeg) - v5) - v6) else 0)))), (6, .int v6), (5, .int v5), (4, .int v4), (0, .ref (bd 0)), (1, .int v1), (2, .int v2), (3, .int v3)]) hx hb dX9_works_171 hl (by decide) rfl (fun ls hl => ?_)
      refine lv_iconst (v := 0) hx hb dX9_works_173 (by decide) ?_
      refine lv_istore (lv' := [(8, .int 0), (7, .int ((((x_says (3 : Int32).toNatClampNeg) * v5) + ((((x_says (3 : Int32).toNatClampNeg) * v6) * (x_says (4 : Int32).toNatClampNeg)) / 100)) + ((x_says (3 : Int32).toNatClampNeg) * (if (0 : Int32) < (((x_says (5 : Int32).toNatClampNeg) - v5) - v6) then (((x_says (5 : Int32).toNatClampNeg) - v5) - v6) else 0)))), (6, .int v6), (5, .int v5), (4, .int v4), (0, .ref (bd 0)), (1, .int v1), (2, .int v2), (3, .int v3)]) hx hb dX9_works_174 hl (by decide) rfl (fun ls hl => ?_)
      obtain ⟨n', hw⟩ := hw
      exact c_Model_works_h176 hx hb hr hml hown hts hlocks hK hE hA  n' 0 x_entries x_paid x_turns x_atShip x_atHatch x_eCall x_eMan x_eMoney x_isIn hw _ _ _ hP hD hS (lv_sub hl [0, 1, 2, 3, 4, 5, 6, 7, 8] rfl)
    · have hw := hw.2 hc
      refine lv_aload_n hx hb dX9_works_22 rfl (lv_at hl 4 rfl) ?_
      refine va_get (ci := 11) (v := .ref (bd 10)) (C := RX9) (T := TX9) (N := 47) hx hb hts inw_X9_works_X9 hown hK hP 0 rfl rfl 11 (by decide) (hts (.fieldLink RX9 37 "DockCallModel" "tons" "[I") (by decide +kernel)) (fun _ h9 => h9) rfl dX9_works_23 ?_
      refine lv_iload hx hb dX9_works_26 (lv_at hl 3 rfl) ?_
      obtain ⟨hi, hw⟩ := hw
      refine va_iald hx hb hK hP 4 0 rfl rfl hi dX9_works_28 ?_
      refine lv_if_le (tgt := 118) hx hb dX9_works_29 (by decide) (fun hc => ?_) (fun hc => ?_)
      · have hw := hw.1 hc
        refine lv_aload_n hx hb dX9_works_118 rfl (lv_at hl 4 rfl) ?_
        refine va_get (ci := 11) (v := .ref (bd 13)) (C := RX9) (T := TX9) (N := 47) hx hb hts inw_X9_works_X9 hown hK hP 0 rfl rfl 15 (by decide) (hts (.fieldLink RX9 47 "DockCallModel" "says" "[I") (by decide +kernel)) (fun _ h9 => h9) rfl dX9_works_119 ?_
        refine lv_iconst (v := 3) hx hb dX9_works_122 (by decide) ?_
        refine va_iald hx hb hK hP 7 0 rfl rfl (by unfold vp_in; decide) dX9_works_123 ?_
        refine lv_iload hx hb dX9_works_124 (lv_at hl 2 rfl) ?_
        refine lv_imul hx hb dX9_works_126 ?_
        refine lv_aload_n hx hb dX9_works_127 rfl (lv_at hl 4 rfl) ?_
        refine va_get (ci := 11) (v := .ref (bd 13)) (C := RX9) (T := TX9) (N := 47) hx hb hts inw_X9_works_X9 hown hK hP 0 rfl rfl 15 (by decide) (hts (.fieldLink RX9 47 "DockCallModel" "says" "[I") (by decide +kernel)) (fun _ h9 => h9) rfl dX9_works_128 ?_
        refine lv_iconst (v := 3) hx hb dX9_works_131 (by decide) ?_
        refine va_iald hx hb hK hP 7 0 rfl rfl (by unfold vp_in; decide) dX9_works_132 ?_
        refine lv_iload hx hb dX9_works_133 (lv_at hl 1 rfl) ?_
        refine lv_imul hx hb dX9_works_135 ?_
        refine lv_aload_n hx hb dX9_works_136 rfl (lv_at hl 4 rfl) ?_
        refine va_get (ci := 11) (v := .ref (bd 13)) (C := RX9) (T := TX9) (N := 47) hx hb hts inw_X9_works_X9 hown hK hP 0 rfl rfl 15 (by decide) (hts (.fieldLink RX9 47 "DockCallModel" "says" "[I") (by decide +kernel)) (fun _ h9 => h9) rfl dX9_works_137 ?_
        refine lv_iconst (v := 4) hx hb dX9_works_140 (by decide) ?_
        refine va_iald hx hb hK hP 7 0 rfl rfl (by unfold vp_in; decide) dX9_works_141 ?_
        refine lv_imul hx hb dX9_works_142 ?_
        refine lv_bipush (v := 100) hx hb dX9_works_143 (by decide) ?_
        refine lv_idiv hx hb dX9_works_145 (by decide) ?_
        refine lv_iadd hx hb dX9_works_146 ?_
        refine lv_aload_n hx hb dX9_works_147 rfl (lv_at hl 4 rfl) ?_
        refine va_get (ci := 11) (v := .ref (bd 13)) (C := RX9) (T := TX9) (N := 47) hx hb hts inw_X9_works_X9 hown hK hP 0 rfl rfl 15 (by decide) (hts (.fieldLink RX9 47 "DockCallModel" "says" "[I") (by decide +kernel)) (fun _ h9 => h9) rfl dX9_works_148 ?_
        refine lv_iconst (v := 3) hx hb dX9_works_151 (by decide) ?_
        refine va_iald hx hb hK hP 7 0 rfl rfl (by unfold vp_in; decide) dX9_works_152 ?_
        refine lv_iconst (v := 0) hx hb dX9_works_153 (by decide) ?_
        refine lv_aload_n hx hb dX9_works_154 rfl (lv_at hl 4 rfl) ?_
        refine va_get (ci := 11) (v := .ref (bd 13)) (C := RX9) (T := TX9) (N := 47) hx hb hts inw_X9_works_X9 hown hK hP 0 rfl rfl 15 (by decide) (hts (.fieldLink RX9 47 "DockCallModel" "says" "[I") (by decide +kernel)) (fun _ h9 => h9) rfl dX9_works_155 ?_
        refine lv_iconst (v := 5) hx hb dX9_works_158 (by decide) ?_
        refine va_iald hx hb hK hP 7 0 rfl rfl (by unfold vp_in; decide) dX9_works_159 ?_
        refine lv_iload hx hb dX9_works_160 (lv_at hl 2 rfl) ?_
        refine lv_isub hx hb dX9_works_162 ?_
        refine lv_iload hx hb dX9_works_163 (lv_at hl 1 rfl) ?_
        refine lv_isub hx hb dX9_works_165 ?_
        refine va_mmax hx hb (by rw [hml]; exact hl.1.symm) hown (hts (.methodLink RX9 235 Lib.Math.max.name) (by decide +kernel)) (hts (.static Lib.Math.max.name) (by decide +kernel)) (hts (.initialized "java/lang/Math") (by decide +kernel)) (hts (.code Lib.Math.max.name Lib.Math.max.code 2 (some .int)) (by decide +kernel)) (Nat.le_of_ble_eq_true rfl) (Nat.le_of_ble_eq_true rfl) (Nat.le_of_ble_eq_true rfl) (Nat.le_of_ble_eq_true rfl) dX9_works_166 ?_
        refine lv_imul hx hb dX9_works_169 ?_
        refine lv_iadd hx hb dX9_works_170 ?_
        refine lv_istore (lv' := [(7, .int ((((x_says (3 : Int32).toNatClampNeg) * v5) + ((((x_says (3 : Int32).toNatClampNeg) * v6) * (x_says (4 : Int32).toNatClampNeg)) / 100)) + ((x_says (3 : Int32).toNatClampNeg) * (if (0 : Int32) < (((x_says (5 : Int32).toNatClampNeg) - v5) - v6) then (((x_says (5 : Int32).toNatClampNeg) - v5) - v6) else 0)))), (6, .int v6), (5, .int v5), (4, .int v4), (0, .ref (bd 0)), (1, .int v1), (2, .int v2), (3, .int v3)]) hx hb dX9_works_171 hl (by decide) rfl (fun ls hl => ?_)
        refine lv_iconst (v := 0) hx hb dX9_works_173 (by decide) ?_
        refine lv_istore (lv' := [(8, .int 0), (7, .int ((((x_says (3 : Int32).toNatClampNeg) * v5) + ((((x_says (3 : Int32).toNatClampNeg) * v6) * (x_says (4 : Int32).toNatClampNeg)) / 100)) + ((x_says (3 : Int32).toNatClampNeg) * (if (0 : Int32) < (((x_says (5 : Int32).toNatClampNeg) - v5) - v6) then (((x_says (5 : Int32).toNatClampNeg) - v5) - v6) else 0)))), (6, .int v6), (5, .int v5), (4, .int v4), (0, .ref (bd 0)), (1, .int v1), (2, .int v2), (3, .int v3)]) hx hb dX9_works_174 hl (by decide) rfl (fun ls hl => ?_)
        obtain ⟨n', hw⟩ := hw
        exact c_Model_works_h176 hx hb hr hml hown hts hlocks hK hE hA  n' 0 x_entries x_paid x_turns x_atShip x_atHatch x_eCall x_eMan x_eMoney x_isIn hw _ _ _ hP hD hS (lv_sub hl [0, 1, 2, 3, 4, 5, 6, 7, 8] rfl)
      · have hw := hw.2 hc
        refine lv_aload_n hx hb dX9_works_32 rfl (lv_at hl 4 rfl) ?_
        refine va_get (ci := 11) (v := .ref (bd 12)) (C := RX9) (T := TX9) (N := 47) hx hb hts inw_X9_works_X9 hown hK hP 0 rfl rfl 13 (by decide) (hts (.fieldLink RX9 43 "DockCallModel" "isDry" "[Z") (by decide +kernel)) (fun _ h9 => h9) rfl dX9_works_33 ?_
        refine lv_iload hx hb dX9_works_36 (lv_at hl 3 rfl) ?_
        obtain ⟨hi, hw⟩ := hw
        refine va_zald hx hb hK hP 6 2 rfl rfl hi dX9_works_38 ?_
        refine lv_if_eq (tgt := 58) hx hb dX9_works_39 (by decide) (fun hc => ?_) (fun hc => ?_)
        · have hw := hw.1 hc
          refine lv_aload_n hx hb dX9_works_58 rfl (lv_at hl 4 rfl) ?_
          refine va_get (ci := 11) (v := .ref (bd 13)) (C := RX9) (T := TX9) (N := 47) hx hb hts inw_X9_works_X9 hown hK hP 0 rfl rfl 15 (by decide) (hts (.fieldLink RX9 47 "DockCallModel" "says" "[I") (by decide +kernel)) (fun _ h9 => h9) rfl dX9_works_59 ?_
          refine lv_bipush (v := 7) hx hb dX9_works_62 (by decide) ?_
          refine lv_aload_n hx hb dX9_works_64 rfl (lv_at hl 4 rfl) ?_
          refine va_get (ci := 11) (v := .ref (bd 11)) (C := RX9) (T := TX9) (N := 47) hx hb hts inw_X9_works_X9 hown hK hP 0 rfl rfl 12 (by decide) (hts (.fieldLink RX9 40 "DockCallModel" "skill" "[I") (by decide +kernel)) (fun _ h9 => h9) rfl dX9_works_65 ?_
          refine lv_iload hx hb dX9_works_68 (lv_at hl 3 rfl) ?_
          obtain ⟨hi, hw⟩ := hw
          refine va_iald hx hb hK hP 5 0 rfl rfl hi dX9_works_70 ?_
          refine lv_iadd hx hb dX9_works_71 ?_
          obtain ⟨hi, hw⟩ := hw
          refine va_iald hx hb hK hP 7 0 rfl rfl hi dX9_works_72 ?_
          refine lv_aload_n hx hb dX9_works_73 rfl (lv_at hl 4 rfl) ?_
          refine va_get (ci := 11) (v := .ref (bd 10)) (C := RX9) (T := TX9) (N := 47) hx hb hts inw_X9_works_X9 hown hK hP 0 rfl rfl 11 (by decide) (hts (.fieldLink RX9 37 "DockCallModel" "tons" "[I") (by decide +kernel)) (fun _ h9 => h9) rfl dX9_works_74 ?_
          refine lv_iload hx hb dX9_works_77 (lv_at hl 3 rfl) ?_
          obtain ⟨hi, hw⟩ := hw
          refine va_iald hx hb hK hP 4 0 rfl rfl hi dX9_works_79 ?_
          refine va_mmin hx hb (by rw [hml]; exact hl.1.symm) hown (hts (.methodLink RX9 227 Lib.Math.min.name) (by decide +kernel)) (hts (.static Lib.Math.min.name) (by decide +kernel)) (hts (.initialized "java/lang/Math") (by decide +kernel)) (hts (.code Lib.Math.min.name Lib.Math.min.code 2 (some .int)) (by decide +kernel)) (Nat.le_of_ble_eq_true rfl) (Nat.le_of_ble_eq_true rfl) (Nat.le_of_ble_eq_true rfl) (Nat.le_of_ble_eq_true rfl) dX9_works_80 ?_
          refine lv_istore (lv' := [(8, .int (if (x_tons v4.toNatClampNeg) < (x_says (7 + (x_skill v4.toNatClampNeg)).toNatClampNeg) then (x_tons v4.toNatClampNeg) else (x_says (7 + (x_skill v4.toNatClampNeg)).toNatClampNeg))), (7, .int v7), (6, .int v6), (5, .int v5), (4, .int v4), (0, .ref (bd 0)), (1, .int v1), (2, .int v2), (3, .int v3)]) hx hb dX9_works_83 hl (by decide) rfl (fun ls hl => ?_)
          refine lv_aload_n hx hb dX9_works_85 rfl (lv_at hl 5 rfl) ?_
          refine va_get (ci := 11) (v := .ref (bd 10)) (C := RX9) (T := TX9) (N := 47) hx hb hts inw_X9_works_X9 hown hK hP 0 rfl rfl 11 (by decide) (hts (.fieldLink RX9 37 "DockCallModel" "tons" "[I") (by decide +kernel)) (fun _ h9 => h9) rfl dX9_works_86 ?_
          refine lv_iload hx hb dX9_works_89 (lv_at hl 4 rfl) ?_
          refine lv_dup2_11 hx hb dX9_works_91 rfl rfl ?_
          obtain ⟨hi, hw⟩ := hw
          refine va_iald hx hb hK hP 4 0 rfl rfl hi dX9_works_92 ?_
          refine lv_iload hx hb dX9_works_93 (lv_at hl 0 rfl) ?_
          refine lv_isub hx hb dX9_works_95 ?_
          obtain ⟨hi, hw⟩ := hw
          refine va_iast hx hb hK hP hD hS 4 0 rfl rfl hi dX9_works_96 (fun H locs hP hD hS => ?_)
          have hP : va_P D vwCl [(ce_xm bd x_thrown x_men x_ships x_entries x_rules x_calls x_gangs x_idle x_moved x_paid x_taped x_at x_end x_begin x_faultAt x_wants), ((bd 2), .inl (y 0, 24, .inl x_turns)), ((bd 5), .inl (y 0, 24, .inl x_atShip)), ((bd 6), .inl (y 0, 24, .inl x_atHatch)), ((bd 10), .inl (y 0, 40, .inl (upd x_tons v4.toNatClampNeg ((x_tons v4.toNatClampNeg) - (if (x_tons v4.toNatClampNeg) < (x_says (7 + (x_skill v4.toNatClampNeg)).toNatClampNeg) then (x_tons v4.toNatClampNeg) else (x_says (7 + (x_skill v4.toNatClampNeg)).toNatClampNeg)))))), ((bd 11), .inl (y 0, 40, .inl x_skill)), ((bd 12), .inl (y 2, 40, .inl x_isDry)), ((bd 13), .inl (y 0, 11, .inl x_says)), ((bd 15), .inl (y 0, 800, .inl x_eCall)), ((bd 16), .inl (y 0, 800, .inl x_eMan)), ((bd 17), .inl (y 0, 800, .inl x_eMoney)), ((bd 25), .inl (y 2, 24, .inl x_isIn)), ((bd 27), .inl (y 0, 8, .inl x_gang))] H := hP
          have hD : va_D A [(ce_xm bd x_thrown x_men x_ships x_entries x_rules x_calls x_gangs x_idle x_moved x_paid x_taped x_at x_end x_begin x_faultAt x_wants), ((bd 2), .inl (y 0, 24, .inl x_turns)), ((bd 5), .inl (y 0, 24, .inl x_atShip)), ((bd 6), .inl (y 0, 24, .inl x_atHatch)), ((bd 10), .inl (y 0, 40, .inl (upd x_tons v4.toNatClampNeg ((x_tons v4.toNatClampNeg) - (if (x_tons v4.toNatClampNeg) < (x_says (7 + (x_skill v4.toNatClampNeg)).toNatClampNeg) then (x_tons v4.toNatClampNeg) else (x_says (7 + (x_skill v4.toNatClampNeg)).toNatClampNeg)))))), ((bd 11), .inl (y 0, 40, .inl x_skill)), ((bd 12), .inl (y 2, 40, .inl x_isDry)), ((bd 13), .inl (y 0, 11, .inl x_says)), ((bd 15), .inl (y 0, 800, .inl x_eCall)), ((bd 16), .inl (y 0, 800, .inl x_eMan)), ((bd 17), .inl (y 0, 800, .inl x_eMoney)), ((bd 25), .inl (y 2, 24, .inl x_isIn)), ((bd 27), .inl (y 0, 8, .inl x_gang))] := hD
          refine lv_aload_n hx hb dX9_works_97 rfl (lv_at hl 5 rfl) ?_
          refine lv_dup hx hb dX9_works_98 rfl ?_
          refine va_get (ci := 11) (v := .long x_moved) (C := RX9) (T := TX9) (N := 47) hx hb hts inw_X9_works_X9 hown hK hP 0 rfl rfl 28 (by decide) (hts (.fieldLink RX9 232 "DockCallModel" "moved" "J") (by decide +kernel)) (fun _ h9 => h9) rfl dX9_works_99 ?_
          refine lv_iload hx hb dX9_works_102 (lv_at hl 0 rfl) ?_
          refine lv_i2l hx hb dX9_works_104 rfl ?_
          refine lv_ladd hx hb dX9_works_105 ?_
          refine va_put (ci := 11) (v := .long (x_moved + ((if (x_tons v4.toNatClampNeg) < (x_says (7 + (x_skill v4.toNatClampNeg)).toNatClampNeg) then (x_tons v4.toNatClampNeg) else (x_says (7 + (x_skill v4.toNatClampNeg)).toNatClampNeg)).toInt64))) (ty := .long) (C := RX9) (T := TX9) (N := 47) hx hb hts inw_X9_works_X9 tyX9 tyX9_ok nmX9 hown hK hP hD hS 0 rfl rfl 28 (by decide) (hts (.fieldLink RX9 232 "DockCallModel" "moved" "J") (by decide +kernel)) (fun _ h9 => h9) rfl (by decide +kernel) rfl rfl (Nat.le_of_ble_eq_true rfl) dX9_works_106 (fun H locs hP hD hS => ?_)
          have hP : va_P D vwCl [(ce_xm bd x_thrown x_men x_ships x_entries x_rules x_calls x_gangs x_idle (x_moved + ((if (x_tons v4.toNatClampNeg) < (x_says (7 + (x_skill v4.toNatClampNeg)).toNatClampNeg) then (x_tons v4.toNatClampNeg) else (x_says (7 + (x_skill v4.toNatClampNeg)).toNatClampNeg)).toInt64)) x_paid x_taped x_at x_end x_begin x_faultAt x_wants), ((bd 2), .inl (y 0, 24, .inl x_turns)), ((bd 5), .inl (y 0, 24, .inl x_atShip)), ((bd 6), .inl (y 0, 24, .inl x_atHatch)), ((bd 10), .inl (y 0, 40, .inl (upd x_tons v4.toNatClampNeg ((x_tons v4.toNatClampNeg) - (if (x_tons v4.toNatClampNeg) < (x_says (7 + (x_skill v4.toNatClampNeg)).toNatClampNeg) then (x_tons v4.toNatClampNeg) else (x_says (7 + (x_skill v4.toNatClampNeg)).toNatClampNeg)))))), ((bd 11), .inl (y 0, 40, .inl x_skill)), ((bd 12), .inl (y 2, 40, .inl x_isDry)), ((bd 13), .inl (y 0, 11, .inl x_says)), ((bd 15), .inl (y 0, 800, .inl x_eCall)), ((bd 16), .inl (y 0, 800, .inl x_eMan)), ((bd 17), .inl (y 0, 800, .inl x_eMoney)), ((bd 25), .inl (y 2, 24, .inl x_isIn)), ((bd 27), .inl (y 0, 8, .inl x_gang))] H := hP
          have hD : va_D A [(ce_xm bd x_thrown x_men x_ships x_entries x_rules x_calls x_gangs x_idle (x_moved + ((if (x_tons v4.toNatClampNeg) < (x_says (7 + (x_skill v4.toNatClampNeg)).toNatClampNeg) then (x_tons v4.toNatClampNeg) else (x_says (7 + (x_skill v4.toNatClampNeg)).toNatClampNeg)).toInt64)) x_paid x_taped x_at x_end x_begin x_faultAt x_wants), ((bd 2), .inl (y 0, 24, .inl x_turns)), ((bd 5), .inl (y 0, 24, .inl x_atShip)), ((bd 6), .inl (y 0, 24, .inl x_atHatch)), ((bd 10), .inl (y 0, 40, .inl (upd x_tons v4.toNatClampNeg ((x_tons v4.toNatClampNeg) - (if (x_tons v4.toNatClampNeg) < (x_says (7 + (x_skill v4.toNatClampNeg)).toNatClampNeg) then (x_tons v4.toNatClampNeg) else (x_says (7 + (x_skill v4.toNatClampNeg)).toNatClampNeg)))))), ((bd 11), .inl (y 0, 40, .inl x_skill)), ((bd 12), .inl (y 2, 40, .inl x_isDry)), ((bd 13), .inl (y 0, 11, .inl x_says)), ((bd 15), .inl (y 0, 800, .inl x_eCall)), ((bd 16), .inl (y 0, 800, .inl x_eMan)), ((bd 17), .inl (y 0, 800, .inl x_eMoney)), ((bd 25), .inl (y 2, 24, .inl x_isIn)), ((bd 27), .inl (y 0, 8, .inl x_gang))] := hD
          refine lv_iinc (v := v5 + 1) (lv' := [(5, .int (v5 + 1)), (8, .int (if (x_tons v4.toNatClampNeg) < (x_says (7 + (x_skill v4.toNatClampNeg)).toNatClampNeg) then (x_tons v4.toNatClampNeg) else (x_says (7 + (x_skill v4.toNatClampNeg)).toNatClampNeg))), (7, .int v7), (6, .int v6), (4, .int v4), (0, .ref (bd 0)), (1, .int v1), (2, .int v2), (3, .int v3)]) hx hb dX9_works_109 hl (k := 3) rfl (by first | rfl | decide) (by decide) rfl (fun ls hl => ?_)
          refine lv_iinc (v := v7 + 1) (lv' := [(7, .int (v7 + 1)), (5, .int (v5 + 1)), (8, .int (if (x_tons v4.toNatClampNeg) < (x_says (7 + (x_skill v4.toNatClampNeg)).toNatClampNeg) then (x_tons v4.toNatClampNeg) else (x_says (7 + (x_skill v4.toNatClampNeg)).toNatClampNeg))), (6, .int v6), (4, .int v4), (0, .ref (bd 0)), (1, .int v1), (2, .int v2), (3, .int v3)]) hx hb dX9_works_112 hl (k := 2) rfl (by first | rfl | decide) (by decide) rfl (fun ls hl => ?_)
          refine lv_goto (tgt := 16) hx hb dX9_works_115 (by decide) ?_
          exact ih (v5 + 1) v6 (v7 + 1) (x_moved + ((if (x_tons v4.toNatClampNeg) < (x_says (7 + (x_skill v4.toNatClampNeg)).toNatClampNeg) then (x_tons v4.toNatClampNeg) else (x_says (7 + (x_skill v4.toNatClampNeg)).toNatClampNeg)).toInt64)) (upd x_tons v4.toNatClampNeg ((x_tons v4.toNatClampNeg) - (if (x_tons v4.toNatClampNeg) < (x_says (7 + (x_skill v4.toNatClampNeg)).toNatClampNeg) then (x_tons v4.toNatClampNeg) else (x_says (7 + (x_skill v4.toNatClampNeg)).toNatClampNeg)))) hw _ _ _ hP hD hS (lv_sub hl [0, 3, 1, 4, 5, 6, 7, 8] rfl)
        · have hw := hw.2 hc
          refine lv_iload_n hx hb dX9_works_42 rfl (lv_at hl 7 rfl) ?_
          refine lv_iload hx hb dX9_works_43 (lv_at hl 0 rfl) ?_
          refine lv_ishr hx hb dX9_works_45 ?_
          refine lv_iconst (v := 1) hx hb dX9_works_46 (by decide) ?_
          refine lv_iand hx hb dX9_works_47 ?_
          refine lv_iconst (v := 1) hx hb dX9_works_48 (by decide) ?_
          refine lv_icmp_ne (tgt := 58) hx hb dX9_works_49 (by decide) (fun hc => ?_) (fun hc => ?_)
          · have hw := hw.2 hc
            refine lv_aload_n hx hb dX9_works_58 rfl (lv_at hl 4 rfl) ?_
            refine va_get (ci := 11) (v := .ref (bd 13)) (C := RX9) (T := TX9) (N := 47) hx hb hts inw_X9_works_X9 hown hK hP 0 rfl rfl 15 (by decide) (hts (.fieldLink RX9 47 "DockCallModel" "says" "[I") (by decide +kernel)) (fun _ h9 => h9) rfl dX9_works_59 ?_
            refine lv_bipush (v := 7) hx hb dX9_works_62 (by decide) ?_
            refine lv_aload_n hx hb dX9_works_64 rfl (lv_at hl 4 rfl) ?_
            refine va_get (ci := 11) (v := .ref (bd 11)) (C := RX9) (T := TX9) (N := 47) hx hb hts inw_X9_works_X9 hown hK hP 0 rfl rfl 12 (by decide) (hts (.fieldLink RX9 40 "DockCallModel" "skill" "[I") (by decide +kernel)) (fun _ h9 => h9) rfl dX9_works_65 ?_
            refine lv_iload hx hb dX9_works_68 (lv_at hl 3 rfl) ?_
            obtain ⟨hi, hw⟩ := hw
            refine va_iald hx hb hK hP 5 0 rfl rfl hi dX9_works_70 ?_
            refine lv_iadd hx hb dX9_works_71 ?_
            obtain ⟨hi, hw⟩ := hw
            refine va_iald hx hb hK hP 7 0 rfl rfl hi dX9_works_72 ?_
            refine lv_aload_n hx hb dX9_works_73 rfl (lv_at hl 4 rfl) ?_
            refine va_get (ci := 11) (v := .ref (bd 10)) (C := RX9) (T := TX9) (N := 47) hx hb hts inw_X9_works_X9 hown hK hP 0 rfl rfl 11 (by decide) (hts (.fieldLink RX9 37 "DockCallModel" "tons" "[I") (by decide +kernel)) (fun _ h9 => h9) rfl dX9_works_74 ?_
            refine lv_iload hx hb dX9_works_77 (lv_at hl 3 rfl) ?_
            obtain ⟨hi, hw⟩ := hw
            refine va_iald hx hb hK hP 4 0 rfl rfl hi dX9_works_79 ?_
            refine va_mmin hx hb (by rw [hml]; exact hl.1.symm) hown (hts (.methodLink RX9 227 Lib.Math.min.name) (by decide +kernel)) (hts (.static Lib.Math.min.name) (by decide +kernel)) (hts (.initialized "java/lang/Math") (by decide +kernel)) (hts (.code Lib.Math.min.name Lib.Math.min.code 2 (some .int)) (by decide +kernel)) (Nat.le_of_ble_eq_true rfl) (Nat.le_of_ble_eq_true rfl) (Nat.le_of_ble_eq_true rfl) (Nat.le_of_ble_eq_true rfl) dX9_works_80 ?_
            refine lv_istore (lv' := [(8, .int (if (x_tons v4.toNatClampNeg) < (x_says (7 + (x_skill v4.toNatClampNeg)).toNatClampNeg) then (x_tons v4.toNatClampNeg) else (x_says (7 + (x_skill v4.toNatClampNeg)).toNatClampNeg))), (7, .int v7), (6, .int v6), (5, .int v5), (4, .int v4), (0, .ref (bd 0)), (1, .int v1), (2, .int v2), (3, .int v3)]) hx hb dX9_works_83 hl (by decide) rfl (fun ls hl => ?_)
            refine lv_aload_n hx hb dX9_works_85 rfl (lv_at hl 5 rfl) ?_
            refine va_get (ci := 11) (v := .ref (bd 10)) (C := RX9) (T := TX9) (N := 47) hx hb hts inw_X9_works_X9 hown hK hP 0 rfl rfl 11 (by decide) (hts (.fieldLink RX9 37 "DockCallModel" "tons" "[I") (by decide +kernel)) (fun _ h9 => h9) rfl dX9_works_86 ?_
            refine lv_iload hx hb dX9_works_89 (lv_at hl 4 rfl) ?_
            refine lv_dup2_11 hx hb dX9_works_91 rfl rfl ?_
            obtain ⟨hi, hw⟩ := hw
            refine va_iald hx hb hK hP 4 0 rfl rfl hi dX9_works_92 ?_
            refine lv_iload hx hb dX9_works_93 (lv_at hl 0 rfl) ?_
            refine lv_isub hx hb dX9_works_95 ?_
            obtain ⟨hi, hw⟩ := hw
            refine va_iast hx hb hK hP hD hS 4 0 rfl rfl hi dX9_works_96 (fun H locs hP hD hS => ?_)
            have hP : va_P D vwCl [(ce_xm bd x_thrown x_men x_ships x_entries x_rules x_calls x_gangs x_idle x_moved x_paid x_taped x_at x_end x_begin x_faultAt x_wants), ((bd 2), .inl (y 0, 24, .inl x_turns)), ((bd 5), .inl (y 0, 24, .inl x_atShip)), ((bd 6), .inl (y 0, 24, .inl x_atHatch)), ((bd 10), .inl (y 0, 40, .inl (upd x_tons v4.toNatClampNeg ((x_tons v4.toNatClampNeg) - (if (x_tons v4.toNatClampNeg) < (x_says (7 + (x_skill v4.toNatClampNeg)).toNatClampNeg) then (x_tons v4.toNatClampNeg) else (x_says (7 + (x_skill v4.toNatClampNeg)).toNatClampNeg)))))), ((bd 11), .inl (y 0, 40, .inl x_skill)), ((bd 12), .inl (y 2, 40, .inl x_isDry)), ((bd 13), .inl (y 0, 11, .inl x_says)), ((bd 15), .inl (y 0, 800, .inl x_eCall)), ((bd 16), .inl (y 0, 800, .inl x_eMan)), ((bd 17), .inl (y 0, 800, .inl x_eMoney)), ((bd 25), .inl (y 2, 24, .inl x_isIn)), ((bd 27), .inl (y 0, 8, .inl x_gang))] H := hP
            have hD : va_D A [(ce_xm bd x_thrown x_men x_ships x_entries x_rules x_calls x_gangs x_idle x_moved x_paid x_taped x_at x_end x_begin x_faultAt x_wants), ((bd 2), .inl (y 0, 24, .inl x_turns)), ((bd 5), .inl (y 0, 24, .inl x_atShip)), ((bd 6), .inl (y 0, 24, .inl x_atHatch)), ((bd 10), .inl (y 0, 40, .inl (upd x_tons v4.toNatClampNeg ((x_tons v4.toNatClampNeg) - (if (x_tons v4.toNatClampNeg) < (x_says (7 + (x_skill v4.toNatClampNeg)).toNatClampNeg) then (x_tons v4.toNatClampNeg) else (x_says (7 + (x_skill v4.toNatClampNeg)).toNatClampNeg)))))), ((bd 11), .inl (y 0, 40, .inl x_skill)), ((bd 12), .inl (y 2, 40, .inl x_isDry)), ((bd 13), .inl (y 0, 11, .inl x_says)), ((bd 15), .inl (y 0, 800, .inl x_eCall)), ((bd 16), .inl (y 0, 800, .inl x_eMan)), ((bd 17), .inl (y 0, 800, .inl x_eMoney)), ((bd 25), .inl (y 2, 24, .inl x_isIn)), ((bd 27), .inl (y 0, 8, .inl x_gang))] := hD
            refine lv_aload_n hx hb dX9_works_97 rfl (lv_at hl 5 rfl) ?_
            refine lv_dup hx hb dX9_works_98 rfl ?_
            refine va_get (ci := 11) (v := .long x_moved) (C := RX9) (T := TX9) (N := 47) hx hb hts inw_X9_works_X9 hown hK hP 0 rfl rfl 28 (by decide) (hts (.fieldLink RX9 232 "DockCallModel" "moved" "J") (by decide +kernel)) (fun _ h9 => h9) rfl dX9_works_99 ?_
            refine lv_iload hx hb dX9_works_102 (lv_at hl 0 rfl) ?_
            refine lv_i2l hx hb dX9_works_104 rfl ?_
            refine lv_ladd hx hb dX9_works_105 ?_
            refine va_put (ci := 11) (v := .long (x_moved + ((if (x_tons v4.toNatClampNeg) < (x_says (7 + (x_skill v4.toNatClampNeg)).toNatClampNeg) then (x_tons v4.toNatClampNeg) else (x_says (7 + (x_skill v4.toNatClampNeg)).toNatClampNeg)).toInt64))) (ty := .long) (C := RX9) (T := TX9) (N := 47) hx hb hts inw_X9_works_X9 tyX9 tyX9_ok nmX9 hown hK hP hD hS 0 rfl rfl 28 (by decide) (hts (.fieldLink RX9 232 "DockCallModel" "moved" "J") (by decide +kernel)) (fun _ h9 => h9) rfl (by decide +kernel) rfl rfl (Nat.le_of_ble_eq_true rfl) dX9_works_106 (fun H locs hP hD hS => ?_)
            have hP : va_P D vwCl [(ce_xm bd x_thrown x_men x_ships x_entries x_rules x_calls x_gangs x_idle (x_moved + ((if (x_tons v4.toNatClampNeg) < (x_says (7 + (x_skill v4.toNatClampNeg)).toNatClampNeg) then (x_tons v4.toNatClampNeg) else (x_says (7 + (x_skill v4.toNatClampNeg)).toNatClampNeg)).toInt64)) x_paid x_taped x_at x_end x_begin x_faultAt x_wants), ((bd 2), .inl (y 0, 24, .inl x_turns)), ((bd 5), .inl (y 0, 24, .inl x_atShip)), ((bd 6), .inl (y 0, 24, .inl x_atHatch)), ((bd 10), .inl (y 0, 40, .inl (upd x_tons v4.toNatClampNeg ((x_tons v4.toNatClampNeg) - (if (x_tons v4.toNatClampNeg) < (x_says (7 + (x_skill v4.toNatClampNeg)).toNatClampNeg) then (x_tons v4.toNatClampNeg) else (x_says (7 + (x_skill v4.toNatClampNeg)).toNatClampNeg)))))), ((bd 11), .inl (y 0, 40, .inl x_skill)), ((bd 12), .inl (y 2, 40, .inl x_isDry)), ((bd 13), .inl (y 0, 11, .inl x_says)), ((bd 15), .inl (y 0, 800, .inl x_eCall)), ((bd 16), .inl (y 0, 800, .inl x_eMan)), ((bd 17), .inl (y 0, 800, .inl x_eMoney)), ((bd 25), .inl (y 2, 24, .inl x_isIn)), ((bd 27), .inl (y 0, 8, .inl x_gang))] H := hP
            have hD : va_D A [(ce_xm bd x_thrown x_men x_ships x_entries x_rules x_calls x_gangs x_idle (x_moved + ((if (x_tons v4.toNatClampNeg) < (x_says (7 + (x_skill v4.toNatClampNeg)).toNatClampNeg) then (x_tons v4.toNatClampNeg) else (x_says (7 + (x_skill v4.toNatClampNeg)).toNatClampNeg)).toInt64)) x_paid x_taped x_at x_end x_begin x_faultAt x_wants), ((bd 2), .inl (y 0, 24, .inl x_turns)), ((bd 5), .inl (y 0, 24, .inl x_atShip)), ((bd 6), .inl (y 0, 24, .inl x_atHatch)), ((bd 10), .inl (y 0, 40, .inl (upd x_tons v4.toNatClampNeg ((x_tons v4.toNatClampNeg) - (if (x_tons v4.toNatClampNeg) < (x_says (7 + (x_skill v4.toNatClampNeg)).toNatClampNeg) then (x_tons v4.toNatClampNeg) else (x_says (7 + (x_skill v4.toNatClampNeg)).toNatClampNeg)))))), ((bd 11), .inl (y 0, 40, .inl x_skill)), ((bd 12), .inl (y 2, 40, .inl x_isDry)), ((bd 13), .inl (y 0, 11, .inl x_says)), ((bd 15), .inl (y 0, 800, .inl x_eCall)), ((bd 16), .inl (y 0, 800, .inl x_eMan)), ((bd 17), .inl (y 0, 800, .inl x_eMoney)), ((bd 25), .inl (y 2, 24, .inl x_isIn)), ((bd 27), .inl (y 0, 8, .inl x_gang))] := hD
            refine lv_iinc (v := v5 + 1) (lv' := [(5, .int (v5 + 1)), (8, .int (if (x_tons v4.toNatClampNeg) < (x_says (7 + (x_skill v4.toNatClampNeg)).toNatClampNeg) then (x_tons v4.toNatClampNeg) else (x_says (7 + (x_skill v4.toNatClampNeg)).toNatClampNeg))), (7, .int v7), (6, .int v6), (4, .int v4), (0, .ref (bd 0)), (1, .int v1), (2, .int v2), (3, .int v3)]) hx hb dX9_works_109 hl (k := 3) rfl (by first | rfl | decide) (by decide) rfl (fun ls hl => ?_)
            refine lv_iinc (v := v7 + 1) (lv' := [(7, .int (v7 + 1)), (5, .int (v5 + 1)), (8, .int (if (x_tons v4.toNatClampNeg) < (x_says (7 + (x_skill v4.toNatClampNeg)).toNatClampNeg) then (x_tons v4.toNatClampNeg) else (x_says (7 + (x_skill v4.toNatClampNeg)).toNatClampNeg))), (6, .int v6), (4, .int v4), (0, .ref (bd 0)), (1, .int v1), (2, .int v2), (3, .int v3)]) hx hb dX9_works_112 hl (k := 2) rfl (by first | rfl | decide) (by decide) rfl (fun ls hl => ?_)
            refine lv_goto (tgt := 16) hx hb dX9_works_115 (by decide) ?_
            exact ih (v5 + 1) v6 (v7 + 1) (x_moved + ((if (x_tons v4.toNatClampNeg) < (x_says (7 + (x_skill v4.toNatClampNeg)).toNatClampNeg) then (x_tons v4.toNatClampNeg) else (x_says (7 + (x_skill v4.toNatClampNeg)).toNatClampNeg)).toInt64)) (upd x_tons v4.toNatClampNeg ((x_tons v4.toNatClampNeg) - (if (x_tons v4.toNatClampNeg) < (x_says (7 + (x_skill v4.toNatClampNeg)).toNatClampNeg) then (x_tons v4.toNatClampNeg) else (x_says (7 + (x_skill v4.toNatClampNeg)).toNatClampNeg)))) hw _ _ _ hP hD hS (lv_sub hl [0, 3, 1, 4, 5, 6, 7, 8] rfl)
          · have hw := hw.1 hc
            refine lv_iinc (v := v6 + 1) (lv' := [(6, .int (v6 + 1)), (7, .int v7), (5, .int v5), (4, .int v4), (0, .ref (bd 0)), (1, .int v1), (2, .int v2), (3, .int v3)]) hx hb dX9_works_52 hl (k := 1) rfl (by first | rfl | decide) (by decide) rfl (fun ls hl => ?_)
            refine lv_goto (tgt := 112) hx hb dX9_works_55 (by decide) ?_
            refine lv_iinc (v := v7 + 1) (lv' := [(7, .int (v7 + 1)), (6, .int (v6 + 1)), (5, .int v5), (4, .int v4), (0, .ref (bd 0)), (1, .int v1), (2, .int v2), (3, .int v3)]) hx hb dX9_works_112 hl (k := 1) rfl (by first | rfl | decide) (by decide) rfl (fun ls hl => ?_)
            refine lv_goto (tgt := 16) hx hb dX9_works_115 (by decide) ?_
            exact ih v5 (v6 + 1) (v7 + 1) x_moved x_tons hw _ _ _ hP hD hS (lv_sub hl [0, 1, 2, 3, 4, 5, 6, 7] rfl)
set_option maxHeartbeats 4000000 in
set_option maxRecDepth 100000 in
theorem c_Model_works (l : Launch) (D : va_G) (y : Nat → ClassId) (bd : Nat → Nat) (sz : Nat) (x_thrown : Int32) (x_men : Int32) (x_ships : Int32) (x_entries : Int32) (x_rules : Int32) (x_calls : Int32) (x_gangs : Int32) (x_idle : Int32) (x_moved : Int64) (x_paid : Int64) (x_taped : Int32) (x_at : Int32) (x_end : Int32) (x_begin : Int32) (x_faultAt : Int32) (x_wants : Int32) (x_turns : Nat → Int32) (x_atShip : Nat → Int32) (x_atHatch : Nat → Int32) (x_tons : Nat → Int32) (x_skill : Nat → Int32) (x_isDry : Nat → Int32) (x_says : Nat → Int32) (x_eCall : Nat → Int32) (x_eMan : Nat → Int32) (x_eMoney : Nat → Int32) (x_isIn : Nat → Int32) (x_gang : Nat → Int32) (p0 : Int32) (p1 : Int32) (p2 : Int32) {Q : Int32 → Int64 → Int64 → (Nat → Int32) → (Nat → Int32) → (Nat → Int32) → (Nat → Int32) → (Nat → Int32) → (Nat → Int32) → (Nat → Int32) → (Nat → Int32) → Prop} (hw : wp_Model_works x_entries x_calls x_moved x_paid x_turns x_atShip x_atHatch x_tons x_skill x_isDry x_says x_eCall x_eMan x_eMoney x_isIn x_gang p0 p1 p2 Q) : Met l yX9_works wsX9_works ({ frames := 1, cells := 0, slots := 0, locals := 24 }) (va_Pc [.ref (bd 0), .int p0, .int p1, .int p2] (mPre D y sz [(ce_xm bd x_thrown x_men x_ships x_entries x_rules x_calls x_gangs x_idle x_moved x_paid x_taped x_at x_end x_begin x_faultAt x_wants), ((bd 2), .inl (y 0, 24, .inl x_turns)), ((bd 5), .inl (y 0, 24, .inl x_atShip)), ((bd 6), .inl (y 0, 24, .inl x_atHatch)), ((bd 10), .inl (y 0, 40, .inl x_tons)), ((bd 11), .inl (y 0, 40, .inl x_skill)), ((bd 12), .inl (y 2, 40, .inl x_isDry)), ((bd 13), .inl (y 0, 11, .inl x_says)), ((bd 15), .inl (y 0, 800, .inl x_eCall)), ((bd 16), .inl (y 0, 800, .inl x_eMan)), ((bd 17), .inl (y 0, 800, .inl x_eMoney)), ((bd 25), .inl (y 2, 24, .inl x_isIn)), ((bd 27), .inl (y 0, 8, .inl x_gang))])) (va_Qv (fun (u : Int32 × Int64 × Int64 × (Nat → Int32) × (Nat → Int32) × (Nat → Int32) × (Nat → Int32) × (Nat → Int32) × (Nat → Int32) × (Nat → Int32) × (Nat → Int32)) => Q u.1 u.2.1 u.2.2.1 u.2.2.2.1 u.2.2.2.2.1 u.2.2.2.2.2.1 u.2.2.2.2.2.2.1 u.2.2.2.2.2.2.2.1 u.2.2.2.2.2.2.2.2.1 u.2.2.2.2.2.2.2.2.2.1 u.2.2.2.2.2.2.2.2.2.2) (mAt D y (va_A [(ce_xm bd x_thrown x_men x_ships x_entries x_rules x_calls x_gangs x_idle x_moved x_paid x_taped x_at x_end x_begin x_faultAt x_wants), ((bd 2), .inl (y 0, 24, .inl x_turns)), ((bd 5), .inl (y 0, 24, .inl x_atShip)), ((bd 6), .inl (y 0, 24, .inl x_atHatch)), ((bd 10), .inl (y 0, 40, .inl x_tons)), ((bd 11), .inl (y 0, 40, .inl x_skill)), ((bd 12), .inl (y 2, 40, .inl x_isDry)), ((bd 13), .inl (y 0, 11, .inl x_says)), ((bd 15), .inl (y 0, 800, .inl x_eCall)), ((bd 16), .inl (y 0, 800, .inl x_eMan)), ((bd 17), .inl (y 0, 800, .inl x_eMoney)), ((bd 25), .inl (y 2, 24, .inl x_isIn)), ((bd 27), .inl (y 0, 8, .inl x_gang))] sz) (fun (u : Int32 × Int64 × Int64 × (Nat → Int32) × (Nat → Int32) × (Nat → Int32) × (Nat → Int32) × (Nat → Int32) × (Nat → Int32) × (Nat → Int32) × (Nat → Int32)) => [(ce_xm bd x_thrown x_men x_ships u.1 x_rules x_calls x_gangs x_idle u.2.1 u.2.2.1 x_taped x_at x_end x_begin x_faultAt x_wants), ((bd 2), .inl (y 0, 24, .inl u.2.2.2.1)), ((bd 5), .inl (y 0, 24, .inl u.2.2.2.2.1)), ((bd 6), .inl (y 0, 24, .inl u.2.2.2.2.2.1)), ((bd 10), .inl (y 0, 40, .inl u.2.2.2.2.2.2.1)), ((bd 11), .inl (y 0, 40, .inl x_skill)), ((bd 12), .inl (y 2, 40, .inl x_isDry)), ((bd 13), .inl (y 0, 11, .inl x_says)), ((bd 15), .inl (y 0, 800, .inl u.2.2.2.2.2.2.2.1)), ((bd 16), .inl (y 0, 800, .inl u.2.2.2.2.2.2.2.2.1)), ((bd 17), .inl (y 0, 800, .inl u.2.2.2.2.2.2.2.2.2.1)), ((bd 25), .inl (y 2, 24, .inl u.2.2.2.2.2.2.2.2.2.2)), ((bd 27), .inl (y 0, 8, .inl x_gang))])) (va_A [(ce_xm bd x_thrown x_men x_ships x_entries x_rules x_calls x_gangs x_idle x_moved x_paid x_taped x_at x_end x_begin x_faultAt x_wants), ((bd 2), .inl (y 0, 24, .inl x_turns)), ((bd 5), .inl (y 0, 24, .inl x_atShip)), ((bd 6), .inl (y 0, 24, .inl x_atHatch)), ((bd 10), .inl (y 0, 40, .inl x_tons)), ((bd 11), .inl (y 0, 40, .inl x_skill)), ((bd 12), .inl (y 2, 40, .inl x_isDry)), ((bd 13), .inl (y 0, 11, .inl x_says)), ((bd 15), .inl (y 0, 800, .inl x_eCall)), ((bd 16), .inl (y 0, 800, .inl x_eMan)), ((bd 17), .inl (y 0, 800, .inl x_eMoney)), ((bd 25), .inl (y 2, 24, .inl x_isIn)), ((bd 27), .inl (y 0, 8, .inl x_gang))] sz)) 0 0 (va_A [(ce_xm bd x_thrown x_men x_ships x_entries x_rules x_calls x_gangs x_idle x_moved x_paid x_taped x_at x_end x_begin x_faultAt x_wants), ((bd 2), .inl (y 0, 24, .inl x_turns)), ((bd 5), .inl (y 0, 24, .inl x_atShip)), ((bd 6), .inl (y 0, 24, .inl x_atHatch)), ((bd 10), .inl (y 0, 40, .inl x_tons)), ((bd 11), .inl (y 0, 40, .inl x_skill)), ((bd 12), .inl (y 2, 40, .inl x_isDry)), ((bd 13), .inl (y 0, 11, .inl x_says)), ((bd 15), .inl (y 0, 800, .inl x_eCall)), ((bd 16), .inl (y 0, 800, .inl x_eMan)), ((bd 17), .inl (y 0, 800, .inl x_eMoney)), ((bd 25), .inl (y 2, 24, .inl x_isIn)), ((bd 27), .inl (y 0, 8, .inl x_gang))] sz) := by
  unfold wp_Model_works at hw
  refine Met.ofW (cc := cX9_works) (maxL := 10) (ret := none) (by decide) rfl ?_
  intro p e s m args below meth c s₁ B hml hv
  obtain ⟨rfl, hsz, hP, hK, hD0, hE⟩ := hv
  have hx := B.exec
  have hb := B.bytes
  have hr := B.returns
  have hts := atoms_spec (ws := wsX9_works) B.pre
  have hown : s.vm.findClass RX9 = some m.cls := findClass_of_methodNamed B.named
  have hlocks := B.notSynchronized
  subst hsz
  have hD := hD0.self (sz := s.heap.size)
  generalize hAe : va_A [(ce_xm bd x_thrown x_men x_ships x_entries x_rules x_calls x_gangs x_idle x_moved x_paid x_taped x_at x_end x_begin x_faultAt x_wants), ((bd 2), .inl (y 0, 24, .inl x_turns)), ((bd 5), .inl (y 0, 24, .inl x_atShip)), ((bd 6), .inl (y 0, 24, .inl x_atHatch)), ((bd 10), .inl (y 0, 40, .inl x_tons)), ((bd 11), .inl (y 0, 40, .inl x_skill)), ((bd 12), .inl (y 2, 40, .inl x_isDry)), ((bd 13), .inl (y 0, 11, .inl x_says)), ((bd 15), .inl (y 0, 800, .inl x_eCall)), ((bd 16), .inl (y 0, 800, .inl x_eMan)), ((bd 17), .inl (y 0, 800, .inl x_eMoney)), ((bd 25), .inl (y 2, 24, .inl x_isIn)), ((bd 27), .inl (y 0, 8, .inl x_gang))] s.heap.size = A at hD ⊢
  have hA : ∀ q : Nat, s.heap.size ≤ q → A q := fun q h => by rw [← hAe]; exact Or.inr h
  have hS : va_S A s.heap s.heap [] := va_S.rf
  have hP : va_P D vwCl [(ce_xm bd x_thrown x_men x_ships x_entries x_rules x_calls x_gangs x_idle x_moved x_paid x_taped x_at x_end x_begin x_faultAt x_wants), ((bd 2), .inl (y 0, 24, .inl x_turns)), ((bd 5), .inl (y 0, 24, .inl x_atShip)), ((bd 6), .inl (y 0, 24, .inl x_atHatch)), ((bd 10), .inl (y 0, 40, .inl x_tons)), ((bd 11), .inl (y 0, 40, .inl x_skill)), ((bd 12), .inl (y 2, 40, .inl x_isDry)), ((bd 13), .inl (y 0, 11, .inl x_says)), ((bd 15), .inl (y 0, 800, .inl x_eCall)), ((bd 16), .inl (y 0, 800, .inl x_eMan)), ((bd 17), .inl (y 0, 800, .inl x_eMoney)), ((bd 25), .inl (y 2, 24, .inl x_isIn)), ((bd 27), .inl (y 0, 8, .inl x_gang))] s.heap := hP
  have hl := lv_entry ([.ref (bd 0), .int p0, .int p1, .int p2]) (n := 10) (Nat.le_of_ble_eq_true rfl)
  rw [lg_entry_eq]
  generalize (lg_sl ([.ref (bd 0), .int p0, .int p1, .int p2]) ++ List.replicate (10 - (lg_sl ([.ref (bd 0), .int p0, .int p1, .int p2])).length) Slot.unset).toArray = ls at hl ⊢
  have hl : lv_has ls 10 [(0, .ref (bd 0)), (1, .int p0), (2, .int p1), (3, .int p2)] := hl
  refine lv_iconst (v := 4) hx hb dX9_works_0 (by decide) ?_
  refine lv_iload_n hx hb dX9_works_1 rfl (lv_at hl 1 rfl) ?_
  refine lv_imul hx hb dX9_works_2 ?_
  refine lv_iload_n hx hb dX9_works_3 rfl (lv_at hl 2 rfl) ?_
  refine lv_iadd hx hb dX9_works_4 ?_
  refine lv_istore (lv' := [(4, .int ((4 * p0) + p1)), (0, .ref (bd 0)), (1, .int p0), (2, .int p1), (3, .int p2)]) hx hb dX9_works_5 hl (by decide) rfl (fun ls hl => ?_)
  refine lv_iconst (v := 0) hx hb dX9_works_7 (by decide) ?_
  refine lv_istore (lv' := [(5, .int 0), (4, .int ((4 * p0) + p1)), (0, .ref (bd 0)), (1, .int p0), (2, .int p1), (3, .int p2)]) hx hb dX9_works_8 hl (by decide) rfl (fun ls hl => ?_)
  refine lv_iconst (v := 0) hx hb dX9_works_10 (by decide) ?_
  refine lv_istore (lv' := [(6, .int 0), (5, .int 0), (4, .int ((4 * p0) + p1)), (0, .ref (bd 0)), (1, .int p0), (2, .int p1), (3, .int p2)]) hx hb dX9_works_11 hl (by decide) rfl (fun ls hl => ?_)
  refine lv_iconst (v := 0) hx hb dX9_works_13 (by decide) ?_
  refine lv_istore (lv' := [(7, .int 0), (6, .int 0), (5, .int 0), (4, .int ((4 * p0) + p1)), (0, .ref (bd 0)), (1, .int p0), (2, .int p1), (3, .int p2)]) hx hb dX9_works_14 hl (by decide) rfl (fun ls hl => ?_)
  obtain ⟨n', hw⟩ := hw
  exact c_Model_works_h16 hx hb hr hml hown hts hlocks hK hE hA  n' 0 0 0 x_moved x_tons hw _ _ _ hP hD hS (lv_sub hl [0, 1, 2, 3, 4, 5, 6, 7] rfl)
