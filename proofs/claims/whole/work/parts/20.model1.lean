theorem inw_X9_thrown_X9 : ∀ w ∈ wsX90, w ∈ wsX9_thrown := fun _ h => List.mem_cons_of_mem _ (List.mem_append_right _ h)
def wp_Model_thrown (x_thrown : Int32) (Q : Int32 → Prop) : Prop := Q x_thrown
set_option maxHeartbeats 4000000 in
set_option maxRecDepth 100000 in
theorem c_Model_thrown (l : Launch) (D : va_G) (y : Nat → ClassId) (bd : Nat → Nat) (sz : Nat) (x_thrown : Int32) (x_men : Int32) (x_ships : Int32) (x_entries : Int32) (x_rules : Int32) (x_calls : Int32) (x_gangs : Int32) (x_idle : Int32) (x_moved : Int64) (x_paid : Int64) (x_taped : Int32) (x_at : Int32) (x_end : Int32) (x_begin : Int32) (x_faultAt : Int32) (x_wants : Int32)  {Q : Int32 → Prop} (hw : wp_Model_thrown x_thrown Q) : Met l yX9_thrown wsX9_thrown ({ frames := 0, cells := 0, slots := 0, locals := 0 }) (va_Pc [.ref (bd 0)] (mPre D y sz [(ce_xm bd x_thrown x_men x_ships x_entries x_rules x_calls x_gangs x_idle x_moved x_paid x_taped x_at x_end x_begin x_faultAt x_wants)])) (va_Qi (fun (r : Int32) (u : Unit) => Q r ) (mAt D y (va_A [(ce_xm bd x_thrown x_men x_ships x_entries x_rules x_calls x_gangs x_idle x_moved x_paid x_taped x_at x_end x_begin x_faultAt x_wants)] sz) (fun (u : Unit) => [(ce_xm bd x_thrown x_men x_ships x_entries x_rules x_calls x_gangs x_idle x_moved x_paid x_taped x_at x_end x_begin x_faultAt x_wants)])) (va_A [(ce_xm bd x_thrown x_men x_ships x_entries x_rules x_calls x_gangs x_idle x_moved x_paid x_taped x_at x_end x_begin x_faultAt x_wants)] sz)) 0 0 (va_A [(ce_xm bd x_thrown x_men x_ships x_entries x_rules x_calls x_gangs x_idle x_moved x_paid x_taped x_at x_end x_begin x_faultAt x_wants)] sz) := by
  unfold wp_Model_thrown at hw
  refine Met.ofW (cc := cX9_thrown) (maxL := 1) (ret := some .int) (by decide) rfl ?_
  intro p e s m args below meth c s₁ B hml hv
  obtain ⟨rfl, hsz, hP, hK, hD0, hE⟩ := hv
  have hx := B.exec
  have hb := B.bytes
  have hr := B.returns
  have hts := atoms_spec (ws := wsX9_thrown) B.pre
  have hown : s.vm.findClass RX9 = some m.cls := findClass_of_methodNamed B.named
  have hlocks := B.notSynchronized
  subst hsz
  have hD := hD0.self (sz := s.heap.size)
  generalize hAe : va_A [(ce_xm bd x_thrown x_men x_ships x_entries x_rules x_calls x_gangs x_idle x_moved x_paid x_taped x_at x_end x_begin x_faultAt x_wants)] s.heap.size = A at hD ⊢
  have hA : ∀ q : Nat, s.heap.size ≤ q → A q := fun q h => by rw [← hAe]; exact Or.inr h
  have hS : va_S A s.heap s.heap [] := va_S.rf
  have hP : va_P D vwCl [(ce_xm bd x_thrown x_men x_ships x_entries x_rules x_calls x_gangs x_idle x_moved x_paid x_taped x_at x_end x_begin x_faultAt x_wants)] s.heap := hP
  have hl := lv_entry ([.ref (bd 0)]) (n := 1) (Nat.le_of_ble_eq_true rfl)
  rw [lg_entry_eq]
  generalize (lg_sl ([.ref (bd 0)]) ++ List.replicate (1 - (lg_sl ([.ref (bd 0)])).length) Slot.unset).toArray = ls at hl ⊢
  have hl : lv_has ls 1 [(0, .ref (bd 0))] := hl
  refine lv_aload_n hx hb dX9_thrown_0 rfl (lv_at hl 0 rfl) ?_
  refine va_get (ci := 11) (v := .int x_thrown) (C := RX9) (T := TX9) (N := 47) hx hb hts inw_X9_thrown_X9 hown hK hP 0 rfl rfl 0 (by decide) (hts (.fieldLink RX9 109 "DockCallModel" "thrown" "I") (by decide +kernel)) (fun _ h9 => h9) rfl dX9_thrown_1 ?_
  exact W.iret (v := x_thrown) hx hb hr (fun t ht hW => ⟨⟨x_thrown, (), rfl, hw, mAt.to hP hK hD ht hW⟩, hS.F ht⟩) hS.2.2 dX9_thrown_4
theorem inw_X9_throwsIf_X9 : ∀ w ∈ wsX90, w ∈ wsX9_throwsIf := fun _ h => List.mem_cons_of_mem _ (List.mem_append_right _ h)
def wp_Model_throwsIf (x_thrown : Int32) (p0 : Int32) (p1 : Int32) (Q : Int32 → Int32 → Prop) : Prop := ((p0 = 0 → (narrow .boolean (.int p0) = .int p0 ∧ Q p0 x_thrown)) ∧ (¬ p0 = 0 → (narrow .boolean (.int p0) = .int p0 ∧ Q p0 p1)))
set_option maxHeartbeats 4000000 in
set_option maxRecDepth 100000 in
theorem c_Model_throwsIf (l : Launch) (D : va_G) (y : Nat → ClassId) (bd : Nat → Nat) (sz : Nat) (x_thrown : Int32) (x_men : Int32) (x_ships : Int32) (x_entries : Int32) (x_rules : Int32) (x_calls : Int32) (x_gangs : Int32) (x_idle : Int32) (x_moved : Int64) (x_paid : Int64) (x_taped : Int32) (x_at : Int32) (x_end : Int32) (x_begin : Int32) (x_faultAt : Int32) (x_wants : Int32) (p0 : Int32) (p1 : Int32) {Q : Int32 → Int32 → Prop} (hw : wp_Model_throwsIf x_thrown p0 p1 Q) : Met l yX9_throwsIf wsX9_throwsIf ({ frames := 0, cells := 0, slots := 0, locals := 0 }) (va_Pc [.ref (bd 0), .int p0, .int p1] (mPre D y sz [(ce_xm bd x_thrown x_men x_ships x_entries x_rules x_calls x_gangs x_idle x_moved x_paid x_taped x_at x_end x_begin x_faultAt x_wants)])) (va_Qi (fun (r : Int32) (u : Int32) => Q r u) (mAt D y (va_A [(ce_xm bd x_thrown x_men x_ships x_entries x_rules x_calls x_gangs x_idle x_moved x_paid x_taped x_at x_end x_begin x_faultAt x_wants)] sz) (fun (u : Int32) => [(ce_xm bd u x_men x_ships x_entries x_rules x_calls x_gangs x_idle x_moved x_paid x_taped x_at x_end x_begin x_faultAt x_wants)])) (va_A [(ce_xm bd x_thrown x_men x_ships x_entries x_rules x_calls x_gangs x_idle x_moved x_paid x_taped x_at x_end x_begin x_faultAt x_wants)] sz)) 0 0 (va_A [(ce_xm bd x_thrown x_men x_ships x_entries x_rules x_calls x_gangs x_idle x_moved x_paid x_taped x_at x_end x_begin x_faultAt x_wants)] sz) := by
  unfold wp_Model_throwsIf at hw
  refine Met.ofW (cc := cX9_throwsIf) (maxL := 3) (ret := some .boolean) (by decide) rfl ?_
  intro p e s m args below meth c s₁ B hml hv
  obtain ⟨rfl, hsz, hP, hK, hD0, hE⟩ := hv
  have hx := B.exec
  have hb := B.bytes
  have hr := B.returns
  have hts := atoms_spec (ws := wsX9_throwsIf) B.pre
  have hown : s.vm.findClass RX9 = some m.cls := findClass_of_methodNamed B.named
  have hlocks := B.notSynchronized
  subst hsz
  have hD := hD0.self (sz := s.heap.size)
  generalize hAe : va_A [(ce_xm bd x_thrown x_men x_ships x_entries x_rules x_calls x_gangs x_idle x_moved x_paid x_taped x_at x_end x_begin x_faultAt x_wants)] s.heap.size = A at hD ⊢
  have hA : ∀ q : Nat, s.heap.size ≤ q → A q := fun q h => by rw [← hAe]; exact Or.inr h
  have hS : va_S A s.heap s.heap [] := va_S.rf
  have hP : va_P D vwCl [(ce_xm bd x_thrown x_men x_ships x_entries x_rules x_calls x_gangs x_idle x_moved x_paid x_taped x_at x_end x_begin x_faultAt x_wants)] s.heap := hP
  have hl := lv_entry ([.ref (bd 0), .int p0, .int p1]) (n := 3) (Nat.le_of_ble_eq_true rfl)
  rw [lg_entry_eq]
  generalize (lg_sl ([.ref (bd 0), .int p0, .int p1]) ++ List.replicate (3 - (lg_sl ([.ref (bd 0), .int p0, .int p1])).length) Slot.unset).toArray = ls at hl ⊢
  have hl : lv_has ls 3 [(0, .ref (bd 0)), (1, .int p0), (2, .int p1)] := hl
  refine lv_iload_n hx hb dX9_throwsIf_0 rfl (lv_at hl 1 rfl) ?_
  refine lv_if_eq (tgt := 9) hx hb dX9_throwsIf_1 (by decide) (fun hc => ?_) (fun hc => ?_)
  · have hw := hw.1 hc
    refine lv_iload_n hx hb dX9_throwsIf_9 rfl (lv_at hl 1 rfl) ?_
    obtain ⟨hn, hw⟩ := hw
    exact W.zret (v := p0) hx hb hr hn (fun t ht hW => ⟨⟨p0, (x_thrown), rfl, hw, mAt.to hP hK hD ht hW⟩, hS.F ht⟩) hS.2.2 dX9_throwsIf_10
  · have hw := hw.2 hc
    refine lv_aload_n hx hb dX9_throwsIf_4 rfl (lv_at hl 0 rfl) ?_
    refine lv_iload_n hx hb dX9_throwsIf_5 rfl (lv_at hl 2 rfl) ?_
    refine va_put (ci := 11) (v := .int p1) (ty := .int) (C := RX9) (T := TX9) (N := 47) hx hb hts inw_X9_throwsIf_X9 tyX9 tyX9_ok nmX9 hown hK hP hD hS 0 rfl rfl 0 (by decide) (hts (.fieldLink RX9 109 "DockCallModel" "thrown" "I") (by decide +kernel)) (fun _ h9 => h9) rfl (by decide +kernel) rfl rfl (Nat.le_of_ble_eq_true rfl) dX9_throwsIf_6 (fun H locs hP hD hS => ?_)
    have hP : va_P D vwCl [(ce_xm bd p1 x_men x_ships x_entries x_rules x_calls x_gangs x_idle x_moved x_paid x_taped x_at x_end x_begin x_faultAt x_wants)] H := hP
    have hD : va_D A [(ce_xm bd p1 x_men x_ships x_entries x_rules x_calls x_gangs x_idle x_moved x_paid x_taped x_at x_end x_begin x_faultAt x_wants)] := hD
    refine lv_iload_n hx hb dX9_throwsIf_9 rfl (lv_at hl 1 rfl) ?_
    obtain ⟨hn, hw⟩ := hw
    exact W.zret (v := p0) hx hb hr hn (fun t ht hW => ⟨⟨p0, (p1), rfl, hw, mAt.to hP hK hD ht hW⟩, hS.F ht⟩) hS.2.2 dX9_throwsIf_10
def wp_Model_in (p0 : Int64) (p1 : Int64) (p2 : Int64) (Q : Int32 → Prop) : Prop := ((lg_cmp p0 p1 < 0 → Q 0) ∧ (¬ lg_cmp p0 p1 < 0 → ((0 < lg_cmp p0 p2 → Q 0) ∧ (¬ 0 < lg_cmp p0 p2 → Q 1))))
set_option maxHeartbeats 4000000 in
set_option maxRecDepth 100000 in
theorem c_Model_in (l : Launch) (D : va_G) (y : Nat → ClassId) (sz : Nat)  (p0 : Int64) (p1 : Int64) (p2 : Int64) {Q : Int32 → Prop} (hw : wp_Model_in p0 p1 p2 Q) : Met l yX9_in wsX9_in ({ frames := 0, cells := 0, slots := 0, locals := 0 }) (va_Pc [.long p0, .long p1, .long p2] (mPre D y sz [])) (va_Qi (fun (r : Int32) (u : Unit) => Q r ) (mAt D y (va_A [] sz) (fun (u : Unit) => [])) (va_A [] sz)) 0 0 (va_A [] sz) := by
  unfold wp_Model_in at hw
  refine Met.ofW (cc := cX9_in) (maxL := 6) (ret := some .boolean) (by decide) rfl ?_
  intro p e s m args below meth c s₁ B hml hv
  obtain ⟨rfl, hsz, hP, hK, hD0, hE⟩ := hv
  have hx := B.exec
  have hb := B.bytes
  have hr := B.returns
  have hts := atoms_spec (ws := wsX9_in) B.pre
  have hown : s.vm.findClass RX9 = some m.cls := findClass_of_methodNamed B.named
  have hlocks := B.notSynchronized
  subst hsz
  have hD := hD0.self (sz := s.heap.size)
  generalize hAe : va_A [] s.heap.size = A at hD ⊢
  have hA : ∀ q : Nat, s.heap.size ≤ q → A q := fun q h => by rw [← hAe]; exact Or.inr h
  have hS : va_S A s.heap s.heap [] := va_S.rf
  have hP : va_P D vwCl [] s.heap := hP
  have hl := lv_entry ([.long p0, .long p1, .long p2]) (n := 6) (Nat.le_of_ble_eq_true rfl)
  rw [lg_entry_eq]
  generalize (lg_sl ([.long p0, .long p1, .long p2]) ++ List.replicate (6 - (lg_sl ([.long p0, .long p1, .long p2])).length) Slot.unset).toArray = ls at hl ⊢
  have hl : lv_has ls 6 [(0, .long p0), (2, .long p1), (4, .long p2)] := hl
  refine lv_lload_n hx hb dX9_in_0 rfl (lv_at hl 0 rfl) ?_
  refine lv_lload_n hx hb dX9_in_1 rfl (lv_at hl 1 rfl) ?_
  refine W.lcmp hx hb dX9_in_2 ?_
  refine lv_if_lt (tgt := 17) hx hb dX9_in_3 (by decide) (fun hc => ?_) (fun hc => ?_)
  · have hw := hw.1 hc
    refine lv_iconst (v := 0) hx hb dX9_in_17 (by decide) ?_
    exact W.zret (v := 0) hx hb hr (by decide) (fun t ht hW => ⟨⟨0, (), rfl, hw, mAt.to hP hK hD ht hW⟩, hS.F ht⟩) hS.2.2 dX9_in_18
  · have hw := hw.2 hc
    refine lv_lload_n hx hb dX9_in_6 rfl (lv_at hl 0 rfl) ?_
    refine lv_lload hx hb dX9_in_7 (lv_at hl 2 rfl) ?_
    refine W.lcmp hx hb dX9_in_9 ?_
    refine lv_if_gt (tgt := 17) hx hb dX9_in_10 (by decide) (fun hc => ?_) (fun hc => ?_)
    · have hw := hw.1 hc
      refine lv_iconst (v := 0) hx hb dX9_in_17 (by decide) ?_
      exact W.zret (v := 0) hx hb hr (by decide) (fun t ht hW => ⟨⟨0, (), rfl, hw, mAt.to hP hK hD ht hW⟩, hS.F ht⟩) hS.2.2 dX9_in_18
    · have hw := hw.2 hc
      refine lv_iconst (v := 1) hx hb dX9_in_13 (by decide) ?_
      refine lv_goto (tgt := 18) hx hb dX9_in_14 (by decide) ?_
      exact W.zret (v := 1) hx hb hr (by decide) (fun t ht hW => ⟨⟨1, (), rfl, hw, mAt.to hP hK hD ht hW⟩, hS.F ht⟩) hS.2.2 dX9_in_18
theorem inw_X9_noMan_X9 : ∀ w ∈ wsX90, w ∈ wsX9_noMan := fun _ h => List.mem_cons_of_mem _ (List.mem_append_right _ h)
def wp_Model_noMan (x_men : Int32) (p0 : Int32) (Q : Int32 → Prop) : Prop := (wp_Model_in p0.toInt64 0 ((x_men - 1).toInt64) (fun r_1 => ((r_1 = 0 → Q 1) ∧ (¬ r_1 = 0 → Q 0))))
set_option maxHeartbeats 4000000 in
set_option maxRecDepth 100000 in
theorem c_Model_noMan (l : Launch) (D : va_G) (y : Nat → ClassId) (bd : Nat → Nat) (sz : Nat) (x_thrown : Int32) (x_men : Int32) (x_ships : Int32) (x_entries : Int32) (x_rules : Int32) (x_calls : Int32) (x_gangs : Int32) (x_idle : Int32) (x_moved : Int64) (x_paid : Int64) (x_taped : Int32) (x_at : Int32) (x_end : Int32) (x_begin : Int32) (x_faultAt : Int32) (x_wants : Int32) (p0 : Int32) {Q : Int32 → Prop} (hw : wp_Model_noMan x_men p0 Q) : Met l yX9_noMan wsX9_noMan ({ frames := 1, cells := 0, slots := 0, locals := 25 }) (va_Pc [.ref (bd 0), .int p0] (mPre D y sz [(ce_xm bd x_thrown x_men x_ships x_entries x_rules x_calls x_gangs x_idle x_moved x_paid x_taped x_at x_end x_begin x_faultAt x_wants)])) (va_Qi (fun (r : Int32) (u : Unit) => Q r ) (mAt D y (va_A [(ce_xm bd x_thrown x_men x_ships x_entries x_rules x_calls x_gangs x_idle x_moved x_paid x_taped x_at x_end x_begin x_faultAt x_wants)] sz) (fun (u : Unit) => [(ce_xm bd x_thrown x_men x_ships x_entries x_rules x_calls x_gangs x_idle x_moved x_paid x_taped x_at x_end x_begin x_faultAt x_wants)])) (va_A [(ce_xm bd x_thrown x_men x_ships x_entries x_rules x_calls x_gangs x_idle x_moved x_paid x_taped x_at x_end x_begin x_faultAt x_wants)] sz)) 0 0 (va_A [(ce_xm bd x_thrown x_men x_ships x_entries x_rules x_calls x_gangs x_idle x_moved x_paid x_taped x_at x_end x_begin x_faultAt x_wants)] sz) := by
  unfold wp_Model_noMan at hw
  refine Met.ofW (cc := cX9_noMan) (maxL := 2) (ret := some .boolean) (by decide) rfl ?_
  intro p e s m args below meth c s₁ B hml hv
  obtain ⟨rfl, hsz, hP, hK, hD0, hE⟩ := hv
  have hx := B.exec
  have hb := B.bytes
  have hr := B.returns
  have hts := atoms_spec (ws := wsX9_noMan) B.pre
  have hown : s.vm.findClass RX9 = some m.cls := findClass_of_methodNamed B.named
  have hlocks := B.notSynchronized
  subst hsz
  have hD := hD0.self (sz := s.heap.size)
  generalize hAe : va_A [(ce_xm bd x_thrown x_men x_ships x_entries x_rules x_calls x_gangs x_idle x_moved x_paid x_taped x_at x_end x_begin x_faultAt x_wants)] s.heap.size = A at hD ⊢
  have hA : ∀ q : Nat, s.heap.size ≤ q → A q := fun q h => by rw [← hAe]; exact Or.inr h
  have hS : va_S A s.heap s.heap [] := va_S.rf
  have hP : va_P D vwCl [(ce_xm bd x_thrown x_men x_ships x_entries x_rules x_calls x_gangs x_idle x_moved x_paid x_taped x_at x_end x_begin x_faultAt x_wants)] s.heap := hP
  have hl := lv_entry ([.ref (bd 0), .int p0]) (n := 2) (Nat.le_of_ble_eq_true rfl)
  rw [lg_entry_eq]
  generalize (lg_sl ([.ref (bd 0), .int p0]) ++ List.replicate (2 - (lg_sl ([.ref (bd 0), .int p0])).length) Slot.unset).toArray = ls at hl ⊢
  have hl : lv_has ls 2 [(0, .ref (bd 0)), (1, .int p0)] := hl
  refine lv_iload_n hx hb dX9_noMan_0 rfl (lv_at hl 1 rfl) ?_
  refine lv_i2l hx hb dX9_noMan_1 rfl ?_
  refine lv_lconst (v := 0) hx hb dX9_noMan_2 (by decide) ?_
  refine lv_aload_n hx hb dX9_noMan_3 rfl (lv_at hl 0 rfl) ?_
  refine va_get (ci := 11) (v := .int x_men) (C := RX9) (T := TX9) (N := 47) hx hb hts inw_X9_noMan_X9 hown hK hP 0 rfl rfl 7 (by decide) (hts (.fieldLink RX9 112 "DockCallModel" "men" "I") (by decide +kernel)) (fun _ h9 => h9) rfl dX9_noMan_4 ?_
  refine lv_iconst (v := 1) hx hb dX9_noMan_7 (by decide) ?_
  refine lv_isub hx hb dX9_noMan_8 ?_
  refine lv_i2l hx hb dX9_noMan_9 rfl ?_
  refine mx_i (wc := []) (wr := [(ce_xm bd x_thrown x_men x_ships x_entries x_rules x_calls x_gangs x_idle x_moved x_paid x_taped x_at x_end x_begin x_faultAt x_wants)]) hP hD hS hA [] [0] [0] rfl rfl (by decide) (by decide) (by decide) (fun (u : Unit) => [(ce_xm bd x_thrown x_men x_ships x_entries x_rules x_calls x_gangs x_idle x_moved x_paid x_taped x_at x_end x_begin x_faultAt x_wants)]) (fun _ => rfl) (va_runS (As := [.long p0.toInt64, .long 0, .long ((x_men - 1).toInt64)]) (rest := []) ⟨hx, hb, hml, hown, hts⟩ (c_Model_in l D y s.heap.size p0.toInt64 0 ((x_men - 1).toInt64) hw) (va_cwS 3 hts gX9_noMan_X9_in rfl rfl rfl (by decide +kernel) ⟨Nat.le_of_ble_eq_true rfl, Nat.le_of_ble_eq_true rfl⟩) ⟨mPre.blind, mPre.to (hP.sub [] rfl) hK (hD.sub [] (by decide) rfl) hE⟩ rfl rfl hl.1 rfl (lv_room (Nat.le_of_ble_eq_true rfl)) dX9_noMan_10 ⟨Nat.le_of_ble_eq_true rfl, Nat.le_of_ble_eq_true rfl⟩) (fun r_1 u H locs hw hP hD hS => ?_)
  try dsimp only at hw
  have hP : va_P D vwCl [(ce_xm bd x_thrown x_men x_ships x_entries x_rules x_calls x_gangs x_idle x_moved x_paid x_taped x_at x_end x_begin x_faultAt x_wants)] H := hP
  have hD : va_D A [(ce_xm bd x_thrown x_men x_ships x_entries x_rules x_calls x_gangs x_idle x_moved x_paid x_taped x_at x_end x_begin x_faultAt x_wants)] := hD
  refine lv_if_ne (tgt := 20) hx hb dX9_noMan_13 (by decide) (fun hc => ?_) (fun hc => ?_)
  · have hw := hw.2 hc
    refine lv_iconst (v := 0) hx hb dX9_noMan_20 (by decide) ?_
    exact W.zret (v := 0) hx hb hr (by decide) (fun t ht hW => ⟨⟨0, (), rfl, hw, mAt.to hP hK hD ht hW⟩, hS.F ht⟩) hS.2.2 dX9_noMan_21
  · have hw := hw.1 hc
    refine lv_iconst (v := 1) hx hb dX9_noMan_16 (by decide) ?_
    refine lv_goto (tgt := 21) hx hb dX9_noMan_17 (by decide) ?_
    exact W.zret (v := 1) hx hb hr (by decide) (fun t ht hW => ⟨⟨1, (), rfl, hw, mAt.to hP hK hD ht hW⟩, hS.F ht⟩) hS.2.2 dX9_noMan_21
theorem inw_X9_noShip_X9 : ∀ w ∈ wsX90, w ∈ wsX9_noShip := fun _ h => List.mem_cons_of_mem _ (List.mem_append_right _ h)
def wp_Model_noShip (x_ships : Int32) (p0 : Int32) (Q : Int32 → Prop) : Prop := (wp_Model_in p0.toInt64 0 ((x_ships - 1).toInt64) (fun r_1 => ((r_1 = 0 → Q 1) ∧ (¬ r_1 = 0 → Q 0))))
set_option maxHeartbeats 4000000 in
set_option maxRecDepth 100000 in
theorem c_Model_noShip (l : Launch) (D : va_G) (y : Nat → ClassId) (bd : Nat → Nat) (sz : Nat) (x_thrown : Int32) (x_men : Int32) (x_ships : Int32) (x_entries : Int32) (x_rules : Int32) (x_calls : Int32) (x_gangs : Int32) (x_idle : Int32) (x_moved : Int64) (x_paid : Int64) (x_taped : Int32) (x_at : Int32) (x_end : Int32) (x_begin : Int32) (x_faultAt : Int32) (x_wants : Int32) (p0 : Int32) {Q : Int32 → Prop} (hw : wp_Model_noShip x_ships p0 Q) : Met l yX9_noShip wsX9_noShip ({ frames := 1, cells := 0, slots := 0, locals := 25 }) (va_Pc [.ref (bd 0), .int p0] (mPre D y sz [(ce_xm bd x_thrown x_men x_ships x_entries x_rules x_calls x_gangs x_idle x_moved x_paid x_taped x_at x_end x_begin x_faultAt x_wants)])) (va_Qi (fun (r : Int32) (u : Unit) => Q r ) (mAt D y (va_A [(ce_xm bd x_thrown x_men x_ships x_entries x_rules x_calls x_gangs x_idle x_moved x_paid x_taped x_at x_end x_begin x_faultAt x_wants)] sz) (fun (u : Unit) => [(ce_xm bd x_thrown x_men x_ships x_entries x_rules x_calls x_gangs x_idle x_moved x_paid x_taped x_at x_end x_begin x_faultAt x_wants)])) (va_A [(ce_xm bd x_thrown x_men x_ships x_entries x_rules x_calls x_gangs x_idle x_moved x_paid x_taped x_at x_end x_begin x_faultAt x_wants)] sz)) 0 0 (va_A [(ce_xm bd x_thrown x_men x_ships x_entries x_rules x_calls x_gangs x_idle x_moved x_paid x_taped x_at x_end x_begin x_faultAt x_wants)] sz) := by
  unfold wp_Model_noShip at hw
  refine Met.ofW (cc := cX9_noShip) (maxL := 2) (ret := some .boolean) (by decide) rfl ?_
  intro p e s m args below meth c s₁ B hml hv
  obtain ⟨rfl, hsz, hP, hK, hD0, hE⟩ := hv
  have hx := B.exec
  have hb := B.bytes
  have hr := B.returns
  have hts := atoms_spec (ws := wsX9_noShip) B.pre
  have hown : s.vm.findClass RX9 = some m.cls := findClass_of_methodNamed B.named
  have hlocks := B.notSynchronized
  subst hsz
  have hD := hD0.self (sz := s.heap.size)
  generalize hAe : va_A [(ce_xm bd x_thrown x_men x_ships x_entries x_rules x_calls x_gangs x_idle x_moved x_paid x_taped x_at x_end x_begin x_faultAt x_wants)] s.heap.size = A at hD ⊢
  have hA : ∀ q : Nat, s.heap.size ≤ q → A q := fun q h => by rw [← hAe]; exact Or.inr h
  have hS : va_S A s.heap s.heap [] := va_S.rf
  have hP : va_P D vwCl [(ce_xm bd x_thrown x_men x_ships x_entries x_rules x_calls x_gangs x_idle x_moved x_paid x_taped x_at x_end x_begin x_faultAt x_wants)] s.heap := hP
  have hl := lv_entry ([.ref (bd 0), .int p0]) (n := 2) (Nat.le_of_ble_eq_true rfl)
  rw [lg_entry_eq]
  generalize (lg_sl ([.ref (bd 0), .int p0]) ++ List.replicate (2 - (lg_sl ([.ref (bd 0), .int p0])).length) Slot.unset).toArray = ls at hl ⊢
  have hl : lv_has ls 2 [(0, .ref (bd 0)), (1, .int p0)] := hl
  refine lv_iload_n hx hb dX9_noShip_0 rfl (lv_at hl 1 rfl) ?_
  refine lv_i2l hx hb dX9_noShip_1 rfl ?_
  refine lv_lconst (v := 0) hx hb dX9_noShip_2 (by decide) ?_
  refine lv_aload_n hx hb dX9_noShip_3 rfl (lv_at hl 0 rfl) ?_
  refine va_get (ci := 11) (v := .int x_ships) (C := RX9) (T := TX9) (N := 47) hx hb hts inw_X9_noShip_X9 hown hK hP 0 rfl rfl 14 (by decide) (hts (.fieldLink RX9 119 "DockCallModel" "ships" "I") (by decide +kernel)) (fun _ h9 => h9) rfl dX9_noShip_4 ?_
  refine lv_iconst (v := 1) hx hb dX9_noShip_7 (by decide) ?_
  refine lv_isub hx hb dX9_noShip_8 ?_
  refine lv_i2l hx hb dX9_noShip_9 rfl ?_
  refine mx_i (wc := []) (wr := [(ce_xm bd x_thrown x_men x_ships x_entries x_rules x_calls x_gangs x_idle x_moved x_paid x_taped x_at x_end x_begin x_faultAt x_wants)]) hP hD hS hA [] [0] [0] rfl rfl (by decide) (by decide) (by decide) (fun (u : Unit) => [(ce_xm bd x_thrown x_men x_ships x_entries x_rules x_calls x_gangs x_idle x_moved x_paid x_taped x_at x_end x_begin x_faultAt x_wants)]) (fun _ => rfl) (va_runS (As := [.long p0.toInt64, .long 0, .long ((x_ships - 1).toInt64)]) (rest := []) ⟨hx, hb, hml, hown, hts⟩ (c_Model_in l D y s.heap.size p0.toInt64 0 ((x_ships - 1).toInt64) hw) (va_cwS 3 hts gX9_noShip_X9_in rfl rfl rfl (by decide +kernel) ⟨Nat.le_of_ble_eq_true rfl, Nat.le_of_ble_eq_true rfl⟩) ⟨mPre.blind, mPre.to (hP.sub [] rfl) hK (hD.sub [] (by decide) rfl) hE⟩ rfl rfl hl.1 rfl (lv_room (Nat.le_of_ble_eq_true rfl)) dX9_noShip_10 ⟨Nat.le_of_ble_eq_true rfl, Nat.le_of_ble_eq_true rfl⟩) (fun r_1 u H locs hw hP hD hS => ?_)
  try dsimp only at hw
  have hP : va_P D vwCl [(ce_xm bd x_thrown x_men x_ships x_entries x_rules x_calls x_gangs x_idle x_moved x_paid x_taped x_at x_end x_begin x_faultAt x_wants)] H := hP
  have hD : va_D A [(ce_xm bd x_thrown x_men x_ships x_entries x_rules x_calls x_gangs x_idle x_moved x_paid x_taped x_at x_end x_begin x_faultAt x_wants)] := hD
  refine lv_if_ne (tgt := 20) hx hb dX9_noShip_13 (by decide) (fun hc => ?_) (fun hc => ?_)
  · have hw := hw.2 hc
    refine lv_iconst (v := 0) hx hb dX9_noShip_20 (by decide) ?_
    exact W.zret (v := 0) hx hb hr (by decide) (fun t ht hW => ⟨⟨0, (), rfl, hw, mAt.to hP hK hD ht hW⟩, hS.F ht⟩) hS.2.2 dX9_noShip_21
  · have hw := hw.1 hc
    refine lv_iconst (v := 1) hx hb dX9_noShip_16 (by decide) ?_
    refine lv_goto (tgt := 21) hx hb dX9_noShip_17 (by decide) ?_
    exact W.zret (v := 1) hx hb hr (by decide) (fun t ht hW => ⟨⟨1, (), rfl, hw, mAt.to hP hK hD ht hW⟩, hS.F ht⟩) hS.2.2 dX9_noShip_21
theorem inw_X9_tonsOf_X9 : ∀ w ∈ wsX90, w ∈ wsX9_tonsOf := fun _ h => List.mem_cons_of_mem _ (List.mem_append_left _ (List.mem_append_right _ h))
def wp_Model_tonsOf_h4 (v1 : Int32) (x_hatches : Nat → Int32) (x_tons : Nat → Int32)  (Q : Int32 → Prop) : Nat → Int32 → Int32 → Prop
  | 0, _, _ => False
  | n + 1, v2, v3 => (vp_in v1 10 ∧ ((x_hatches v1.toNatClampNeg ≤ v3 → Q v2) ∧ (¬ x_hatches v1.toNatClampNeg ≤ v3 → (vp_in ((4 * v1) + v3) 40 ∧ wp_Model_tonsOf_h4 v1 x_hatches x_tons Q n (v2 + (x_tons ((4 * v1) + v3).toNatClampNeg)) (v3 + 1)))))
def wp_Model_tonsOf (x_hatches : Nat → Int32) (x_tons : Nat → Int32) (p0 : Int32) (Q : Int32 → Prop) : Prop := (∃ n' : Nat, wp_Model_tonsOf_h4 p0 x_hatches x_tons Q n' 0 0)
set_option maxHeartbeats 4000000 in
set_option maxRecDepth 100000 in
theorem c_Model_tonsOf_h4 {p : Program} {l : Launch} {e : Env} {s : State} {m : MethodId} {args : Array Value} {below : List Frame} {meth : Method} {c : Code} {D : va_G} {y : Nat → ClassId} {bd : Nat → Nat} {A : Nat → Prop} (hx : p.tables.exec = Jvm.exec) (hb : c.code = cX9_tonsOf) (hr : meth.sig.returnType = some .int) (hml : c.maxLocals = 4) (hown : s.vm.findClass RX9 = some m.cls) (hts : ∀ w ∈ wsX9_tonsOf, w.before args s = true) (hlocks : meth.locks = false) (hK : va_K D vwCl (TY y) s) (hE : EV s) (hA : ∀ q, s.heap.size ≤ q → A q) {v1 : Int32} {x_hatches : Nat → Int32} {x_tons : Nat → Int32} {x_thrown : Int32} {x_men : Int32} {x_ships : Int32} {x_entries : Int32} {x_rules : Int32} {x_calls : Int32} {x_gangs : Int32} {x_idle : Int32} {x_moved : Int64} {x_paid : Int64} {x_taped : Int32} {x_at : Int32} {x_end : Int32} {x_begin : Int32} {x_faultAt : Int32} {x_wants : Int32}  {Q : Int32 → Prop}  : ∀ (n : Nat) (v2 : Int32) (v3 : Int32), wp_Model_tonsOf_h4 v1 x_hatches x_tons Q n v2 v3 → ∀ (H : Heap) (locs : List Loc) (ls : Array Slot), va_P D vwCl [(ce_xm bd x_thrown x_men x_ships x_entries x_rules x_calls x_gangs x_idle x_moved x_paid x_taped x_at x_end x_begin x_faultAt x_wants), ((bd 8), .inl (y 0, 10, .inl x_hatches)), ((bd 10), .inl (y 0, 40, .inl x_tons))] H → va_D A [(ce_xm bd x_thrown x_men x_ships x_entries x_rules x_calls x_gangs x_idle x_moved x_paid x_taped x_at x_end x_begin x_faultAt x_wants), ((bd 8), .inl (y 0, 10, .inl x_hatches)), ((bd 10), .inl (y 0, 40, .inl x_tons))] → va_S A s.heap H locs → lv_has ls 4 [(3, .int v3), (2, .int v2), (0, .ref (bd 0)), (1, .int v1)] → W p l e ({ frames := 0, cells := 0, slots := 0, locals := 0 }) s m args below meth c H locs 0 0 (MQ below (va_Qi (fun (r : Int32) (u : Unit) => Q r ) (mAt D y A (fun (u : Unit) => [(ce_xm bd x_thrown x_men x_ships x_entries x_rules x_calls x_gangs x_idle x_moved x_paid x_taped x_at x_end x_begin x_faultAt x_wants), ((bd 8), .inl (y 0, 10, .inl x_hatches)), ((bd 10), .inl (y 0, 40, .inl x_tons))])) A) args s 0 0 A) (F0 m 4 ls []) := by
  intro n
  induction n with
  | zero => intro v2 v3 hw; rw [wp_Model_tonsOf_h4] at hw; exact hw.elim
  | succ n ih =>
    intro v2 v3 hw H locs ls hP hD hS hl
    rw [wp_Model_tonsOf_h4] at hw
    refine lv_iload_n hx hb dX9_tonsOf_4 rfl (lv_at hl 0 rfl) ?_
    refine lv_aload_n hx hb dX9_tonsOf_5 rfl (lv_at hl 2 rfl) ?_
    refine va_get (ci := 11) (v := .ref (bd 8)) (C := RX9) (T := TX9) (N := 47) hx hb hts inw_X9_tonsOf_X9 hown hK hP 0 rfl rfl 9 (by decide) (hts (.fieldLink RX9 31 "DockCallModel" "hatches" "[I") (by decide +kernel)) (fun _ h9 => h9) rfl dX9_tonsOf_6 ?_
    refine lv_iload_n hx hb dX9_tonsOf_9 rfl (lv_at hl 3 rfl) ?_
    obtain ⟨hi, hw⟩ := hw
    refine va_iald hx hb hK hP 1 0 rfl rfl hi dX9_tonsOf_10 ?_
    refine lv_icmp_ge (tgt := 33) hx hb dX9_tonsOf_11 (by decide) (fun hc => ?_) (fun hc => ?_)
    · have hw := hw.1 hc
      refine lv_iload_n hx hb dX9_tonsOf_33 rfl (lv_at hl 1 rfl) ?_
      exact W.iret (v := v2) hx hb hr (fun t ht hW => ⟨⟨v2, (), rfl, hw, mAt.to hP hK hD ht hW⟩, hS.F ht⟩) hS.2.2 dX9_tonsOf_34
    · have hw := hw.2 hc
      refine lv_iload_n hx hb dX9_tonsOf_14 rfl (lv_at hl 1 rfl) ?_
      refine lv_aload_n hx hb dX9_tonsOf_15 rfl (lv_at hl 2 rfl) ?_
      refine va_get (ci := 11) (v := .ref (bd 10)) (C := RX9) (T := TX9) (N := 47) hx hb hts inw_X9_tonsOf_X9 hown hK hP 0 rfl rfl 11 (by decide) (hts (.fieldLink RX9 37 "DockCallModel" "tons" "[I") (by decide +kernel)) (fun _ h9 => h9) rfl dX9_tonsOf_16 ?_
      refine lv_iconst (v := 4) hx hb dX9_tonsOf_19 (by decide) ?_
      refine lv_iload_n hx hb dX9_tonsOf_20 rfl (lv_at hl 3 rfl) ?_
      refine lv_imul hx hb dX9_tonsOf_21 ?_
      refine lv_iload_n hx hb dX9_tonsOf_22 rfl (lv_at hl 0 rfl) ?_
      refine lv_iadd hx hb dX9_tonsOf_23 ?_
      obtain ⟨hi, hw⟩ := hw
      refine va_iald hx hb hK hP 2 0 rfl rfl hi dX9_tonsOf_24 ?_
      refine lv_iadd hx hb dX9_tonsOf_25 ?_
      refine lv_istore_n (lv' := [(2, .int (v2 + (x_tons ((4 * v1) + v3).toNatClampNeg))), (3, .int v3), (0, .ref (bd 0)), (1, .int v1)]) hx hb dX9_tonsOf_26 rfl hl (by decide) rfl (fun ls hl => ?_)
      refine lv_iinc (v := v3 + 1) (lv' := [(3, .int (v3 + 1)), (2, .int (v2 + (x_tons ((4 * v1) + v3).toNatClampNeg))), (0, .ref (bd 0)), (1, .int v1)]) hx hb dX9_tonsOf_27 hl (k := 1) rfl (by first | rfl | decide) (by decide) rfl (fun ls hl => ?_)
      refine lv_goto (tgt := 4) hx hb dX9_tonsOf_30 (by decide) ?_
      exact ih (v2 + (x_tons ((4 * v1) + v3).toNatClampNeg)) (v3 + 1)  hw _ _ _ hP hD hS (lv_sub hl [0, 1, 2, 3] rfl)
set_option maxHeartbeats 4000000 in
set_option maxRecDepth 100000 in
theorem c_Model_tonsOf (l : Launch) (D : va_G) (y : Nat → ClassId) (bd : Nat → Nat) (sz : Nat) (x_thrown : Int32) (x_men : Int32) (x_ships : Int32) (x_entries : Int32) (x_rules : Int32) (x_calls : Int32) (x_gangs : Int32) (x_idle : Int32) (x_moved : Int64) (x_paid : Int64) (x_taped : Int32) (x_at : Int32) (x_end : Int32) (x_begin : Int32) (x_faultAt : Int32) (x_wants : Int32) (x_hatches : Nat → Int32) (x_tons : Nat → Int32) (p0 : Int32) {Q : Int32 → Prop} (hw : wp_Model_tonsOf x_hatches x_tons p0 Q) : Met l yX9_tonsOf wsX9_tonsOf ({ frames := 0, cells := 0, slots := 0, locals := 0 }) (va_Pc [.ref (bd 0), .int p0] (mPre D y sz [(ce_xm bd x_thrown x_men x_ships x_entries x_rules x_calls x_gangs x_idle x_moved x_paid x_taped x_at x_end x_begin x_faultAt x_wants), ((bd 8), .inl (y 0, 10, .inl x_hatches)), ((bd 10), .inl (y 0, 40, .inl x_tons))])) (va_Qi (fun (r : Int32) (u : Unit) => Q r ) (mAt D y (va_A [(ce_xm bd x_thrown x_men x_ships x_entries x_rules x_calls x_gangs x_idle x_moved x_paid x_taped x_at x_end x_begin x_faultAt x_wants), ((bd 8), .inl (y 0, 10, .inl x_hatches)), ((bd 10), .inl (y 0, 40, .inl x_tons))] sz) (fun (u : Unit) => [(ce_xm bd x_thrown x_men x_ships x_entries x_rules x_calls x_gangs x_idle x_moved x_paid x_taped x_at x_end x_begin x_faultAt x_wants), ((bd 8), .inl (y 0, 10, .inl x_hatches)), ((bd 10), .inl (y 0, 40, .inl x_tons))])) (va_A [(ce_xm bd x_thrown x_men x_ships x_entries x_rules x_calls x_gangs x_idle x_moved x_paid x_taped x_at x_end x_begin x_faultAt x_wants), ((bd 8), .inl (y 0, 10, .inl x_hatches)), ((bd 10), .inl (y 0, 40, .inl x_tons))] sz)) 0 0 (va_A [(ce_xm bd x_thrown x_men x_ships x_entries x_rules x_calls x_gangs x_idle x_moved x_paid x_taped x_at x_end x_begin x_faultAt x_wants), ((bd 8), .inl (y 0, 10, .inl x_hatches)), ((bd 10), .inl (y 0, 40, .inl x_tons))] sz) := by
  unfold wp_Model_tonsOf at hw
  refine Met.ofW (cc := cX9_tonsOf) (maxL := 4) (ret := some .int) (by decide) rfl ?_
  intro p e s m args below meth c s₁ B hml hv
  obtain ⟨rfl, hsz, hP, hK, hD0, hE⟩ := hv
  have hx := B.exec
  have hb := B.bytes
  have hr := B.returns
  have hts := atoms_spec (ws := wsX9_tonsOf) B.pre
  have hown : s.vm.findClass RX9 = some m.cls := findClass_of_methodNamed B.named
  have hlocks := B.notSynchronized
  subst hsz
  have hD := hD0.self (sz := s.heap.size)
  generalize hAe : va_A [(ce_xm bd x_thrown x_men x_ships x_entries x_rules x_calls x_gangs x_idle x_moved x_paid x_taped x_at x_end x_begin x_faultAt x_wants), ((bd 8), .inl (y 0, 10, .inl x_hatches)), ((bd 10), .inl (y 0, 40, .inl x_tons))] s.heap.size = A at hD ⊢
  have hA : ∀ q : Nat, s.heap.size ≤ q → A q := fun q h => by rw [← hAe]; exact Or.inr h
  have hS : va_S A s.heap s.heap [] := va_S.rf
  have hP : va_P D vwCl [(ce_xm bd x_thrown x_men x_ships x_entries x_rules x_calls x_gangs x_idle x_moved x_paid x_taped x_at x_end x_begin x_faultAt x_wants), ((bd 8), .inl (y 0, 10, .inl x_hatches)), ((bd 10), .inl (y 0, 40, .inl x_tons))] s.heap := hP
  have hl := lv_entry ([.ref (bd 0), .int p0]) (n := 4) (Nat.le_of_ble_eq_true rfl)
  rw [lg_entry_eq]
  generalize (lg_sl ([.ref (bd 0), .int p0]) ++ List.replicate (4 - (lg_sl ([.ref (bd 0), .int p0])).length) Slot.unset).toArray = ls at hl ⊢
  have hl : lv_has ls 4 [(0, .ref (bd 0)), (1, .int p0)] := hl
  refine lv_iconst (v := 0) hx hb dX9_tonsOf_0 (by decide) ?_
  refine lv_istore_n (lv' := [(2, .int 0), (0, .ref (bd 0)), (1, .int p0)]) hx hb dX9_tonsOf_1 rfl hl (by decide) rfl (fun ls hl => ?_)
  refine lv_iconst (v := 0) hx hb dX9_tonsOf_2 (by decide) ?_
  refine lv_istore_n (lv' := [(3, .int 0), (2, .int 0), (0, .ref (bd 0)), (1, .int p0)]) hx hb dX9_tonsOf_3 rfl hl (by decide) rfl (fun ls hl => ?_)
  obtain ⟨n', hw⟩ := hw
  exact c_Model_tonsOf_h4 hx hb hr hml hown hts hlocks hK hE hA  n' 0 0 hw _ _ _ hP hD hS (lv_sub hl [0, 1, 2, 3] rfl)
theorem inw_X9_man_X9 : ∀ w ∈ wsX90, w ∈ wsX9_man := fun _ h => List.mem_cons_of_mem _ (List.mem_append_left _ (List.mem_append_right _ h))
def wp_Model_man (x_men : Int32) (x_skills : Nat → Int32) (x_barred : Nat → Int32) (x_atShip : Nat → Int32) (x_atHatch : Nat → Int32) (p0 : Int32) (Q : Int32 → Int32 → Int32 → (Nat → Int32) → (Nat → Int32) → (Nat → Int32) → (Nat → Int32) → Prop) : Prop := (wp_Model_in p0.toInt64 1 15 (fun r_1 => ((r_1 = 0 → (wp_Model_throwsIf 0 1 1 (fun r_8 x_thrown_9 => ((r_8 = 0 → ((x_men = 24 → (wp_Model_throwsIf x_thrown_9 1 2 (fun r_12 x_thrown_13 => ((r_12 = 0 → (vp_in x_men 24 ∧ (vp_in x_men 24 ∧ (vp_in x_men 24 ∧ (vp_in x_men 24 ∧ Q ((x_men + 1) - 1) x_thrown_13 (x_men + 1) (upd x_skills x_men.toNatClampNeg p0) (upd x_barred x_men.toNatClampNeg (-1)) (upd x_atShip x_men.toNatClampNeg (-1)) (upd x_atHatch x_men.toNatClampNeg (-1))))))) ∧ (¬ r_12 = 0 → Q 0 x_thrown_13 x_men x_skills x_barred x_atShip x_atHatch))))) ∧ (¬ x_men = 24 → (wp_Model_throwsIf x_thrown_9 0 2 (fun r_10 x_thrown_11 => ((r_10 = 0 → (vp_in x_men 24 ∧ (vp_in x_men 24 ∧ (vp_in x_men 24 ∧ (vp_in x_men 24 ∧ Q ((x_men + 1) - 1) x_thrown_11 (x_men + 1) (upd x_skills x_men.toNatClampNeg p0) (upd x_barred x_men.toNatClampNeg (-1)) (upd x_atShip x_men.toNatClampNeg (-1)) (upd x_atHatch x_men.toNatClampNeg (-1))))))) ∧ (¬ r_10 = 0 → Q 0 x_thrown_11 x_men x_skills x_barred x_atShip x_atHatch))))))) ∧ (¬ r_8 = 0 → Q 0 x_thrown_9 x_men x_skills x_barred x_atShip x_atHatch))))) ∧ (¬ r_1 = 0 → (wp_Model_throwsIf 0 0 1 (fun r_2 x_thrown_3 => ((r_2 = 0 → ((x_men = 24 → (wp_Model_throwsIf x_thrown_3 1 2 (fun r_6 x_thrown_7 => ((r_6 = 0 → (vp_in x_men 24 ∧ (vp_in x_men 24 ∧ (vp_in x_men 24 ∧ (vp_in x_men 24 ∧ Q ((x_men + 1) - 1) x_thrown_7 (x_men + 1) (upd x_skills x_men.toNatClampNeg p0) (upd x_barred x_men.toNatClampNeg (-1)) (upd x_atShip x_men.toNatClampNeg (-1)) (upd x_atHatch x_men.toNatClampNeg (-1))))))) ∧ (¬ r_6 = 0 → Q 0 x_thrown_7 x_men x_skills x_barred x_atShip x_atHatch))))) ∧ (¬ x_men = 24 → (wp_Model_throwsIf x_thrown_3 0 2 (fun r_4 x_thrown_5 => ((r_4 = 0 → (vp_in x_men 24 ∧ (vp_in x_men 24 ∧ (vp_in x_men 24 ∧ (vp_in x_men 24 ∧ Q ((x_men + 1) - 1) x_thrown_5 (x_men + 1) (upd x_skills x_men.toNatClampNeg p0) (upd x_barred x_men.toNatClampNeg (-1)) (upd x_atShip x_men.toNatClampNeg (-1)) (upd x_atHatch x_men.toNatClampNeg (-1))))))) ∧ (¬ r_4 = 0 → Q 0 x_thrown_5 x_men x_skills x_barred x_atShip x_atHatch))))))) ∧ (¬ r_2 = 0 → Q 0 x_thrown_3 x_men x_skills x_barred x_atShip x_atHatch))))))))
set_option maxHeartbeats 4000000 in
set_option maxRecDepth 100000 in
theorem c_Model_man (l : Launch) (D : va_G) (y : Nat → ClassId) (bd : Nat → Nat) (sz : Nat) (x_thrown : Int32) (x_men : Int32) (x_ships : Int32) (x_entries : Int32) (x_rules : Int32) (x_calls : Int32) (x_gangs : Int32) (x_idle : Int32) (x_moved : Int64) (x_paid : Int64) (x_taped : Int32) (x_at : Int32) (x_end : Int32) (x_begin : Int32) (x_faultAt : Int32) (x_wants : Int32) (x_skills : Nat → Int32) (x_barred : Nat → Int32) (x_atShip : Nat → Int32) (x_atHatch : Nat → Int32) (p0 : Int32) {Q : Int32 → Int32 → Int32 → (Nat → Int32) → (Nat → Int32) → (Nat → Int32) → (Nat → Int32) → Prop} (hw : wp_Model_man x_men x_skills x_barred x_atShip x_atHatch p0 Q) : Met l yX9_man wsX9_man ({ frames := 1, cells := 0, slots := 0, locals := 25 }) (va_Pc [.ref (bd 0), .int p0] (mPre D y sz [(ce_xm bd x_thrown x_men x_ships x_entries x_rules x_calls x_gangs x_idle x_moved x_paid x_taped x_at x_end x_begin x_faultAt x_wants), ((bd 1), .inl (y 0, 24, .inl x_skills)), ((bd 3), .inl (y 0, 24, .inl x_barred)), ((bd 5), .inl (y 0, 24, .inl x_atShip)), ((bd 6), .inl (y 0, 24, .inl x_atHatch))])) (va_Qi (fun (r : Int32) (u : Int32 × Int32 × (Nat → Int32) × (Nat → Int32) × (Nat → Int32) × (Nat → Int32)) => Q r u.1 u.2.1 u.2.2.1 u.2.2.2.1 u.2.2.2.2.1 u.2.2.2.2.2) (mAt D y (va_A [(ce_xm bd x_thrown x_men x_ships x_entries x_rules x_calls x_gangs x_idle x_moved x_paid x_taped x_at x_end x_begin x_faultAt x_wants), ((bd 1), .inl (y 0, 24, .inl x_skills)), ((bd 3), .inl (y 0, 24, .inl x_barred)), ((bd 5), .inl (y 0, 24, .inl x_atShip)), ((bd 6), .inl (y 0, 24, .inl x_atHatch))] sz) (fun (u : Int32 × Int32 × (Nat → Int32) × (Nat → Int32) × (Nat → Int32) × (Nat → Int32)) => [(ce_xm bd u.1 u.2.1 x_ships x_entries x_rules x_calls x_gangs x_idle x_moved x_paid x_taped x_at x_end x_begin x_faultAt x_wants), ((bd 1), .inl (y 0, 24, .inl u.2.2.1)), ((bd 3), .inl (y 0, 24, .inl u.2.2.2.1)), ((bd 5), .inl (y 0, 24, .inl u.2.2.2.2.1)), ((bd 6), .inl (y 0, 24, .inl u.2.2.2.2.2))])) (va_A [(ce_xm bd x_thrown x_men x_ships x_entries x_rules x_calls x_gangs x_idle x_moved x_paid x_taped x_at x_end x_begin x_faultAt x_wants), ((bd 1), .inl (y 0, 24, .inl x_skills)), ((bd 3), .inl (y 0, 24, .inl x_barred)), ((bd 5), .inl (y 0, 24, .inl x_atShip)), ((bd 6), .inl (y 0, 24, .inl x_atHatch))] sz)) 0 0 (va_A [(ce_xm bd x_thrown x_men x_ships x_entries x_rules x_calls x_gangs x_idle x_moved x_paid x_taped x_at x_end x_begin x_faultAt x_wants), ((bd 1), .inl (y 0, 24, .inl x_skills)), ((bd 3), .inl (y 0, 24, .inl x_barred)), ((bd 5), .inl (y 0, 24, .inl x_atShip)), ((bd 6), .inl (y 0, 24, .inl x_atHatch))] sz) := by
  unfold wp_Model_man at hw
  refine Met.ofW (cc := cX9_man) (maxL := 2) (ret := some .int) (by decide) rfl ?_
  intro p e s m args below meth c s₁ B hml hv
  obtain ⟨rfl, hsz, hP, hK, hD0, hE⟩ := hv
  have hx := B.exec
  have hb := B.bytes
  have hr := B.returns
  have hts := atoms_spec (ws := wsX9_man) B.pre
  have hown : s.vm.findClass RX9 = some m.cls := findClass_of_methodNamed B.named
  have hlocks := B.notSynchronized
  subst hsz
  have hD := hD0.self (sz := s.heap.size)
  generalize hAe : va_A [(ce_xm bd x_thrown x_men x_ships x_entries x_rules x_calls x_gangs x_idle x_moved x_paid x_taped x_at x_end x_begin x_faultAt x_wants), ((bd 1), .inl (y 0, 24, .inl x_skills)), ((bd 3), .inl (y 0, 24, .inl x_barred)), ((bd 5), .inl (y 0, 24, .inl x_atShip)), ((bd 6), .inl (y 0, 24, .inl x_atHatch))] s.heap.size = A at hD ⊢
  have hA : ∀ q : Nat, s.heap.size ≤ q → A q := fun q h => by rw [← hAe]; exact Or.inr h
  have hS : va_S A s.heap s.heap [] := va_S.rf
  have hP : va_P D vwCl [(ce_xm bd x_thrown x_men x_ships x_entries x_rules x_calls x_gangs x_idle x_moved x_paid x_taped x_at x_end x_begin x_faultAt x_wants), ((bd 1), .inl (y 0, 24, .inl x_skills)), ((bd 3), .inl (y 0, 24, .inl x_barred)), ((bd 5), .inl (y 0, 24, .inl x_atShip)), ((bd 6), .inl (y 0, 24, .inl x_atHatch))] s.heap := hP
  have hl := lv_entry ([.ref (bd 0), .int p0]) (n := 2) (Nat.le_of_ble_eq_true rfl)
  rw [lg_entry_eq]
  generalize (lg_sl ([.ref (bd 0), .int p0]) ++ List.replicate (2 - (lg_sl ([.ref (bd 0), .int p0])).length) Slot.unset).toArray = ls at hl ⊢
  have hl : lv_has ls 2 [(0, .ref (bd 0)), (1, .int p0)] := hl
  refine lv_aload_n hx hb dX9_man_0 rfl (lv_at hl 0 rfl) ?_
  refine lv_iconst (v := 0) hx hb dX9_man_1 (by decide) ?_
  refine va_put (ci := 11) (v := .int 0) (ty := .int) (C := RX9) (T := TX9) (N := 47) hx hb hts inw_X9_man_X9 tyX9 tyX9_ok nmX9 hown hK hP hD hS 0 rfl rfl 0 (by decide) (hts (.fieldLink RX9 109 "DockCallModel" "thrown" "I") (by decide +kernel)) (fun _ h9 => h9) rfl (by decide +kernel) rfl rfl (Nat.le_of_ble_eq_true rfl) dX9_man_2 (fun H locs hP hD hS => ?_)
  have hP : va_P D vwCl [(ce_xm bd 0 x_men x_ships x_entries x_rules x_calls x_gangs x_idle x_moved x_paid x_taped x_at x_end x_begin x_faultAt x_wants), ((bd 1), .inl (y 0, 24, .inl x_skills)), ((bd 3), .inl (y 0, 24, .inl x_barred)), ((bd 5), .inl (y 0, 24, .inl x_atShip)), ((bd 6), .inl (y 0, 24, .inl x_atHatch))] H := hP
  have hD : va_D A [(ce_xm bd 0 x_men x_ships x_entries x_rules x_calls x_gangs x_idle x_moved x_paid x_taped x_at x_end x_begin x_faultAt x_wants), ((bd 1), .inl (y 0, 24, .inl x_skills)), ((bd 3), .inl (y 0, 24, .inl x_barred)), ((bd 5), .inl (y 0, 24, .inl x_atShip)), ((bd 6), .inl (y 0, 24, .inl x_atHatch))] := hD
  refine lv_aload_n hx hb dX9_man_5 rfl (lv_at hl 0 rfl) ?_
  refine lv_iload_n hx hb dX9_man_6 rfl (lv_at hl 1 rfl) ?_
  refine lv_i2l hx hb dX9_man_7 rfl ?_
  refine lv_lconst (v := 1) hx hb dX9_man_8 (by decide) ?_
  refine lv_ldc2 hx hb hown (hts (.constantLong RX9 122 15) (by decide +kernel)) dX9_man_9 ?_
  refine mx_i (wc := []) (wr := [(ce_xm bd 0 x_men x_ships x_entries x_rules x_calls x_gangs x_idle x_moved x_paid x_taped x_at x_end x_begin x_faultAt x_wants), ((bd 1), .inl (y 0, 24, .inl x_skills)), ((bd 3), .inl (y 0, 24, .inl x_barred)), ((bd 5), .inl (y 0, 24, .inl x_atShip)), ((bd 6), .inl (y 0, 24, .inl x_atHatch))]) hP hD hS hA [] [0, 1, 2, 3, 4] [0, 1, 2, 3, 4] rfl rfl (by decide) (by decide) (by decide) (fun (u : Unit) => [(ce_xm bd 0 x_men x_ships x_entries x_rules x_calls x_gangs x_idle x_moved x_paid x_taped x_at x_end x_begin x_faultAt x_wants), ((bd 1), .inl (y 0, 24, .inl x_skills)), ((bd 3), .inl (y 0, 24, .inl x_barred)), ((bd 5), .inl (y 0, 24, .inl x_atShip)), ((bd 6), .inl (y 0, 24, .inl x_atHatch))]) (fun _ => rfl) (va_runS (As := [.long p0.toInt64, .long 1, .long 15]) (rest := [.ref (bd 0)]) ⟨hx, hb, hml, hown, hts⟩ (c_Model_in l D y H.size p0.toInt64 1 15 hw) (va_cwS 3 hts gX9_man_X9_in rfl rfl rfl (by decide +kernel) ⟨Nat.le_of_ble_eq_true rfl, Nat.le_of_ble_eq_true rfl⟩) ⟨mPre.blind, mPre.to (hP.sub [] rfl) hK (hD.sub [] (by decide) rfl) hE⟩ rfl rfl hl.1 rfl (lv_room (Nat.le_of_ble_eq_true rfl)) dX9_man_12 ⟨Nat.le_of_ble_eq_true rfl, Nat.le_of_ble_eq_true rfl⟩) (fun r_1 u H locs hw hP hD hS => ?_)
  try dsimp only at hw
  have hP : va_P D vwCl [(ce_xm bd 0 x_men x_ships x_entries x_rules x_calls x_gangs x_idle x_moved x_paid x_taped x_at x_end x_begin x_faultAt x_wants), ((bd 1), .inl (y 0, 24, .inl x_skills)), ((bd 3), .inl (y 0, 24, .inl x_barred)), ((bd 5), .inl (y 0, 24, .inl x_atShip)), ((bd 6), .inl (y 0, 24, .inl x_atHatch))] H := hP
  have hD : va_D A [(ce_xm bd 0 x_men x_ships x_entries x_rules x_calls x_gangs x_idle x_moved x_paid x_taped x_at x_end x_begin x_faultAt x_wants), ((bd 1), .inl (y 0, 24, .inl x_skills)), ((bd 3), .inl (y 0, 24, .inl x_barred)), ((bd 5), .inl (y 0, 24, .inl x_atShip)), ((bd 6), .inl (y 0, 24, .inl x_atHatch))] := hD
  refine lv_if_ne (tgt := 22) hx hb dX9_man_15 (by decide) (fun hc => ?_) (fun hc => ?_)
  · have hw := hw.2 hc
    refine lv_iconst (v := 0) hx hb dX9_man_22 (by decide) ?_
    refine lv_iconst (v := 1) hx hb dX9_man_23 (by decide) ?_
    refine mx_i (wc := [(ce_xm bd 0 x_men x_ships x_entries x_rules x_calls x_gangs x_idle x_moved x_paid x_taped x_at x_end x_begin x_faultAt x_wants)]) (wr := [((bd 1), .inl (y 0, 24, .inl x_skills)), ((bd 3), .inl (y 0, 24, .inl x_barred)), ((bd 5), .inl (y 0, 24, .inl x_atShip)), ((bd 6), .inl (y 0, 24, .inl x_atHatch))]) hP hD hS hA [0] [1, 2, 3, 4] [4, 0, 1, 2, 3] rfl rfl (by decide) (by decide) (by decide) (fun (u : Int32) => [(ce_xm bd u x_men x_ships x_entries x_rules x_calls x_gangs x_idle x_moved x_paid x_taped x_at x_end x_begin x_faultAt x_wants), ((bd 1), .inl (y 0, 24, .inl x_skills)), ((bd 3), .inl (y 0, 24, .inl x_barred)), ((bd 5), .inl (y 0, 24, .inl x_atShip)), ((bd 6), .inl (y 0, 24, .inl x_atHatch))]) (fun _ => rfl) (va_runV (As := [.int 0, .int 1]) (rest := []) ⟨hx, hb, hml, hown, hts⟩ (c_Model_throwsIf l D y bd H.size 0 x_men x_ships x_entries x_rules x_calls x_gangs x_idle x_moved x_paid x_taped x_at x_end x_begin x_faultAt x_wants 0 1 hw) (cwV 2 hts gX9_man_X9_throwsIf rfl rfl rfl (by decide +kernel) ⟨Nat.le_of_ble_eq_true rfl, Nat.le_of_ble_eq_true rfl⟩) ⟨mPre.blind, (va_recv hK hP (ci := 11) (q0 := 0) rfl rfl), mPre.to (hP.sub [0] rfl) hK (hD.sub [0] (by decide) rfl) hE⟩ rfl rfl hl.1 rfl (lv_room (Nat.le_of_ble_eq_true rfl)) dX9_man_24 ⟨Nat.le_of_ble_eq_true rfl, Nat.le_of_ble_eq_true rfl⟩) (fun r_2 u H locs hw hP hD hS => ?_)
    obtain ⟨x_thrown_3, rfl⟩ : ∃ z, z = u := ⟨_, rfl⟩
    try dsimp only at hw
    have hP : va_P D vwCl [(ce_xm bd x_thrown_3 x_men x_ships x_entries x_rules x_calls x_gangs x_idle x_moved x_paid x_taped x_at x_end x_begin x_faultAt x_wants), ((bd 1), .inl (y 0, 24, .inl x_skills)), ((bd 3), .inl (y 0, 24, .inl x_barred)), ((bd 5), .inl (y 0, 24, .inl x_atShip)), ((bd 6), .inl (y 0, 24, .inl x_atHatch))] H := hP
    have hD : va_D A [(ce_xm bd x_thrown_3 x_men x_ships x_entries x_rules x_calls x_gangs x_idle x_moved x_paid x_taped x_at x_end x_begin x_faultAt x_wants), ((bd 1), .inl (y 0, 24, .inl x_skills)), ((bd 3), .inl (y 0, 24, .inl x_barred)), ((bd 5), .inl (y 0, 24, .inl x_atShip)), ((bd 6), .inl (y 0, 24, .inl x_atHatch))] := hD
    refine lv_if_ne (tgt := 52) hx hb dX9_man_27 (by decide) (fun hc => ?_) (fun hc => ?_)
    · have hw := hw.2 hc
      refine lv_iconst (v := 0) hx hb dX9_man_52 (by decide) ?_
      exact W.iret (v := 0) hx hb hr (fun t ht hW => ⟨⟨0, (x_thrown_3, x_men, x_skills, x_barred, x_atShip, x_atHatch), rfl, hw, mAt.to hP hK hD ht hW⟩, hS.F ht⟩) hS.2.2 dX9_man_53
    · have hw := hw.1 hc
      refine lv_aload_n hx hb dX9_man_30 rfl (lv_at hl 0 rfl) ?_
      refine lv_aload_n hx hb dX9_man_31 rfl (lv_at hl 0 rfl) ?_
      refine va_get (ci := 11) (v := .int x_men) (C := RX9) (T := TX9) (N := 47) hx hb hts inw_X9_man_X9 hown hK hP 0 rfl rfl 7 (by decide) (hts (.fieldLink RX9 112 "DockCallModel" "men" "I") (by decide +kernel)) (fun _ h9 => h9) rfl dX9_man_32 ?_
      refine lv_bipush (v := 24) hx hb dX9_man_35 (by decide) ?_
      refine lv_icmp_ne (tgt := 44) hx hb dX9_man_37 (by decide) (fun hc => ?_) (fun hc => ?_)
      · have hw := hw.2 hc
        refine lv_iconst (v := 0) hx hb dX9_man_44 (by decide) ?_
        refine lv_iconst (v := 2) hx hb dX9_man_45 (by decide) ?_
        refine mx_i (wc := [(ce_xm bd x_thrown_3 x_men x_ships x_entries x_rules x_calls x_gangs x_idle x_moved x_paid x_taped x_at x_end x_begin x_faultAt x_wants)]) (wr := [((bd 1), .inl (y 0, 24, .inl x_skills)), ((bd 3), .inl (y 0, 24, .inl x_barred)), ((bd 5), .inl (y 0, 24, .inl x_atShip)), ((bd 6), .inl (y 0, 24, .inl x_atHatch))]) hP hD hS hA [0] [1, 2, 3, 4] [4, 0, 1, 2, 3] rfl rfl (by decide) (by decide) (by decide) (fun (u : Int32) => [(ce_xm bd u x_men x_ships x_entries x_rules x_calls x_gangs x_idle x_moved x_paid x_taped x_at x_end x_begin x_faultAt x_wants), ((bd 1), .inl (y 0, 24, .inl x_skills)), ((bd 3), .inl (y 0, 24, .inl x_barred)), ((bd 5), .inl (y 0, 24, .inl x_atShip)), ((bd 6), .inl (y 0, 24, .inl x_atHatch))]) (fun _ => rfl) (va_runV (As := [.int 0, .int 2]) (rest := []) ⟨hx, hb, hml, hown, hts⟩ (c_Model_throwsIf l D y bd H.size x_thrown_3 x_men x_ships x_entries x_rules x_calls x_gangs x_idle x_moved x_paid x_taped x_at x_end x_begin x_faultAt x_wants 0 2 hw) (cwV 2 hts gX9_man_X9_throwsIf rfl rfl rfl (by decide +kernel) ⟨Nat.le_of_ble_eq_true rfl, Nat.le_of_ble_eq_true rfl⟩) ⟨mPre.blind, (va_recv hK hP (ci := 11) (q0 := 0) rfl rfl), mPre.to (hP.sub [0] rfl) hK (hD.sub [0] (by decide) rfl) hE⟩ rfl rfl hl.1 rfl (lv_room (Nat.le_of_ble_eq_true rfl)) dX9_man_46 ⟨Nat.le_of_ble_eq_true rfl, Nat.le_of_ble_eq_true rfl⟩) (fun r_4 u H locs hw hP hD hS => ?_)
        obtain ⟨x_thrown_5, rfl⟩ : ∃ z, z = u := ⟨_, rfl⟩
        try dsimp only at hw
        have hP : va_P D vwCl [(ce_xm bd x_thrown_5 x_men x_ships x_entries x_rules x_calls x_gangs x_idle x_moved x_paid x_taped x_at x_end x_begin x_faultAt x_wants), ((bd 1), .inl (y 0, 24, .inl x_skills)), ((bd 3), .inl (y 0, 24, .inl x_barred)), ((bd 5), .inl (y 0, 24, .inl x_atShip)), ((bd 6), .inl (y 0, 24, .inl x_atHatch))] H := hP
        have hD : va_D A [(ce_xm bd x_thrown_5 x_men x_ships x_entries x_rules x_calls x_gangs x_idle x_moved x_paid x_taped x_at x_end x_begin x_faultAt x_wants), ((bd 1), .inl (y 0, 24, .inl x_skills)), ((bd 3), .inl (y 0, 24, .inl x_barred)), ((bd 5), .inl (y 0, 24, .inl x_atShip)), ((bd 6), .inl (y 0, 24, .inl x_atHatch))] := hD
        refine lv_if_eq (tgt := 54) hx hb dX9_man_49 (by decide) (fun hc => ?_) (fun hc => ?_)
        · have hw := hw.1 hc
          refine lv_aload_n hx hb dX9_man_54 rfl (lv_at hl 0 rfl) ?_
          refine va_get (ci := 11) (v := .ref (bd 1)) (C := RX9) (T := TX9) (N := 47) hx hb hts inw_X9_man_X9 hown hK hP 0 rfl rfl 1 (by decide) (hts (.fieldLink RX9 9 "DockCallModel" "skills" "[I") (by decide +kernel)) (fun _ h9 => h9) rfl dX9_man_55 ?_
          refine lv_aload_n hx hb dX9_man_58 rfl (lv_at hl 0 rfl) ?_
          refine va_get (ci := 11) (v := .int x_men) (C := RX9) (T := TX9) (N := 47) hx hb hts inw_X9_man_X9 hown hK hP 0 rfl rfl 7 (by decide) (hts (.fieldLink RX9 112 "DockCallModel" "men" "I") (by decide +kernel)) (fun _ h9 => h9) rfl dX9_man_59 ?_
          refine lv_iload_n hx hb dX9_man_62 rfl (lv_at hl 1 rfl) ?_
          obtain ⟨hi, hw⟩ := hw
          refine va_iast hx hb hK hP hD hS 1 0 rfl rfl hi dX9_man_63 (fun H locs hP hD hS => ?_)
          have hP : va_P D vwCl [(ce_xm bd x_thrown_5 x_men x_ships x_entries x_rules x_calls x_gangs x_idle x_moved x_paid x_taped x_at x_end x_begin x_faultAt x_wants), ((bd 1), .inl (y 0, 24, .inl (upd x_skills x_men.toNatClampNeg p0))), ((bd 3), .inl (y 0, 24, .inl x_barred)), ((bd 5), .inl (y 0, 24, .inl x_atShip)), ((bd 6), .inl (y 0, 24, .inl x_atHatch))] H := hP
          have hD : va_D A [(ce_xm bd x_thrown_5 x_men x_ships x_entries x_rules x_calls x_gangs x_idle x_moved x_paid x_taped x_at x_end x_begin x_faultAt x_wants), ((bd 1), .inl (y 0, 24, .inl (upd x_skills x_men.toNatClampNeg p0))), ((bd 3), .inl (y 0, 24, .inl x_barred)), ((bd 5), .inl (y 0, 24, .inl x_atShip)), ((bd 6), .inl (y 0, 24, .inl x_atHatch))] := hD
          refine lv_aload_n hx hb dX9_man_64 rfl (lv_at hl 0 rfl) ?_
          refine va_get (ci := 11) (v := .ref (bd 3)) (C := RX9) (T := TX9) (N := 47) hx hb hts inw_X9_man_X9 hown hK hP 0 rfl rfl 3 (by decide) (hts (.fieldLink RX9 16 "DockCallModel" "barred" "[I") (by decide +kernel)) (fun _ h9 => h9) rfl dX9_man_65 ?_
          refine lv_aload_n hx hb dX9_man_68 rfl (lv_at hl 0 rfl) ?_
          refine va_get (ci := 11) (v := .int x_men) (C := RX9) (T := TX9) (N := 47) hx hb hts inw_X9_man_X9 hown hK hP 0 rfl rfl 7 (by decide) (hts (.fieldLink RX9 112 "DockCallModel" "men" "I") (by decide +kernel)) (fun _ h9 => h9) rfl dX9_man_69 ?_
          refine lv_iconst (v := (-1)) hx hb dX9_man_72 (by decide) ?_
          obtain ⟨hi, hw⟩ := hw
          refine va_iast hx hb hK hP hD hS 2 0 rfl rfl hi dX9_man_73 (fun H locs hP hD hS => ?_)
          have hP : va_P D vwCl [(ce_xm bd x_thrown_5 x_men x_ships x_entries x_rules x_calls x_gangs x_idle x_moved x_paid x_taped x_at x_end x_begin x_faultAt x_wants), ((bd 1), .inl (y 0, 24, .inl (upd x_skills x_men.toNatClampNeg p0))), ((bd 3), .inl (y 0, 24, .inl (upd x_barred x_men.toNatClampNeg (-1)))), ((bd 5), .inl (y 0, 24, .inl x_atShip)), ((bd 6), .inl (y 0, 24, .inl x_atHatch))] H := hP
          have hD : va_D A [(ce_xm bd x_thrown_5 x_men x_ships x_entries x_rules x_calls x_gangs x_idle x_moved x_paid x_taped x_at x_end x_begin x_faultAt x_wants), ((bd 1), .inl (y 0, 24, .inl (upd x_skills x_men.toNatClampNeg p0))), ((bd 3), .inl (y 0, 24, .inl (upd x_barred x_men.toNatClampNeg (-1)))), ((bd 5), .inl (y 0, 24, .inl x_atShip)), ((bd 6), .inl (y 0, 24, .inl x_atHatch))] := hD
          refine lv_aload_n hx hb dX9_man_74 rfl (lv_at hl 0 rfl) ?_
          refine va_get (ci := 11) (v := .ref (bd 5)) (C := RX9) (T := TX9) (N := 47) hx hb hts inw_X9_man_X9 hown hK hP 0 rfl rfl 5 (by decide) (hts (.fieldLink RX9 22 "DockCallModel" "atShip" "[I") (by decide +kernel)) (fun _ h9 => h9) rfl dX9_man_75 ?_
          refine lv_aload_n hx hb dX9_man_78 rfl (lv_at hl 0 rfl) ?_
          refine va_get (ci := 11) (v := .int x_men) (C := RX9) (T := TX9) (N := 47) hx hb hts inw_X9_man_X9 hown hK hP 0 rfl rfl 7 (by decide) (hts (.fieldLink RX9 112 "DockCallModel" "men" "I") (by decide +kernel)) (fun _ h9 => h9) rfl dX9_man_79 ?_
          refine lv_iconst (v := (-1)) hx hb dX9_man_82 (by decide) ?_
          obtain ⟨hi, hw⟩ := hw
          refine va_iast hx hb hK hP hD hS 3 0 rfl rfl hi dX9_man_83 (fun H locs hP hD hS => ?_)
          have hP : va_P D vwCl [(ce_xm bd x_thrown_5 x_men x_ships x_entries x_rules x_calls x_gangs x_idle x_moved x_paid x_taped x_at x_end x_begin x_faultAt x_wants), ((bd 1), .inl (y 0, 24, .inl (upd x_skills x_men.toNatClampNeg p0))), ((bd 3), .inl (y 0, 24, .inl (upd x_barred x_men.toNatClampNeg (-1)))), ((bd 5), .inl (y 0, 24, .inl (upd x_atShip x_men.toNatClampNeg (-1)))), ((bd 6), .inl (y 0, 24, .inl x_atHatch))] H := hP
          have hD : va_D A [(ce_xm bd x_thrown_5 x_men x_ships x_entries x_rules x_calls x_gangs x_idle x_moved x_paid x_taped x_at x_end x_begin x_faultAt x_wants), ((bd 1), .inl (y 0, 24, .inl (upd x_skills x_men.toNatClampNeg p0))), ((bd 3), .inl (y 0, 24, .inl (upd x_barred x_men.toNatClampNeg (-1)))), ((bd 5), .inl (y 0, 24, .inl (upd x_atShip x_men.toNatClampNeg (-1)))), ((bd 6), .inl (y 0, 24, .inl x_atHatch))] := hD
          refine lv_aload_n hx hb dX9_man_84 rfl (lv_at hl 0 rfl) ?_
          refine va_get (ci := 11) (v := .ref (bd 6)) (C := RX9) (T := TX9) (N := 47) hx hb hts inw_X9_man_X9 hown hK hP 0 rfl rfl 6 (by decide) (hts (.fieldLink RX9 25 "DockCallModel" "atHatch" "[I") (by decide +kernel)) (fun _ h9 => h9) rfl dX9_man_85 ?_
          refine lv_aload_n hx hb dX9_man_88 rfl (lv_at hl 0 rfl) ?_
          refine va_get (ci := 11) (v := .int x_men) (C := RX9) (T := TX9) (N := 47) hx hb hts inw_X9_man_X9 hown hK hP 0 rfl rfl 7 (by decide) (hts (.fieldLink RX9 112 "DockCallModel" "men" "I") (by decide +kernel)) (fun _ h9 => h9) rfl dX9_man_89 ?_
          refine lv_iconst (v := (-1)) hx hb dX9_man_92 (by decide) ?_
          obtain ⟨hi, hw⟩ := hw
          refine va_iast hx hb hK hP hD hS 4 0 rfl rfl hi dX9_man_93 (fun H locs hP hD hS => ?_)
          have hP : va_P D vwCl [(ce_xm bd x_thrown_5 x_men x_ships x_entries x_rules x_calls x_gangs x_idle x_moved x_paid x_taped x_at x_end x_begin x_faultAt x_wants), ((bd 1), .inl (y 0, 24, .inl (upd x_skills x_men.toNatClampNeg p0))), ((bd 3), .inl (y 0, 24, .inl (upd x_barred x_men.toNatClampNeg (-1)))), ((bd 5), .inl (y 0, 24, .inl (upd x_atShip x_men.toNatClampNeg (-1)))), ((bd 6), .inl (y 0, 24, .inl (upd x_atHatch x_men.toNatClampNeg (-1))))] H := hP
          have hD : va_D A [(ce_xm bd x_thrown_5 x_men x_ships x_entries x_rules x_calls x_gangs x_idle x_moved x_paid x_taped x_at x_end x_begin x_faultAt x_wants), ((bd 1), .inl (y 0, 24, .inl (upd x_skills x_men.toNatClampNeg p0))), ((bd 3), .inl (y 0, 24, .inl (upd x_barred x_men.toNatClampNeg (-1)))), ((bd 5), .inl (y 0, 24, .inl (upd x_atShip x_men.toNatClampNeg (-1)))), ((bd 6), .inl (y 0, 24, .inl (upd x_atHatch x_men.toNatClampNeg (-1))))] := hD
          refine lv_aload_n hx hb dX9_man_94 rfl (lv_at hl 0 rfl) ?_
          refine lv_dup hx hb dX9_man_95 rfl ?_
          refine va_get (ci := 11) (v := .int x_men) (C := RX9) (T := TX9) (N := 47) hx hb hts inw_X9_man_X9 hown hK hP 0 rfl rfl 7 (by decide) (hts (.fieldLink RX9 112 "DockCallModel" "men" "I") (by decide +kernel)) (fun _ h9 => h9) rfl dX9_man_96 ?_
          refine lv_iconst (v := 1) hx hb dX9_man_99 (by decide) ?_
          refine lv_iadd hx hb dX9_man_100 ?_
          refine va_put (ci := 11) (v := .int (x_men + 1)) (ty := .int) (C := RX9) (T := TX9) (N := 47) hx hb hts inw_X9_man_X9 tyX9 tyX9_ok nmX9 hown hK hP hD hS 0 rfl rfl 7 (by decide) (hts (.fieldLink RX9 112 "DockCallModel" "men" "I") (by decide +kernel)) (fun _ h9 => h9) rfl (by decide +kernel) rfl rfl (Nat.le_of_ble_eq_true rfl) dX9_man_101 (fun H locs hP hD hS => ?_)
          have hP : va_P D vwCl [(ce_xm bd x_thrown_5 (x_men + 1) x_ships x_entries x_rules x_calls x_gangs x_idle x_moved x_paid x_taped x_at x_end x_begin x_faultAt x_wants), ((bd 1), .inl (y 0, 24, .inl (upd x_skills x_men.toNatClampNeg p0))), ((bd 3), .inl (y 0, 24, .inl (upd x_barred x_men.toNatClampNeg (-1)))), ((bd 5), .inl (y 0, 24, .inl (upd x_atShip x_men.toNatClampNeg (-1)))), ((bd 6), .inl (y 0, 24, .inl (upd x_atHatch x_men.toNatClampNeg (-1))))] H := hP
          have hD : va_D A [(ce_xm bd x_thrown_5 (x_men + 1) x_ships x_entries x_rules x_calls x_gangs x_idle x_moved x_paid x_taped x_at x_end x_begin x_faultAt x_wants), ((bd 1), .inl (y 0, 24, .inl (upd x_skills x_men.toNatClampNeg p0))), ((bd 3), .inl (y 0, 24, .inl (upd x_barred x_men.toNatClampNeg (-1)))), ((bd 5), .inl (y 0, 24, .inl (upd x_atShip x_men.toNatClampNeg (-1)))), ((bd 6), .inl (y 0, 24, .inl (upd x_atHatch x_men.toNatClampNeg (-1))))] := hD
          refine lv_aload_n hx hb dX9_man_104 rfl (lv_at hl 0 rfl) ?_
          refine va_get (ci := 11) (v := .int (x_men + 1)) (C := RX9) (T := TX9) (N := 47) hx hb hts inw_X9_man_X9 hown hK hP 0 rfl rfl 7 (by decide) (hts (.fieldLink RX9 112 "DockCallModel" "men" "I") (by decide +kernel)) (fun _ h9 => h9) rfl dX9_man_105 ?_
          refine lv_iconst (v := 1) hx hb dX9_man_108 (by decide) ?_
          refine lv_isub hx hb dX9_man_109 ?_
          exact W.iret (v := (x_men + 1) - 1) hx hb hr (fun t ht hW => ⟨⟨(x_men + 1) - 1, (x_thrown_5, x_men + 1, upd x_skills x_men.toNatClampNeg p0, upd x_barred x_men.toNatClampNeg (-1), upd x_atShip x_men.toNatClampNeg (-1), upd x_atHatch x_men.toNatClampNeg (-1)), rfl, hw, mAt.to hP hK hD ht hW⟩, hS.F ht⟩) hS.2.2 dX9_man_110
        · have hw := hw.2 hc
          refine lv_iconst (v := 0) hx hb dX9_man_52 (by decide) ?_
          exact W.iret (v := 0) hx hb hr (fun t ht hW => ⟨⟨0, (x_thrown_5, x_men, x_skills, x_barred, x_atShip, x_atHatch), rfl, hw, mAt.to hP hK hD ht hW⟩, hS.F ht⟩) hS.2.2 dX9_man_53
      · have hw := hw.1 hc
        refine lv_iconst (v := 1) hx hb dX9_man_40 (by decide) ?_
        refine lv_goto (tgt := 45) hx hb dX9_man_41 (by decide) ?_
        refine lv_iconst (v := 2) hx hb dX9_man_45 (by decide) ?_
        refine mx_i (wc := [(ce_xm bd x_thrown_3 x_men x_ships x_entries x_rules x_calls x_gangs x_idle x_moved x_paid x_taped x_at x_end x_begin x_faultAt x_wants)]) (wr := [((bd 1), .inl (y 0, 24, .inl x_skills)), ((bd 3), .inl (y 0, 24, .inl x_barred)), ((bd 5), .inl (y 0, 24, .inl x_atShip)), ((bd 6), .inl (y 0, 24, .inl x_atHatch))]) hP hD hS hA [0] [1, 2, 3, 4] [4, 0, 1, 2, 3] rfl rfl (by decide) (by decide) (by decide) (fun (u : Int32) => [(ce_xm bd u x_men x_ships x_entries x_rules x_calls x_gangs x_idle x_moved x_paid x_taped x_at x_end x_begin x_faultAt x_wants), ((bd 1), .inl (y 0, 24, .inl x_skills)), ((bd 3), .inl (y 0, 24, .inl x_barred)), ((bd 5), .inl (y 0, 24, .inl x_atShip)), ((bd 6), .inl (y 0, 24, .inl x_atHatch))]) (fun _ => rfl) (va_runV (As := [.int 1, .int 2]) (rest := []) ⟨hx, hb, hml, hown, hts⟩ (c_Model_throwsIf l D y bd H.size x_thrown_3 x_men x_ships x_entries x_rules x_calls x_gangs x_idle x_moved x_paid x_taped x_at x_end x_begin x_faultAt x_wants 1 2 hw) (cwV 2 hts gX9_man_X9_throwsIf rfl rfl rfl (by decide +kernel) ⟨Nat.le_of_ble_eq_true rfl, Nat.le_of_ble_eq_true rfl⟩) ⟨mPre.blind, (va_recv hK hP (ci := 11) (q0 := 0) rfl rfl), mPre.to (hP.sub [0] rfl) hK (hD.sub [0] (by decide) rfl) hE⟩ rfl rfl hl.1 rfl (lv_room (Nat.le_of_ble_eq_true rfl)) dX9_man_46 ⟨Nat.le_of_ble_eq_true rfl, Nat.le_of_ble_eq_true rfl⟩) (fun r_6 u H locs hw hP hD hS => ?_)
        obtain ⟨x_thrown_7, rfl⟩ : ∃ z, z = u := ⟨_, rfl⟩
        try dsimp only at hw
        have hP : va_P D vwCl [(ce_xm bd x_thrown_7 x_men x_ships x_entries x_rules x_calls x_gangs x_idle x_moved x_paid x_taped x_at x_end x_begin x_faultAt x_wants), ((bd 1), .inl (y 0, 24, .inl x_skills)), ((bd 3), .inl (y 0, 24, .inl x_barred)), ((bd 5), .inl (y 0, 24, .inl x_atShip)), ((bd 6), .inl (y 0, 24, .inl x_atHatch))] H := hP
        have hD : va_D A [(ce_xm bd x_thrown_7 x_men x_ships x_entries x_rules x_calls x_gangs x_idle x_moved x_paid x_taped x_at x_end x_begin x_faultAt x_wants), ((bd 1), .inl (y 0, 24, .inl x_skills)), ((bd 3), .inl (y 0, 24, .inl x_barred)), ((bd 5), .inl (y 0, 24, .inl x_atShip)), ((bd 6), .inl (y 0, 24, .inl x_atHatch))] := hD
        refine lv_if_eq (tgt := 54) hx hb dX9_man_49 (by decide) (fun hc => ?_) (fun hc => ?_)
        · have hw := hw.1 hc
          refine lv_aload_n hx hb dX9_man_54 rfl (lv_at hl 0 rfl) ?_
          refine va_get (ci := 11) (v := .ref (bd 1)) (C := RX9) (T := TX9) (N := 47) hx hb hts inw_X9_man_X9 hown hK hP 0 rfl rfl 1 (by decide) (hts (.fieldLink RX9 9 "DockCallModel" "skills" "[I") (by decide +kernel)) (fun _ h9 => h9) rfl dX9_man_55 ?_
          refine lv_aload_n hx hb dX9_man_58 rfl (lv_at hl 0 rfl) ?_
          refine va_get (ci := 11) (v := .int x_men) (C := RX9) (T := TX9) (N := 47) hx hb hts inw_X9_man_X9 hown hK hP 0 rfl rfl 7 (by decide) (hts (.fieldLink RX9 112 "DockCallModel" "men" "I") (by decide +kernel)) (fun _ h9 => h9) rfl dX9_man_59 ?_
          refine lv_iload_n hx hb dX9_man_62 rfl (lv_at hl 1 rfl) ?_
          obtain ⟨hi, hw⟩ := hw
          refine va_iast hx hb hK hP hD hS 1 0 rfl rfl hi dX9_man_63 (fun H locs hP hD hS => ?_)
          have hP : va_P D vwCl [(ce_xm bd x_thrown_7 x_men x_ships x_entries x_rules x_calls x_gangs x_idle x_moved x_paid x_taped x_at x_end x_begin x_faultAt x_wants), ((bd 1), .inl (y 0, 24, .inl (upd x_skills x_men.toNatClampNeg p0))), ((bd 3), .inl (y 0, 24, .inl x_barred)), ((bd 5), .inl (y 0, 24, .inl x_atShip)), ((bd 6), .inl (y 0, 24, .inl x_atHatch))] H := hP
          have hD : va_D A [(ce_xm bd x_thrown_7 x_men x_ships x_entries x_rules x_calls x_gangs x_idle x_moved x_paid x_taped x_at x_end x_begin x_faultAt x_wants), ((bd 1), .inl (y 0, 24, .inl (upd x_skills x_men.toNatClampNeg p0))), ((bd 3), .inl (y 0, 24, .inl x_barred)), ((bd 5), .inl (y 0, 24, .inl x_atShip)), ((bd 6), .inl (y 0, 24, .inl x_atHatch))] := hD
          refine lv_aload_n hx hb dX9_man_64 rfl (lv_at hl 0 rfl) ?_
          refine va_get (ci := 11) (v := .ref (bd 3)) (C := RX9) (T := TX9) (N := 47) hx hb hts inw_X9_man_X9 hown hK hP 0 rfl rfl 3 (by decide) (hts (.fieldLink RX9 16 "DockCallModel" "barred" "[I") (by decide +kernel)) (fun _ h9 => h9) rfl dX9_man_65 ?_
          refine lv_aload_n hx hb dX9_man_68 rfl (lv_at hl 0 rfl) ?_
          refine va_get (ci := 11) (v := .int x_men) (C := RX9) (T := TX9) (N := 47) hx hb hts inw_X9_man_X9 hown hK hP 0 rfl rfl 7 (by decide) (hts (.fieldLink RX9 112 "DockCallModel" "men" "I") (by decide +kernel)) (fun _ h9 => h9) rfl dX9_man_69 ?_
          refine lv_iconst (v := (-1)) hx hb dX9_man_72 (by decide) ?_
          obtain ⟨hi, hw⟩ := hw
          refine va_iast hx hb hK hP hD hS 2 0 rfl rfl hi dX9_man_73 (fun H locs hP hD hS => ?_)
          have hP : va_P D vwCl [(ce_xm bd x_thrown_7 x_men x_ships x_entries x_rules x_calls x_gangs x_idle x_moved x_paid x_taped x_at x_end x_begin x_faultAt x_wants), ((bd 1), .inl (y 0, 24, .inl (upd x_skills x_men.toNatClampNeg p0))), ((bd 3), .inl (y 0, 24, .inl (upd x_barred x_men.toNatClampNeg (-1)))), ((bd 5), .inl (y 0, 24, .inl x_atShip)), ((bd 6), .inl (y 0, 24, .inl x_atHatch))] H := hP
          have hD : va_D A [(ce_xm bd x_thrown_7 x_men x_ships x_entries x_rules x_calls x_gangs x_idle x_moved x_paid x_taped x_at x_end x_begin x_faultAt x_wants), ((bd 1), .inl (y 0, 24, .inl (upd x_skills x_men.toNatClampNeg p0))), ((bd 3), .inl (y 0, 24, .inl (upd x_barred x_men.toNatClampNeg (-1)))), ((bd 5), .inl (y 0, 24, .inl x_atShip)), ((bd 6), .inl (y 0, 24, .inl x_atHatch))] := hD
          refine lv_aload_n hx hb dX9_man_74 rfl (lv_at hl 0 rfl) ?_
          refine va_get (ci := 11) (v := .ref (bd 5)) (C := RX9) (T := TX9) (N := 47) hx hb hts inw_X9_man_X9 hown hK hP 0 rfl rfl 5 (by decide) (hts (.fieldLink RX9 22 "DockCallModel" "atShip" "[I") (by decide +kernel)) (fun _ h9 => h9) rfl dX9_man_75 ?_
          refine lv_aload_n hx hb dX9_man_78 rfl (lv_at hl 0 rfl) ?_
          refine va_get (ci := 11) (v := .int x_men) (C := RX9) (T := TX9) (N := 47) hx hb hts inw_X9_man_X9 hown hK hP 0 rfl rfl 7 (by decide) (hts (.fieldLink RX9 112 "DockCallModel" "men" "I") (by decide +kernel)) (fun _ h9 => h9) rfl dX9_man_79 ?_
          refine lv_iconst (v := (-1)) hx hb dX9_man_82 (by decide) ?_
          obtain ⟨hi, hw⟩ := hw
          refine va_iast hx hb hK hP hD hS 3 0 rfl rfl hi dX9_man_83 (fun H locs hP hD hS => ?_)
          have hP : va_P D vwCl [(ce_xm bd x_thrown_7 x_men x_ships x_entries x_rules x_calls x_gangs x_idle x_moved x_paid x_taped x_at x_end x_begin x_faultAt x_wants), ((bd 1), .inl (y 0, 24, .inl (upd x_skills x_men.toNatClampNeg p0))), ((bd 3), .inl (y 0, 24, .inl (upd x_barred x_men.toNatClampNeg (-1)))), ((bd 5), .inl (y 0, 24, .inl (upd x_atShip x_men.toNatClampNeg (-1)))), ((bd 6), .inl (y 0, 24, .inl x_atHatch))] H := hP
          have hD : va_D A [(ce_xm bd x_thrown_7 x_men x_ships x_entries x_rules x_calls x_gangs x_idle x_moved x_paid x_taped x_at x_end x_begin x_faultAt x_wants), ((bd 1), .inl (y 0, 24, .inl (upd x_skills x_men.toNatClampNeg p0))), ((bd 3), .inl (y 0, 24, .inl (upd x_barred x_men.toNatClampNeg (-1)))), ((bd 5), .inl (y 0, 24, .inl (upd x_atShip x_men.toNatClampNeg (-1)))), ((bd 6), .inl (y 0, 24, .inl x_atHatch))] := hD
          refine lv_aload_n hx hb dX9_man_84 rfl (lv_at hl 0 rfl) ?_
          refine va_get (ci := 11) (v := .ref (bd 6)) (C := RX9) (T := TX9) (N := 47) hx hb hts inw_X9_man_X9 hown hK hP 0 rfl rfl 6 (by decide) (hts (.fieldLink RX9 25 "DockCallModel" "atHatch" "[I") (by decide +kernel)) (fun _ h9 => h9) rfl dX9_man_85 ?_
          refine lv_aload_n hx hb dX9_man_88 rfl (lv_at hl 0 rfl) ?_
          refine va_get (ci := 11) (v := .int x_men) (C := RX9) (T := TX9) (N := 47) hx hb hts inw_X9_man_X9 hown hK hP 0 rfl rfl 7 (by decide) (hts (.fieldLink RX9 112 "DockCallModel" "men" "I") (by decide +kernel)) (fun _ h9 => h9) rfl dX9_man_89 ?_
          refine lv_iconst (v := (-1)) hx hb dX9_man_92 (by decide) ?_
          obtain ⟨hi, hw⟩ := hw
          refine va_iast hx hb hK hP hD hS 4 0 rfl rfl hi dX9_man_93 (fun H locs hP hD hS => ?_)
          have hP : va_P D vwCl [(ce_xm bd x_thrown_7 x_men x_ships x_entries x_rules x_calls x_gangs x_idle x_moved x_paid x_taped x_at x_end x_begin x_faultAt x_wants), ((bd 1), .inl (y 0, 24, .inl (upd x_skills x_men.toNatClampNeg p0))), ((bd 3), .inl (y 0, 24, .inl (upd x_barred x_men.toNatClampNeg (-1)))), ((bd 5), .inl (y 0, 24, .inl (upd x_atShip x_men.toNatClampNeg (-1)))), ((bd 6), .inl (y 0, 24, .inl (upd x_atHatch x_men.toNatClampNeg (-1))))] H := hP
          have hD : va_D A [(ce_xm bd x_thrown_7 x_men x_ships x_entries x_rules x_calls x_gangs x_idle x_moved x_paid x_taped x_at x_end x_begin x_faultAt x_wants), ((bd 1), .inl (y 0, 24, .inl (upd x_skills x_men.toNatClampNeg p0))), ((bd 3), .inl (y 0, 24, .inl (upd x_barred x_men.toNatClampNeg (-1)))), ((bd 5), .inl (y 0, 24, .inl (upd x_atShip x_men.toNatClampNeg (-1)))), ((bd 6), .inl (y 0, 24, .inl (upd x_atHatch x_men.toNatClampNeg (-1))))] := hD
          refine lv_aload_n hx hb dX9_man_94 rfl (lv_at hl 0 rfl) ?_
          refine lv_dup hx hb dX9_man_95 rfl ?_
          refine va_get (ci := 11) (v := .int x_men) (C := RX9) (T := TX9) (N := 47) hx hb hts inw_X9_man_X9 hown hK hP 0 rfl rfl 7 (by decide) (hts (.fieldLink RX9 112 "DockCallModel" "men" "I") (by decide +kernel)) (fun _ h9 => h9) rfl dX9_man_96 ?_
          refine lv_iconst (v := 1) hx hb dX9_man_99 (by decide) ?_
          refine lv_iadd hx hb dX9_man_100 ?_
          refine va_put (ci := 11) (v := .int (x_men + 1)) (ty := .int) (C := RX9) (T := TX9) (N := 47) hx hb hts inw_X9_man_X9 tyX9 tyX9_ok nmX9 hown hK hP hD hS 0 rfl rfl 7 (by decide) (hts (.fieldLink RX9 112 "DockCallModel" "men" "I") (by decide +kernel)) (fun _ h9 => h9) rfl (by decide +kernel) rfl rfl (Nat.le_of_ble_eq_true rfl) dX9_man_101 (fun H locs hP hD hS => ?_)
          have hP : va_P D vwCl [(ce_xm bd x_thrown_7 (x_men + 1) x_ships x_entries x_rules x_calls x_gangs x_idle x_moved x_paid x_taped x_at x_end x_begin x_faultAt x_wants), ((bd 1), .inl (y 0, 24, .inl (upd x_skills x_men.toNatClampNeg p0))), ((bd 3), .inl (y 0, 24, .inl (upd x_barred x_men.toNatClampNeg (-1)))), ((bd 5), .inl (y 0, 24, .inl (upd x_atShip x_men.toNatClampNeg (-1)))), ((bd 6), .inl (y 0, 24, .inl (upd x_atHatch x_men.toNatClampNeg (-1))))] H := hP
          have hD : va_D A [(ce_xm bd x_thrown_7 (x_men + 1) x_ships x_entries x_rules x_calls x_gangs x_idle x_moved x_paid x_taped x_at x_end x_begin x_faultAt x_wants), ((bd 1), .inl (y 0, 24, .inl (upd x_skills x_men.toNatClampNeg p0))), ((bd 3), .inl (y 0, 24, .inl (upd x_barred x_men.toNatClampNeg (-1)))), ((bd 5), .inl (y 0, 24, .inl (upd x_atShip x_men.toNatClampNeg (-1)))), ((bd 6), .inl (y 0, 24, .inl (upd x_atHatch x_men.toNatClampNeg (-1))))] := hD
          refine lv_aload_n hx hb dX9_man_104 rfl (lv_at hl 0 rfl) ?_
          refine va_get (ci := 11) (v := .int (x_men + 1)) (C := RX9) (T := TX9) (N := 47) hx hb hts inw_X9_man_X9 hown hK hP 0 rfl rfl 7 (by decide) (hts (.fieldLink RX9 112 "DockCallModel" "men" "I") (by decide +kernel)) (fun _ h9 => h9) rfl dX9_man_105 ?_
          refine lv_iconst (v := 1) hx hb dX9_man_108 (by decide) ?_
          refine lv_isub hx hb dX9_man_109 ?_
          exact W.iret (v := (x_men + 1) - 1) hx hb hr (fun t ht hW => ⟨⟨(x_men + 1) - 1, (x_thrown_7, x_men + 1, upd x_skills x_men.toNatClampNeg p0, upd x_barred x_men.toNatClampNeg (-1), upd x_atShip x_men.toNatClampNeg (-1), upd x_atHatch x_men.toNatClampNeg (-1)), rfl, hw, mAt.to hP hK hD ht hW⟩, hS.F ht⟩) hS.2.2 dX9_man_110
        · have hw := hw.2 hc
          refine lv_iconst (v := 0) hx hb dX9_man_52 (by decide) ?_
          exact W.iret (v := 0) hx hb hr (fun t ht hW => ⟨⟨0, (x_thrown_7, x_men, x_skills, x_barred, x_atShip, x_atHatch), rfl, hw, mAt.to hP hK hD ht hW⟩, hS.F ht⟩) hS.2.2 dX9_man_53
  · have hw := hw.1 hc
    refine lv_iconst (v := 1) hx hb dX9_man_18 (by decide) ?_
    refine lv_goto (tgt := 23) hx hb dX9_man_19 (by decide) ?_
    refine lv_iconst (v := 1) hx hb dX9_man_23 (by decide) ?_
    refine mx_i (wc := [(ce_xm bd 0 x_men x_ships x_entries x_rules x_calls x_gangs x_idle x_moved x_paid x_taped x_at x_end x_begin x_faultAt x_wants)]) (wr := [((bd 1), .inl (y 0, 24, .inl x_skills)), ((bd 3), .inl (y 0, 24, .inl x_barred)), ((bd 5), .inl (y 0, 24, .inl x_atShip)), ((bd 6), .inl (y 0, 24, .inl x_atHatch))]) hP hD hS hA [0] [1, 2, 3, 4] [4, 0, 1, 2, 3] rfl rfl (by decide) (by decide) (by decide) (fun (u : Int32) => [(ce_xm bd u x_men x_ships x_entries x_rules x_calls x_gangs x_idle x_moved x_paid x_taped x_at x_end x_begin x_faultAt x_wants), ((bd 1), .inl (y 0, 24, .inl x_skills)), ((bd 3), .inl (y 0, 24, .inl x_barred)), ((bd 5), .inl (y 0, 24, .inl x_atShip)), ((bd 6), .inl (y 0, 24, .inl x_atHatch))]) (fun _ => rfl) (va_runV (As := [.int 1, .int 1]) (rest := []) ⟨hx, hb, hml, hown, hts⟩ (c_Model_throwsIf l D y bd H.size 0 x_men x_ships x_entries x_rules x_calls x_gangs x_idle x_moved x_paid x_taped x_at x_end x_begin x_faultAt x_wants 1 1 hw) (cwV 2 hts gX9_man_X9_throwsIf rfl rfl rfl (by decide +kernel) ⟨Nat.le_of_ble_eq_true rfl, Nat.le_of_ble_eq_true rfl⟩) ⟨mPre.blind, (va_recv hK hP (ci := 11) (q0 := 0) rfl rfl), mPre.to (hP.sub [0] rfl) hK (hD.sub [0] (by decide) rfl) hE⟩ rfl rfl hl.1 rfl (lv_room (Nat.le_of_ble_eq_true rfl)) dX9_man_24 ⟨Nat.le_of_ble_eq_true rfl, Nat.le_of_ble_eq_true rfl⟩) (fun r_8 u H locs hw hP hD hS => ?_)
    obtain ⟨x_thrown_9, rfl⟩ : ∃ z, z = u := ⟨_, rfl⟩
    try dsimp only at hw
    have hP : va_P D vwCl [(ce_xm bd x_thrown_9 x_men x_ships x_entries x_rules x_calls x_gangs x_idle x_moved x_paid x_taped x_at x_end x_begin x_faultAt x_wants), ((bd 1), .inl (y 0, 24, .inl x_skills)), ((bd 3), .inl (y 0, 24, .inl x_barred)), ((bd 5), .inl (y 0, 24, .inl x_atShip)), ((bd 6), .inl (y 0, 24, .inl x_atHatch))] H := hP
    have hD : va_D A [(ce_xm bd x_thrown_9 x_men x_ships x_entries x_rules x_calls x_gangs x_idle x_moved x_paid x_taped x_at x_end x_begin x_faultAt x_wants), ((bd 1), .inl (y 0, 24, .inl x_skills)), ((bd 3), .inl (y 0, 24, .inl x_barred)), ((bd 5), .inl (y 0, 24, .inl x_atShip)), ((bd 6), .inl (y 0, 24, .inl x_atHatch))] := hD
    refine lv_if_ne (tgt := 52) hx hb dX9_man_27 (by decide) (fun hc => ?_) (fun hc => ?_)
    · have hw := hw.2 hc
      refine lv_iconst (v := 0) hx hb dX9_man_52 (by decide) ?_
      exact W.iret (v := 0) hx hb hr (fun t ht hW => ⟨⟨0, (x_thrown_9, x_men, x_skills, x_barred, x_atShip, x_atHatch), rfl, hw, mAt.to hP hK hD ht hW⟩, hS.F ht⟩) hS.2.2 dX9_man_53
    · have hw := hw.1 hc
      refine lv_aload_n hx hb dX9_man_30 rfl (lv_at hl 0 rfl) ?_
      refine lv_aload_n hx hb dX9_man_31 rfl (lv_at hl 0 rfl) ?_
      refine va_get (ci := 11) (v := .int x_men) (C := RX9) (T := TX9) (N := 47) hx hb hts inw_X9_man_X9 hown hK hP 0 rfl rfl 7 (by decide) (hts (.fieldLink RX9 112 "DockCallModel" "men" "I") (by decide +kernel)) (fun _ h9 => h9) rfl dX9_man_32 ?_
      refine lv_bipush (v := 24) hx hb dX9_man_35 (by decide) ?_
      refine lv_icmp_ne (tgt := 44) hx hb dX9_man_37 (by decide) (fun hc => ?_) (fun hc => ?_)
      · have hw := hw.2 hc
        refine lv_iconst (v := 0) hx hb dX9_man_44 (by decide) ?_
        refine lv_iconst (v := 2) hx hb dX9_man_45 (by decide) ?_
        refine mx_i (wc := [(ce_xm bd x_thrown_9 x_men x_ships x_entries x_rules x_calls x_gangs x_idle x_moved x_paid x_taped x_at x_end x_begin x_faultAt x_wants)]) (wr := [((bd 1), .inl (y 0, 24, .inl x_skills)), ((bd 3), .inl (y 0, 24, .inl x_barred)), ((bd 5), .inl (y 0, 24, .inl x_atShip)), ((bd 6), .inl (y 0, 24, .inl x_atHatch))]) hP hD hS hA [0] [1, 2, 3, 4] [4, 0, 1, 2, 3] rfl rfl (by decide) (by decide) (by decide) (fun (u : Int32) => [(ce_xm bd u x_men x_ships x_entries x_rules x_calls x_gangs x_idle x_moved x_paid x_taped x_at x_end x_begin x_faultAt x_wants), ((bd 1), .inl (y 0, 24, .inl x_skills)), ((bd 3), .inl (y 0, 24, .inl x_barred)), ((bd 5), .inl (y 0, 24, .inl x_atShip)), ((bd 6), .inl (y 0, 24, .inl x_atHatch))]) (fun _ => rfl) (va_runV (As := [.int 0, .int 2]) (rest := []) ⟨hx, hb, hml, hown, hts⟩ (c_Model_throwsIf l D y bd H.size x_thrown_9 x_men x_ships x_entries x_rules x_calls x_gangs x_idle x_moved x_paid x_taped x_at x_end x_begin x_faultAt x_wants 0 2 hw) (cwV 2 hts gX9_man_X9_throwsIf rfl rfl rfl (by decide +kernel) ⟨Nat.le_of_ble_eq_true rfl, Nat.le_of_ble_eq_true rfl⟩) ⟨mPre.blind, (va_recv hK hP (ci := 11) (q0 := 0) rfl rfl), mPre.to (hP.sub [0] rfl) hK (hD.sub [0] (by decide) rfl) hE⟩ rfl rfl hl.1 rfl (lv_room (Nat.le_of_ble_eq_true rfl)) dX9_man_46 ⟨Nat.le_of_ble_eq_true rfl, Nat.le_of_ble_eq_true rfl⟩) (fun r_10 u H locs hw hP hD hS => ?_)
        obtain ⟨x_thrown_11, rfl⟩ : ∃ z, z = u := ⟨_, rfl⟩
        try dsimp only at hw
        have hP : va_P D vwCl [(ce_xm bd x_thrown_11 x_men x_ships x_entries x_rules x_calls x_gangs x_idle x_moved x_paid x_taped x_at x_end x_begin x_faultAt x_wants), ((bd 1), .inl (y 0, 24, .inl x_skills)), ((bd 3), .inl (y 0, 24, .inl x_barred)), ((bd 5), .inl (y 0, 24, .inl x_atShip)), ((bd 6), .inl (y 0, 24, .inl x_atHatch))] H := hP
        have hD : va_D A [(ce_xm bd x_thrown_11 x_men x_ships x_entries x_rules x_calls x_gangs x_idle x_moved x_paid x_taped x_at x_end x_begin x_faultAt x_wants), ((bd 1), .inl (y 0, 24, .inl x_skills)), ((bd 3), .inl (y 0, 24, .inl x_barred)), ((bd 5), .inl (y 0, 24, .inl x_atShip)), ((bd 6), .inl (y 0, 24, .inl x_atHatch))] := hD
        refine lv_if_eq (tgt := 54) hx hb dX9_man_49 (by decide) (fun hc => ?_) (fun hc => ?_)
        · have hw := hw.1 hc
          refine lv_aload_n hx hb dX9_man_54 rfl (lv_at hl 0 rfl) ?_
          refine va_get (ci := 11) (v := .ref (bd 1)) (C := RX9) (T := TX9) (N := 47) hx hb hts inw_X9_man_X9 hown hK hP 0 rfl rfl 1 (by decide) (hts (.fieldLink RX9 9 "DockCallModel" "skills" "[I") (by decide +kernel)) (fun _ h9 => h9) rfl dX9_man_55 ?_
          refine lv_aload_n hx hb dX9_man_58 rfl (lv_at hl 0 rfl) ?_
          refine va_get (ci := 11) (v := .int x_men) (C := RX9) (T := TX9) (N := 47) hx hb hts inw_X9_man_X9 hown hK hP 0 rfl rfl 7 (by decide) (hts (.fieldLink RX9 112 "DockCallModel" "men" "I") (by decide +kernel)) (fun _ h9 => h9) rfl dX9_man_59 ?_
          refine lv_iload_n hx hb dX9_man_62 rfl (lv_at hl 1 rfl) ?_
          obtain ⟨hi, hw⟩ := hw
          refine va_iast hx hb hK hP hD hS 1 0 rfl rfl hi dX9_man_63 (fun H locs hP hD hS => ?_)
          have hP : va_P D vwCl [(ce_xm bd x_thrown_11 x_men x_ships x_entries x_rules x_calls x_gangs x_idle x_moved x_paid x_taped x_at x_end x_begin x_faultAt x_wants), ((bd 1), .inl (y 0, 24, .inl (upd x_skills x_men.toNatClampNeg p0))), ((bd 3), .inl (y 0, 24, .inl x_barred)), ((bd 5), .inl (y 0, 24, .inl x_atShip)), ((bd 6), .inl (y 0, 24, .inl x_atHatch))] H := hP
          have hD : va_D A [(ce_xm bd x_thrown_11 x_men x_ships x_entries x_rules x_calls x_gangs x_idle x_moved x_paid x_taped x_at x_end x_begin x_faultAt x_wants), ((bd 1), .inl (y 0, 24, .inl (upd x_skills x_men.toNatClampNeg p0))), ((bd 3), .inl (y 0, 24, .inl x_barred)), ((bd 5), .inl (y 0, 24, .inl x_atShip)), ((bd 6), .inl (y 0, 24, .inl x_atHatch))] := hD
          refine lv_aload_n hx hb dX9_man_64 rfl (lv_at hl 0 rfl) ?_
          refine va_get (ci := 11) (v := .ref (bd 3)) (C := RX9) (T := TX9) (N := 47) hx hb hts inw_X9_man_X9 hown hK hP 0 rfl rfl 3 (by decide) (hts (.fieldLink RX9 16 "DockCallModel" "barred" "[I") (by decide +kernel)) (fun _ h9 => h9) rfl dX9_man_65 ?_
          refine lv_aload_n hx hb dX9_man_68 rfl (lv_at hl 0 rfl) ?_
          refine va_get (ci := 11) (v := .int x_men) (C := RX9) (T := TX9) (N := 47) hx hb hts inw_X9_man_X9 hown hK hP 0 rfl rfl 7 (by decide) (hts (.fieldLink RX9 112 "DockCallModel" "men" "I") (by decide +kernel)) (fun _ h9 => h9) rfl dX9_man_69 ?_
          refine lv_iconst (v := (-1)) hx hb dX9_man_72 (by decide) ?_
          obtain ⟨hi, hw⟩ := hw
          refine va_iast hx hb hK hP hD hS 2 0 rfl rfl hi dX9_man_73 (fun H locs hP hD hS => ?_)
          have hP : va_P D vwCl [(ce_xm bd x_thrown_11 x_men x_ships x_entries x_rules x_calls x_gangs x_idle x_moved x_paid x_taped x_at x_end x_begin x_faultAt x_wants), ((bd 1), .inl (y 0, 24, .inl (upd x_skills x_men.toNatClampNeg p0))), ((bd 3), .inl (y 0, 24, .inl (upd x_barred x_men.toNatClampNeg (-1)))), ((bd 5), .inl (y 0, 24, .inl x_atShip)), ((bd 6), .inl (y 0, 24, .inl x_atHatch))] H := hP
          have hD : va_D A [(ce_xm bd x_thrown_11 x_men x_ships x_entries x_rules x_calls x_gangs x_idle x_moved x_paid x_taped x_at x_end x_begin x_faultAt x_wants), ((bd 1), .inl (y 0, 24, .inl (upd x_skills x_men.toNatClampNeg p0))), ((bd 3), .inl (y 0, 24, .inl (upd x_barred x_men.toNatClampNeg (-1)))), ((bd 5), .inl (y 0, 24, .inl x_atShip)), ((bd 6), .inl (y 0, 24, .inl x_atHatch))] := hD
          refine lv_aload_n hx hb dX9_man_74 rfl (lv_at hl 0 rfl) ?_
          refine va_get (ci := 11) (v := .ref (bd 5)) (C := RX9) (T := TX9) (N := 47) hx hb hts inw_X9_man_X9 hown hK hP 0 rfl rfl 5 (by decide) (hts (.fieldLink RX9 22 "DockCallModel" "atShip" "[I") (by decide +kernel)) (fun _ h9 => h9) rfl dX9_man_75 ?_
          refine lv_aload_n hx hb dX9_man_78 rfl (lv_at hl 0 rfl) ?_
          refine va_get (ci := 11) (v := .int x_men) (C := RX9) (T := TX9) (N := 47) hx hb hts inw_X9_man_X9 hown hK hP 0 rfl rfl 7 (by decide) (hts (.fieldLink RX9 112 "DockCallModel" "men" "I") (by decide +kernel)) (fun _ h9 => h9) rfl dX9_man_79 ?_
          refine lv_iconst (v := (-1)) hx hb dX9_man_82 (by decide) ?_
          obtain ⟨hi, hw⟩ := hw
          refine va_iast hx hb hK hP hD hS 3 0 rfl rfl hi dX9_man_83 (fun H locs hP hD hS => ?_)
          have hP : va_P D vwCl [(ce_xm bd x_thrown_11 x_men x_ships x_entries x_rules x_calls x_gangs x_idle x_moved x_paid x_taped x_at x_end x_begin x_faultAt x_wants), ((bd 1), .inl (y 0, 24, .inl (upd x_skills x_men.toNatClampNeg p0))), ((bd 3), .inl (y 0, 24, .inl (upd x_barred x_men.toNatClampNeg (-1)))), ((bd 5), .inl (y 0, 24, .inl (upd x_atShip x_men.toNatClampNeg (-1)))), ((bd 6), .inl (y 0, 24, .inl x_atHatch))] H := hP
          have hD : va_D A [(ce_xm bd x_thrown_11 x_men x_ships x_entries x_rules x_calls x_gangs x_idle x_moved x_paid x_taped x_at x_end x_begin x_faultAt x_wants), ((bd 1), .inl (y 0, 24, .inl (upd x_skills x_men.toNatClampNeg p0))), ((bd 3), .inl (y 0, 24, .inl (upd x_barred x_men.toNatClampNeg (-1)))), ((bd 5), .inl (y 0, 24, .inl (upd x_atShip x_men.toNatClampNeg (-1)))), ((bd 6), .inl (y 0, 24, .inl x_atHatch))] := hD
          refine lv_aload_n hx hb dX9_man_84 rfl (lv_at hl 0 rfl) ?_
          refine va_get (ci := 11) (v := .ref (bd 6)) (C := RX9) (T := TX9) (N := 47) hx hb hts inw_X9_man_X9 hown hK hP 0 rfl rfl 6 (by decide) (hts (.fieldLink RX9 25 "DockCallModel" "atHatch" "[I") (by decide +kernel)) (fun _ h9 => h9) rfl dX9_man_85 ?_
          refine lv_aload_n hx hb dX9_man_88 rfl (lv_at hl 0 rfl) ?_
          refine va_get (ci := 11) (v := .int x_men) (C := RX9) (T := TX9) (N := 47) hx hb hts inw_X9_man_X9 hown hK hP 0 rfl rfl 7 (by decide) (hts (.fieldLink RX9 112 "DockCallModel" "men" "I") (by decide +kernel)) (fun _ h9 => h9) rfl dX9_man_89 ?_
          refine lv_iconst (v := (-1)) hx hb dX9_man_92 (by decide) ?_
          obtain ⟨hi, hw⟩ := hw
          refine va_iast hx hb hK hP hD hS 4 0 rfl rfl hi dX9_man_93 (fun H locs hP hD hS => ?_)
          have hP : va_P D vwCl [(ce_xm bd x_thrown_11 x_men x_ships x_entries x_rules x_calls x_gangs x_idle x_moved x_paid x_taped x_at x_end x_begin x_faultAt x_wants), ((bd 1), .inl (y 0, 24, .inl (upd x_skills x_men.toNatClampNeg p0))), ((bd 3), .inl (y 0, 24, .inl (upd x_barred x_men.toNatClampNeg (-1)))), ((bd 5), .inl (y 0, 24, .inl (upd x_atShip x_men.toNatClampNeg (-1)))), ((bd 6), .inl (y 0, 24, .inl (upd x_atHatch x_men.toNatClampNeg (-1))))] H := hP
          have hD : va_D A [(ce_xm bd x_thrown_11 x_men x_ships x_entries x_rules x_calls x_gangs x_idle x_moved x_paid x_taped x_at x_end x_begin x_faultAt x_wants), ((bd 1), .inl (y 0, 24, .inl (upd x_skills x_men.toNatClampNeg p0))), ((bd 3), .inl (y 0, 24, .inl (upd x_barred x_men.toNatClampNeg (-1)))), ((bd 5), .inl (y 0, 24, .inl (upd x_atShip x_men.toNatClampNeg (-1)))), ((bd 6), .inl (y 0, 24, .inl (upd x_atHatch x_men.toNatClampNeg (-1))))] := hD
          refine lv_aload_n hx hb dX9_man_94 rfl (lv_at hl 0 rfl) ?_
          refine lv_dup hx hb dX9_man_95 rfl ?_
          refine va_get (ci := 11) (v := .int x_men) (C := RX9) (T := TX9) (N := 47) hx hb hts inw_X9_man_X9 hown hK hP 0 rfl rfl 7 (by decide) (hts (.fieldLink RX9 112 "DockCallModel" "men" "I") (by decide +kernel)) (fun _ h9 => h9) rfl dX9_man_96 ?_
          refine lv_iconst (v := 1) hx hb dX9_man_99 (by decide) ?_
          refine lv_iadd hx hb dX9_man_100 ?_
          refine va_put (ci := 11) (v := .int (x_men + 1)) (ty := .int) (C := RX9) (T := TX9) (N := 47) hx hb hts inw_X9_man_X9 tyX9 tyX9_ok nmX9 hown hK hP hD hS 0 rfl rfl 7 (by decide) (hts (.fieldLink RX9 112 "DockCallModel" "men" "I") (by decide +kernel)) (fun _ h9 => h9) rfl (by decide +kernel) rfl rfl (Nat.le_of_ble_eq_true rfl) dX9_man_101 (fun H locs hP hD hS => ?_)
          have hP : va_P D vwCl [(ce_xm bd x_thrown_11 (x_men + 1) x_ships x_entries x_rules x_calls x_gangs x_idle x_moved x_paid x_taped x_at x_end x_begin x_faultAt x_wants), ((bd 1), .inl (y 0, 24, .inl (upd x_skills x_men.toNatClampNeg p0))), ((bd 3), .inl (y 0, 24, .inl (upd x_barred x_men.toNatClampNeg (-1)))), ((bd 5), .inl (y 0, 24, .inl (upd x_atShip x_men.toNatClampNeg (-1)))), ((bd 6), .inl (y 0, 24, .inl (upd x_atHatch x_men.toNatClampNeg (-1))))] H := hP
          have hD : va_D A [(ce_xm bd x_thrown_11 (x_men + 1) x_ships x_entries x_rules x_calls x_gangs x_idle x_moved x_paid x_taped x_at x_end x_begin x_faultAt x_wants), ((bd 1), .inl (y 0, 24, .inl (upd x_skills x_men.toNatClampNeg p0))), ((bd 3), .inl (y 0, 24, .inl (upd x_barred x_men.toNatClampNeg (-1)))), ((bd 5), .inl (y 0, 24, .inl (upd x_atShip x_men.toNatClampNeg (-1)))), ((bd 6), .inl (y 0, 24, .inl (upd x_atHatch x_men.toNatClampNeg (-1))))] := hD
          refine lv_aload_n hx hb dX9_man_104 rfl (lv_at hl 0 rfl) ?_
          refine va_get (ci := 11) (v := .int (x_men + 1)) (C := RX9) (T := TX9) (N := 47) hx hb hts inw_X9_man_X9 hown hK hP 0 rfl rfl 7 (by decide) (hts (.fieldLink RX9 112 "DockCallModel" "men" "I") (by decide +kernel)) (fun _ h9 => h9) rfl dX9_man_105 ?_
          refine lv_iconst (v := 1) hx hb dX9_man_108 (by decide) ?_
          refine lv_isub hx hb dX9_man_109 ?_
          exact W.iret (v := (x_men + 1) - 1) hx hb hr (fun t ht hW => ⟨⟨(x_men + 1) - 1, (x_thrown_11, x_men + 1, upd x_skills x_men.toNatClampNeg p0, upd x_barred x_men.toNatClampNeg (-1), upd x_atShip x_men.toNatClampNeg (-1), upd x_atHatch x_men.toNatClampNeg (-1)), rfl, hw, mAt.to hP hK hD ht hW⟩, hS.F ht⟩) hS.2.2 dX9_man_110
        · have hw := hw.2 hc
          refine lv_iconst (v := 0) hx hb dX9_man_52 (by decide) ?_
          exact W.iret (v := 0) hx hb hr (fun t ht hW => ⟨⟨0, (x_thrown_11, x_men, x_skills, x_barred, x_atShip, x_atHatch), rfl, hw, mAt.to hP hK hD ht hW⟩, hS.F ht⟩) hS.2.2 dX9_man_53
      · have hw := hw.1 hc
        refine lv_iconst (v := 1) hx hb dX9_man_40 (by decide) ?_
        refine lv_goto (tgt := 45) hx hb dX9_man_41 (by decide) ?_
        refine lv_iconst (v := 2) hx hb dX9_man_45 (by decide) ?_
        refine mx_i (wc := [(ce_xm bd x_thrown_9 x_men x_ships x_entries x_rules x_calls x_gangs x_idle x_moved x_paid x_taped x_at x_end x_begin x_faultAt x_wants)]) (wr := [((bd 1), .inl (y 0, 24, .inl x_skills)), ((bd 3), .inl (y 0, 24, .inl x_barred)), ((bd 5), .inl (y 0, 24, .inl x_atShip)), ((bd 6), .inl (y 0, 24, .inl x_atHatch))]) hP hD hS hA [0] [1, 2, 3, 4] [4, 0, 1, 2, 3] rfl rfl (by decide) (by decide) (by decide) (fun (u : Int32) => [(ce_xm bd u x_men x_ships x_entries x_rules x_calls x_gangs x_idle x_moved x_paid x_taped x_at x_end x_begin x_faultAt x_wants), ((bd 1), .inl (y 0, 24, .inl x_skills)), ((bd 3), .inl (y 0, 24, .inl x_barred)), ((bd 5), .inl (y 0, 24, .inl x_atShip)), ((bd 6), .inl (y 0, 24, .inl x_atHatch))]) (fun _ => rfl) (va_runV (As := [.int 1, .int 2]) (rest := []) ⟨hx, hb, hml, hown, hts⟩ (c_Model_throwsIf l D y bd H.size x_thrown_9 x_men x_ships x_entries x_rules x_calls x_gangs x_idle x_moved x_paid x_taped x_at x_end x_begin x_faultAt x_wants 1 2 hw) (cwV 2 hts gX9_man_X9_throwsIf rfl rfl rfl (by decide +kernel) ⟨Nat.le_of_ble_eq_true rfl, Nat.le_of_ble_eq_true rfl⟩) ⟨mPre.blind, (va_recv hK hP (ci := 11) (q0 := 0) rfl rfl), mPre.to (hP.sub [0] rfl) hK (hD.sub [0] (by decide) rfl) hE⟩ rfl rfl hl.1 rfl (lv_room (Nat.le_of_ble_eq_true rfl)) dX9_man_46 ⟨Nat.le_of_ble_eq_true rfl, Nat.le_of_ble_eq_true rfl⟩) (fun r_12 u H locs hw hP hD hS => ?_)
        obtain ⟨x_thrown_13, rfl⟩ : ∃ z, z = u := ⟨_, rfl⟩
        try dsimp only at hw
        have hP : va_P D vwCl [(ce_xm bd x_thrown_13 x_men x_ships x_entries x_rules x_calls x_gangs x_idle x_moved x_paid x_taped x_at x_end x_begin x_faultAt x_wants), ((bd 1), .inl (y 0, 24, .inl x_skills)), ((bd 3), .inl (y 0, 24, .inl x_barred)), ((bd 5), .inl (y 0, 24, .inl x_atShip)), ((bd 6), .inl (y 0, 24, .inl x_atHatch))] H := hP
        have hD : va_D A [(ce_xm bd x_thrown_13 x_men x_ships x_entries x_rules x_calls x_gangs x_idle x_moved x_paid x_taped x_at x_end x_begin x_faultAt x_wants), ((bd 1), .inl (y 0, 24, .inl x_skills)), ((bd 3), .inl (y 0, 24, .inl x_barred)), ((bd 5), .inl (y 0, 24, .inl x_atShip)), ((bd 6), .inl (y 0, 24, .inl x_atHatch))] := hD
        refine lv_if_eq (tgt := 54) hx hb dX9_man_49 (by decide) (fun hc => ?_) (fun hc => ?_)
        · have hw := hw.1 hc
          refine lv_aload_n hx hb dX9_man_54 rfl (lv_at hl 0 rfl) ?_
          refine va_get (ci := 11) (v := .ref (bd 1)) (C := RX9) (T := TX9) (N := 47) hx hb hts inw_X9_man_X9 hown hK hP 0 rfl rfl 1 (by decide) (hts (.fieldLink RX9 9 "DockCallModel" "skills" "[I") (by decide +kernel)) (fun _ h9 => h9) rfl dX9_man_55 ?_
          refine lv_aload_n hx hb dX9_man_58 rfl (lv_at hl 0 rfl) ?_
          refine va_get (ci := 11) (v := .int x_men) (C := RX9) (T := TX9) (N := 47) hx hb hts inw_X9_man_X9 hown hK hP 0 rfl rfl 7 (by decide) (hts (.fieldLink RX9 112 "DockCallModel" "men" "I") (by decide +kernel)) (fun _ h9 => h9) rfl dX9_man_59 ?_
          refine lv_iload_n hx hb dX9_man_62 rfl (lv_at hl 1 rfl) ?_
          obtain ⟨hi, hw⟩ := hw
          refine va_iast hx hb hK hP hD hS 1 0 rfl rfl hi dX9_man_63 (fun H locs hP hD hS => ?_)
          have hP : va_P D vwCl [(ce_xm bd x_thrown_13 x_men x_ships x_entries x_rules x_calls x_gangs x_idle x_moved x_paid x_taped x_at x_end x_begin x_faultAt x_wants), ((bd 1), .inl (y 0, 24, .inl (upd x_skills x_men.toNatClampNeg p0))), ((bd 3), .inl (y 0, 24, .inl x_barred)), ((bd 5), .inl (y 0, 24, .inl x_atShip)), ((bd 6), .inl (y 0, 24, .inl x_atHatch))] H := hP
          have hD : va_D A [(ce_xm bd x_thrown_13 x_men x_ships x_entries x_rules x_calls x_gangs x_idle x_moved x_paid x_taped x_at x_end x_begin x_faultAt x_wants), ((bd 1), .inl (y 0, 24, .inl (upd x_skills x_men.toNatClampNeg p0))), ((bd 3), .inl (y 0, 24, .inl x_barred)), ((bd 5), .inl (y 0, 24, .inl x_atShip)), ((bd 6), .inl (y 0, 24, .inl x_atHatch))] := hD
          refine lv_aload_n hx hb dX9_man_64 rfl (lv_at hl 0 rfl) ?_
          refine va_get (ci := 11) (v := .ref (bd 3)) (C := RX9) (T := TX9) (N := 47) hx hb hts inw_X9_man_X9 hown hK hP 0 rfl rfl 3 (by decide) (hts (.fieldLink RX9 16 "DockCallModel" "barred" "[I") (by decide +kernel)) (fun _ h9 => h9) rfl dX9_man_65 ?_
          refine lv_aload_n hx hb dX9_man_68 rfl (lv_at hl 0 rfl) ?_
          refine va_get (ci := 11) (v := .int x_men) (C := RX9) (T := TX9) (N := 47) hx hb hts inw_X9_man_X9 hown hK hP 0 rfl rfl 7 (by decide) (hts (.fieldLink RX9 112 "DockCallModel" "men" "I") (by decide +kernel)) (fun _ h9 => h9) rfl dX9_man_69 ?_
          refine lv_iconst (v := (-1)) hx hb dX9_man_72 (by decide) ?_
          obtain ⟨hi, hw⟩ := hw
          refine va_iast hx hb hK hP hD hS 2 0 rfl rfl hi dX9_man_73 (fun H locs hP hD hS => ?_)
          have hP : va_P D vwCl [(ce_xm bd x_thrown_13 x_men x_ships x_entries x_rules x_calls x_gangs x_idle x_moved x_paid x_taped x_at x_end x_begin x_faultAt x_wants), ((bd 1), .inl (y 0, 24, .inl (upd x_skills x_men.toNatClampNeg p0))), ((bd 3), .inl (y 0, 24, .inl (upd x_barred x_men.toNatClampNeg (-1)))), ((bd 5), .inl (y 0, 24, .inl x_atShip)), ((bd 6), .inl (y 0, 24, .inl x_atHatch))] H := hP
          have hD : va_D A [(ce_xm bd x_thrown_13 x_men x_ships x_entries x_rules x_calls x_gangs x_idle x_moved x_paid x_taped x_at x_end x_begin x_faultAt x_wants), ((bd 1), .inl (y 0, 24, .inl (upd x_skills x_men.toNatClampNeg p0))), ((bd 3), .inl (y 0, 24, .inl (upd x_barred x_men.toNatClampNeg (-1)))), ((bd 5), .inl (y 0, 24, .inl x_atShip)), ((bd 6), .inl (y 0, 24, .inl x_atHatch))] := hD
          refine lv_aload_n hx hb dX9_man_74 rfl (lv_at hl 0 rfl) ?_
          refine va_get (ci := 11) (v := .ref (bd 5)) (C := RX9) (T := TX9) (N := 47) hx hb hts inw_X9_man_X9 hown hK hP 0 rfl rfl 5 (by decide) (hts (.fieldLink RX9 22 "DockCallModel" "atShip" "[I") (by decide +kernel)) (fun _ h9 => h9) rfl dX9_man_75 ?_
          refine lv_aload_n hx hb dX9_man_78 rfl (lv_at hl 0 rfl) ?_
          refine va_get (ci := 11) (v := .int x_men) (C := RX9) (T := TX9) (N := 47) hx hb hts inw_X9_man_X9 hown hK hP 0 rfl rfl 7 (by decide) (hts (.fieldLink RX9 112 "DockCallModel" "men" "I") (by decide +kernel)) (fun _ h9 => h9) rfl dX9_man_79 ?_
          refine lv_iconst (v := (-1)) hx hb dX9_man_82 (by decide) ?_
          obtain ⟨hi, hw⟩ := hw
          refine va_iast hx hb hK hP hD hS 3 0 rfl rfl hi dX9_man_83 (fun H locs hP hD hS => ?_)
          have hP : va_P D vwCl [(ce_xm bd x_thrown_13 x_men x_ships x_entries x_rules x_calls x_gangs x_idle x_moved x_paid x_taped x_at x_end x_begin x_faultAt x_wants), ((bd 1), .inl (y 0, 24, .inl (upd x_skills x_men.toNatClampNeg p0))), ((bd 3), .inl (y 0, 24, .inl (upd x_barred x_men.toNatClampNeg (-1)))), ((bd 5), .inl (y 0, 24, .inl (upd x_atShip x_men.toNatClampNeg (-1)))), ((bd 6), .inl (y 0, 24, .inl x_atHatch))] H := hP
          have hD : va_D A [(ce_xm bd x_thrown_13 x_men x_ships x_entries x_rules x_calls x_gangs x_idle x_moved x_paid x_taped x_at x_end x_begin x_faultAt x_wants), ((bd 1), .inl (y 0, 24, .inl (upd x_skills x_men.toNatClampNeg p0))), ((bd 3), .inl (y 0, 24, .inl (upd x_barred x_men.toNatClampNeg (-1)))), ((bd 5), .inl (y 0, 24, .inl (upd x_atShip x_men.toNatClampNeg (-1)))), ((bd 6), .inl (y 0, 24, .inl x_atHatch))] := hD
          refine lv_aload_n hx hb dX9_man_84 rfl (lv_at hl 0 rfl) ?_
          refine va_get (ci := 11) (v := .ref (bd 6)) (C := RX9) (T := TX9) (N := 47) hx hb hts inw_X9_man_X9 hown hK hP 0 rfl rfl 6 (by decide) (hts (.fieldLink RX9 25 "DockCallModel" "atHatch" "[I") (by decide +kernel)) (fun _ h9 => h9) rfl dX9_man_85 ?_
          refine lv_aload_n hx hb dX9_man_88 rfl (lv_at hl 0 rfl) ?_
          refine va_get (ci := 11) (v := .int x_men) (C := RX9) (T := TX9) (N := 47) hx hb hts inw_X9_man_X9 hown hK hP 0 rfl rfl 7 (by decide) (hts (.fieldLink RX9 112 "DockCallModel" "men" "I") (by decide +kernel)) (fun _ h9 => h9) rfl dX9_man_89 ?_
          refine lv_iconst (v := (-1)) hx hb dX9_man_92 (by decide) ?_
          obtain ⟨hi, hw⟩ := hw
          refine va_iast hx hb hK hP hD hS 4 0 rfl rfl hi dX9_man_93 (fun H locs hP hD hS => ?_)
          have hP : va_P D vwCl [(ce_xm bd x_thrown_13 x_men x_ships x_entries x_rules x_calls x_gangs x_idle x_moved x_paid x_taped x_at x_end x_begin x_faultAt x_wants), ((bd 1), .inl (y 0, 24, .inl (upd x_skills x_men.toNatClampNeg p0))), ((bd 3), .inl (y 0, 24, .inl (upd x_barred x_men.toNatClampNeg (-1)))), ((bd 5), .inl (y 0, 24, .inl (upd x_atShip x_men.toNatClampNeg (-1)))), ((bd 6), .inl (y 0, 24, .inl (upd x_atHatch x_men.toNatClampNeg (-1))))] H := hP
          have hD : va_D A [(ce_xm bd x_thrown_13 x_men x_ships x_entries x_rules x_calls x_gangs x_idle x_moved x_paid x_taped x_at x_end x_begin x_faultAt x_wants), ((bd 1), .inl (y 0, 24, .inl (upd x_skills x_men.toNatClampNeg p0))), ((bd 3), .inl (y 0, 24, .inl (upd x_barred x_men.toNatClampNeg (-1)))), ((bd 5), .inl (y 0, 24, .inl (upd x_atShip x_men.toNatClampNeg (-1)))), ((bd 6), .inl (y 0, 24, .inl (upd x_atHatch x_men.toNatClampNeg (-1))))] := hD
          refine lv_aload_n hx hb dX9_man_94 rfl (lv_at hl 0 rfl) ?_
          refine lv_dup hx hb dX9_man_95 rfl ?_
          refine va_get (ci := 11) (v := .int x_men) (C := RX9) (T := TX9) (N := 47) hx hb hts inw_X9_man_X9 hown hK hP 0 rfl rfl 7 (by decide) (hts (.fieldLink RX9 112 "DockCallModel" "men" "I") (by decide +kernel)) (fun _ h9 => h9) rfl dX9_man_96 ?_
          refine lv_iconst (v := 1) hx hb dX9_man_99 (by decide) ?_
          refine lv_iadd hx hb dX9_man_100 ?_
          refine va_put (ci := 11) (v := .int (x_men + 1)) (ty := .int) (C := RX9) (T := TX9) (N := 47) hx hb hts inw_X9_man_X9 tyX9 tyX9_ok nmX9 hown hK hP hD hS 0 rfl rfl 7 (by decide) (hts (.fieldLink RX9 112 "DockCallModel" "men" "I") (by decide +kernel)) (fun _ h9 => h9) rfl (by decide +kernel) rfl rfl (Nat.le_of_ble_eq_true rfl) dX9_man_101 (fun H locs hP hD hS => ?_)
          have hP : va_P D vwCl [(ce_xm bd x_thrown_13 (x_men + 1) x_ships x_entries x_rules x_calls x_gangs x_idle x_moved x_paid x_taped x_at x_end x_begin x_faultAt x_wants), ((bd 1), .inl (y 0, 24, .inl (upd x_skills x_men.toNatClampNeg p0))), ((bd 3), .inl (y 0, 24, .inl (upd x_barred x_men.toNatClampNeg (-1)))), ((bd 5), .inl (y 0, 24, .inl (upd x_atShip x_men.toNatClampNeg (-1)))), ((bd 6), .inl (y 0, 24, .inl (upd x_atHatch x_men.toNatClampNeg (-1))))] H := hP
          have hD : va_D A [(ce_xm bd x_thrown_13 (x_men + 1) x_ships x_entries x_rules x_calls x_gangs x_idle x_moved x_paid x_taped x_at x_end x_begin x_faultAt x_wants), ((bd 1), .inl (y 0, 24, .inl (upd x_skills x_men.toNatClampNeg p0))), ((bd 3), .inl (y 0, 24, .inl (upd x_barred x_men.toNatClampNeg (-1)))), ((bd 5), .inl (y 0, 24, .inl (upd x_atShip x_men.toNatClampNeg (-1)))), ((bd 6), .inl (y 0, 24, .inl (upd x_atHatch x_men.toNatClampNeg (-1))))] := hD
          refine lv_aload_n hx hb dX9_man_104 rfl (lv_at hl 0 rfl) ?_
          refine va_get (ci := 11) (v := .int (x_men + 1)) (C := RX9) (T := TX9) (N := 47) hx hb hts inw_X9_man_X9 hown hK hP 0 rfl rfl 7 (by decide) (hts (.fieldLink RX9 112 "DockCallModel" "men" "I") (by decide +kernel)) (fun _ h9 => h9) rfl dX9_man_105 ?_
          refine lv_iconst (v := 1) hx hb dX9_man_108 (by decide) ?_
          refine lv_isub hx hb dX9_man_109 ?_
          exact W.iret (v := (x_men + 1) - 1) hx hb hr (fun t ht hW => ⟨⟨(x_men + 1) - 1, (x_thrown_13, x_men + 1, upd x_skills x_men.toNatClampNeg p0, upd x_barred x_men.toNatClampNeg (-1), upd x_atShip x_men.toNatClampNeg (-1), upd x_atHatch x_men.toNatClampNeg (-1)), rfl, hw, mAt.to hP hK hD ht hW⟩, hS.F ht⟩) hS.2.2 dX9_man_110
        · have hw := hw.2 hc
          refine lv_iconst (v := 0) hx hb dX9_man_52 (by decide) ?_
          exact W.iret (v := 0) hx hb hr (fun t ht hW => ⟨⟨0, (x_thrown_13, x_men, x_skills, x_barred, x_atShip, x_atHatch), rfl, hw, mAt.to hP hK hD ht hW⟩, hS.F ht⟩) hS.2.2 dX9_man_53
theorem inw_X9_ship_X9 : ∀ w ∈ wsX90, w ∈ wsX9_ship := fun _ h => List.mem_cons_of_mem _ (List.mem_append_left _ (List.mem_append_right _ h))
def wp_Model_ship (x_ships : Int32) (x_calls : Int32) (x_came : Nat → Int32) (Q : Int32 → Int32 → Int32 → (Nat → Int32) → Prop) : Prop := ((x_ships = 10 → (wp_Model_throwsIf 0 1 1 (fun r_3 x_thrown_4 => ((r_3 = 0 → (vp_in x_ships 10 ∧ Q ((x_ships + 1) - 1) x_thrown_4 (x_ships + 1) (upd x_came x_ships.toNatClampNeg x_calls))) ∧ (¬ r_3 = 0 → Q 0 x_thrown_4 x_ships x_came))))) ∧ (¬ x_ships = 10 → (wp_Model_throwsIf 0 0 1 (fun r_1 x_thrown_2 => ((r_1 = 0 → (vp_in x_ships 10 ∧ Q ((x_ships + 1) - 1) x_thrown_2 (x_ships + 1) (upd x_came x_ships.toNatClampNeg x_calls))) ∧ (¬ r_1 = 0 → Q 0 x_thrown_2 x_ships x_came))))))
set_option maxHeartbeats 4000000 in
set_option maxRecDepth 100000 in
theorem c_Model_ship (l : Launch) (D : va_G) (y : Nat → ClassId) (bd : Nat → Nat) (sz : Nat) (x_thrown : Int32) (x_men : Int32) (x_ships : Int32) (x_entries : Int32) (x_rules : Int32) (x_calls : Int32) (x_gangs : Int32) (x_idle : Int32) (x_moved : Int64) (x_paid : Int64) (x_taped : Int32) (x_at : Int32) (x_end : Int32) (x_begin : Int32) (x_faultAt : Int32) (x_wants : Int32) (x_came : Nat → Int32)  {Q : Int32 → Int32 → Int32 → (Nat → Int32) → Prop} (hw : wp_Model_ship x_ships x_calls x_came Q) : Met l yX9_ship wsX9_ship ({ frames := 1, cells := 0, slots := 0, locals := 22 }) (va_Pc [.ref (bd 0)] (mPre D y sz [(ce_xm bd x_thrown x_men x_ships x_entries x_rules x_calls x_gangs x_idle x_moved x_paid x_taped x_at x_end x_begin x_faultAt x_wants), ((bd 7), .inl (y 0, 10, .inl x_came))])) (va_Qi (fun (r : Int32) (u : Int32 × Int32 × (Nat → Int32)) => Q r u.1 u.2.1 u.2.2) (mAt D y (va_A [(ce_xm bd x_thrown x_men x_ships x_entries x_rules x_calls x_gangs x_idle x_moved x_paid x_taped x_at x_end x_begin x_faultAt x_wants), ((bd 7), .inl (y 0, 10, .inl x_came))] sz) (fun (u : Int32 × Int32 × (Nat → Int32)) => [(ce_xm bd u.1 x_men u.2.1 x_entries x_rules x_calls x_gangs x_idle x_moved x_paid x_taped x_at x_end x_begin x_faultAt x_wants), ((bd 7), .inl (y 0, 10, .inl u.2.2))])) (va_A [(ce_xm bd x_thrown x_men x_ships x_entries x_rules x_calls x_gangs x_idle x_moved x_paid x_taped x_at x_end x_begin x_faultAt x_wants), ((bd 7), .inl (y 0, 10, .inl x_came))] sz)) 0 0 (va_A [(ce_xm bd x_thrown x_men x_ships x_entries x_rules x_calls x_gangs x_idle x_moved x_paid x_taped x_at x_end x_begin x_faultAt x_wants), ((bd 7), .inl (y 0, 10, .inl x_came))] sz) := by
  unfold wp_Model_ship at hw
  refine Met.ofW (cc := cX9_ship) (maxL := 1) (ret := some .int) (by decide) rfl ?_
  intro p e s m args below meth c s₁ B hml hv
  obtain ⟨rfl, hsz, hP, hK, hD0, hE⟩ := hv
  have hx := B.exec
  have hb := B.bytes
  have hr := B.returns
  have hts := atoms_spec (ws := wsX9_ship) B.pre
  have hown : s.vm.findClass RX9 = some m.cls := findClass_of_methodNamed B.named
  have hlocks := B.notSynchronized
  subst hsz
  have hD := hD0.self (sz := s.heap.size)
  generalize hAe : va_A [(ce_xm bd x_thrown x_men x_ships x_entries x_rules x_calls x_gangs x_idle x_moved x_paid x_taped x_at x_end x_begin x_faultAt x_wants), ((bd 7), .inl (y 0, 10, .inl x_came))] s.heap.size = A at hD ⊢
  have hA : ∀ q : Nat, s.heap.size ≤ q → A q := fun q h => by rw [← hAe]; exact Or.inr h
  have hS : va_S A s.heap s.heap [] := va_S.rf
  have hP : va_P D vwCl [(ce_xm bd x_thrown x_men x_ships x_entries x_rules x_calls x_gangs x_idle x_moved x_paid x_taped x_at x_end x_begin x_faultAt x_wants), ((bd 7), .inl (y 0, 10, .inl x_came))] s.heap := hP
  have hl := lv_entry ([.ref (bd 0)]) (n := 1) (Nat.le_of_ble_eq_true rfl)
  rw [lg_entry_eq]
  generalize (lg_sl ([.ref (bd 0)]) ++ List.replicate (1 - (lg_sl ([.ref (bd 0)])).length) Slot.unset).toArray = ls at hl ⊢
  have hl : lv_has ls 1 [(0, .ref (bd 0))] := hl
  refine lv_aload_n hx hb dX9_ship_0 rfl (lv_at hl 0 rfl) ?_
  refine lv_iconst (v := 0) hx hb dX9_ship_1 (by decide) ?_
  refine va_put (ci := 11) (v := .int 0) (ty := .int) (C := RX9) (T := TX9) (N := 47) hx hb hts inw_X9_ship_X9 tyX9 tyX9_ok nmX9 hown hK hP hD hS 0 rfl rfl 0 (by decide) (hts (.fieldLink RX9 109 "DockCallModel" "thrown" "I") (by decide +kernel)) (fun _ h9 => h9) rfl (by decide +kernel) rfl rfl (Nat.le_of_ble_eq_true rfl) dX9_ship_2 (fun H locs hP hD hS => ?_)
  have hP : va_P D vwCl [(ce_xm bd 0 x_men x_ships x_entries x_rules x_calls x_gangs x_idle x_moved x_paid x_taped x_at x_end x_begin x_faultAt x_wants), ((bd 7), .inl (y 0, 10, .inl x_came))] H := hP
  have hD : va_D A [(ce_xm bd 0 x_men x_ships x_entries x_rules x_calls x_gangs x_idle x_moved x_paid x_taped x_at x_end x_begin x_faultAt x_wants), ((bd 7), .inl (y 0, 10, .inl x_came))] := hD
  refine lv_aload_n hx hb dX9_ship_5 rfl (lv_at hl 0 rfl) ?_
  refine lv_aload_n hx hb dX9_ship_6 rfl (lv_at hl 0 rfl) ?_
  refine va_get (ci := 11) (v := .int x_ships) (C := RX9) (T := TX9) (N := 47) hx hb hts inw_X9_ship_X9 hown hK hP 0 rfl rfl 14 (by decide) (hts (.fieldLink RX9 119 "DockCallModel" "ships" "I") (by decide +kernel)) (fun _ h9 => h9) rfl dX9_ship_7 ?_
  refine lv_bipush (v := 10) hx hb dX9_ship_10 (by decide) ?_
  refine lv_icmp_ne (tgt := 19) hx hb dX9_ship_12 (by decide) (fun hc => ?_) (fun hc => ?_)
  · have hw := hw.2 hc
    refine lv_iconst (v := 0) hx hb dX9_ship_19 (by decide) ?_
    refine lv_iconst (v := 1) hx hb dX9_ship_20 (by decide) ?_
    refine mx_i (wc := [(ce_xm bd 0 x_men x_ships x_entries x_rules x_calls x_gangs x_idle x_moved x_paid x_taped x_at x_end x_begin x_faultAt x_wants)]) (wr := [((bd 7), .inl (y 0, 10, .inl x_came))]) hP hD hS hA [0] [1] [1, 0] rfl rfl (by decide) (by decide) (by decide) (fun (u : Int32) => [(ce_xm bd u x_men x_ships x_entries x_rules x_calls x_gangs x_idle x_moved x_paid x_taped x_at x_end x_begin x_faultAt x_wants), ((bd 7), .inl (y 0, 10, .inl x_came))]) (fun _ => rfl) (va_runV (As := [.int 0, .int 1]) (rest := []) ⟨hx, hb, hml, hown, hts⟩ (c_Model_throwsIf l D y bd H.size 0 x_men x_ships x_entries x_rules x_calls x_gangs x_idle x_moved x_paid x_taped x_at x_end x_begin x_faultAt x_wants 0 1 hw) (cwV 2 hts gX9_ship_X9_throwsIf rfl rfl rfl (by decide +kernel) ⟨Nat.le_of_ble_eq_true rfl, Nat.le_of_ble_eq_true rfl⟩) ⟨mPre.blind, (va_recv hK hP (ci := 11) (q0 := 0) rfl rfl), mPre.to (hP.sub [0] rfl) hK (hD.sub [0] (by decide) rfl) hE⟩ rfl rfl hl.1 rfl (lv_room (Nat.le_of_ble_eq_true rfl)) dX9_ship_21 ⟨Nat.le_of_ble_eq_true rfl, Nat.le_of_ble_eq_true rfl⟩) (fun r_1 u H locs hw hP hD hS => ?_)
    obtain ⟨x_thrown_2, rfl⟩ : ∃ z, z = u := ⟨_, rfl⟩
    try dsimp only at hw
    have hP : va_P D vwCl [(ce_xm bd x_thrown_2 x_men x_ships x_entries x_rules x_calls x_gangs x_idle x_moved x_paid x_taped x_at x_end x_begin x_faultAt x_wants), ((bd 7), .inl (y 0, 10, .inl x_came))] H := hP
    have hD : va_D A [(ce_xm bd x_thrown_2 x_men x_ships x_entries x_rules x_calls x_gangs x_idle x_moved x_paid x_taped x_at x_end x_begin x_faultAt x_wants), ((bd 7), .inl (y 0, 10, .inl x_came))] := hD
    refine lv_if_eq (tgt := 29) hx hb dX9_ship_24 (by decide) (fun hc => ?_) (fun hc => ?_)
    · have hw := hw.1 hc
      refine lv_aload_n hx hb dX9_ship_29 rfl (lv_at hl 0 rfl) ?_
      refine va_get (ci := 11) (v := .ref (bd 7)) (C := RX9) (T := TX9) (N := 47) hx hb hts inw_X9_ship_X9 hown hK hP 0 rfl rfl 8 (by decide) (hts (.fieldLink RX9 28 "DockCallModel" "came" "[I") (by decide +kernel)) (fun _ h9 => h9) rfl dX9_ship_30 ?_
      refine lv_aload_n hx hb dX9_ship_33 rfl (lv_at hl 0 rfl) ?_
      refine va_get (ci := 11) (v := .int x_ships) (C := RX9) (T := TX9) (N := 47) hx hb hts inw_X9_ship_X9 hown hK hP 0 rfl rfl 14 (by decide) (hts (.fieldLink RX9 119 "DockCallModel" "ships" "I") (by decide +kernel)) (fun _ h9 => h9) rfl dX9_ship_34 ?_
      refine lv_aload_n hx hb dX9_ship_37 rfl (lv_at hl 0 rfl) ?_
      refine va_get (ci := 11) (v := .int x_calls) (C := RX9) (T := TX9) (N := 47) hx hb hts inw_X9_ship_X9 hown hK hP 0 rfl rfl 25 (by decide) (hts (.fieldLink RX9 128 "DockCallModel" "calls" "I") (by decide +kernel)) (fun _ h9 => h9) rfl dX9_ship_38 ?_
      obtain ⟨hi, hw⟩ := hw
      refine va_iast hx hb hK hP hD hS 1 0 rfl rfl hi dX9_ship_41 (fun H locs hP hD hS => ?_)
      have hP : va_P D vwCl [(ce_xm bd x_thrown_2 x_men x_ships x_entries x_rules x_calls x_gangs x_idle x_moved x_paid x_taped x_at x_end x_begin x_faultAt x_wants), ((bd 7), .inl (y 0, 10, .inl (upd x_came x_ships.toNatClampNeg x_calls)))] H := hP
      have hD : va_D A [(ce_xm bd x_thrown_2 x_men x_ships x_entries x_rules x_calls x_gangs x_idle x_moved x_paid x_taped x_at x_end x_begin x_faultAt x_wants), ((bd 7), .inl (y 0, 10, .inl (upd x_came x_ships.toNatClampNeg x_calls)))] := hD
      refine lv_aload_n hx hb dX9_ship_42 rfl (lv_at hl 0 rfl) ?_
      refine lv_dup hx hb dX9_ship_43 rfl ?_
      refine va_get (ci := 11) (v := .int x_ships) (C := RX9) (T := TX9) (N := 47) hx hb hts inw_X9_ship_X9 hown hK hP 0 rfl rfl 14 (by decide) (hts (.fieldLink RX9 119 "DockCallModel" "ships" "I") (by decide +kernel)) (fun _ h9 => h9) rfl dX9_ship_44 ?_
      refine lv_iconst (v := 1) hx hb dX9_ship_47 (by decide) ?_
      refine lv_iadd hx hb dX9_ship_48 ?_
      refine va_put (ci := 11) (v := .int (x_ships + 1)) (ty := .int) (C := RX9) (T := TX9) (N := 47) hx hb hts inw_X9_ship_X9 tyX9 tyX9_ok nmX9 hown hK hP hD hS 0 rfl rfl 14 (by decide) (hts (.fieldLink RX9 119 "DockCallModel" "ships" "I") (by decide +kernel)) (fun _ h9 => h9) rfl (by decide +kernel) rfl rfl (Nat.le_of_ble_eq_true rfl) dX9_ship_49 (fun H locs hP hD hS => ?_)
      have hP : va_P D vwCl [(ce_xm bd x_thrown_2 x_men (x_ships + 1) x_entries x_rules x_calls x_gangs x_idle x_moved x_paid x_taped x_at x_end x_begin x_faultAt x_wants), ((bd 7), .inl (y 0, 10, .inl (upd x_came x_ships.toNatClampNeg x_calls)))] H := hP
      have hD : va_D A [(ce_xm bd x_thrown_2 x_men (x_ships + 1) x_entries x_rules x_calls x_gangs x_idle x_moved x_paid x_taped x_at x_end x_begin x_faultAt x_wants), ((bd 7), .inl (y 0, 10, .inl (upd x_came x_ships.toNatClampNeg x_calls)))] := hD
      refine lv_aload_n hx hb dX9_ship_52 rfl (lv_at hl 0 rfl) ?_
      refine va_get (ci := 11) (v := .int (x_ships + 1)) (C := RX9) (T := TX9) (N := 47) hx hb hts inw_X9_ship_X9 hown hK hP 0 rfl rfl 14 (by decide) (hts (.fieldLink RX9 119 "DockCallModel" "ships" "I") (by decide +kernel)) (fun _ h9 => h9) rfl dX9_ship_53 ?_
      refine lv_iconst (v := 1) hx hb dX9_ship_56 (by decide) ?_
      refine lv_isub hx hb dX9_ship_57 ?_
      exact W.iret (v := (x_ships + 1) - 1) hx hb hr (fun t ht hW => ⟨⟨(x_ships + 1) - 1, (x_thrown_2, x_ships + 1, upd x_came x_ships.toNatClampNeg x_calls), rfl, hw, mAt.to hP hK hD ht hW⟩, hS.F ht⟩) hS.2.2 dX9_ship_58
    · have hw := hw.2 hc
      refine lv_iconst (v := 0) hx hb dX9_ship_27 (by decide) ?_
      exact W.iret (v := 0) hx hb hr (fun t ht hW => ⟨⟨0, (x_thrown_2, x_ships, x_came), rfl, hw, mAt.to hP hK hD ht hW⟩, hS.F ht⟩) hS.2.2 dX9_ship_28
  · have hw := hw.1 hc
    refine lv_iconst (v := 1) hx hb dX9_ship_15 (by decide) ?_
    refine lv_goto (tgt := 20) hx hb dX9_ship_16 (by decide) ?_
    refine lv_iconst (v := 1) hx hb dX9_ship_20 (by decide) ?_
    refine mx_i (wc := [(ce_xm bd 0 x_men x_ships x_entries x_rules x_calls x_gangs x_idle x_moved x_paid x_taped x_at x_end x_begin x_faultAt x_wants)]) (wr := [((bd 7), .inl (y 0, 10, .inl x_came))]) hP hD hS hA [0] [1] [1, 0] rfl rfl (by decide) (by decide) (by decide) (fun (u : Int32) => [(ce_xm bd u x_men x_ships x_entries x_rules x_calls x_gangs x_idle x_moved x_paid x_taped x_at x_end x_begin x_faultAt x_wants), ((bd 7), .inl (y 0, 10, .inl x_came))]) (fun _ => rfl) (va_runV (As := [.int 1, .int 1]) (rest := []) ⟨hx, hb, hml, hown, hts⟩ (c_Model_throwsIf l D y bd H.size 0 x_men x_ships x_entries x_rules x_calls x_gangs x_idle x_moved x_paid x_taped x_at x_end x_begin x_faultAt x_wants 1 1 hw) (cwV 2 hts gX9_ship_X9_throwsIf rfl rfl rfl (by decide +kernel) ⟨Nat.le_of_ble_eq_true rfl, Nat.le_of_ble_eq_true rfl⟩) ⟨mPre.blind, (va_recv hK hP (ci := 11) (q0 := 0) rfl rfl), mPre.to (hP.sub [0] rfl) hK (hD.sub [0] (by decide) rfl) hE⟩ rfl rfl hl.1 rfl (lv_room (Nat.le_of_ble_eq_true rfl)) dX9_ship_21 ⟨Nat.le_of_ble_eq_true rfl, Nat.le_of_ble_eq_true rfl⟩) (fun r_3 u H locs hw hP hD hS => ?_)
    obtain ⟨x_thrown_4, rfl⟩ : ∃ z, z = u := ⟨_, rfl⟩
    try dsimp only at hw
    have hP : va_P D vwCl [(ce_xm bd x_thrown_4 x_men x_ships x_entries x_rules x_calls x_gangs x_idle x_moved x_paid x_taped x_at x_end x_begin x_faultAt x_wants), ((bd 7), .inl (y 0, 10, .inl x_came))] H := hP
    have hD : va_D A [(ce_xm bd x_thrown_4 x_men x_ships x_entries x_rules x_calls x_gangs x_idle x_moved x_paid x_taped x_at x_end x_begin x_faultAt x_wants), ((bd 7), .inl (y 0, 10, .inl x_came))] := hD
    refine lv_if_eq (tgt := 29) hx hb dX9_ship_24 (by decide) (fun hc => ?_) (fun hc => ?_)
    · have hw := hw.1 hc
      refine lv_aload_n hx hb dX9_ship_29 rfl (lv_at hl 0 rfl) ?_
      refine va_get (ci := 11) (v := .ref (bd 7)) (C := RX9) (T := TX9) (N := 47) hx hb hts inw_X9_ship_X9 hown hK hP 0 rfl rfl 8 (by decide) (hts (.fieldLink RX9 28 "DockCallModel" "came" "[I") (by decide +kernel)) (fun _ h9 => h9) rfl dX9_ship_30 ?_
      refine lv_aload_n hx hb dX9_ship_33 rfl (lv_at hl 0 rfl) ?_
      refine va_get (ci := 11) (v := .int x_ships) (C := RX9) (T := TX9) (N := 47) hx hb hts inw_X9_ship_X9 hown hK hP 0 rfl rfl 14 (by decide) (hts (.fieldLink RX9 119 "DockCallModel" "ships" "I") (by decide +kernel)) (fun _ h9 => h9) rfl dX9_ship_34 ?_
      refine lv_aload_n hx hb dX9_ship_37 rfl (lv_at hl 0 rfl) ?_
      refine va_get (ci := 11) (v := .int x_calls) (C := RX9) (T := TX9) (N := 47) hx hb hts inw_X9_ship_X9 hown hK hP 0 rfl rfl 25 (by decide) (hts (.fieldLink RX9 128 "DockCallModel" "calls" "I") (by decide +kernel)) (fun _ h9 => h9) rfl dX9_ship_38 ?_
      obtain ⟨hi, hw⟩ := hw
      refine va_iast hx hb hK hP hD hS 1 0 rfl rfl hi dX9_ship_41 (fun H locs hP hD hS => ?_)
      have hP : va_P D vwCl [(ce_xm bd x_thrown_4 x_men x_ships x_entries x_rules x_calls x_gangs x_idle x_moved x_paid x_taped x_at x_end x_begin x_faultAt x_wants), ((bd 7), .inl (y 0, 10, .inl (upd x_came x_ships.toNatClampNeg x_calls)))] H := hP
      have hD : va_D A [(ce_xm bd x_thrown_4 x_men x_ships x_entries x_rules x_calls x_gangs x_idle x_moved x_paid x_taped x_at x_end x_begin x_faultAt x_wants), ((bd 7), .inl (y 0, 10, .inl (upd x_came x_ships.toNatClampNeg x_calls)))] := hD
      refine lv_aload_n hx hb dX9_ship_42 rfl (lv_at hl 0 rfl) ?_
      refine lv_dup hx hb dX9_ship_43 rfl ?_
      refine va_get (ci := 11) (v := .int x_ships) (C := RX9) (T := TX9) (N := 47) hx hb hts inw_X9_ship_X9 hown hK hP 0 rfl rfl 14 (by decide) (hts (.fieldLink RX9 119 "DockCallModel" "ships" "I") (by decide +kernel)) (fun _ h9 => h9) rfl dX9_ship_44 ?_
      refine lv_iconst (v := 1) hx hb dX9_ship_47 (by decide) ?_
      refine lv_iadd hx hb dX9_ship_48 ?_
      refine va_put (ci := 11) (v := .int (x_ships + 1)) (ty := .int) (C := RX9) (T := TX9) (N := 47) hx hb hts inw_X9_ship_X9 tyX9 tyX9_ok nmX9 hown hK hP hD hS 0 rfl rfl 14 (by decide) (hts (.fieldLink RX9 119 "DockCallModel" "ships" "I") (by decide +kernel)) (fun _ h9 => h9) rfl (by decide +kernel) rfl rfl (Nat.le_of_ble_eq_true rfl) dX9_ship_49 (fun H locs hP hD hS => ?_)
      have hP : va_P D vwCl [(ce_xm bd x_thrown_4 x_men (x_ships + 1) x_entries x_rules x_calls x_gangs x_idle x_moved x_paid x_taped x_at x_end x_begin x_faultAt x_wants), ((bd 7), .inl (y 0, 10, .inl (upd x_came x_ships.toNatClampNeg x_calls)))] H := hP
      have hD : va_D A [(ce_xm bd x_thrown_4 x_men (x_ships + 1) x_entries x_rules x_calls x_gangs x_idle x_moved x_paid x_taped x_at x_end x_begin x_faultAt x_wants), ((bd 7), .inl (y 0, 10, .inl (upd x_came x_ships.toNatClampNeg x_calls)))] := hD
      refine lv_aload_n hx hb dX9_ship_52 rfl (lv_at hl 0 rfl) ?_
      refine va_get (ci := 11) (v := .int (x_ships + 1)) (C := RX9) (T := TX9) (N := 47) hx hb hts inw_X9_ship_X9 hown hK hP 0 rfl rfl 14 (by decide) (hts (.fieldLink RX9 119 "DockCallModel" "ships" "I") (by decide +kernel)) (fun _ h9 => h9) rfl dX9_ship_53 ?_
      refine lv_iconst (v := 1) hx hb dX9_ship_56 (by decide) ?_
      refine lv_isub hx hb dX9_ship_57 ?_
      exact W.iret (v := (x_ships + 1) - 1) hx hb hr (fun t ht hW => ⟨⟨(x_ships + 1) - 1, (x_thrown_4, x_ships + 1, upd x_came x_ships.toNatClampNeg x_calls), rfl, hw, mAt.to hP hK hD ht hW⟩, hS.F ht⟩) hS.2.2 dX9_ship_58
    · have hw := hw.2 hc
      refine lv_iconst (v := 0) hx hb dX9_ship_27 (by decide) ?_
      exact W.iret (v := 0) hx hb hr (fun t ht hW => ⟨⟨0, (x_thrown_4, x_ships, x_came), rfl, hw, mAt.to hP hK hD ht hW⟩, hS.F ht⟩) hS.2.2 dX9_ship_28
theorem inw_X9_hatch_X9 : ∀ w ∈ wsX90, w ∈ wsX9_hatch := fun _ h => List.mem_cons_of_mem _ (List.mem_append_left _ (List.mem_append_right _ h))
def wp_Model_hatch (x_ships : Int32) (x_hatches : Nat → Int32) (x_tons : Nat → Int32) (x_skill : Nat → Int32) (x_isDry : Nat → Int32) (p0 : Int32) (p1 : Int32) (p2 : Int32) (p3 : Int32) (Q : Int32 → Int32 → (Nat → Int32) → (Nat → Int32) → (Nat → Int32) → (Nat → Int32) → Prop) : Prop := (wp_Model_noShip x_ships p0 (fun r_1 => (wp_Model_throwsIf 0 r_1 1 (fun r_2 x_thrown_3 => ((r_2 = 0 → (wp_Model_in p1.toInt64 0 2000 (fun r_4 => ((r_4 = 0 → (wp_Model_throwsIf x_thrown_3 1 2 (fun r_5 x_thrown_6 => ((r_5 = 0 → (vp_in p0 10 ∧ ((x_hatches p0.toNatClampNeg = 4 → (wp_Model_throwsIf x_thrown_6 1 3 (fun r_9 x_thrown_10 => ((r_9 = 0 → (vp_in p0 10 ∧ (vp_in ((4 * p0) + (x_hatches p0.toNatClampNeg)) 40 ∧ (vp_in ((4 * p0) + (x_hatches p0.toNatClampNeg)) 40 ∧ (vp_in ((4 * p0) + (x_hatches p0.toNatClampNeg)) 40 ∧ (vp_in p0 10 ∧ (vp_in p0 10 ∧ (vp_in p0 10 ∧ Q (((upd x_hatches p0.toNatClampNeg ((x_hatches p0.toNatClampNeg) + 1)) p0.toNatClampNeg) - 1) x_thrown_10 (upd x_hatches p0.toNatClampNeg ((x_hatches p0.toNatClampNeg) + 1)) (upd x_tons ((4 * p0) + (x_hatches p0.toNatClampNeg)).toNatClampNeg p1) (upd x_skill ((4 * p0) + (x_hatches p0.toNatClampNeg)).toNatClampNeg p2) (upd x_isDry ((4 * p0) + (x_hatches p0.toNatClampNeg)).toNatClampNeg (vp_nar .boolean p3)))))))))) ∧ (¬ r_9 = 0 → Q 0 x_thrown_10 x_hatches x_tons x_skill x_isDry))))) ∧ (¬ x_hatches p0.toNatClampNeg = 4 → (wp_Model_throwsIf x_thrown_6 0 3 (fun r_7 x_thrown_8 => ((r_7 = 0 → (vp_in p0 10 ∧ (vp_in ((4 * p0) + (x_hatches p0.toNatClampNeg)) 40 ∧ (vp_in ((4 * p0) + (x_hatches p0.toNatClampNeg)) 40 ∧ (vp_in ((4 * p0) + (x_hatches p0.toNatClampNeg)) 40 ∧ (vp_in p0 10 ∧ (vp_in p0 10 ∧ (vp_in p0 10 ∧ Q (((upd x_hatches p0.toNatClampNeg ((x_hatches p0.toNatClampNeg) + 1)) p0.toNatClampNeg) - 1) x_thrown_8 (upd x_hatches p0.toNatClampNeg ((x_hatches p0.toNatClampNeg) + 1)) (upd x_tons ((4 * p0) + (x_hatches p0.toNatClampNeg)).toNatClampNeg p1) (upd x_skill ((4 * p0) + (x_hatches p0.toNatClampNeg)).toNatClampNeg p2) (upd x_isDry ((4 * p0) + (x_hatches p0.toNatClampNeg)).toNatClampNeg (vp_nar .boolean p3)))))))))) ∧ (¬ r_7 = 0 → Q 0 x_thrown_8 x_hatches x_tons x_skill x_isDry)))))))) ∧ (¬ r_5 = 0 → Q 0 x_thrown_6 x_hatches x_tons x_skill x_isDry))))) ∧ (¬ r_4 = 0 → (wp_Model_in p2.toInt64 0 3 (fun r_11 => ((r_11 = 0 → (wp_Model_throwsIf x_thrown_3 1 2 (fun r_18 x_thrown_19 => ((r_18 = 0 → (vp_in p0 10 ∧ ((x_hatches p0.toNatClampNeg = 4 → (wp_Model_throwsIf x_thrown_19 1 3 (fun r_22 x_thrown_23 => ((r_22 = 0 → (vp_in p0 10 ∧ (vp_in ((4 * p0) + (x_hatches p0.toNatClampNeg)) 40 ∧ (vp_in ((4 * p0) + (x_hatches p0.toNatClampNeg)) 40 ∧ (vp_in ((4 * p0) + (x_hatches p0.toNatClampNeg)) 40 ∧ (vp_in p0 10 ∧ (vp_in p0 10 ∧ (vp_in p0 10 ∧ Q (((upd x_hatches p0.toNatClampNeg ((x_hatches p0.toNatClampNeg) + 1)) p0.toNatClampNeg) - 1) x_thrown_23 (upd x_hatches p0.toNatClampNeg ((x_hatches p0.toNatClampNeg) + 1)) (upd x_tons ((4 * p0) + (x_hatches p0.toNatClampNeg)).toNatClampNeg p1) (upd x_skill ((4 * p0) + (x_hatches p0.toNatClampNeg)).toNatClampNeg p2) (upd x_isDry ((4 * p0) + (x_hatches p0.toNatClampNeg)).toNatClampNeg (vp_nar .boolean p3)))))))))) ∧ (¬ r_22 = 0 → Q 0 x_thrown_23 x_hatches x_tons x_skill x_isDry))))) ∧ (¬ x_hatches p0.toNatClampNeg = 4 → (wp_Model_throwsIf x_thrown_19 0 3 (fun r_20 x_thrown_21 => ((r_20 = 0 → (vp_in p0 10 ∧ (vp_in ((4 * p0) + (x_hatches p0.toNatClampNeg)) 40 ∧ (vp_in ((4 * p0) + (x_hatches p0.toNatClampNeg)) 40 ∧ (vp_in ((4 * p0) + (x_hatches p0.toNatClampNeg)) 40 ∧ (vp_in p0 10 ∧ (vp_in p0 10 ∧ (vp_in p0 10 ∧ Q (((upd x_hatches p0.toNatClampNeg ((x_hatches p0.toNatClampNeg) + 1)) p0.toNatClampNeg) - 1) x_thrown_21 (upd x_hatches p0.toNatClampNeg ((x_hatches p0.toNatClampNeg) + 1)) (upd x_tons ((4 * p0) + (x_hatches p0.toNatClampNeg)).toNatClampNeg p1) (upd x_skill ((4 * p0) + (x_hatches p0.toNatClampNeg)).toNatClampNeg p2) (upd x_isDry ((4 * p0) + (x_hatches p0.toNatClampNeg)).toNatClampNeg (vp_nar .boolean p3)))))))))) ∧ (¬ r_20 = 0 → Q 0 x_thrown_21 x_hatches x_tons x_skill x_isDry)))))))) ∧ (¬ r_18 = 0 → Q 0 x_thrown_19 x_hatches x_tons x_skill x_isDry))))) ∧ (¬ r_11 = 0 → (wp_Model_throwsIf x_thrown_3 0 2 (fun r_12 x_thrown_13 => ((r_12 = 0 → (vp_in p0 10 ∧ ((x_hatches p0.toNatClampNeg = 4 → (wp_Model_throwsIf x_thrown_13 1 3 (fun r_16 x_thrown_17 => ((r_16 = 0 → (vp_in p0 10 ∧ (vp_in ((4 * p0) + (x_hatches p0.toNatClampNeg)) 40 ∧ (vp_in ((4 * p0) + (x_hatches p0.toNatClampNeg)) 40 ∧ (vp_in ((4 * p0) + (x_hatches p0.toNatClampNeg)) 40 ∧ (vp_in p0 10 ∧ (vp_in p0 10 ∧ (vp_in p0 10 ∧ Q (((upd x_hatches p0.toNatClampNeg ((x_hatches p0.toNatClampNeg) + 1)) p0.toNatClampNeg) - 1) x_thrown_17 (upd x_hatches p0.toNatClampNeg ((x_hatches p0.toNatClampNeg) + 1)) (upd x_tons ((4 * p0) + (x_hatches p0.toNatClampNeg)).toNatClampNeg p1) (upd x_skill ((4 * p0) + (x_hatches p0.toNatClampNeg)).toNatClampNeg p2) (upd x_isDry ((4 * p0) + (x_hatches p0.toNatClampNeg)).toNatClampNeg (vp_nar .boolean p3)))))))))) ∧ (¬ r_16 = 0 → Q 0 x_thrown_17 x_hatches x_tons x_skill x_isDry))))) ∧ (¬ x_hatches p0.toNatClampNeg = 4 → (wp_Model_throwsIf x_thrown_13 0 3 (fun r_14 x_thrown_15 => ((r_14 = 0 → (vp_in p0 10 ∧ (vp_in ((4 * p0) + (x_hatches p0.toNatClampNeg)) 40 ∧ (vp_in ((4 * p0) + (x_hatches p0.toNatClampNeg)) 40 ∧ (vp_in ((4 * p0) + (x_hatches p0.toNatClampNeg)) 40 ∧ (vp_in p0 10 ∧ (vp_in p0 10 ∧ (vp_in p0 10 ∧ Q (((upd x_hatches p0.toNatClampNeg ((x_hatches p0.toNatClampNeg) + 1)) p0.toNatClampNeg) - 1) x_thrown_15 (upd x_hatches p0.toNatClampNeg ((x_hatches p0.toNatClampNeg) + 1)) (upd x_tons ((4 * p0) + (x_hatches p0.toNatClampNeg)).toNatClampNeg p1) (upd x_skill ((4 * p0) + (x_hatches p0.toNatClampNeg)).toNatClampNeg p2) (upd x_isDry ((4 * p0) + (x_hatches p0.toNatClampNeg)).toNatClampNeg (vp_nar .boolean p3)))))))))) ∧ (¬ r_14 = 0 → Q 0 x_thrown_15 x_hatches x_tons x_skill x_isDry)))))))) ∧ (¬ r_12 = 0 → Q 0 x_thrown_13 x_hatches x_tons x_skill x_isDry))))))))))))) ∧ (¬ r_2 = 0 → Q 0 x_thrown_3 x_hatches x_tons x_skill x_isDry))))))
set_option maxHeartbeats 4000000 in
set_option maxRecDepth 100000 in
theorem c_Model_hatch (l : Launch) (D : va_G) (y : Nat → ClassId) (bd : Nat → Nat) (sz : Nat) (x_thrown : Int32) (x_men : Int32) (x_ships : Int32) (x_entries : Int32) (x_rules : Int32) (x_calls : Int32) (x_gangs : Int32) (x_idle : Int32) (x_moved : Int64) (x_paid : Int64) (x_taped : Int32) (x_at : Int32) (x_end : Int32) (x_begin : Int32) (x_faultAt : Int32) (x_wants : Int32) (x_hatches : Nat → Int32) (x_tons : Nat → Int32) (x_skill : Nat → Int32) (x_isDry : Nat → Int32) (p0 : Int32) (p1 : Int32) (p2 : Int32) (p3 : Int32) {Q : Int32 → Int32 → (Nat → Int32) → (Nat → Int32) → (Nat → Int32) → (Nat → Int32) → Prop} (hw : wp_Model_hatch x_ships x_hatches x_tons x_skill x_isDry p0 p1 p2 p3 Q) : Met l yX9_hatch wsX9_hatch ({ frames := 2, cells := 0, slots := 0, locals := 46 }) (va_Pc [.ref (bd 0), .int p0, .int p1, .int p2, .int p3] (mPre D y sz [(ce_xm bd x_thrown x_men x_ships x_entries x_rules x_calls x_gangs x_idle x_moved x_paid x_taped x_at x_end x_begin x_faultAt x_wants), ((bd 8), .inl (y 0, 10, .inl x_hatches)), ((bd 10), .inl (y 0, 40, .inl x_tons)), ((bd 11), .inl (y 0, 40, .inl x_skill)), ((bd 12), .inl (y 2, 40, .inl x_isDry))])) (va_Qi (fun (r : Int32) (u : Int32 × (Nat → Int32) × (Nat → Int32) × (Nat → Int32) × (Nat → Int32)) => Q r u.1 u.2.1 u.2.2.1 u.2.2.2.1 u.2.2.2.2) (mAt D y (va_A [(ce_xm bd x_thrown x_men x_ships x_entries x_rules x_calls x_gangs x_idle x_moved x_paid x_taped x_at x_end x_begin x_faultAt x_wants), ((bd 8), .inl (y 0, 10, .inl x_hatches)), ((bd 10), .inl (y 0, 40, .inl x_tons)), ((bd 11), .inl (y 0, 40, .inl x_skill)), ((bd 12), .inl (y 2, 40, .inl x_isDry))] sz) (fun (u : Int32 × (Nat → Int32) × (Nat → Int32) × (Nat → Int32) × (Nat → Int32)) => [(ce_xm bd u.1 x_men x_ships x_entries x_rules x_calls x_gangs x_idle x_moved x_paid x_taped x_at x_end x_begin x_faultAt x_wants), ((bd 8), .inl (y 0, 10, .inl u.2.1)), ((bd 10), .inl (y 0, 40, .inl u.2.2.1)), ((bd 11), .inl (y 0, 40, .inl u.2.2.2.1)), ((bd 12), .inl (y 2, 40, .inl u.2.2.2.2))])) (va_A [(ce_xm bd x_thrown x_men x_ships x_entries x_rules x_calls x_gangs x_idle x_moved x_paid x_taped x_at x_end x_begin x_faultAt x_wants), ((bd 8), .inl (y 0, 10, .inl x_hatches)), ((bd 10), .inl (y 0, 40, .inl x_tons)), ((bd 11), .inl (y 0, 40, .inl x_skill)), ((bd 12), .inl (y 2, 40, .inl x_isDry))] sz)) 0 0 (va_A [(ce_xm bd x_thrown x_men x_ships x_entries x_rules x_calls x_gangs x_idle x_moved x_paid x_taped x_at x_end x_begin x_faultAt x_wants), ((bd 8), .inl (y 0, 10, .inl x_hatches)), ((bd 10), .inl (y 0, 40, .inl x_tons)), ((bd 11), .inl (y 0, 40, .inl x_skill)), ((bd 12), .inl (y 2, 40, .inl x_isDry))] sz) := by
  unfold wp_Model_hatch at hw
  refine Met.ofW (cc := cX9_hatch) (maxL := 6) (ret := some .int) (by decide) rfl ?_
  intro p e s m args below meth c s₁ B hml hv
  obtain ⟨rfl, hsz, hP, hK, hD0, hE⟩ := hv
  have hx := B.exec
  have hb := B.bytes
  have hr := B.returns
  have hts := atoms_spec (ws := wsX9_hatch) B.pre
  have hown : s.vm.findClass RX9 = some m.cls := findClass_of_methodNamed B.named
  have hlocks := B.notSynchronized
  subst hsz
  have hD := hD0.self (sz := s.heap.size)
  generalize hAe : va_A [(ce_xm bd x_thrown x_men x_ships x_entries x_rules x_calls x_gangs x_idle x_moved x_paid x_taped x_at x_end x_begin x_faultAt x_wants), ((bd 8), .inl (y 0, 10, .inl x_hatches)), ((bd 10), .inl (y 0, 40, .inl x_tons)), ((bd 11), .inl (y 0, 40, .inl x_skill)), ((bd 12), .inl (y 2, 40, .inl x_isDry))] s.heap.size = A at hD ⊢
  have hA : ∀ q : Nat, s.heap.size ≤ q → A q := fun q h => by rw [← hAe]; exact Or.inr h
  have hS : va_S A s.heap s.heap [] := va_S.rf
  have hP : va_P D vwCl [(ce_xm bd x_thrown x_men x_ships x_entries x_rules x_calls x_gangs x_idle x_moved x_paid x_taped x_at x_end x_begin x_faultAt x_wants), ((bd 8), .inl (y 0, 10, .inl x_hatches)), ((bd 10), .inl (y 0, 40, .inl x_tons)), ((bd 11), .inl (y 0, 40, .inl x_skill)), ((bd 12), .inl (y 2, 40, .inl x_isDry))] s.heap := hP
  have hl := lv_entry ([.ref (bd 0), .int p0, .int p1, .int p2, .int p3]) (n := 6) (Nat.le_of_ble_eq_true rfl)
  rw [lg_entry_eq]
  generalize (lg_sl ([.ref (bd 0), .int p0, .int p1, .int p2, .int p3]) ++ List.replicate (6 - (lg_sl ([.ref (bd 0), .int p0, .int p1, .int p2, .int p3])).length) Slot.unset).toArray = ls at hl ⊢
  have hl : lv_has ls 6 [(0, .ref (bd 0)), (1, .int p0), (2, .int p1), (3, .int p2), (4, .int p3)] := hl
  refine lv_aload_n hx hb dX9_hatch_0 rfl (lv_at hl 0 rfl) ?_
  refine lv_iconst (v := 0) hx hb dX9_hatch_1 (by decide) ?_
  refine va_put (ci := 11) (v := .int 0) (ty := .int) (C := RX9) (T := TX9) (N := 47) hx hb hts inw_X9_hatch_X9 tyX9 tyX9_ok nmX9 hown hK hP hD hS 0 rfl rfl 0 (by decide) (hts (.fieldLink RX9 109 "DockCallModel" "thrown" "I") (by decide +kernel)) (fun _ h9 => h9) rfl (by decide +kernel) rfl rfl (Nat.le_of_ble_eq_true rfl) dX9_hatch_2 (fun H locs hP hD hS => ?_)
  have hP : va_P D vwCl [(ce_xm bd 0 x_men x_ships x_entries x_rules x_calls x_gangs x_idle x_moved x_paid x_taped x_at x_end x_begin x_faultAt x_wants), ((bd 8), .inl (y 0, 10, .inl x_hatches)), ((bd 10), .inl (y 0, 40, .inl x_tons)), ((bd 11), .inl (y 0, 40, .inl x_skill)), ((bd 12), .inl (y 2, 40, .inl x_isDry))] H := hP
  have hD : va_D A [(ce_xm bd 0 x_men x_ships x_entries x_rules x_calls x_gangs x_idle x_moved x_paid x_taped x_at x_end x_begin x_faultAt x_wants), ((bd 8), .inl (y 0, 10, .inl x_hatches)), ((bd 10), .inl (y 0, 40, .inl x_tons)), ((bd 11), .inl (y 0, 40, .inl x_skill)), ((bd 12), .inl (y 2, 40, .inl x_isDry))] := hD
  refine lv_aload_n hx hb dX9_hatch_5 rfl (lv_at hl 0 rfl) ?_
  refine lv_aload_n hx hb dX9_hatch_6 rfl (lv_at hl 0 rfl) ?_
  refine lv_iload_n hx hb dX9_hatch_7 rfl (lv_at hl 1 rfl) ?_
  refine mx_i (wc := [(ce_xm bd 0 x_men x_ships x_entries x_rules x_calls x_gangs x_idle x_moved x_paid x_taped x_at x_end x_begin x_faultAt x_wants)]) (wr := [((bd 8), .inl (y 0, 10, .inl x_hatches)), ((bd 10), .inl (y 0, 40, .inl x_tons)), ((bd 11), .inl (y 0, 40, .inl x_skill)), ((bd 12), .inl (y 2, 40, .inl x_isDry))]) hP hD hS hA [0] [1, 2, 3, 4] [4, 0, 1, 2, 3] rfl rfl (by decide) (by decide) (by decide) (fun (u : Unit) => [(ce_xm bd 0 x_men x_ships x_entries x_rules x_calls x_gangs x_idle x_moved x_paid x_taped x_at x_end x_begin x_faultAt x_wants), ((bd 8), .inl (y 0, 10, .inl x_hatches)), ((bd 10), .inl (y 0, 40, .inl x_tons)), ((bd 11), .inl (y 0, 40, .inl x_skill)), ((bd 12), .inl (y 2, 40, .inl x_isDry))]) (fun _ => rfl) (va_runV (As := [.int p0]) (rest := [.ref (bd 0)]) ⟨hx, hb, hml, hown, hts⟩ (c_Model_noShip l D y bd H.size 0 x_men x_ships x_entries x_rules x_calls x_gangs x_idle x_moved x_paid x_taped x_at x_end x_begin x_faultAt x_wants p0 hw) (cwV 1 hts gX9_hatch_X9_noShip rfl rfl rfl (by decide +kernel) ⟨Nat.le_of_ble_eq_true rfl, Nat.le_of_ble_eq_true rfl⟩) ⟨mPre.blind, (va_recv hK hP (ci := 11) (q0 := 0) rfl rfl), mPre.to (hP.sub [0] rfl) hK (hD.sub [0] (by decide) rfl) hE⟩ rfl rfl hl.1 rfl (lv_room (Nat.le_of_ble_eq_true rfl)) dX9_hatch_8 ⟨Nat.le_of_ble_eq_true rfl, Nat.le_of_ble_eq_true rfl⟩) (fun r_1 u H locs hw hP hD hS => ?_)
  try dsimp only at hw
  have hP : va_P D vwCl [(ce_xm bd 0 x_men x_ships x_entries x_rules x_calls x_gangs x_idle x_moved x_paid x_taped x_at x_end x_begin x_faultAt x_wants), ((bd 8), .inl (y 0, 10, .inl x_hatches)), ((bd 10), .inl (y 0, 40, .inl x_tons)), ((bd 11), .inl (y 0, 40, .inl x_skill)), ((bd 12), .inl (y 2, 40, .inl x_isDry))] H := hP
  have hD : va_D A [(ce_xm bd 0 x_men x_ships x_entries x_rules x_calls x_gangs x_idle x_moved x_paid x_taped x_at x_end x_begin x_faultAt x_wants), ((bd 8), .inl (y 0, 10, .inl x_hatches)), ((bd 10), .inl (y 0, 40, .inl x_tons)), ((bd 11), .inl (y 0, 40, .inl x_skill)), ((bd 12), .inl (y 2, 40, .inl x_isDry))] := hD
  refine lv_iconst (v := 1) hx hb dX9_hatch_11 (by decide) ?_
  refine mx_i (wc := [(ce_xm bd 0 x_men x_ships x_entries x_rules x_calls x_gangs x_idle x_moved x_paid x_taped x_at x_end x_begin x_faultAt x_wants)]) (wr := [((bd 8), .inl (y 0, 10, .inl x_hatches)), ((bd 10), .inl (y 0, 40, .inl x_tons)), ((bd 11), .inl (y 0, 40, .inl x_skill)), ((bd 12), .inl (y 2, 40, .inl x_isDry))]) hP hD hS hA [0] [1, 2, 3, 4] [4, 0, 1, 2, 3] rfl rfl (by decide) (by decide) (by decide) (fun (u : Int32) => [(ce_xm bd u x_men x_ships x_entries x_rules x_calls x_gangs x_idle x_moved x_paid x_taped x_at x_end x_begin x_faultAt x_wants), ((bd 8), .inl (y 0, 10, .inl x_hatches)), ((bd 10), .inl (y 0, 40, .inl x_tons)), ((bd 11), .inl (y 0, 40, .inl x_skill)), ((bd 12), .inl (y 2, 40, .inl x_isDry))]) (fun _ => rfl) (va_runV (As := [.int r_1, .int 1]) (rest := []) ⟨hx, hb, hml, hown, hts⟩ (c_Model_throwsIf l D y bd H.size 0 x_men x_ships x_entries x_rules x_calls x_gangs x_idle x_moved x_paid x_taped x_at x_end x_begin x_faultAt x_wants r_1 1 hw) (cwV 2 hts gX9_hatch_X9_throwsIf rfl rfl rfl (by decide +kernel) ⟨Nat.le_of_ble_eq_true rfl, Nat.le_of_ble_eq_true rfl⟩) ⟨mPre.blind, (va_recv hK hP (ci := 11) (q0 := 0) rfl rfl), mPre.to (hP.sub [0] rfl) hK (hD.sub [0] (by decide) rfl) hE⟩ rfl rfl hl.1 rfl (lv_room (Nat.le_of_ble_eq_true rfl)) dX9_hatch_12 ⟨Nat.le_of_ble_eq_true rfl, Nat.le_of_ble_eq_true rfl⟩) (fun r_2 u H locs hw hP hD hS => ?_)
  obtain ⟨x_thrown_3, rfl⟩ : ∃ z, z = u := ⟨_, rfl⟩
  try dsimp only at hw
  have hP : va_P D vwCl [(ce_xm bd x_thrown_3 x_men x_ships x_entries x_rules x_calls x_gangs x_idle x_moved x_paid x_taped x_at x_end x_begin x_faultAt x_wants), ((bd 8), .inl (y 0, 10, .inl x_hatches)), ((bd 10), .inl (y 0, 40, .inl x_tons)), ((bd 11), .inl (y 0, 40, .inl x_skill)), ((bd 12), .inl (y 2, 40, .inl x_isDry))] H := hP
  have hD : va_D A [(ce_xm bd x_thrown_3 x_men x_ships x_entries x_rules x_calls x_gangs x_idle x_moved x_paid x_taped x_at x_end x_begin x_faultAt x_wants), ((bd 8), .inl (y 0, 10, .inl x_hatches)), ((bd 10), .inl (y 0, 40, .inl x_tons)), ((bd 11), .inl (y 0, 40, .inl x_skill)), ((bd 12), .inl (y 2, 40, .inl x_isDry))] := hD
  refine lv_if_ne (tgt := 78) hx hb dX9_hatch_15 (by decide) (fun hc => ?_) (fun hc => ?_)
  · have hw := hw.2 hc
    refine lv_iconst (v := 0) hx hb dX9_hatch_78 (by decide) ?_
    exact W.iret (v := 0) hx hb hr (fun t ht hW => ⟨⟨0, (x_thrown_3, x_hatches, x_tons, x_skill, x_isDry), rfl, hw, mAt.to hP hK hD ht hW⟩, hS.F ht⟩) hS.2.2 dX9_hatch_79
  · have hw := hw.1 hc
    refine lv_aload_n hx hb dX9_hatch_18 rfl (lv_at hl 0 rfl) ?_
    refine lv_iload_n hx hb dX9_hatch_19 rfl (lv_at hl 2 rfl) ?_
    refine lv_i2l hx hb dX9_hatch_20 rfl ?_
    refine lv_lconst (v := 0) hx hb dX9_hatch_21 (by decide) ?_
    refine lv_ldc2 hx hb hown (hts (.constantLong RX9 135 2000) (by decide +kernel)) dX9_hatch_22 ?_
    refine mx_i (wc := []) (wr := [(ce_xm bd x_thrown_3 x_men x_ships x_entries x_rules x_calls x_gangs x_idle x_moved x_paid x_taped x_at x_end x_begin x_faultAt x_wants), ((bd 8), .inl (y 0, 10, .inl x_hatches)), ((bd 10), .inl (y 0, 40, .inl x_tons)), ((bd 11), .inl (y 0, 40, .inl x_skill)), ((bd 12), .inl (y 2, 40, .inl x_isDry))]) hP hD hS hA [] [0, 1, 2, 3, 4] [0, 1, 2, 3, 4] rfl rfl (by decide) (by decide) (by decide) (fun (u : Unit) => [(ce_xm bd x_thrown_3 x_men x_ships x_entries x_rules x_calls x_gangs x_idle x_moved x_paid x_taped x_at x_end x_begin x_faultAt x_wants), ((bd 8), .inl (y 0, 10, .inl x_hatches)), ((bd 10), .inl (y 0, 40, .inl x_tons)), ((bd 11), .inl (y 0, 40, .inl x_skill)), ((bd 12), .inl (y 2, 40, .inl x_isDry))]) (fun _ => rfl) (va_runS (As := [.long p1.toInt64, .long 0, .long 2000]) (rest := [.ref (bd 0)]) ⟨hx, hb, hml, hown, hts⟩ (c_Model_in l D y H.size p1.toInt64 0 2000 hw) (va_cwS 3 hts gX9_hatch_X9_in rfl rfl rfl (by decide +kernel) ⟨Nat.le_of_ble_eq_true rfl, Nat.le_of_ble_eq_true rfl⟩) ⟨mPre.blind, mPre.to (hP.sub [] rfl) hK (hD.sub [] (by decide) rfl) hE⟩ rfl rfl hl.1 rfl (lv_room (Nat.le_of_ble_eq_true rfl)) dX9_hatch_25 ⟨Nat.le_of_ble_eq_true rfl, Nat.le_of_ble_eq_true rfl⟩) (fun r_4 u H locs hw hP hD hS => ?_)
    try dsimp only at hw
    have hP : va_P D vwCl [(ce_xm bd x_thrown_3 x_men x_ships x_entries x_rules x_calls x_gangs x_idle x_moved x_paid x_taped x_at x_end x_begin x_faultAt x_wants), ((bd 8), .inl (y 0, 10, .inl x_hatches)), ((bd 10), .inl (y 0, 40, .inl x_tons)), ((bd 11), .inl (y 0, 40, .inl x_skill)), ((bd 12), .inl (y 2, 40, .inl x_isDry))] H := hP
    have hD : va_D A [(ce_xm bd x_thrown_3 x_men x_ships x_entries x_rules x_calls x_gangs x_idle x_moved x_paid x_taped x_at x_end x_begin x_faultAt x_wants), ((bd 8), .inl (y 0, 10, .inl x_hatches)), ((bd 10), .inl (y 0, 40, .inl x_tons)), ((bd 11), .inl (y 0, 40, .inl x_skill)), ((bd 12), .inl (y 2, 40, .inl x_isDry))] := hD
    refine lv_if_eq (tgt := 43) hx hb dX9_hatch_28 (by decide) (fun hc => ?_) (fun hc => ?_)
    · have hw := hw.1 hc
      refine lv_iconst (v := 1) hx hb dX9_hatch_43 (by decide) ?_
      refine lv_goto (tgt := 48) hx hb dX9_hatch_44 (by decide) ?_
      refine lv_iconst (v := 2) hx hb dX9_hatch_48 (by decide) ?_
      refine mx_i (wc := [(ce_xm bd x_thrown_3 x_men x_ships x_entries x_rules x_calls x_gangs x_idle x_moved x_paid x_taped x_at x_end x_begin x_faultAt x_wants)]) (wr := [((bd 8), .inl (y 0, 10, .inl x_hatches)), ((bd 10), .inl (y 0, 40, .inl x_tons)), ((bd 11), .inl (y 0, 40, .inl x_skill)), ((bd 12), .inl (y 2, 40, .inl x_isDry))]) hP hD hS hA [0] [1, 2, 3, 4] [4, 0, 1, 2, 3] rfl rfl (by decide) (by decide) (by decide) (fun (u : Int32) => [(ce_xm bd u x_men x_ships x_entries x_rules x_calls x_gangs x_idle x_moved x_paid x_taped x_at x_end x_begin x_faultAt x_wants), ((bd 8), .inl (y 0, 10, .inl x_hatches)), ((bd 10), .inl (y 0, 40, .inl x_tons)), ((bd 11), .inl (y 0, 40, .inl x_skill)), ((bd 12), .inl (y 2, 40, .inl x_isDry))]) (fun _ => rfl) (va_runV (As := [.int 1, .int 2]) (rest := []) ⟨hx, hb, hml, hown, hts⟩ (c_Model_throwsIf l D y bd H.size x_thrown_3 x_men x_ships x_entries x_rules x_calls x_gangs x_idle x_moved x_paid x_taped x_at x_end x_begin x_faultAt x_wants 1 2 hw) (cwV 2 hts gX9_hatch_X9_throwsIf rfl rfl rfl (by decide +kernel) ⟨Nat.le_of_ble_eq_true rfl, Nat.le_of_ble_eq_true rfl⟩) ⟨mPre.blind, (va_recv hK hP (ci := 11) (q0 := 0) rfl rfl), mPre.to (hP.sub [0] rfl) hK (hD.sub [0] (by decide) rfl) hE⟩ rfl rfl hl.1 rfl (lv_room (Nat.le_of_ble_eq_true rfl)) dX9_hatch_49 ⟨Nat.le_of_ble_eq_true rfl, Nat.le_of_ble_eq_true rfl⟩) (fun r_5 u H locs hw hP hD hS => ?_)
      obtain ⟨x_thrown_6, rfl⟩ : ∃ z, z = u := ⟨_, rfl⟩
      try dsimp only at hw
      have hP : va_P D vwCl [(ce_xm bd x_thrown_6 x_men x_ships x_entries x_rules x_calls x_gangs x_idle x_moved x_paid x_taped x_at x_end x_begin x_faultAt x_wants), ((bd 8), .inl (y 0, 10, .inl x_hatches)), ((bd 10), .inl (y 0, 40, .inl x_tons)), ((bd 11), .inl (y 0, 40, .inl x_skill)), ((bd 12), .inl (y 2, 40, .inl x_isDry))] H := hP
      have hD : va_D A [(ce_xm bd x_thrown_6 x_men x_ships x_entries x_rules x_calls x_gangs x_idle x_moved x_paid x_taped x_at x_end x_begin x_faultAt x_wants), ((bd 8), .inl (y 0, 10, .inl x_hatches)), ((bd 10), .inl (y 0, 40, .inl x_tons)), ((bd 11), .inl (y 0, 40, .inl x_skill)), ((bd 12), .inl (y 2, 40, .inl x_isDry))] := hD
      refine lv_if_ne (tgt := 78) hx hb dX9_hatch_52 (by decide) (fun hc => ?_) (fun hc => ?_)
      · have hw := hw.2 hc
        refine lv_iconst (v := 0) hx hb dX9_hatch_78 (by decide) ?_
        exact W.iret (v := 0) hx hb hr (fun t ht hW => ⟨⟨0, (x_thrown_6, x_hatches, x_tons, x_skill, x_isDry), rfl, hw, mAt.to hP hK hD ht hW⟩, hS.F ht⟩) hS.2.2 dX9_hatch_79
      · have hw := hw.1 hc
        refine lv_aload_n hx hb dX9_hatch_55 rfl (lv_at hl 0 rfl) ?_
        refine lv_aload_n hx hb dX9_hatch_56 rfl (lv_at hl 0 rfl) ?_
        refine va_get (ci := 11) (v := .ref (bd 8)) (C := RX9) (T := TX9) (N := 47) hx hb hts inw_X9_hatch_X9 hown hK hP 0 rfl rfl 9 (by decide) (hts (.fieldLink RX9 31 "DockCallModel" "hatches" "[I") (by decide +kernel)) (fun _ h9 => h9) rfl dX9_hatch_57 ?_
        refine lv_iload_n hx hb dX9_hatch_60 rfl (lv_at hl 1 rfl) ?_
        obtain ⟨hi, hw⟩ := hw
        refine va_iald hx hb hK hP 1 0 rfl rfl hi dX9_hatch_61 ?_
        refine lv_iconst (v := 4) hx hb dX9_hatch_62 (by decide) ?_
        refine lv_icmp_ne (tgt := 70) hx hb dX9_hatch_63 (by decide) (fun hc => ?_) (fun hc => ?_)
        · have hw := hw.2 hc
          refine lv_iconst (v := 0) hx hb dX9_hatch_70 (by decide) ?_
          refine lv_iconst (v := 3) hx hb dX9_hatch_71 (by decide) ?_
          refine mx_i (wc := [(ce_xm bd x_thrown_6 x_men x_ships x_entries x_rules x_calls x_gangs x_idle x_moved x_paid x_taped x_at x_end x_begin x_faultAt x_wants)]) (wr := [((bd 8), .inl (y 0, 10, .inl x_hatches)), ((bd 10), .inl (y 0, 40, .inl x_tons)), ((bd 11), .inl (y 0, 40, .inl x_skill)), ((bd 12), .inl (y 2, 40, .inl x_isDry))]) hP hD hS hA [0] [1, 2, 3, 4] [4, 0, 1, 2, 3] rfl rfl (by decide) (by decide) (by decide) (fun (u : Int32) => [(ce_xm bd u x_men x_ships x_entries x_rules x_calls x_gangs x_idle x_moved x_paid x_taped x_at x_end x_begin x_faultAt x_wants), ((bd 8), .inl (y 0, 10, .inl x_hatches)), ((bd 10), .inl (y 0, 40, .inl x_tons)), ((bd 11), .inl (y 0, 40, .inl x_skill)), ((bd 12), .inl (y 2, 40, .inl x_isDry))]) (fun _ => rfl) (va_runV (As := [.int 0, .int 3]) (rest := []) ⟨hx, hb, hml, hown, hts⟩ (c_Model_throwsIf l D y bd H.size x_thrown_6 x_men x_ships x_entries x_rules x_calls x_gangs x_idle x_moved x_paid x_taped x_at x_end x_begin x_faultAt x_wants 0 3 hw) (cwV 2 hts gX9_hatch_X9_throwsIf rfl rfl rfl (by decide +kernel) ⟨Nat.le_of_ble_eq_true rfl, Nat.le_of_ble_eq_true rfl⟩) ⟨mPre.blind, (va_recv hK hP (ci := 11) (q0 := 0) rfl rfl), mPre.to (hP.sub [0] rfl) hK (hD.sub [0] (by decide) rfl) hE⟩ rfl rfl hl.1 rfl (lv_room (Nat.le_of_ble_eq_true rfl)) dX9_hatch_72 ⟨Nat.le_of_ble_eq_true rfl, Nat.le_of_ble_eq_true rfl⟩) (fun r_7 u H locs hw hP hD hS => ?_)
          obtain ⟨x_thrown_8, rfl⟩ : ∃ z, z = u := ⟨_, rfl⟩
          try dsimp only at hw
          have hP : va_P D vwCl [(ce_xm bd x_thrown_8 x_men x_ships x_entries x_rules x_calls x_gangs x_idle x_moved x_paid x_taped x_at x_end x_begin x_faultAt x_wants), ((bd 8), .inl (y 0, 10, .inl x_hatches)), ((bd 10), .inl (y 0, 40, .inl x_tons)), ((bd 11), .inl (y 0, 40, .inl x_skill)), ((bd 12), .inl (y 2, 40, .inl x_isDry))] H := hP
          have hD : va_D A [(ce_xm bd x_thrown_8 x_men x_ships x_entries x_rules x_calls x_gangs x_idle x_moved x_paid x_taped x_at x_end x_begin x_faultAt x_wants), ((bd 8), .inl (y 0, 10, .inl x_hatches)), ((bd 10), .inl (y 0, 40, .inl x_tons)), ((bd 11), .inl (y 0, 40, .inl x_skill)), ((bd 12), .inl (y 2, 40, .inl x_isDry))] := hD
          refine lv_if_eq (tgt := 80) hx hb dX9_hatch_75 (by decide) (fun hc => ?_) (fun hc => ?_)
          · have hw := hw.1 hc
            refine lv_iconst (v := 4) hx hb dX9_hatch_80 (by decide) ?_
            refine lv_iload_n hx hb dX9_hatch_81 rfl (lv_at hl 1 rfl) ?_
            refine lv_imul hx hb dX9_hatch_82 ?_
            refine lv_aload_n hx hb dX9_hatch_83 rfl (lv_at hl 0 rfl) ?_
            refine va_get (ci := 11) (v := .ref (bd 8)) (C := RX9) (T := TX9) (N := 47) hx hb hts inw_X9_hatch_X9 hown hK hP 0 rfl rfl 9 (by decide) (hts (.fieldLink RX9 31 "DockCallModel" "hatches" "[I") (by decide +kernel)) (fun _ h9 => h9) rfl dX9_hatch_84 ?_
            refine lv_iload_n hx hb dX9_hatch_87 rfl (lv_at hl 1 rfl) ?_
            obtain ⟨hi, hw⟩ := hw
            refine va_iald hx hb hK hP 1 0 rfl rfl hi dX9_hatch_88 ?_
            refine lv_iadd hx hb dX9_hatch_89 ?_
            refine lv_istore (lv' := [(5, .int ((4 * p0) + (x_hatches p0.toNatClampNeg))), (0, .ref (bd 0)), (1, .int p0), (2, .int p1), (3, .int p2), (4, .int p3)]) hx hb dX9_hatch_90 hl (by decide) rfl (fun ls hl => ?_)
            refine lv_aload_n hx hb dX9_hatch_92 rfl (lv_at hl 1 rfl) ?_
            refine va_get (ci := 11) (v := .ref (bd 10)) (C := RX9) (T := TX9) (N := 47) hx hb hts inw_X9_hatch_X9 hown hK hP 0 rfl rfl 11 (by decide) (hts (.fieldLink RX9 37 "DockCallModel" "tons" "[I") (by decide +kernel)) (fun _ h9 => h9) rfl dX9_hatch_93 ?_
            refine lv_iload hx hb dX9_hatch_96 (lv_at hl 0 rfl) ?_
            refine lv_iload_n hx hb dX9_hatch_98 rfl (lv_at hl 3 rfl) ?_
            obtain ⟨hi, hw⟩ := hw
            refine va_iast hx hb hK hP hD hS 2 0 rfl rfl hi dX9_hatch_99 (fun H locs hP hD hS => ?_)
            have hP : va_P D vwCl [(ce_xm bd x_thrown_8 x_men x_ships x_entries x_rules x_calls x_gangs x_idle x_moved x_paid x_taped x_at x_end x_begin x_faultAt x_wants), ((bd 8), .inl (y 0, 10, .inl x_hatches)), ((bd 10), .inl (y 0, 40, .inl (upd x_tons ((4 * p0) + (x_hatches p0.toNatClampNeg)).toNatClampNeg p1))), ((bd 11), .inl (y 0, 40, .inl x_skill)), ((bd 12), .inl (y 2, 40, .inl x_isDry))] H := hP
            have hD : va_D A [(ce_xm bd x_thrown_8 x_men x_ships x_entries x_rules x_calls x_gangs x_idle x_moved x_paid x_taped x_at x_end x_begin x_faultAt x_wants), ((bd 8), .inl (y 0, 10, .inl x_hatches)), ((bd 10), .inl (y 0, 40, .inl (upd x_tons ((4 * p0) + (x_hatches p0.toNatClampNeg)).toNatClampNeg p1))), ((bd 11), .inl (y 0, 40, .inl x_skill)), ((bd 12), .inl (y 2, 40, .inl x_isDry))] := hD
            refine lv_aload_n hx hb dX9_hatch_100 rfl (lv_at hl 1 rfl) ?_
            refine va_get (ci := 11) (v := .ref (bd 11)) (C := RX9) (T := TX9) (N := 47) hx hb hts inw_X9_hatch_X9 hown hK hP 0 rfl rfl 12 (by decide) (hts (.fieldLink RX9 40 "DockCallModel" "skill" "[I") (by decide +kernel)) (fun _ h9 => h9) rfl dX9_hatch_101 ?_
            refine lv_iload hx hb dX9_hatch_104 (lv_at hl 0 rfl) ?_
            refine lv_iload_n hx hb dX9_hatch_106 rfl (lv_at hl 4 rfl) ?_
            obtain ⟨hi, hw⟩ := hw
            refine va_iast hx hb hK hP hD hS 3 0 rfl rfl hi dX9_hatch_107 (fun H locs hP hD hS => ?_)
            have hP : va_P D vwCl [(ce_xm bd x_thrown_8 x_men x_ships x_entries x_rules x_calls x_gangs x_idle x_moved x_paid x_taped x_at x_end x_begin x_faultAt x_wants), ((bd 8), .inl (y 0, 10, .inl x_hatches)), ((bd 10), .inl (y 0, 40, .inl (upd x_tons ((4 * p0) + (x_hatches p0.toNatClampNeg)).toNatClampNeg p1))), ((bd 11), .inl (y 0, 40, .inl (upd x_skill ((4 * p0) + (x_hatches p0.toNatClampNeg)).toNatClampNeg p2))), ((bd 12), .inl (y 2, 40, .inl x_isDry))] H := hP
            have hD : va_D A [(ce_xm bd x_thrown_8 x_men x_ships x_entries x_rules x_calls x_gangs x_idle x_moved x_paid x_taped x_at x_end x_begin x_faultAt x_wants), ((bd 8), .inl (y 0, 10, .inl x_hatches)), ((bd 10), .inl (y 0, 40, .inl (upd x_tons ((4 * p0) + (x_hatches p0.toNatClampNeg)).toNatClampNeg p1))), ((bd 11), .inl (y 0, 40, .inl (upd x_skill ((4 * p0) + (x_hatches p0.toNatClampNeg)).toNatClampNeg p2))), ((bd 12), .inl (y 2, 40, .inl x_isDry))] := hD
            refine lv_aload_n hx hb dX9_hatch_108 rfl (lv_at hl 1 rfl) ?_
            refine va_get (ci := 11) (v := .ref (bd 12)) (C := RX9) (T := TX9) (N := 47) hx hb hts inw_X9_hatch_X9 hown hK hP 0 rfl rfl 13 (by decide) (hts (.fieldLink RX9 43 "DockCallModel" "isDry" "[Z") (by decide +kernel)) (fun _ h9 => h9) rfl dX9_hatch_109 ?_
            refine lv_iload hx hb dX9_hatch_112 (lv_at hl 0 rfl) ?_
            refine lv_iload hx hb dX9_hatch_114 (lv_at hl 5 rfl) ?_
            obtain ⟨hi, hw⟩ := hw
            refine va_zast hx hb hK hP hD hS 4 2 rfl rfl hi dX9_hatch_116 (fun H locs hP hD hS => ?_)
            have hP : va_P D vwCl [(ce_xm bd x_thrown_8 x_men x_ships x_entries x_rules x_calls x_gangs x_idle x_moved x_paid x_taped x_at x_end x_begin x_faultAt x_wants), ((bd 8), .inl (y 0, 10, .inl x_hatches)), ((bd 10), .inl (y 0, 40, .inl (upd x_tons ((4 * p0) + (x_hatches p0.toNatClampNeg)).toNatClampNeg p1))), ((bd 11), .inl (y 0, 40, .inl (upd x_skill ((4 * p0) + (x_hatches p0.toNatClampNeg)).toNatClampNeg p2))), ((bd 12), .inl (y 2, 40, .inl (upd x_isDry ((4 * p0) + (x_hatches p0.toNatClampNeg)).toNatClampNeg (vp_nar .boolean p3))))] H := hP
            have hD : va_D A [(ce_xm bd x_thrown_8 x_men x_ships x_entries x_rules x_calls x_gangs x_idle x_moved x_paid x_taped x_at x_end x_begin x_faultAt x_wants), ((bd 8), .inl (y 0, 10, .inl x_hatches)), ((bd 10), .inl (y 0, 40, .inl (upd x_tons ((4 * p0) + (x_hatches p0.toNatClampNeg)).toNatClampNeg p1))), ((bd 11), .inl (y 0, 40, .inl (upd x_skill ((4 * p0) + (x_hatches p0.toNatClampNeg)).toNatClampNeg p2))), ((bd 12), .inl (y 2, 40, .inl (upd x_isDry ((4 * p0) + (x_hatches p0.toNatClampNeg)).toNatClampNeg (vp_nar .boolean p3))))] := hD
            refine lv_aload_n hx hb dX9_hatch_117 rfl (lv_at hl 1 rfl) ?_
            refine va_get (ci := 11) (v := .ref (bd 8)) (C := RX9) (T := TX9) (N := 47) hx hb hts inw_X9_hatch_X9 hown hK hP 0 rfl rfl 9 (by decide) (hts (.fieldLink RX9 31 "DockCallModel" "hatches" "[I") (by decide +kernel)) (fun _ h9 => h9) rfl dX9_hatch_118 ?_
            refine lv_iload_n hx hb dX9_hatch_121 rfl (lv_at hl 2 rfl) ?_
            refine lv_dup2_11 hx hb dX9_hatch_122 rfl rfl ?_
            obtain ⟨hi, hw⟩ := hw
            refine va_iald hx hb hK hP 1 0 rfl rfl hi dX9_hatch_123 ?_
            refine lv_iconst (v := 1) hx hb dX9_hatch_124 (by decide) ?_
            refine lv_iadd hx hb dX9_hatch_125 ?_
            obtain ⟨hi, hw⟩ := hw
            refine va_iast hx hb hK hP hD hS 1 0 rfl rfl hi dX9_hatch_126 (fun H locs hP hD hS => ?_)
            have hP : va_P D vwCl [(ce_xm bd x_thrown_8 x_men x_ships x_entries x_rules x_calls x_gangs x_idle x_moved x_paid x_taped x_at x_end x_begin x_faultAt x_wants), ((bd 8), .inl (y 0, 10, .inl (upd x_hatches p0.toNatClampNeg ((x_hatches p0.toNatClampNeg) + 1)))), ((bd 10), .inl (y 0, 40, .inl (upd x_tons ((4 * p0) + (x_hatches p0.toNatClampNeg)).toNatClampNeg p1))), ((bd 11), .inl (y 0, 40, .inl (upd x_skill ((4 * p0) + (x_hatches p0.toNatClampNeg)).toNatClampNeg p2))), ((bd 12), .inl (y 2, 40, .inl (upd x_isDry ((4 * p0) + (x_hatches p0.toNatClampNeg)).toNatClampNeg (vp_nar .boolean p3))))] H := hP
            have hD : va_D A [(ce_xm bd x_thrown_8 x_men x_ships x_entries x_rules x_calls x_gangs x_idle x_moved x_paid x_taped x_at x_end x_begin x_faultAt x_wants), ((bd 8), .inl (y 0, 10, .inl (upd x_hatches p0.toNatClampNeg ((x_hatches p0.toNatClampNeg) + 1)))), ((bd 10), .inl (y 0, 40, .inl (upd x_tons ((4 * p0) + (x_hatches p0.toNatClampNeg)).toNatClampNeg p1))), ((bd 11), .inl (y 0, 40, .inl (upd x_skill ((4 * p0) + (x_hatches p0.toNatClampNeg)).toNatClampNeg p2))), ((bd 12), .inl (y 2, 40, .inl (upd x_isDry ((4 * p0) + (x_hatches p0.toNatClampNeg)).toNatClampNeg (vp_nar .boolean p3))))] := hD
            refine lv_aload_n hx hb dX9_hatch_127 rfl (lv_at hl 1 rfl) ?_
            refine va_get (ci := 11) (v := .ref (bd 8)) (C := RX9) (T := TX9) (N := 47) hx hb hts inw_X9_hatch_X9 hown hK hP 0 rfl rfl 9 (by decide) (hts (.fieldLink RX9 31 "DockCallModel" "hatches" "[I") (by decide +kernel)) (fun _ h9 => h9) rfl dX9_hatch_128 ?_
            refine lv_iload_n hx hb dX9_hatch_131 rfl (lv_at hl 2 rfl) ?_
            obtain ⟨hi, hw⟩ := hw
            refine va_iald hx hb hK hP 1 0 rfl rfl hi dX9_hatch_132 ?_
            refine lv_iconst (v := 1) hx hb dX9_hatch_133 (by decide) ?_
            refine lv_isub hx hb dX9_hatch_134 ?_
            exact W.iret (v := ((upd x_hatches p0.toNatClampNeg ((x_hatches p0.toNatClampNeg) + 1)) p0.toNatClampNeg) - 1) hx hb hr (fun t ht hW => ⟨⟨((upd x_hatches p0.toNatClampNeg ((x_hatches p0.toNatClampNeg) + 1)) p0.toNatClampNeg) - 1, (x_thrown_8, upd x_hatches p0.toNatClampNeg ((x_hatches p0.toNatClampNeg) + 1), upd x_tons ((4 * p0) + (x_hatches p0.toNatClampNeg)).toNatClampNeg p1, upd x_skill ((4 * p0) + (x_hatches p0.toNatClampNeg)).toNatClampNeg p2, upd x_isDry ((4 * p0) + (x_hatches p0.toNatClampNeg)).toNatClampNeg (vp_nar .boolean p3)), rfl, hw, mAt.to hP hK hD ht hW⟩, hS.F ht⟩) hS.2.2 dX9_hatch_135
          · have hw := hw.2 hc
            refine lv_iconst (v := 0) hx hb dX9_hatch_78 (by decide) ?_
            exact W.iret (v := 0) hx hb hr (fun t ht hW => ⟨⟨0, (x_thrown_8, x_hatches, x_tons, x_skill, x_isDry), rfl, hw, mAt.to hP hK hD ht hW⟩, hS.F ht⟩) hS.2.2 dX9_hatch_79
        · have hw := hw.1 hc
          refine lv_iconst (v := 1) hx hb dX9_hatch_66 (by decide) ?_
          refine lv_goto (tgt := 71) hx hb dX9_hatch_67 (by decide) ?_
          refine lv_iconst (v := 3) hx hb dX9_hatch_71 (by decide) ?_
          refine mx_i (wc := [(ce_xm bd x_thrown_6 x_men x_ships x_entries x_rules x_calls x_gangs x_idle x_moved x_paid x_taped x_at x_end x_begin x_faultAt x_wants)]) (wr := [((bd 8), .inl (y 0, 10, .inl x_hatches)), ((bd 10), .inl (y 0, 40, .inl x_tons)), ((bd 11), .inl (y 0, 40, .inl x_skill)), ((bd 12), .inl (y 2, 40, .inl x_isDry))]) hP hD hS hA [0] [1, 2, 3, 4] [4, 0, 1, 2, 3] rfl rfl (by decide) (by decide) (by decide) (fun (u : Int32) => [(ce_xm bd u x_men x_ships x_entries x_rules x_calls x_gangs x_idle x_moved x_paid x_taped x_at x_end x_begin x_faultAt x_wants), ((bd 8), .inl (y 0, 10, .inl x_hatches)), ((bd 10), .inl (y 0, 40, .inl x_tons)), ((bd 11), .inl (y 0, 40, .inl x_skill)), ((bd 12), .inl (y 2, 40, .inl x_isDry))]) (fun _ => rfl) (va_runV (As := [.int 1, .int 3]) (rest := []) ⟨hx, hb, hml, hown, hts⟩ (c_Model_throwsIf l D y bd H.size x_thrown_6 x_men x_ships x_entries x_rules x_calls x_gangs x_idle x_moved x_paid x_taped x_at x_end x_begin x_faultAt x_wants 1 3 hw) (cwV 2 hts gX9_hatch_X9_throwsIf rfl rfl rfl (by decide +kernel) ⟨Nat.le_of_ble_eq_true rfl, Nat.le_of_ble_eq_true rfl⟩) ⟨mPre.blind, (va_recv hK hP (ci := 11) (q0 := 0) rfl rfl), mPre.to (hP.sub [0] rfl) hK (hD.sub [0] (by decide) rfl) hE⟩ rfl rfl hl.1 rfl (lv_room (Nat.le_of_ble_eq_true rfl)) dX9_hatch_72 ⟨Nat.le_of_ble_eq_true rfl, Nat.le_of_ble_eq_true rfl⟩) (fun r_9 u H locs hw hP hD hS => ?_)
          obtain ⟨x_thrown_10, rfl⟩ : ∃ z, z = u := ⟨_, rfl⟩
          try dsimp only at hw
          have hP : va_P D vwCl [(ce_xm bd x_thrown_10 x_men x_ships x_entries x_rules x_calls x_gangs x_idle x_moved x_paid x_taped x_at x_end x_begin x_faultAt x_wants), ((bd 8), .inl (y 0, 10, .inl x_hatches)), ((bd 10), .inl (y 0, 40, .inl x_tons)), ((bd 11), .inl (y 0, 40, .inl x_skill)), ((bd 12), .inl (y 2, 40, .inl x_isDry))] H := hP
          have hD : va_D A [(ce_xm bd x_thrown_10 x_men x_ships x_entries x_rules x_calls x_gangs x_idle x_moved x_paid x_taped x_at x_end x_begin x_faultAt x_wants), ((bd 8), .inl (y 0, 10, .inl x_hatches)), ((bd 10), .inl (y 0, 40, .inl x_tons)), ((bd 11), .inl (y 0, 40, .inl x_skill)), ((bd 12), .inl (y 2, 40, .inl x_isDry))] := hD
          refine lv_if_eq (tgt := 80) hx hb dX9_hatch_75 (by decide) (fun hc => ?_) (fun hc => ?_)
          · have hw := hw.1 hc
            refine lv_iconst (v := 4) hx hb dX9_hatch_80 (by decide) ?_
            refine lv_iload_n hx hb dX9_hatch_81 rfl (lv_at hl 1 rfl) ?_
            refine lv_imul hx hb dX9_hatch_82 ?_
            refine lv_aload_n hx hb dX9_hatch_83 rfl (lv_at hl 0 rfl) ?_
            refine va_get (ci := 11) (v := .ref (bd 8)) (C := RX9) (T := TX9) (N := 47) hx hb hts inw_X9_hatch_X9 hown hK hP 0 rfl rfl 9 (by decide) (hts (.fieldLink RX9 31 "DockCallModel" "hatches" "[I") (by decide +kernel)) (fun _ h9 => h9) rfl dX9_hatch_84 ?_
            refine lv_iload_n hx hb dX9_hatch_87 rfl (lv_at hl 1 rfl) ?_
            obtain ⟨hi, hw⟩ := hw
            refine va_iald hx hb hK hP 1 0 rfl rfl hi dX9_hatch_88 ?_
            refine lv_iadd hx hb dX9_hatch_89 ?_
            refine lv_istore (lv' := [(5, .int ((4 * p0) + (x_hatches p0.toNatClampNeg))), (0, .ref (bd 0)), (1, .int p0), (2, .int p1), (3, .int p2), (4, .int p3)]) hx hb dX9_hatch_90 hl (by decide) rfl (fun ls hl => ?_)
            refine lv_aload_n hx hb dX9_hatch_92 rfl (lv_at hl 1 rfl) ?_
            refine va_get (ci := 11) (v := .ref (bd 10)) (C := RX9) (T := TX9) (N := 47) hx hb hts inw_X9_hatch_X9 hown hK hP 0 rfl rfl 11 (by decide) (hts (.fieldLink RX9 37 "DockCallModel" "tons" "[I") (by decide +kernel)) (fun _ h9 => h9) rfl dX9_hatch_93 ?_
            refine lv_iload hx hb dX9_hatch_96 (lv_at hl 0 rfl) ?_
            refine lv_iload_n hx hb dX9_hatch_98 rfl (lv_at hl 3 rfl) ?_
            obtain ⟨hi, hw⟩ := hw
            refine va_iast hx hb hK hP hD hS 2 0 rfl rfl hi dX9_hatch_99 (fun H locs hP hD hS => ?_)
            have hP : va_P D vwCl [(ce_xm bd x_thrown_10 x_men x_ships x_entries x_rules x_calls x_gangs x_idle x_moved x_paid x_taped x_at x_end x_begin x_faultAt x_wants), ((bd 8), .inl (y 0, 10, .inl x_hatches)), ((bd 10), .inl (y 0, 40, .inl (upd x_tons ((4 * p0) + (x_hatches p0.toNatClampNeg)).toNatClampNeg p1))), ((bd 11), .inl (y 0, 40, .inl x_skill)), ((bd 12), .inl (y 2, 40, .inl x_isDry))] H := hP
            have hD : va_D A [(ce_xm bd x_thrown_10 x_men x_ships x_entries x_rules x_calls x_gangs x_idle x_moved x_paid x_taped x_at x_end x_begin x_faultAt x_wants), ((bd 8), .inl (y 0, 10, .inl x_hatches)), ((bd 10), .inl (y 0, 40, .inl (upd x_tons ((4 * p0) + (x_hatches p0.toNatClampNeg)).toNatClampNeg p1))), ((bd 11), .inl (y 0, 40, .inl x_skill)), ((bd 12), .inl (y 2, 40, .inl x_isDry))] := hD
            refine lv_aload_n hx hb dX9_hatch_100 rfl (lv_at hl 1 rfl) ?_
            refine va_get (ci := 11) (v := .ref (bd 11)) (C := RX9) (T := TX9) (N := 47) hx hb hts inw_X9_hatch_X9 hown hK hP 0 rfl rfl 12 (by decide) (hts (.fieldLink RX9 40 "DockCallModel" "skill" "[I") (by decide +kernel)) (fun _ h9 => h9) rfl dX9_hatch_101 ?_
            refine lv_iload hx hb dX9_hatch_104 (lv_at hl 0 rfl) ?_
            refine lv_iload_n hx hb dX9_hatch_106 rfl (lv_at hl 4 rfl) ?_
            obtain ⟨hi, hw⟩ := hw
            refine va_iast hx hb hK hP hD hS 3 0 rfl rfl hi dX9_hatch_107 (fun H locs hP hD hS => ?_)
            have hP : va_P D vwCl [(ce_xm bd x_thrown_10 x_men x_ships x_entries x_rules x_calls x_gangs x_idle x_moved x_paid x_taped x_at x_end x_begin x_faultAt x_wants), ((bd 8), .inl (y 0, 10, .inl x_hatches)), ((bd 10), .inl (y 0, 40, .inl (upd x_tons ((4 * p0) + (x_hatches p0.toNatClampNeg)).toNatClampNeg p1))), ((bd 11), .inl (y 0, 40, .inl (upd x_skill ((4 * p0) + (x_hatches p0.toNatClampNeg)).toNatClampNeg p2))), ((bd 12), .inl (y 2, 40, .inl x_isDry))] H := hP
            have hD : va_D A [(ce_xm bd x_thrown_10 x_men x_ships x_entries x_rules x_calls x_gangs x_idle x_moved x_paid x_taped x_at x_end x_begin x_faultAt x_wants), ((bd 8), .inl (y 0, 10, .inl x_hatches)), ((bd 10), .inl (y 0, 40, .inl (upd x_tons ((4 * p0) + (x_hatches p0.toNatClampNeg)).toNatClampNeg p1))), ((bd 11), .inl (y 0, 40, .inl (upd x_skill ((4 * p0) + (x_hatches p0.toNatClampNeg)).toNatClampNeg p2))), ((bd 12), .inl (y 2, 40, .inl x_isDry))] := hD
            refine lv_aload_n hx hb dX9_hatch_108 rfl (lv_at hl 1 rfl) ?_
            refine va_get (ci := 11) (v := .ref (bd 12)) (C := RX9) (T := TX9) (N := 47) hx hb hts inw_X9_hatch_X9 hown hK hP 0 rfl rfl 13 (by decide) (hts (.fieldLink RX9 43 "DockCallModel" "isDry" "[Z") (by decide +kernel)) (fun _ h9 => h9) rfl dX9_hatch_109 ?_
            refine lv_iload hx hb dX9_hatch_112 (lv_at hl 0 rfl) ?_
            refine lv_iload hx hb dX9_hatch_114 (lv_at hl 5 rfl) ?_
            obtain ⟨hi, hw⟩ := hw
            refine va_zast hx hb hK hP hD hS 4 2 rfl rfl hi dX9_hatch_116 (fun H locs hP hD hS => ?_)
            have hP : va_P D vwCl [(ce_xm bd x_thrown_10 x_men x_ships x_entries x_rules x_calls x_gangs x_idle x_moved x_paid x_taped x_at x_end x_begin x_faultAt x_wants), ((bd 8), .inl (y 0, 10, .inl x_hatches)), ((bd 10), .inl (y 0, 40, .inl (upd x_tons ((4 * p0) + (x_hatches p0.toNatClampNeg)).toNatClampNeg p1))), ((bd 11), .inl (y 0, 40, .inl (upd x_skill ((4 * p0) + (x_hatches p0.toNatClampNeg)).toNatClampNeg p2))), ((bd 12), .inl (y 2, 40, .inl (upd x_isDry ((4 * p0) + (x_hatches p0.toNatClampNeg)).toNatClampNeg (vp_nar .boolean p3))))] H := hP
            have hD : va_D A [(ce_xm bd x_thrown_10 x_men x_ships x_entries x_rules x_calls x_gangs x_idle x_moved x_paid x_taped x_at x_end x_begin x_faultAt x_wants), ((bd 8), .inl (y 0, 10, .inl x_hatches)), ((bd 10), .inl (y 0, 40, .inl (upd x_tons ((4 * p0) + (x_hatches p0.toNatClampNeg)).toNatClampNeg p1))), ((bd 11), .inl (y 0, 40, .inl (upd x_skill ((4 * p0) + (x_hatches p0.toNatClampNeg)).toNatClampNeg p2))), ((bd 12), .inl (y 2, 40, .inl (upd x_isDry ((4 * p0) + (x_hatches p0.toNatClampNeg)).toNatClampNeg (vp_nar .boolean p3))))] := hD
            refine lv_aload_n hx hb dX9_hatch_117 rfl (lv_at hl 1 rfl) ?_
            refine va_get (ci := 11) (v := .ref (bd 8)) (C := RX9) (T := TX9) (N := 47) hx hb hts inw_X9_hatch_X9 hown hK hP 0 rfl rfl 9 (by decide) (hts (.fieldLink RX9 31 "DockCallModel" "hatches" "[I") (by decide +kernel)) (fun _ h9 => h9) rfl dX9_hatch_118 ?_
            refine lv_iload_n hx hb dX9_hatch_121 rfl (lv_at hl 2 rfl) ?_
            refine lv_dup2_11 hx hb dX9_hatch_122 rfl rfl ?_
            obtain ⟨hi, hw⟩ := hw
            refine va_iald hx hb hK hP 1 0 rfl rfl hi dX9_hatch_123 ?_
            refine lv_iconst (v := 1) hx hb dX9_hatch_124 (by decide) ?_
            refine lv_iadd hx hb dX9_hatch_125 ?_
            obtain ⟨hi, hw⟩ := hw
            refine va_iast hx hb hK hP hD hS 1 0 rfl rfl hi dX9_hatch_126 (fun H locs hP hD hS => ?_)
            have hP : va_P D vwCl [(ce_xm bd x_thrown_10 x_men x_ships x_entries x_rules x_calls x_gangs x_idle x_moved x_paid x_taped x_at x_end x_begin x_faultAt x_wants), ((bd 8), .inl (y 0, 10, .inl (upd x_hatches p0.toNatClampNeg ((x_hatches p0.toNatClampNeg) + 1)))), ((bd 10), .inl (y 0, 40, .inl (upd x_tons ((4 * p0) + (x_hatches p0.toNatClampNeg)).toNatClampNeg p1))), ((bd 11), .inl (y 0, 40, .inl (upd x_skill ((4 * p0) + (x_hatches p0.toNatClampNeg)).toNatClampNeg p2))), ((bd 12), .inl (y 2, 40, .inl (upd x_isDry ((4 * p0) + (x_hatches p0.toNatClampNeg)).toNatClampNeg (vp_nar .boolean p3))))] H := hP
            have hD : va_D A [(ce_xm bd x_thrown_10 x_men x_ships x_entries x_rules x_calls x_gangs x_idle x_moved x_paid x_taped x_at x_end x_begin x_faultAt x_wants), ((bd 8), .inl (y 0, 10, .inl (upd x_hatches p0.toNatClampNeg ((x_hatches p0.toNatClampNeg) + 1)))), ((bd 10), .inl (y 0, 40, .inl (upd x_tons ((4 * p0) + (x_hatches p0.toNatClampNeg)).toNatClampNeg p1))), ((bd 11), .inl (y 0, 40, .inl (upd x_skill ((4 * p0) + (x_hatches p0.toNatClampNeg)).toNatClampNeg p2))), ((bd 12), .inl (y 2, 40, .inl (upd x_isDry ((4 * p0) + (x_hatches p0.toNatClampNeg)).toNatClampNeg (vp_nar .boolean p3))))] := hD
            refine lv_aload_n hx hb dX9_hatch_127 rfl (lv_at hl 1 rfl) ?_
            refine va_get (ci := 11) (v := .ref (bd 8)) (C := RX9) (T := TX9) (N := 47) hx hb hts inw_X9_hatch_X9 hown hK hP 0 rfl rfl 9 (by decide) (hts (.fieldLink RX9 31 "DockCallModel" "hatches" "[I") (by decide +kernel)) (fun _ h9 => h9) rfl dX9_hatch_128 ?_
            refine lv_iload_n hx hb dX9_hatch_131 rfl (lv_at hl 2 rfl) ?_
            obtain ⟨hi, hw⟩ := hw
            refine va_iald hx hb hK hP 1 0 rfl rfl hi dX9_hatch_132 ?_
            refine lv_iconst (v := 1) hx hb dX9_hatch_133 (by decide) ?_
            refine lv_isub hx hb dX9_hatch_134 ?_
            exact W.iret (v := ((upd x_hatches p0.toNatClampNeg ((x_hatches p0.toNatClampNeg) + 1)) p0.toNatClampNeg) - 1) hx hb hr (fun t ht hW => ⟨⟨((upd x_hatches p0.toNatClampNeg ((x_hatches p0.toNatClampNeg) + 1)) p0.toNatClampNeg) - 1, (x_thrown_10, upd x_hatches p0.toNatClampNeg ((x_hatches p0.toNatClampNeg) + 1), upd x_tons ((4 * p0) + (x_hatches p0.toNatClampNeg)).toNatClampNeg p1, upd x_skill ((4 * p0) + (x_hatches p0.toNatClampNeg)).toNatClampNeg p2, upd x_isDry ((4 * p0) + (x_hatches p0.toNatClampNeg)).toNatClampNeg (vp_nar .boolean p3)), rfl, hw, mAt.to hP hK hD ht hW⟩, hS.F ht⟩) hS.2.2 dX9_hatch_135
          · have hw := hw.2 hc
            refine lv_iconst (v := 0) hx hb dX9_hatch_78 (by decide) ?_
            exact W.iret (v := 0) hx hb hr (fun t ht hW => ⟨⟨0, (x_thrown_10, x_hatches, x_tons, x_skill, x_isDry), rfl, hw, mAt.to hP hK hD ht hW⟩, hS.F ht⟩) hS.2.2 dX9_hatch_79
    · have hw := hw.2 hc
      refine lv_iload_n hx hb dX9_hatch_31 rfl (lv_at hl 3 rfl) ?_
      refine lv_i2l hx hb dX9_hatch_32 rfl ?_
      refine lv_lconst (v := 0) hx hb dX9_hatch_33 (by decide) ?_
      refine lv_ldc2 hx hb hown (hts (.constantLong RX9 137 3) (by decide +kernel)) dX9_hatch_34 ?_
      refine mx_i (wc := []) (wr := [(ce_xm bd x_thrown_3 x_men x_ships x_entries x_rules x_calls x_gangs x_idle x_moved x_paid x_taped x_at x_end x_begin x_faultAt x_wants), ((bd 8), .inl (y 0, 10, .inl x_hatches)), ((bd 10), .inl (y 0, 40, .inl x_tons)), ((bd 11), .inl (y 0, 40, .inl x_skill)), ((bd 12), .inl (y 2, 40, .inl x_isDry))]) hP hD hS hA [] [0, 1, 2, 3, 4] [0, 1, 2, 3, 4] rfl rfl (by decide) (by decide) (by decide) (fun (u : Unit) => [(ce_xm bd x_thrown_3 x_men x_ships x_entries x_rules x_calls x_gangs x_idle x_moved x_paid x_taped x_at x_end x_begin x_faultAt x_wants), ((bd 8), .inl (y 0, 10, .inl x_hatches)), ((bd 10), .inl (y 0, 40, .inl x_tons)), ((bd 11), .inl (y 0, 40, .inl x_skill)), ((bd 12), .inl (y 2, 40, .inl x_isDry))]) (fun _ => rfl) (va_runS (As := [.long p2.toInt64, .long 0, .long 3]) (rest := [.ref (bd 0)]) ⟨hx, hb, hml, hown, hts⟩ (c_Model_in l D y H.size p2.toInt64 0 3 hw) (va_cwS 3 hts gX9_hatch_X9_in rfl rfl rfl (by decide +kernel) ⟨Nat.le_of_ble_eq_true rfl, Nat.le_of_ble_eq_true rfl⟩) ⟨mPre.blind, mPre.to (hP.sub [] rfl) hK (hD.sub [] (by decide) rfl) hE⟩ rfl rfl hl.1 rfl (lv_room (Nat.le_of_ble_eq_true rfl)) dX9_hatch_37 ⟨Nat.le_of_ble_eq_true rfl, Nat.le_of_ble_eq_true rfl⟩) (fun r_11 u H locs hw hP hD hS => ?_)
      try dsimp only at hw
      have hP : va_P D vwCl [(ce_xm bd x_thrown_3 x_men x_ships x_entries x_rules x_calls x_gangs x_idle x_moved x_paid x_taped x_at x_end x_begin x_faultAt x_wants), ((bd 8), .inl (y 0, 10, .inl x_hatches)), ((bd 10), .inl (y 0, 40, .inl x_tons)), ((bd 11), .inl (y 0, 40, .inl x_skill)), ((bd 12), .inl (y 2, 40, .inl x_isDry))] H := hP
      have hD : va_D A [(ce_xm bd x_thrown_3 x_men x_ships x_entries x_rules x_calls x_gangs x_idle x_moved x_paid x_taped x_at x_end x_begin x_faultAt x_wants), ((bd 8), .inl (y 0, 10, .inl x_hatches)), ((bd 10), .inl (y 0, 40, .inl x_tons)), ((bd 11), .inl (y 0, 40, .inl x_skill)), ((bd 12), .inl (y 2, 40, .inl x_isDry))] := hD
      refine lv_if_ne (tgt := 47) hx hb dX9_hatch_40 (by decide) (fun hc => ?_) (fun hc => ?_)
      · have hw := hw.2 hc
        refine lv_iconst (v := 0) hx hb dX9_hatch_47 (by decide) ?_
        refine lv_iconst (v := 2) hx hb dX9_hatch_48 (by decide) ?_
        refine mx_i (wc := [(ce_xm bd x_thrown_3 x_men x_ships x_entries x_rules x_calls x_gangs x_idle x_moved x_paid x_taped x_at x_end x_begin x_faultAt x_wants)]) (wr := [((bd 8), .inl (y 0, 10, .inl x_hatches)), ((bd 10), .inl (y 0, 40, .inl x_tons)), ((bd 11), .inl (y 0, 40, .inl x_skill)), ((bd 12), .inl (y 2, 40, .inl x_isDry))]) hP hD hS hA [0] [1, 2, 3, 4] [4, 0, 1, 2, 3] rfl rfl (by decide) (by decide) (by decide) (fun (u : Int32) => [(ce_xm bd u x_men x_ships x_entries x_rules x_calls x_gangs x_idle x_moved x_paid x_taped x_at x_end x_begin x_faultAt x_wants), ((bd 8), .inl (y 0, 10, .inl x_hatches)), ((bd 10), .inl (y 0, 40, .inl x_tons)), ((bd 11), .inl (y 0, 40, .inl x_skill)), ((bd 12), .inl (y 2, 40, .inl x_isDry))]) (fun _ => rfl) (va_runV (As := [.int 0, .int 2]) (rest := []) ⟨hx, hb, hml, hown, hts⟩ (c_Model_throwsIf l D y bd H.size x_thrown_3 x_men x_ships x_entries x_rules x_calls x_gangs x_idle x_moved x_paid x_taped x_at x_end x_begin x_faultAt x_wants 0 2 hw) (cwV 2 hts gX9_hatch_X9_throwsIf rfl rfl rfl (by decide +kernel) ⟨Nat.le_of_ble_eq_true rfl, Nat.le_of_ble_eq_true rfl⟩) ⟨mPre.blind, (va_recv hK hP (ci := 11) (q0 := 0) rfl rfl), mPre.to (hP.sub [0] rfl) hK (hD.sub [0] (by decide) rfl) hE⟩ rfl rfl hl.1 rfl (lv_room (Nat.le_of_ble_eq_true rfl)) dX9_hatch_49 ⟨Nat.le_of_ble_eq_true rfl, Nat.le_of_ble_eq_true rfl⟩) (fun r_12 u H locs hw hP hD hS => ?_)
        obtain ⟨x_thrown_13, rfl⟩ : ∃ z, z = u := ⟨_, rfl⟩
        try dsimp only at hw
        have hP : va_P D vwCl [(ce_xm bd x_thrown_13 x_men x_ships x_entries x_rules x_calls x_gangs x_idle x_moved x_paid x_taped x_at x_end x_begin x_faultAt x_wants), ((bd 8), .inl (y 0, 10, .inl x_hatches)), ((bd 10), .inl (y 0, 40, .inl x_tons)), ((bd 11), .inl (y 0, 40, .inl x_skill)), ((bd 12), .inl (y 2, 40, .inl x_isDry))] H := hP
        have hD : va_D A [(ce_xm bd x_thrown_13 x_men x_ships x_entries x_rules x_calls x_gangs x_idle x_moved x_paid x_taped x_at x_end x_begin x_faultAt x_wants), ((bd 8), .inl (y 0, 10, .inl x_hatches)), ((bd 10), .inl (y 0, 40, .inl x_tons)), ((bd 11), .inl (y 0, 40, .inl x_skill)), ((bd 12), .inl (y 2, 40, .inl x_isDry))] := hD
        refine lv_if_ne (tgt := 78) hx hb dX9_hatch_52 (by decide) (fun hc => ?_) (fun hc => ?_)
        · have hw := hw.2 hc
          refine lv_iconst (v := 0) hx hb dX9_hatch_78 (by decide) ?_
          exact W.iret (v := 0) hx hb hr (fun t ht hW => ⟨⟨0, (x_thrown_13, x_hatches, x_tons, x_skill, x_isDry), rfl, hw, mAt.to hP hK hD ht hW⟩, hS.F ht⟩) hS.2.2 dX9_hatch_79
        · have hw := hw.1 hc
          refine lv_aload_n hx hb dX9_hatch_55 rfl (lv_at hl 0 rfl) ?_
          refine lv_aload_n hx hb dX9_hatch_56 rfl (lv_at hl 0 rfl) ?_
          refine va_get (ci := 11) (v := .ref (bd 8)) (C := RX9) (T := TX9) (N := 47) hx hb hts inw_X9_hatch_X9 hown hK hP 0 rfl rfl 9 (by decide) (hts (.fieldLink RX9 31 "DockCallModel" "hatches" "[I") (by decide +kernel)) (fun _ h9 => h9) rfl dX9_hatch_57 ?_
          refine lv_iload_n hx hb dX9_hatch_60 rfl (lv_at hl 1 rfl) ?_
          obtain ⟨hi, hw⟩ := hw
          refine va_iald hx hb hK hP 1 0 rfl rfl hi dX9_hatch_61 ?_
          refine lv_iconst (v := 4) hx hb dX9_hatch_62 (by decide) ?_
          refine lv_icmp_ne (tgt := 70) hx hb dX9_hatch_63 (by decide) (fun hc => ?_) (fun hc => ?_)
          · have hw := hw.2 hc
            refine lv_iconst (v := 0) hx hb dX9_hatch_70 (by decide) ?_
            refine lv_iconst (v := 3) hx hb dX9_hatch_71 (by decide) ?_
            refine mx_i (wc := [(ce_xm bd x_thrown_13 x_men x_ships x_entries x_rules x_calls x_gangs x_idle x_moved x_paid x_taped x_at x_end x_begin x_faultAt x_wants)]) (wr := [((bd 8), .inl (y 0, 10, .inl x_hatches)), ((bd 10), .inl (y 0, 40, .inl x_tons)), ((bd 11), .inl (y 0, 40, .inl x_skill)), ((bd 12), .inl (y 2, 40, .inl x_isDry))]) hP hD hS hA [0] [1, 2, 3, 4] [4, 0, 1, 2, 3] rfl rfl (by decide) (by decide) (by decide) (fun (u : Int32) => [(ce_xm bd u x_men x_ships x_entries x_rules x_calls x_gangs x_idle x_moved x_paid x_taped x_at x_end x_begin x_faultAt x_wants), ((bd 8), .inl (y 0, 10, .inl x_hatches)), ((bd 10), .inl (y 0, 40, .inl x_tons)), ((bd 11), .inl (y 0, 40, .inl x_skill)), ((bd 12), .inl (y 2, 40, .inl x_isDry))]) (fun _ => rfl) (va_runV (As := [.int 0, .int 3]) (rest := []) ⟨hx, hb, hml, hown, hts⟩ (c_Model_throwsIf l D y bd H.size x_thrown_13 x_men x_ships x_entries x_rules x_calls x_gangs x_idle x_moved x_paid x_taped x_at x_end x_begin x_faultAt x_wants 0 3 hw) (cwV 2 hts gX9_hatch_X9_throwsIf rfl rfl rfl (by decide +kernel) ⟨Nat.le_of_ble_eq_true rfl, Nat.le_of_ble_eq_true rfl⟩) ⟨mPre.blind, (va_recv hK hP (ci := 11) (q0 := 0) rfl rfl), mPre.to (hP.sub [0] rfl) hK (hD.sub [0] (by decide) rfl) hE⟩ rfl rfl hl.1 rfl (lv_room (Nat.le_of_ble_eq_true rfl)) dX9_hatch_72 ⟨Nat.le_of_ble_eq_true rfl, Nat.le_of_ble_eq_true rfl⟩) (fun r_14 u H locs hw hP hD hS => ?_)
            obtain ⟨x_thrown_15, rfl⟩ : ∃ z, z = u := ⟨_, rfl⟩
            try dsimp only at hw
            have hP : va_P D vwCl [(ce_xm bd x_thrown_15 x_men x_ships x_entries x_rules x_calls x_gangs x_idle x_moved x_paid x_taped x_at x_end x_begin x_faultAt x_wants), ((bd 8), .inl (y 0, 10, .inl x_hatches)), ((bd 10), .inl (y 0, 40, .inl x_tons)), ((bd 11), .inl (y 0, 40, .inl x_skill)), ((bd 12), .inl (y 2, 40, .inl x_isDry))] H := hP
            have hD : va_D A [(ce_xm bd x_thrown_15 x_men x_ships x_entries x_rules x_calls x_gangs x_idle x_moved x_paid x_taped x_at x_end x_begin x_faultAt x_wants), ((bd 8), .inl (y 0, 10, .inl x_hatches)), ((bd 10), .inl (y 0, 40, .inl x_tons)), ((bd 11), .inl (y 0, 40, .inl x_skill)), ((bd 12), .inl (y 2, 40, .inl x_isDry))] := hD
            refine lv_if_eq (tgt := 80) hx hb dX9_hatch_75 (by decide) (fun hc => ?_) (fun hc => ?_)
            · have hw := hw.1 hc
              refine lv_iconst (v := 4) hx hb dX9_hatch_80 (by decide) ?_
              refine lv_iload_n hx hb dX9_hatch_81 rfl (lv_at hl 1 rfl) ?_
              refine lv_imul hx hb dX9_hatch_82 ?_
              refine lv_aload_n hx hb dX9_hatch_83 rfl (lv_at hl 0 rfl) ?_
              refine va_get (ci := 11) (v := .ref (bd 8)) (C := RX9) (T := TX9) (N := 47) hx hb hts inw_X9_hatch_X9 hown hK hP 0 rfl rfl 9 (by decide) (hts (.fieldLink RX9 31 "DockCallModel" "hatches" "[I") (by decide +kernel)) (fun _ h9 => h9) rfl dX9_hatch_84 ?_
              refine lv_iload_n hx hb dX9_hatch_87 rfl (lv_at hl 1 rfl) ?_
              obtain ⟨hi, hw⟩ := hw
              refine va_iald hx hb hK hP 1 0 rfl rfl hi dX9_hatch_88 ?_
              refine lv_iadd hx hb dX9_hatch_89 ?_
              refine lv_istore (lv' := [(5, .int ((4 * p0) + (x_hatches p0.toNatClampNeg))), (0, .ref (bd 0)), (1, .int p0), (2, .int p1), (3, .int p2), (4, .int p3)]) hx hb dX9_hatch_90 hl (by decide) rfl (fun ls hl => ?_)
              refine lv_aload_n hx hb dX9_hatch_92 rfl (lv_at hl 1 rfl) ?_
              refine va_get (ci := 11) (v := .ref (bd 10)) (C := RX9) (T := TX9) (N := 47) hx hb hts inw_X9_hatch_X9 hown hK hP 0 rfl rfl 11 (by decide) (hts (.fieldLink RX9 37 "DockCallModel" "tons" "[I") (by decide +kernel)) (fun _ h9 => h9) rfl dX9_hatch_93 ?_
              refine lv_iload hx hb dX9_hatch_96 (lv_at hl 0 rfl) ?_
              refine lv_iload_n hx hb dX9_hatch_98 rfl (lv_at hl 3 rfl) ?_
              obtain ⟨hi, hw⟩ := hw
              refine va_iast hx hb hK hP hD hS 2 0 rfl rfl hi dX9_hatch_99 (fun H locs hP hD hS => ?_)
              have hP : va_P D vwCl [(ce_xm bd x_thrown_15 x_men x_ships x_entries x_rules x_calls x_gangs x_idle x_moved x_paid x_taped x_at x_end x_begin x_faultAt x_wants), ((bd 8), .inl (y 0, 10, .inl x_hatches)), ((bd 10), .inl (y 0, 40, .inl (upd x_tons ((4 * p0) + (x_hatches p0.toNatClampNeg)).toNatClampNeg p1))), ((bd 11), .inl (y 0, 40, .inl x_skill)), ((bd 12), .inl (y 2, 40, .inl x_isDry))] H := hP
              have hD : va_D A [(ce_xm bd x_thrown_15 x_men x_ships x_entries x_rules x_calls x_gangs x_idle x_moved x_paid x_taped x_at x_end x_begin x_faultAt x_wants), ((bd 8), .inl (y 0, 10, .inl x_hatches)), ((bd 10), .inl (y 0, 40, .inl (upd x_tons ((4 * p0) + (x_hatches p0.toNatClampNeg)).toNatClampNeg p1))), ((bd 11), .inl (y 0, 40, .inl x_skill)), ((bd 12), .inl (y 2, 40, .inl x_isDry))] := hD
              refine lv_aload_n hx hb dX9_hatch_100 rfl (lv_at hl 1 rfl) ?_
              refine va_get (ci := 11) (v := .ref (bd 11)) (C := RX9) (T := TX9) (N := 47) hx hb hts inw_X9_hatch_X9 hown hK hP 0 rfl rfl 12 (by decide) (hts (.fieldLink RX9 40 "DockCallModel" "skill" "[I") (by decide +kernel)) (fun _ h9 => h9) rfl dX9_hatch_101 ?_
              refine lv_iload hx hb dX9_hatch_104 (lv_at hl 0 rfl) ?_
              refine lv_iload_n hx hb dX9_hatch_106 rfl (lv_at hl 4 rfl) ?_
              obtain ⟨hi, hw⟩ := hw
              refine va_iast hx hb hK hP hD hS 3 0 rfl rfl hi dX9_hatch_107 (fun H locs hP hD hS => ?_)
              have hP : va_P D vwCl [(ce_xm bd x_thrown_15 x_men x_ships x_entries x_rules x_calls x_gangs x_idle x_moved x_paid x_taped x_at x_end x_begin x_faultAt x_wants), ((bd 8), .inl (y 0, 10, .inl x_hatches)), ((bd 10), .inl (y 0, 40, .inl (upd x_tons ((4 * p0) + (x_hatches p0.toNatClampNeg)).toNatClampNeg p1))), ((bd 11), .inl (y 0, 40, .inl (upd x_skill ((4 * p0) + (x_hatches p0.toNatClampNeg)).toNatClampNeg p2))), ((bd 12), .inl (y 2, 40, .inl x_isDry))] H := hP
              have hD : va_D A [(ce_xm bd x_thrown_15 x_men x_ships x_entries x_rules x_calls x_gangs x_idle x_moved x_paid x_taped x_at x_end x_begin x_faultAt x_wants), ((bd 8), .inl (y 0, 10, .inl x_hatches)), ((bd 10), .inl (y 0, 40, .inl (upd x_tons ((4 * p0) + (x_hatches p0.toNatClampNeg)).toNatClampNeg p1))), ((bd 11), .inl (y 0, 40, .inl (upd x_skill ((4 * p0) + (x_hatches p0.toNatClampNeg)).toNatClampNeg p2))), ((bd 12), .inl (y 2, 40, .inl x_isDry))] := hD
              refine lv_aload_n hx hb dX9_hatch_108 rfl (lv_at hl 1 rfl) ?_
              refine va_get (ci := 11) (v := .ref (bd 12)) (C := RX9) (T := TX9) (N := 47) hx hb hts inw_X9_hatch_X9 hown hK hP 0 rfl rfl 13 (by decide) (hts (.fieldLink RX9 43 "DockCallModel" "isDry" "[Z") (by decide +kernel)) (fun _ h9 => h9) rfl dX9_hatch_109 ?_
              refine lv_iload hx hb dX9_hatch_112 (lv_at hl 0 rfl) ?_
              refine lv_iload hx hb dX9_hatch_114 (lv_at hl 5 rfl) ?_
              obtain ⟨hi, hw⟩ := hw
              refine va_zast hx hb hK hP hD hS 4 2 rfl rfl hi dX9_hatch_116 (fun H locs hP hD hS => ?_)
              have hP : va_P D vwCl [(ce_xm bd x_thrown_15 x_men x_ships x_entries x_rules x_calls x_gangs x_idle x_moved x_paid x_taped x_at x_end x_begin x_faultAt x_wants), ((bd 8), .inl (y 0, 10, .inl x_hatches)), ((bd 10), .inl (y 0, 40, .inl (upd x_tons ((4 * p0) + (x_hatches p0.toNatClampNeg)).toNatClampNeg p1))), ((bd 11), .inl (y 0, 40, .inl (upd x_skill ((4 * p0) + (x_hatches p0.toNatClampNeg)).toNatClampNeg p2))), ((bd 12), .inl (y 2, 40, .inl (upd x_isDry ((4 * p0) + (x_hatches p0.toNatClampNeg)).toNatClampNeg (vp_nar .boolean p3))))] H := hP
              have hD : va_D A [(ce_xm bd x_thrown_15 x_men x_ships x_entries x_rules x_calls x_gangs x_idle x_moved x_paid x_taped x_at x_end x_begin x_faultAt x_wants), ((bd 8), .inl (y 0, 10, .inl x_hatches)), ((bd 10), .inl (y 0, 40, .inl (upd x_tons ((4 * p0) + (x_hatches p0.toNatClampNeg)).toNatClampNeg p1))), ((bd 11), .inl (y 0, 40, .inl (upd x_skill ((4 * p0) + (x_hatches p0.toNatClampNeg)).toNatClampNeg p2))), ((bd 12), .inl (y 2, 40, .inl (upd x_isDry ((4 * p0) + (x_hatches p0.toNatClampNeg)).toNatClampNeg (vp_nar .boolean p3))))] := hD
              refine lv_aload_n hx hb dX9_hatch_117 rfl (lv_at hl 1 rfl) ?_
              refine va_get (ci := 11) (v := .ref (bd 8)) (C := RX9) (T := TX9) (N := 47) hx hb hts inw_X9_hatch_X9 hown hK hP 0 rfl rfl 9 (by decide) (hts (.fieldLink RX9 31 "DockCallModel" "hatches" "[I") (by decide +kernel)) (fun _ h9 => h9) rfl dX9_hatch_118 ?_
              refine lv_iload_n hx hb dX9_hatch_121 rfl (lv_at hl 2 rfl) ?_
              refine lv_dup2_11 hx hb dX9_hatch_122 rfl rfl ?_
              obtain ⟨hi, hw⟩ := hw
              refine va_iald hx hb hK hP 1 0 rfl rfl hi dX9_hatch_123 ?_
              refine lv_iconst (v := 1) hx hb dX9_hatch_124 (by decide) ?_
              refine lv_iadd hx hb dX9_hatch_125 ?_
              obtain ⟨hi, hw⟩ := hw
              refine va_iast hx hb hK hP hD hS 1 0 rfl rfl hi dX9_hatch_126 (fun H locs hP hD hS => ?_)
              have hP : va_P D vwCl [(ce_xm bd x_thrown_15 x_men x_ships x_entries x_rules x_calls x_gangs x_idle x_moved x_paid x_taped x_at x_end x_begin x_faultAt x_wants), ((bd 8), .inl (y 0, 10, .inl (upd x_hatches p0.toNatClampNeg ((x_hatches p0.toNatClampNeg) + 1)))), ((bd 10), .inl (y 0, 40, .inl (upd x_tons ((4 * p0) + (x_hatches p0.toNatClampNeg)).toNatClampNeg p1))), ((bd 11), .inl (y 0, 40, .inl (upd x_skill ((4 * p0) + (x_hatches p0.toNatClampNeg)).toNatClampNeg p2))), ((bd 12), .inl (y 2, 40, .inl (upd x_isDry ((4 * p0) + (x_hatches p0.toNatClampNeg)).toNatClampNeg (vp_nar .boolean p3))))] H := hP
              have hD : va_D A [(ce_xm bd x_thrown_15 x_men x_ships x_entries x_rules x_calls x_gangs x_idle x_moved x_paid x_taped x_at x_end x_begin x_faultAt x_wants), ((bd 8), .inl (y 0, 10, .inl (upd x_hatches p0.toNatClampNeg ((x_hatches p0.toNatClampNeg) + 1)))), ((bd 10), .inl (y 0, 40, .inl (upd x_tons ((4 * p0) + (x_hatches p0.toNatClampNeg)).toNatClampNeg p1))), ((bd 11), .inl (y 0, 40, .inl (upd x_skill ((4 * p0) + (x_hatches p0.toNatClampNeg)).toNatClampNeg p2))), ((bd 12), .inl (y 2, 40, .inl (upd x_isDry ((4 * p0) + (x_hatches p0.toNatClampNeg)).toNatClampNeg (vp_nar .boolean p3))))] := hD
              refine lv_aload_n hx hb dX9_hatch_127 rfl (lv_at hl 1 rfl) ?_
              refine va_get (ci := 11) (v := .ref (bd 8)) (C := RX9) (T := TX9) (N := 47) hx hb hts inw_X9_hatch_X9 hown hK hP 0 rfl rfl 9 (by decide) (hts (.fieldLink RX9 31 "DockCallModel" "hatches" "[I") (by decide +kernel)) (fun _ h9 => h9) rfl dX9_hatch_128 ?_
              refine lv_iload_n hx hb dX9_hatch_131 rfl (lv_at hl 2 rfl) ?_
              obtain ⟨hi, hw⟩ := hw
              refine va_iald hx hb hK hP 1 0 rfl rfl hi dX9_hatch_132 ?_
              refine lv_iconst (v := 1) hx hb dX9_hatch_133 (by decide) ?_
              refine lv_isub hx hb dX9_hatch_134 ?_
              exact W.iret (v := ((upd x_hatches p0.toNatClampNeg ((x_hatches p0.toNatClampNeg) + 1)) p0.toNatClampNeg) - 1) hx hb hr (fun t ht hW => ⟨⟨((upd x_hatches p0.toNatClampNeg ((x_hatches p0.toNatClampNeg) + 1)) p0.toNatClampNeg) - 1, (x_thrown_15, upd x_hatches p0.toNatClampNeg ((x_hatches p0.toNatClampNeg) + 1), upd x_tons ((4 * p0) + (x_hatches p0.toNatClampNeg)).toNatClampNeg p1, upd x_skill ((4 * p0) + (x_hatches p0.toNatClampNeg)).toNatClampNeg p2, upd x_isDry ((4 * p0) + (x_hatches p0.toNatClampNeg)).toNatClampNeg (vp_nar .boolean p3)), rfl, hw, mAt.to hP hK hD ht hW⟩, hS.F ht⟩) hS.2.2 dX9_hatch_135
            · have hw := hw.2 hc
              refine lv_iconst (v := 0) hx hb dX9_hatch_78 (by decide) ?_
              exact W.iret (v := 0) hx hb hr (fun t ht hW => ⟨⟨0, (x_thrown_15, x_hatches, x_tons, x_skill, x_isDry), rfl, hw, mAt.to hP hK hD ht hW⟩, hS.F ht⟩) hS.2.2 dX9_hatch_79
          · have hw := hw.1 hc
            refine lv_iconst (v := 1) hx hb dX9_hatch_66 (by decide) ?_
            refine lv_goto (tgt := 71) hx hb dX9_hatch_67 (by decide) ?_
            refine lv_iconst (v := 3) hx hb dX9_hatch_71 (by decide) ?_
            refine mx_i (wc := [(ce_xm bd x_thrown_13 x_men x_ships x_entries x_rules x_calls x_gangs x_idle x_moved x_paid x_taped x_at x_end x_begin x_faultAt x_wants)]) (wr := [((bd 8), .inl (y 0, 10, .inl x_hatches)), ((bd 10), .inl (y 0, 40, .inl x_tons)), ((bd 11), .inl (y 0, 40, .inl x_skill)), ((bd 12), .inl (y 2, 40, .inl x_isDry))]) hP hD hS hA [0] [1, 2, 3, 4] [4, 0, 1, 2, 3] rfl rfl (by decide) (by decide) (by decide) (fun (u : Int32) => [(ce_xm bd u x_men x_ships x_entries x_rules x_calls x_gangs x_idle x_moved x_paid x_taped x_at x_end x_begin x_faultAt x_wants), ((bd 8), .inl (y 0, 10, .inl x_hatches)), ((bd 10), .inl (y 0, 40, .inl x_tons)), ((bd 11), .inl (y 0, 40, .inl x_skill)), ((bd 12), .inl (y 2, 40, .inl x_isDry))]) (fun _ => rfl) (va_runV (As := [.int 1, .int 3]) (rest := []) ⟨hx, hb, hml, hown, hts⟩ (c_Model_throwsIf l D y bd H.size x_thrown_13 x_men x_ships x_entries x_rules x_calls x_gangs x_idle x_moved x_paid x_taped x_at x_end x_begin x_faultAt x_wants 1 3 hw) (cwV 2 hts gX9_hatch_X9_throwsIf rfl rfl rfl (by decide +kernel) ⟨Nat.le_of_ble_eq_true rfl, Nat.le_of_ble_eq_true rfl⟩) ⟨mPre.blind, (va_recv hK hP (ci := 11) (q0 := 0) rfl rfl), mPre.to (hP.sub [0] rfl) hK (hD.sub [0] (by decide) rfl) hE⟩ rfl rfl hl.1 rfl (lv_room (Nat.le_of_ble_eq_true rfl)) dX9_hatch_72 ⟨Nat.le_of_ble_eq_true rfl, Nat.le_of_ble_eq_true rfl⟩) (fun r_16 u H locs hw hP hD hS => ?_)
            obtain ⟨x_thrown_17, rfl⟩ : ∃ z, z = u := ⟨_, rfl⟩
            try dsimp only at hw
            have hP : va_P D vwCl [(ce_xm bd x_thrown_17 x_men x_ships x_entries x_rules x_calls x_gangs x_idle x_moved x_paid x_taped x_at x_end x_begin x_faultAt x_wants), ((bd 8), .inl (y 0, 10, .inl x_hatches)), ((bd 10), .inl (y 0, 40, .inl x_tons)), ((bd 11), .inl (y 0, 40, .inl x_skill)), ((bd 12), .inl (y 2, 40, .inl x_isDry))] H := hP
            have hD : va_D A [(ce_xm bd x_thrown_17 x_men x_ships x_entries x_rules x_calls x_gangs x_idle x_moved x_paid x_taped x_at x_end x_begin x_faultAt x_wants), ((bd 8), .inl (y 0, 10, .inl x_hatches)), ((bd 10), .inl (y 0, 40, .inl x_tons)), ((bd 11), .inl (y 0, 40, .inl x_skill)), ((bd 12), .inl (y 2, 40, .inl x_isDry))] := hD
            refine lv_if_eq (tgt := 80) hx hb dX9_hatch_75 (by decide) (fun hc => ?_) (fun hc => ?_)
            · have hw := hw.1 hc
              refine lv_iconst (v := 4) hx hb dX9_hatch_80 (by decide) ?_
              refine lv_iload_n hx hb dX9_hatch_81 rfl (lv_at hl 1 rfl) ?_
              refine lv_imul hx hb dX9_hatch_82 ?_
              refine lv_aload_n hx hb dX9_hatch_83 rfl (lv_at hl 0 rfl) ?_
              refine va_get (ci := 11) (v := .ref (bd 8)) (C := RX9) (T := TX9) (N := 47) hx hb hts inw_X9_hatch_X9 hown hK hP 0 rfl rfl 9 (by decide) (hts (.fieldLink RX9 31 "DockCallModel" "hatches" "[I") (by decide +kernel)) (fun _ h9 => h9) rfl dX9_hatch_84 ?_
              refine lv_iload_n hx hb dX9_hatch_87 rfl (lv_at hl 1 rfl) ?_
              obtain ⟨hi, hw⟩ := hw
              refine va_iald hx hb hK hP 1 0 rfl rfl hi dX9_hatch_88 ?_
              refine lv_iadd hx hb dX9_hatch_89 ?_
              refine lv_istore (lv' := [(5, .int ((4 * p0) + (x_hatches p0.toNatClampNeg))), (0, .ref (bd 0)), (1, .int p0), (2, .int p1), (3, .int p2), (4, .int p3)]) hx hb dX9_hatch_90 hl (by decide) rfl (fun ls hl => ?_)
              refine lv_aload_n hx hb dX9_hatch_92 rfl (lv_at hl 1 rfl) ?_
              refine va_get (ci := 11) (v := .ref (bd 10)) (C := RX9) (T := TX9) (N := 47) hx hb hts inw_X9_hatch_X9 hown hK hP 0 rfl rfl 11 (by decide) (hts (.fieldLink RX9 37 "DockCallModel" "tons" "[I") (by decide +kernel)) (fun _ h9 => h9) rfl dX9_hatch_93 ?_
              refine lv_iload hx hb dX9_hatch_96 (lv_at hl 0 rfl) ?_
              refine lv_iload_n hx hb dX9_hatch_98 rfl (lv_at hl 3 rfl) ?_
              obtain ⟨hi, hw⟩ := hw
              refine va_iast hx hb hK hP hD hS 2 0 rfl rfl hi dX9_hatch_99 (fun H locs hP hD hS => ?_)
              have hP : va_P D vwCl [(ce_xm bd x_thrown_17 x_men x_ships x_entries x_rules x_calls x_gangs x_idle x_moved x_paid x_taped x_at x_end x_begin x_faultAt x_wants), ((bd 8), .inl (y 0, 10, .inl x_hatches)), ((bd 10), .inl (y 0, 40, .inl (upd x_tons ((4 * p0) + (x_hatches p0.toNatClampNeg)).toNatClampNeg p1))), ((bd 11), .inl (y 0, 40, .inl x_skill)), ((bd 12), .inl (y 2, 40, .inl x_isDry))] H := hP
              have hD : va_D A [(ce_xm bd x_thrown_17 x_men x_ships x_entries x_rules x_calls x_gangs x_idle x_moved x_paid x_taped x_at x_end x_begin x_faultAt x_wants), ((bd 8), .inl (y 0, 10, .inl x_hatches)), ((bd 10), .inl (y 0, 40, .inl (upd x_tons ((4 * p0) + (x_hatches p0.toNatClampNeg)).toNatClampNeg p1))), ((bd 11), .inl (y 0, 40, .inl x_skill)), ((bd 12), .inl (y 2, 40, .inl x_isDry))] := hD
              refine lv_aload_n hx hb dX9_hatch_100 rfl (lv_at hl 1 rfl) ?_
              refine va_get (ci := 11) (v := .ref (bd 11)) (C := RX9) (T := TX9) (N := 47) hx hb hts inw_X9_hatch_X9 hown hK hP 0 rfl rfl 12 (by decide) (hts (.fieldLink RX9 40 "DockCallModel" "skill" "[I") (by decide +kernel)) (fun _ h9 => h9) rfl dX9_hatch_101 ?_
              refine lv_iload hx hb dX9_hatch_104 (lv_at hl 0 rfl) ?_
              refine lv_iload_n hx hb dX9_hatch_106 rfl (lv_at hl 4 rfl) ?_
              obtain ⟨hi, hw⟩ := hw
              refine va_iast hx hb hK hP hD hS 3 0 rfl rfl hi dX9_hatch_107 (fun H locs hP hD hS => ?_)
              have hP : va_P D vwCl [(ce_xm bd x_thrown_17 x_men x_ships x_entries x_rules x_calls x_gangs x_idle x_moved x_paid x_taped x_at x_end x_begin x_faultAt x_wants), ((bd 8), .inl (y 0, 10, .inl x_hatches)), ((bd 10), .inl (y 0, 40, .inl (upd x_tons ((4 * p0) + (x_hatches p0.toNatClampNeg)).toNatClampNeg p1))), ((bd 11), .inl (y 0, 40, .inl (upd x_skill ((4 * p0) + (x_hatches p0.toNatClampNeg)).toNatClampNeg p2))), ((bd 12), .inl (y 2, 40, .inl x_isDry))] H := hP
              have hD : va_D A [(ce_xm bd x_thrown_17 x_men x_ships x_entries x_rules x_calls x_gangs x_idle x_moved x_paid x_taped x_at x_end x_begin x_faultAt x_wants), ((bd 8), .inl (y 0, 10, .inl x_hatches)), ((bd 10), .inl (y 0, 40, .inl (upd x_tons ((4 * p0) + (x_hatches p0.toNatClampNeg)).toNatClampNeg p1))), ((bd 11), .inl (y 0, 40, .inl (upd x_skill ((4 * p0) + (x_hatches p0.toNatClampNeg)).toNatClampNeg p2))), ((bd 12), .inl (y 2, 40, .inl x_isDry))] := hD
              refine lv_aload_n hx hb dX9_hatch_108 rfl (lv_at hl 1 rfl) ?_
              refine va_get (ci := 11) (v := .ref (bd 12)) (C := RX9) (T := TX9) (N := 47) hx hb hts inw_X9_hatch_X9 hown hK hP 0 rfl rfl 13 (by decide) (hts (.fieldLink RX9 43 "DockCallModel" "isDry" "[Z") (by decide +kernel)) (fun _ h9 => h9) rfl dX9_hatch_109 ?_
              refine lv_iload hx hb dX9_hatch_112 (lv_at hl 0 rfl) ?_
              refine lv_iload hx hb dX9_hatch_114 (lv_at hl 5 rfl) ?_
              obtain ⟨hi, hw⟩ := hw
              refine va_zast hx hb hK hP hD hS 4 2 rfl rfl hi dX9_hatch_116 (fun H locs hP hD hS => ?_)
              have hP : va_P D vwCl [(ce_xm bd x_thrown_17 x_men x_ships x_entries x_rules x_calls x_gangs x_idle x_moved x_paid x_taped x_at x_end x_begin x_faultAt x_wants), ((bd 8), .inl (y 0, 10, .inl x_hatches)), ((bd 10), .inl (y 0, 40, .inl (upd x_tons ((4 * p0) + (x_hatches p0.toNatClampNeg)).toNatClampNeg p1))), ((bd 11), .inl (y 0, 40, .inl (upd x_skill ((4 * p0) + (x_hatches p0.toNatClampNeg)).toNatClampNeg p2))), ((bd 12), .inl (y 2, 40, .inl (upd x_isDry ((4 * p0) + (x_hatches p0.toNatClampNeg)).toNatClampNeg (vp_nar .boolean p3))))] H := hP
              have hD : va_D A [(ce_xm bd x_thrown_17 x_men x_ships x_entries x_rules x_calls x_gangs x_idle x_moved x_paid x_taped x_at x_end x_begin x_faultAt x_wants), ((bd 8), .inl (y 0, 10, .inl x_hatches)), ((bd 10), .inl (y 0, 40, .inl (upd x_tons ((4 * p0) + (x_hatches p0.toNatClampNeg)).toNatClampNeg p1))), ((bd 11), .inl (y 0, 40, .inl (upd x_skill ((4 * p0) + (x_hatches p0.toNatClampNeg)).toNatClampNeg p2))), ((bd 12), .inl (y 2, 40, .inl (upd x_isDry ((4 * p0) + (x_hatches p0.toNatClampNeg)).toNatClampNeg (vp_nar .boolean p3))))] := hD
              refine lv_aload_n hx hb dX9_hatch_117 rfl (lv_at hl 1 rfl) ?_
              refine va_get (ci := 11) (v := .ref (bd 8)) (C := RX9) (T := TX9) (N := 47) hx hb hts inw_X9_hatch_X9 hown hK hP 0 rfl rfl 9 (by decide) (hts (.fieldLink RX9 31 "DockCallModel" "hatches" "[I") (by decide +kernel)) (fun _ h9 => h9) rfl dX9_hatch_118 ?_
              refine lv_iload_n hx hb dX9_hatch_121 rfl (lv_at hl 2 rfl) ?_
              refine lv_dup2_11 hx hb dX9_hatch_122 rfl rfl ?_
              obtain ⟨hi, hw⟩ := hw
              refine va_iald hx hb hK hP 1 0 rfl rfl hi dX9_hatch_123 ?_
              refine lv_iconst (v := 1) hx hb dX9_hatch_124 (by decide) ?_
              refine lv_iadd hx hb dX9_hatch_125 ?_
              obtain ⟨hi, hw⟩ := hw
              refine va_iast hx hb hK hP hD hS 1 0 rfl rfl hi dX9_hatch_126 (fun H locs hP hD hS => ?_)
              have hP : va_P D vwCl [(ce_xm bd x_thrown_17 x_men x_ships x_entries x_rules x_calls x_gangs x_idle x_moved x_paid x_taped x_at x_end x_begin x_faultAt x_wants), ((bd 8), .inl (y 0, 10, .inl (upd x_hatches p0.toNatClampNeg ((x_hatches p0.toNatClampNeg) + 1)))), ((bd 10), .inl (y 0, 40, .inl (upd x_tons ((4 * p0) + (x_hatches p0.toNatClampNeg)).toNatClampNeg p1))), ((bd 11), .inl (y 0, 40, .inl (upd x_skill ((4 * p0) + (x_hatches p0.toNatClampNeg)).toNatClampNeg p2))), ((bd 12), .inl (y 2, 40, .inl (upd x_isDry ((4 * p0) + (x_hatches p0.toNatClampNeg)).toNatClampNeg (vp_nar .boolean p3))))] H := hP
              have hD : va_D A [(ce_xm bd x_thrown_17 x_men x_ships x_entries x_rules x_calls x_gangs x_idle x_moved x_paid x_taped x_at x_end x_begin x_faultAt x_wants), ((bd 8), .inl (y 0, 10, .inl (upd x_hatches p0.toNatClampNeg ((x_hatches p0.toNatClampNeg) + 1)))), ((bd 10), .inl (y 0, 40, .inl (upd x_tons ((4 * p0) + (x_hatches p0.toNatClampNeg)).toNatClampNeg p1))), ((bd 11), .inl (y 0, 40, .inl (upd x_skill ((4 * p0) + (x_hatches p0.toNatClampNeg)).toNatClampNeg p2))), ((bd 12), .inl (y 2, 40, .inl (upd x_isDry ((4 * p0) + (x_hatches p0.toNatClampNeg)).toNatClampNeg (vp_nar .boolean p3))))] := hD
              refine lv_aload_n hx hb dX9_hatch_127 rfl (lv_at hl 1 rfl) ?_
              refine va_get (ci := 11) (v := .ref (bd 8)) (C := RX9) (T := TX9) (N := 47) hx hb hts inw_X9_hatch_X9 hown hK hP 0 rfl rfl 9 (by decide) (hts (.fieldLink RX9 31 "DockCallModel" "hatches" "[I") (by decide +kernel)) (fun _ h9 => h9) rfl dX9_hatch_128 ?_
              refine lv_iload_n hx hb dX9_hatch_131 rfl (lv_at hl 2 rfl) ?_
              obtain ⟨hi, hw⟩ := hw
              refine va_iald hx hb hK hP 1 0 rfl rfl hi dX9_hatch_132 ?_
              refine lv_iconst (v := 1) hx hb dX9_hatch_133 (by decide) ?_
              refine lv_isub hx hb dX9_hatch_134 ?_
              exact W.iret (v := ((upd x_hatches p0.toNatClampNeg ((x_hatches p0.toNatClampNeg) + 1)) p0.toNatClampNeg) - 1) hx hb hr (fun t ht hW => ⟨⟨((upd x_hatches p0.toNatClampNeg ((x_hatches p0.toNatClampNeg) + 1)) p0.toNatClampNeg) - 1, (x_thrown_17, upd x_hatches p0.toNatClampNeg ((x_hatches p0.toNatClampNeg) + 1), upd x_tons ((4 * p0) + (x_hatches p0.toNatClampNeg)).toNatClampNeg p1, upd x_skill ((4 * p0) + (x_hatches p0.toNatClampNeg)).toNatClampNeg p2, upd x_isDry ((4 * p0) + (x_hatches p0.toNatClampNeg)).toNatClampNeg (vp_nar .boolean p3)), rfl, hw, mAt.to hP hK hD ht hW⟩, hS.F ht⟩) hS.2.2 dX9_hatch_135
            · have hw := hw.2 hc
              refine lv_iconst (v := 0) hx hb dX9_hatch_78 (by decide) ?_
              exact W.iret (v := 0) hx hb hr (fun t ht hW => ⟨⟨0, (x_thrown_17, x_hatches, x_tons, x_skill, x_isDry), rfl, hw, mAt.to hP hK hD ht hW⟩, hS.F ht⟩) hS.2.2 dX9_hatch_79
      · have hw := hw.1 hc
        refine lv_iconst (v := 1) hx hb dX9_hatch_43 (by decide) ?_
        refine lv_goto (tgt := 48) hx hb dX9_hatch_44 (by decide) ?_
        refine lv_iconst (v := 2) hx hb dX9_hatch_48 (by decide) ?_
        refine mx_i (wc := [(ce_xm bd x_thrown_3 x_men x_ships x_entries x_rules x_calls x_gangs x_idle x_moved x_paid x_taped x_at x_end x_begin x_faultAt x_wants)]) (wr := [((bd 8), .inl (y 0, 10, .inl x_hatches)), ((bd 10), .inl (y 0, 40, .inl x_tons)), ((bd 11), .inl (y 0, 40, .inl x_skill)), ((bd 12), .inl (y 2, 40, .inl x_isDry))]) hP hD hS hA [0] [1, 2, 3, 4] [4, 0, 1, 2, 3] rfl rfl (by decide) (by decide) (by decide) (fun (u : Int32) => [(ce_xm bd u x_men x_ships x_entries x_rules x_calls x_gangs x_idle x_moved x_paid x_taped x_at x_end x_begin x_faultAt x_wants), ((bd 8), .inl (y 0, 10, .inl x_hatches)), ((bd 10), .inl (y 0, 40, .inl x_tons)), ((bd 11), .inl (y 0, 40, .inl x_skill)), ((bd 12), .inl (y 2, 40, .inl x_isDry))]) (fun _ => rfl) (va_runV (As := [.int 1, .int 2]) (rest := []) ⟨hx, hb, hml, hown, hts⟩ (c_Model_throwsIf l D y bd H.size x_thrown_3 x_men x_ships x_entries x_rules x_calls x_gangs x_idle x_moved x_paid x_taped x_at x_end x_begin x_faultAt x_wants 1 2 hw) (cwV 2 hts gX9_hatch_X9_throwsIf rfl rfl rfl (by decide +kernel) ⟨Nat.le_of_ble_eq_true rfl, Nat.le_of_ble_eq_true rfl⟩) ⟨mPre.blind, (va_recv hK hP (ci := 11) (q0 := 0) rfl rfl), mPre.to (hP.sub [0] rfl) hK (hD.sub [0] (by decide) rfl) hE⟩ rfl rfl hl.1 rfl (lv_room (Nat.le_of_ble_eq_true rfl)) dX9_hatch_49 ⟨Nat.le_of_ble_eq_true rfl, Nat.le_of_ble_eq_true rfl⟩) (fun r_18 u H locs hw hP hD hS => ?_)
        obtain ⟨x_thrown_19, rfl⟩ : ∃ z, z = u := ⟨_, rfl⟩
        try dsimp only at hw
        have hP : va_P D vwCl [(ce_xm bd x_thrown_19 x_men x_ships x_entries x_rules x_calls x_gangs x_idle x_moved x_paid x_taped x_at x_end x_begin x_faultAt x_wants), ((bd 8), .inl (y 0, 10, .inl x_hatches)), ((bd 10), .inl (y 0, 40, .inl x_tons)), ((bd 11), .inl (y 0, 40, .inl x_skill)), ((bd 12), .inl (y 2, 40, .inl x_isDry))] H := hP
        have hD : va_D A [(ce_xm bd x_thrown_19 x_men x_ships x_entries x_rules x_calls x_gangs x_idle x_moved x_paid x_taped x_at x_end x_begin x_faultAt x_wants), ((bd 8), .inl (y 0, 10, .inl x_hatches)), ((bd 10), .inl (y 0, 40, .inl x_tons)), ((bd 11), .inl (y 0, 40, .inl x_skill)), ((bd 12), .inl (y 2, 40, .inl x_isDry))] := hD
        refine lv_if_ne (tgt := 78) hx hb dX9_hatch_52 (by decide) (fun hc => ?_) (fun hc => ?_)
        · have hw := hw.2 hc
          refine lv_iconst (v := 0) hx hb dX9_hatch_78 (by decide) ?_
          exact W.iret (v := 0) hx hb hr (fun t ht hW => ⟨⟨0, (x_thrown_19, x_hatches, x_tons, x_skill, x_isDry), rfl, hw, mAt.to hP hK hD ht hW⟩, hS.F ht⟩) hS.2.2 dX9_hatch_79
        · have hw := hw.1 hc
          refine lv_aload_n hx hb dX9_hatch_55 rfl (lv_at hl 0 rfl) ?_
          refine lv_aload_n hx hb dX9_hatch_56 rfl (lv_at hl 0 rfl) ?_
          refine va_get (ci := 11) (v := .ref (bd 8)) (C := RX9) (T := TX9) (N := 47) hx hb hts inw_X9_hatch_X9 hown hK hP 0 rfl rfl 9 (by decide) (hts (.fieldLink RX9 31 "DockCallModel" "hatches" "[I") (by decide +kernel)) (fun _ h9 => h9) rfl dX9_hatch_57 ?_
          refine lv_iload_n hx hb dX9_hatch_60 rfl (lv_at hl 1 rfl) ?_
          obtain ⟨hi, hw⟩ := hw
          refine va_iald hx hb hK hP 1 0 rfl rfl hi dX9_hatch_61 ?_
          refine lv_iconst (v := 4) hx hb dX9_hatch_62 (by decide) ?_
          refine lv_icmp_ne (tgt := 70) hx hb dX9_hatch_63 (by decide) (fun hc => ?_) (fun hc => ?_)
          · have hw := hw.2 hc
            refine lv_iconst (v := 0) hx hb dX9_hatch_70 (by decide) ?_
            refine lv_iconst (v := 3) hx hb dX9_hatch_71 (by decide) ?_
            refine mx_i (wc := [(ce_xm bd x_thrown_19 x_men x_ships x_entries x_rules x_calls x_gangs x_idle x_moved x_paid x_taped x_at x_end x_begin x_faultAt x_wants)]) (wr := [((bd 8), .inl (y 0, 10, .inl x_hatches)), ((bd 10), .inl (y 0, 40, .inl x_tons)), ((bd 11), .inl (y 0, 40, .inl x_skill)), ((bd 12), .inl (y 2, 40, .inl x_isDry))]) hP hD hS hA [0] [1, 2, 3, 4] [4, 0, 1, 2, 3] rfl rfl (by decide) (by decide) (by decide) (fun (u : Int32) => [(ce_xm bd u x_men x_ships x_entries x_rules x_calls x_gangs x_idle x_moved x_paid x_taped x_at x_end x_begin x_faultAt x_wants), ((bd 8), .inl (y 0, 10, .inl x_hatches)), ((bd 10), .inl (y 0, 40, .inl x_tons)), ((bd 11), .inl (y 0, 40, .inl x_skill)), ((bd 12), .inl (y 2, 40, .inl x_isDry))]) (fun _ => rfl) (va_runV (As := [.int 0, .int 3]) (rest := []) ⟨hx, hb, hml, hown, hts⟩ (c_Model_throwsIf l D y bd H.size x_thrown_19 x_men x_ships x_entries x_rules x_calls x_gangs x_idle x_moved x_paid x_taped x_at x_end x_begin x_faultAt x_wants 0 3 hw) (cwV 2 hts gX9_hatch_X9_throwsIf rfl rfl rfl (by decide +kernel) ⟨Nat.le_of_ble_eq_true rfl, Nat.le_of_ble_eq_true rfl⟩) ⟨mPre.blind, (va_recv hK hP (ci := 11) (q0 := 0) rfl rfl), mPre.to (hP.sub [0] rfl) hK (hD.sub [0] (by decide) rfl) hE⟩ rfl rfl hl.1 rfl (lv_room (Nat.le_of_ble_eq_true rfl)) dX9_hatch_72 ⟨Nat.le_of_ble_eq_true rfl, Nat.le_of_ble_eq_true rfl⟩) (fun r_20 u H locs hw hP hD hS => ?_)
            obtain ⟨x_thrown_21, rfl⟩ : ∃ z, z = u := ⟨_, rfl⟩
            try dsimp only at hw
            have hP : va_P D vwCl [(ce_xm bd x_thrown_21 x_men x_ships x_entries x_rules x_calls x_gangs x_idle x_moved x_paid x_taped x_at x_end x_begin x_faultAt x_wants), ((bd 8), .inl (y 0, 10, .inl x_hatches)), ((bd 10), .inl (y 0, 40, .inl x_tons)), ((bd 11), .inl (y 0, 40, .inl x_skill)), ((bd 12), .inl (y 2, 40, .inl x_isDry))] H := hP
            have hD : va_D A [(ce_xm bd x_thrown_21 x_men x_ships x_entries x_rules x_calls x_gangs x_idle x_moved x_paid x_taped x_at x_end x_begin x_faultAt x_wants), ((bd 8), .inl (y 0, 10, .inl x_hatches)), ((bd 10), .inl (y 0, 40, .inl x_tons)), ((bd 11), .inl (y 0, 40, .inl x_skill)), ((bd 12), .inl (y 2, 40, .inl x_isDry))] := hD
            refine lv_if_eq (tgt := 80) hx hb dX9_hatch_75 (by decide) (fun hc => ?_) (fun hc => ?_)
            · have hw := hw.1 hc
              refine lv_iconst (v := 4) hx hb dX9_hatch_80 (by decide) ?_
              refine lv_iload_n hx hb dX9_hatch_81 rfl (lv_at hl 1 rfl) ?_
              refine lv_imul hx hb dX9_hatch_82 ?_
              refine lv_aload_n hx hb dX9_hatch_83 rfl (lv_at hl 0 rfl) ?_
              refine va_get (ci := 11) (v := .ref (bd 8)) (C := RX9) (T := TX9) (N := 47) hx hb hts inw_X9_hatch_X9 hown hK hP 0 rfl rfl 9 (by decide) (hts (.fieldLink RX9 31 "DockCallModel" "hatches" "[I") (by decide +kernel)) (fun _ h9 => h9) rfl dX9_hatch_84 ?_
              refine lv_iload_n hx hb dX9_hatch_87 rfl (lv_at hl 1 rfl) ?_
              obtain ⟨hi, hw⟩ := hw
              refine va_iald hx hb hK hP 1 0 rfl rfl hi dX9_hatch_88 ?_
              refine lv_iadd hx hb dX9_hatch_89 ?_
              refine lv_istore (lv' := [(5, .int ((4 * p0) + (x_hatches p0.toNatClampNeg))), (0, .ref (bd 0)), (1, .int p0), (2, .int p1), (3, .int p2), (4, .int p3)]) hx hb dX9_hatch_90 hl (by decide) rfl (fun ls hl => ?_)
              refine lv_aload_n hx hb dX9_hatch_92 rfl (lv_at hl 1 rfl) ?_
              refine va_get (ci := 11) (v := .ref (bd 10)) (C := RX9) (T := TX9) (N := 47) hx hb hts inw_X9_hatch_X9 hown hK hP 0 rfl rfl 11 (by decide) (hts (.fieldLink RX9 37 "DockCallModel" "tons" "[I") (by decide +kernel)) (fun _ h9 => h9) rfl dX9_hatch_93 ?_
              refine lv_iload hx hb dX9_hatch_96 (lv_at hl 0 rfl) ?_
              refine lv_iload_n hx hb dX9_hatch_98 rfl (lv_at hl 3 rfl) ?_
              obtain ⟨hi, hw⟩ := hw
              refine va_iast hx hb hK hP hD hS 2 0 rfl rfl hi dX9_hatch_99 (fun H locs hP hD hS => ?_)
              have hP : va_P D vwCl [(ce_xm bd x_thrown_21 x_men x_ships x_entries x_rules x_calls x_gangs x_idle x_moved x_paid x_taped x_at x_end x_begin x_faultAt x_wants), ((bd 8), .inl (y 0, 10, .inl x_hatches)), ((bd 10), .inl (y 0, 40, .inl (upd x_tons ((4 * p0) + (x_hatches p0.toNatClampNeg)).toNatClampNeg p1))), ((bd 11), .inl (y 0, 40, .inl x_skill)), ((bd 12), .inl (y 2, 40, .inl x_isDry))] H := hP
              have hD : va_D A [(ce_xm bd x_thrown_21 x_men x_ships x_entries x_rules x_calls x_gangs x_idle x_moved x_paid x_taped x_at x_end x_begin x_faultAt x_wants), ((bd 8), .inl (y 0, 10, .inl x_hatches)), ((bd 10), .inl (y 0, 40, .inl (upd x_tons ((4 * p0) + (x_hatches p0.toNatClampNeg)).toNatClampNeg p1))), ((bd 11), .inl (y 0, 40, .inl x_skill)), ((bd 12), .inl (y 2, 40, .inl x_isDry))] := hD
              refine lv_aload_n hx hb dX9_hatch_100 rfl (lv_at hl 1 rfl) ?_
              refine va_get (ci := 11) (v := .ref (bd 11)) (C := RX9) (T := TX9) (N := 47) hx hb hts inw_X9_hatch_X9 hown hK hP 0 rfl rfl 12 (by decide) (hts (.fieldLink RX9 40 "DockCallModel" "skill" "[I") (by decide +kernel)) (fun _ h9 => h9) rfl dX9_hatch_101 ?_
              refine lv_iload hx hb dX9_hatch_104 (lv_at hl 0 rfl) ?_
              refine lv_iload_n hx hb dX9_hatch_106 rfl (lv_at hl 4 rfl) ?_
              obtain ⟨hi, hw⟩ := hw
              refine va_iast hx hb hK hP hD hS 3 0 rfl rfl hi dX9_hatch_107 (fun H locs hP hD hS => ?_)
              have hP : va_P D vwCl [(ce_xm bd x_thrown_21 x_men x_ships x_entries x_rules x_calls x_gangs x_idle x_moved x_paid x_taped x_at x_end x_begin x_faultAt x_wants), ((bd 8), .inl (y 0, 10, .inl x_hatches)), ((bd 10), .inl (y 0, 40, .inl (upd x_tons ((4 * p0) + (x_hatches p0.toNatClampNeg)).toNatClampNeg p1))), ((bd 11), .inl (y 0, 40, .inl (upd x_skill ((4 * p0) + (x_hatches p0.toNatClampNeg)).toNatClampNeg p2))), ((bd 12), .inl (y 2, 40, .inl x_isDry))] H := hP
              have hD : va_D A [(ce_xm bd x_thrown_21 x_men x_ships x_entries x_rules x_calls x_gangs x_idle x_moved x_paid x_taped x_at x_end x_begin x_faultAt x_wants), ((bd 8), .inl (y 0, 10, .inl x_hatches)), ((bd 10), .inl (y 0, 40, .inl (upd x_tons ((4 * p0) + (x_hatches p0.toNatClampNeg)).toNatClampNeg p1))), ((bd 11), .inl (y 0, 40, .inl (upd x_skill ((4 * p0) + (x_hatches p0.toNatClampNeg)).toNatClampNeg p2))), ((bd 12), .inl (y 2, 40, .inl x_isDry))] := hD
              refine lv_aload_n hx hb dX9_hatch_108 rfl (lv_at hl 1 rfl) ?_
              refine va_get (ci := 11) (v := .ref (bd 12)) (C := RX9) (T := TX9) (N := 47) hx hb hts inw_X9_hatch_X9 hown hK hP 0 rfl rfl 13 (by decide) (hts (.fieldLink RX9 43 "DockCallModel" "isDry" "[Z") (by decide +kernel)) (fun _ h9 => h9) rfl dX9_hatch_109 ?_
              refine lv_iload hx hb dX9_hatch_112 (lv_at hl 0 rfl) ?_
              refine lv_iload hx hb dX9_hatch_114 (lv_at hl 5 rfl) ?_
              obtain ⟨hi, hw⟩ := hw
              refine va_zast hx hb hK hP hD hS 4 2 rfl rfl hi dX9_hatch_116 (fun H locs hP hD hS => ?_)
              have hP : va_P D vwCl [(ce_xm bd x_thrown_21 x_men x_ships x_entries x_rules x_calls x_gangs x_idle x_moved x_paid x_taped x_at x_end x_begin x_faultAt x_wants), ((bd 8), .inl (y 0, 10, .inl x_hatches)), ((bd 10), .inl (y 0, 40, .inl (upd x_tons ((4 * p0) + (x_hatches p0.toNatClampNeg)).toNatClampNeg p1))), ((bd 11), .inl (y 0, 40, .inl (upd x_skill ((4 * p0) + (x_hatches p0.toNatClampNeg)).toNatClampNeg p2))), ((bd 12), .inl (y 2, 40, .inl (upd x_isDry ((4 * p0) + (x_hatches p0.toNatClampNeg)).toNatClampNeg (vp_nar .boolean p3))))] H := hP
              have hD : va_D A [(ce_xm bd x_thrown_21 x_men x_ships x_entries x_rules x_calls x_gangs x_idle x_moved x_paid x_taped x_at x_end x_begin x_faultAt x_wants), ((bd 8), .inl (y 0, 10, .inl x_hatches)), ((bd 10), .inl (y 0, 40, .inl (upd x_tons ((4 * p0) + (x_hatches p0.toNatClampNeg)).toNatClampNeg p1))), ((bd 11), .inl (y 0, 40, .inl (upd x_skill ((4 * p0) + (x_hatches p0.toNatClampNeg)).toNatClampNeg p2))), ((bd 12), .inl (y 2, 40, .inl (upd x_isDry ((4 * p0) + (x_hatches p0.toNatClampNeg)).toNatClampNeg (vp_nar .boolean p3))))] := hD
              refine lv_aload_n hx hb dX9_hatch_117 rfl (lv_at hl 1 rfl) ?_
              refine va_get (ci := 11) (v := .ref (bd 8)) (C := RX9) (T := TX9) (N := 47) hx hb hts inw_X9_hatch_X9 hown hK hP 0 rfl rfl 9 (by decide) (hts (.fieldLink RX9 31 "DockCallModel" "hatches" "[I") (by decide +kernel)) (fun _ h9 => h9) rfl dX9_hatch_118 ?_
              refine lv_iload_n hx hb dX9_hatch_121 rfl (lv_at hl 2 rfl) ?_
              refine lv_dup2_11 hx hb dX9_hatch_122 rfl rfl ?_
              obtain ⟨hi, hw⟩ := hw
              refine va_iald hx hb hK hP 1 0 rfl rfl hi dX9_hatch_123 ?_
              refine lv_iconst (v := 1) hx hb dX9_hatch_124 (by decide) ?_
              refine lv_iadd hx hb dX9_hatch_125 ?_
              obtain ⟨hi, hw⟩ := hw
              refine va_iast hx hb hK hP hD hS 1 0 rfl rfl hi dX9_hatch_126 (fun H locs hP hD hS => ?_)
              have hP : va_P D vwCl [(ce_xm bd x_thrown_21 x_men x_ships x_entries x_rules x_calls x_gangs x_idle x_moved x_paid x_taped x_at x_end x_begin x_faultAt x_wants), ((bd 8), .inl (y 0, 10, .inl (upd x_hatches p0.toNatClampNeg ((x_hatches p0.toNatClampNeg) + 1)))), ((bd 10), .inl (y 0, 40, .inl (upd x_tons ((4 * p0) + (x_hatches p0.toNatClampNeg)).toNatClampNeg p1))), ((bd 11), .inl (y 0, 40, .inl (upd x_skill ((4 * p0) + (x_hatches p0.toNatClampNeg)).toNatClampNeg p2))), ((bd 12), .inl (y 2, 40, .inl (upd x_isDry ((4 * p0) + (x_hatches p0.toNatClampNeg)).toNatClampNeg (vp_nar .boolean p3))))] H := hP
              have hD : va_D A [(ce_xm bd x_thrown_21 x_men x_ships x_entries x_rules x_calls x_gangs x_idle x_moved x_paid x_taped x_at x_end x_begin x_faultAt x_wants), ((bd 8), .inl (y 0, 10, .inl (upd x_hatches p0.toNatClampNeg ((x_hatches p0.toNatClampNeg) + 1)))), ((bd 10), .inl (y 0, 40, .inl (upd x_tons ((4 * p0) + (x_hatches p0.toNatClampNeg)).toNatClampNeg p1))), ((bd 11), .inl (y 0, 40, .inl (upd x_skill ((4 * p0) + (x_hatches p0.toNatClampNeg)).toNatClampNeg p2))), ((bd 12), .inl (y 2, 40, .inl (upd x_isDry ((4 * p0) + (x_hatches p0.toNatClampNeg)).toNatClampNeg (vp_nar .boolean p3))))] := hD
              refine lv_aload_n hx hb dX9_hatch_127 rfl (lv_at hl 1 rfl) ?_
              refine va_get (ci := 11) (v := .ref (bd 8)) (C := RX9) (T := TX9) (N := 47) hx hb hts inw_X9_hatch_X9 hown hK hP 0 rfl rfl 9 (by decide) (hts (.fieldLink RX9 31 "DockCallModel" "hatches" "[I") (by decide +kernel)) (fun _ h9 => h9) rfl dX9_hatch_128 ?_
              refine lv_iload_n hx hb dX9_hatch_131 rfl (lv_at hl 2 rfl) ?_
              obtain ⟨hi, hw⟩ := hw
              refine va_iald hx hb hK hP 1 0 rfl rfl hi dX9_hatch_132 ?_
              refine lv_iconst (v := 1) hx hb dX9_hatch_133 (by decide) ?_
              refine lv_isub hx hb dX9_hatch_134 ?_
              exact W.iret (v := ((upd x_hatches p0.toNatClampNeg ((x_hatches p0.toNatClampNeg) + 1)) p0.toNatClampNeg) - 1) hx hb hr (fun t ht hW => ⟨⟨((upd x_hatches p0.toNatClampNeg ((x_hatches p0.toNatClampNeg) + 1)) p0.toNatClampNeg) - 1, (x_thrown_21, upd x_hatches p0.toNatClampNeg ((x_hatches p0.toNatClampNeg) + 1), upd x_tons ((4 * p0) + (x_hatches p0.toNatClampNeg)).toNatClampNeg p1, upd x_skill ((4 * p0) + (x_hatches p0.toNatClampNeg)).toNatClampNeg p2, upd x_isDry ((4 * p0) + (x_hatches p0.toNatClampNeg)).toNatClampNeg (vp_nar .boolean p3)), rfl, hw, mAt.to hP hK hD ht hW⟩, hS.F ht⟩) hS.2.2 dX9_hatch_135
            · have hw := hw.2 hc
              refine lv_iconst (v := 0) hx hb dX9_hatch_78 (by decide) ?_
              exact W.iret (v := 0) hx hb hr (fun t ht hW => ⟨⟨0, (x_thrown_21, x_hatches, x_tons, x_skill, x_isDry), rfl, hw, mAt.to hP hK hD ht hW⟩, hS.F ht⟩) hS.2.2 dX9_hatch_79
          · have hw := hw.1 hc
            refine lv_iconst (v := 1) hx hb dX9_hatch_66 (by decide) ?_
            refine lv_goto (tgt := 71) hx hb dX9_hatch_67 (by decide) ?_
            refine lv_iconst (v := 3) hx hb dX9_hatch_71 (by decide) ?_
            refine mx_i (wc := [(ce_xm bd x_thrown_19 x_men x_ships x_entries x_rules x_calls x_gangs x_idle x_moved x_paid x_taped x_at x_end x_begin x_faultAt x_wants)]) (wr := [((bd 8), .inl (y 0, 10, .inl x_hatches)), ((bd 10), .inl (y 0, 40, .inl x_tons)), ((bd 11), .inl (y 0, 40, .inl x_skill)), ((bd 12), .inl (y 2, 40, .inl x_isDry))]) hP hD hS hA [0] [1, 2, 3, 4] [4, 0, 1, 2, 3] rfl rfl (by decide) (by decide) (by decide) (fun (u : Int32) => [(ce_xm bd u x_men x_ships x_entries x_rules x_calls x_gangs x_idle x_moved x_paid x_taped x_at x_end x_begin x_faultAt x_wants), ((bd 8), .inl (y 0, 10, .inl x_hatches)), ((bd 10), .inl (y 0, 40, .inl x_tons)), ((bd 11), .inl (y 0, 40, .inl x_skill)), ((bd 12), .inl (y 2, 40, .inl x_isDry))]) (fun _ => rfl) (va_runV (As := [.int 1, .int 3]) (rest := []) ⟨hx, hb, hml, hown, hts⟩ (c_Model_throwsIf l D y bd H.size x_thrown_19 x_men x_ships x_entries x_rules x_calls x_gangs x_idle x_moved x_paid x_taped x_at x_end x_begin x_faultAt x_wants 1 3 hw) (cwV 2 hts gX9_hatch_X9_throwsIf rfl rfl rfl (by decide +kernel) ⟨Nat.le_of_ble_eq_true rfl, Nat.le_of_ble_eq_true rfl⟩) ⟨mPre.blind, (va_recv hK hP (ci := 11) (q0 := 0) rfl rfl), mPre.to (hP.sub [0] rfl) hK (hD.sub [0] (by decide) rfl) hE⟩ rfl rfl hl.1 rfl (lv_room (Nat.le_of_ble_eq_true rfl)) dX9_hatch_72 ⟨Nat.le_of_ble_eq_true rfl, Nat.le_of_ble_eq_true rfl⟩) (fun r_22 u H locs hw hP hD hS => ?_)
            obtain ⟨x_thrown_23, rfl⟩ : ∃ z, z = u := ⟨_, rfl⟩
            try dsimp only at hw
            have hP : va_P D vwCl [(ce_xm bd x_thrown_23 x_men x_ships x_entries x_rules x_calls x_gangs x_idle x_moved x_paid x_taped x_at x_end x_begin x_faultAt x_wants), ((bd 8), .inl (y 0, 10, .inl x_hatches)), ((bd 10), .inl (y 0, 40, .inl x_tons)), ((bd 11), .inl (y 0, 40, .inl x_skill)), ((bd 12), .inl (y 2, 40, .inl x_isDry))] H := hP
            have hD : va_D A [(ce_xm bd x_thrown_23 x_men x_ships x_entries x_rules x_calls x_gangs x_idle x_moved x_paid x_taped x_at x_end x_begin x_faultAt x_wants), ((bd 8), .inl (y 0, 10, .inl x_hatches)), ((bd 10), .inl (y 0, 40, .inl x_tons)), ((bd 11), .inl (y 0, 40, .inl x_skill)), ((bd 12), .inl (y 2, 40, .inl x_isDry))] := hD
            refine lv_if_eq (tgt := 80) hx hb dX9_hatch_75 (by decide) (fun hc => ?_) (fun hc => ?_)
            · have hw := hw.1 hc
              refine lv_iconst (v := 4) hx hb dX9_hatch_80 (by decide) ?_
              refine lv_iload_n hx hb dX9_hatch_81 rfl (lv_at hl 1 rfl) ?_
              refine lv_imul hx hb dX9_hatch_82 ?_
              refine lv_aload_n hx hb dX9_hatch_83 rfl (lv_at hl 0 rfl) ?_
              refine va_get (ci := 11) (v := .ref (bd 8)) (C := RX9) (T := TX9) (N := 47) hx hb hts inw_X9_hatch_X9 hown hK hP 0 rfl rfl 9 (by decide) (hts (.fieldLink RX9 31 "DockCallModel" "hatches" "[I") (by decide +kernel)) (fun _ h9 => h9) rfl dX9_hatch_84 ?_
              refine lv_iload_n hx hb dX9_hatch_87 rfl (lv_at hl 1 rfl) ?_
              obtain ⟨hi, hw⟩ := hw
              refine va_iald hx hb hK hP 1 0 rfl rfl hi dX9_hatch_88 ?_
              refine lv_iadd hx hb dX9_hatch_89 ?_
              refine lv_istore (lv' := [(5, .int ((4 * p0) + (x_hatches p0.toNatClampNeg))), (0, .ref (bd 0)), (1, .int p0), (2, .int p1), (3, .int p2), (4, .int p3)]) hx hb dX9_hatch_90 hl (by decide) rfl (fun ls hl => ?_)
              refine lv_aload_n hx hb dX9_hatch_92 rfl (lv_at hl 1 rfl) ?_
              refine va_get (ci := 11) (v := .ref (bd 10)) (C := RX9) (T := TX9) (N := 47) hx hb hts inw_X9_hatch_X9 hown hK hP 0 rfl rfl 11 (by decide) (hts (.fieldLink RX9 37 "DockCallModel" "tons" "[I") (by decide +kernel)) (fun _ h9 => h9) rfl dX9_hatch_93 ?_
              refine lv_iload hx hb dX9_hatch_96 (lv_at hl 0 rfl) ?_
              refine lv_iload_n hx hb dX9_hatch_98 rfl (lv_at hl 3 rfl) ?_
              obtain ⟨hi, hw⟩ := hw
              refine va_iast hx hb hK hP hD hS 2 0 rfl rfl hi dX9_hatch_99 (fun H locs hP hD hS => ?_)
              have hP : va_P D vwCl [(ce_xm bd x_thrown_23 x_men x_ships x_entries x_rules x_calls x_gangs x_idle x_moved x_paid x_taped x_at x_end x_begin x_faultAt x_wants), ((bd 8), .inl (y 0, 10, .inl x_hatches)), ((bd 10), .inl (y 0, 40, .inl (upd x_tons ((4 * p0) + (x_hatches p0.toNatClampNeg)).toNatClampNeg p1))), ((bd 11), .inl (y 0, 40, .inl x_skill)), ((bd 12), .inl (y 2, 40, .inl x_isDry))] H := hP
              have hD : va_D A [(ce_xm bd x_thrown_23 x_men x_ships x_entries x_rules x_calls x_gangs x_idle x_moved x_paid x_taped x_at x_end x_begin x_faultAt x_wants), ((bd 8), .inl (y 0, 10, .inl x_hatches)), ((bd 10), .inl (y 0, 40, .inl (upd x_tons ((4 * p0) + (x_hatches p0.toNatClampNeg)).toNatClampNeg p1))), ((bd 11), .inl (y 0, 40, .inl x_skill)), ((bd 12), .inl (y 2, 40, .inl x_isDry))] := hD
              refine lv_aload_n hx hb dX9_hatch_100 rfl (lv_at hl 1 rfl) ?_
              refine va_get (ci := 11) (v := .ref (bd 11)) (C := RX9) (T := TX9) (N := 47) hx hb hts inw_X9_hatch_X9 hown hK hP 0 rfl rfl 12 (by decide) (hts (.fieldLink RX9 40 "DockCallModel" "skill" "[I") (by decide +kernel)) (fun _ h9 => h9) rfl dX9_hatch_101 ?_
              refine lv_iload hx hb dX9_hatch_104 (lv_at hl 0 rfl) ?_
              refine lv_iload_n hx hb dX9_hatch_106 rfl (lv_at hl 4 rfl) ?_
              obtain ⟨hi, hw⟩ := hw
              refine va_iast hx hb hK hP hD hS 3 0 rfl rfl hi dX9_hatch_107 (fun H locs hP hD hS => ?_)
              have hP : va_P D vwCl [(ce_xm bd x_thrown_23 x_men x_ships x_entries x_rules x_calls x_gangs x_idle x_moved x_paid x_taped x_at x_end x_begin x_faultAt x_wants), ((bd 8), .inl (y 0, 10, .inl x_hatches)), ((bd 10), .inl (y 0, 40, .inl (upd x_tons ((4 * p0) + (x_hatches p0.toNatClampNeg)).toNatClampNeg p1))), ((bd 11), .inl (y 0, 40, .inl (upd x_skill ((4 * p0) + (x_hatches p0.toNatClampNeg)).toNatClampNeg p2))), ((bd 12), .inl (y 2, 40, .inl x_isDry))] H := hP
              have hD : va_D A [(ce_xm bd x_thrown_23 x_men x_ships x_entries x_rules x_calls x_gangs x_idle x_moved x_paid x_taped x_at x_end x_begin x_faultAt x_wants), ((bd 8), .inl (y 0, 10, .inl x_hatches)), ((bd 10), .inl (y 0, 40, .inl (upd x_tons ((4 * p0) + (x_hatches p0.toNatClampNeg)).toNatClampNeg p1))), ((bd 11), .inl (y 0, 40, .inl (upd x_skill ((4 * p0) + (x_hatches p0.toNatClampNeg)).toNatClampNeg p2))), ((bd 12), .inl (y 2, 40, .inl x_isDry))] := hD
              refine lv_aload_n hx hb dX9_hatch_108 rfl (lv_at hl 1 rfl) ?_
              refine va_get (ci := 11) (v := .ref (bd 12)) (C := RX9) (T := TX9) (N := 47) hx hb hts inw_X9_hatch_X9 hown hK hP 0 rfl rfl 13 (by decide) (hts (.fieldLink RX9 43 "DockCallModel" "isDry" "[Z") (by decide +kernel)) (fun _ h9 => h9) rfl dX9_hatch_109 ?_
              refine lv_iload hx hb dX9_hatch_112 (lv_at hl 0 rfl) ?_
              refine lv_iload hx hb dX9_hatch_114 (lv_at hl 5 rfl) ?_
              obtain ⟨hi, hw⟩ := hw
              refine va_zast hx hb hK hP hD hS 4 2 rfl rfl hi dX9_hatch_116 (fun H locs hP hD hS => ?_)
              have hP : va_P D vwCl [(ce_xm bd x_thrown_23 x_men x_ships x_entries x_rules x_calls x_gangs x_idle x_moved x_paid x_taped x_at x_end x_begin x_faultAt x_wants), ((bd 8), .inl (y 0, 10, .inl x_hatches)), ((bd 10), .inl (y 0, 40, .inl (upd x_tons ((4 * p0) + (x_hatches p0.toNatClampNeg)).toNatClampNeg p1))), ((bd 11), .inl (y 0, 40, .inl (upd x_skill ((4 * p0) + (x_hatches p0.toNatClampNeg)).toNatClampNeg p2))), ((bd 12), .inl (y 2, 40, .inl (upd x_isDry ((4 * p0) + (x_hatches p0.toNatClampNeg)).toNatClampNeg (vp_nar .boolean p3))))] H := hP
              have hD : va_D A [(ce_xm bd x_thrown_23 x_men x_ships x_entries x_rules x_calls x_gangs x_idle x_moved x_paid x_taped x_at x_end x_begin x_faultAt x_wants), ((bd 8), .inl (y 0, 10, .inl x_hatches)), ((bd 10), .inl (y 0, 40, .inl (upd x_tons ((4 * p0) + (x_hatches p0.toNatClampNeg)).toNatClampNeg p1))), ((bd 11), .inl (y 0, 40, .inl (upd x_skill ((4 * p0) + (x_hatches p0.toNatClampNeg)).toNatClampNeg p2))), ((bd 12), .inl (y 2, 40, .inl (upd x_isDry ((4 * p0) + (x_hatches p0.toNatClampNeg)).toNatClampNeg (vp_nar .boolean p3))))] := hD
              refine lv_aload_n hx hb dX9_hatch_117 rfl (lv_at hl 1 rfl) ?_
              refine va_get (ci := 11) (v := .ref (bd 8)) (C := RX9) (T := TX9) (N := 47) hx hb hts inw_X9_hatch_X9 hown hK hP 0 rfl rfl 9 (by decide) (hts (.fieldLink RX9 31 "DockCallModel" "hatches" "[I") (by decide +kernel)) (fun _ h9 => h9) rfl dX9_hatch_118 ?_
              refine lv_iload_n hx hb dX9_hatch_121 rfl (lv_at hl 2 rfl) ?_
              refine lv_dup2_11 hx hb dX9_hatch_122 rfl rfl ?_
              obtain ⟨hi, hw⟩ := hw
              refine va_iald hx hb hK hP 1 0 rfl rfl hi dX9_hatch_123 ?_
              refine lv_iconst (v := 1) hx hb dX9_hatch_124 (by decide) ?_
              refine lv_iadd hx hb dX9_hatch_125 ?_
              obtain ⟨hi, hw⟩ := hw
              refine va_iast hx hb hK hP hD hS 1 0 rfl rfl hi dX9_hatch_126 (fun H locs hP hD hS => ?_)
              have hP : va_P D vwCl [(ce_xm bd x_thrown_23 x_men x_ships x_entries x_rules x_calls x_gangs x_idle x_moved x_paid x_taped x_at x_end x_begin x_faultAt x_wants), ((bd 8), .inl (y 0, 10, .inl (upd x_hatches p0.toNatClampNeg ((x_hatches p0.toNatClampNeg) + 1)))), ((bd 10), .inl (y 0, 40, .inl (upd x_tons ((4 * p0) + (x_hatches p0.toNatClampNeg)).toNatClampNeg p1))), ((bd 11), .inl (y 0, 40, .inl (upd x_skill ((4 * p0) + (x_hatches p0.toNatClampNeg)).toNatClampNeg p2))), ((bd 12), .inl (y 2, 40, .inl (upd x_isDry ((4 * p0) + (x_hatches p0.toNatClampNeg)).toNatClampNeg (vp_nar .boolean p3))))] H := hP
              have hD : va_D A [(ce_xm bd x_thrown_23 x_men x_ships x_entries x_rules x_calls x_gangs x_idle x_moved x_paid x_taped x_at x_end x_begin x_faultAt x_wants), ((bd 8), .inl (y 0, 10, .inl (upd x_hatches p0.toNatClampNeg ((x_hatches p0.toNatClampNeg) + 1)))), ((bd 10), .inl (y 0, 40, .inl (upd x_tons ((4 * p0) + (x_hatches p0.toNatClampNeg)).toNatClampNeg p1))), ((bd 11), .inl (y 0, 40, .inl (upd x_skill ((4 * p0) + (x_hatches p0.toNatClampNeg)).toNatClampNeg p2))), ((bd 12), .inl (y 2, 40, .inl (upd x_isDry ((4 * p0) + (x_hatches p0.toNatClampNeg)).toNatClampNeg (vp_nar .boolean p3))))] := hD
              refine lv_aload_n hx hb dX9_hatch_127 rfl (lv_at hl 1 rfl) ?_
              refine va_get (ci := 11) (v := .ref (bd 8)) (C := RX9) (T := TX9) (N := 47) hx hb hts inw_X9_hatch_X9 hown hK hP 0 rfl rfl 9 (by decide) (hts (.fieldLink RX9 31 "DockCallModel" "hatches" "[I") (by decide +kernel)) (fun _ h9 => h9) rfl dX9_hatch_128 ?_
              refine lv_iload_n hx hb dX9_hatch_131 rfl (lv_at hl 2 rfl) ?_
              obtain ⟨hi, hw⟩ := hw
              refine va_iald hx hb hK hP 1 0 rfl rfl hi dX9_hatch_132 ?_
              refine lv_iconst (v := 1) hx hb dX9_hatch_133 (by decide) ?_
              refine lv_isub hx hb dX9_hatch_134 ?_
              exact W.iret (v := ((upd x_hatches p0.toNatClampNeg ((x_hatches p0.toNatClampNeg) + 1)) p0.toNatClampNeg) - 1) hx hb hr (fun t ht hW => ⟨⟨((upd x_hatches p0.toNatClampNeg ((x_hatches p0.toNatClampNeg) + 1)) p0.toNatClampNeg) - 1, (x_thrown_23, upd x_hatches p0.toNatClampNeg ((x_hatches p0.toNatClampNeg) + 1), upd x_tons ((4 * p0) + (x_hatches p0.toNatClampNeg)).toNatClampNeg p1, upd x_skill ((4 * p0) + (x_hatches p0.toNatClampNeg)).toNatClampNeg p2, upd x_isDry ((4 * p0) + (x_hatches p0.toNatClampNeg)).toNatClampNeg (vp_nar .boolean p3)), rfl, hw, mAt.to hP hK hD ht hW⟩, hS.F ht⟩) hS.2.2 dX9_hatch_135
            · have hw := hw.2 hc
              refine lv_iconst (v := 0) hx hb dX9_hatch_78 (by decide) ?_
              exact W.iret (v := 0) hx hb hr (fun t ht hW => ⟨⟨0, (x_thrown_23, x_hatches, x_tons, x_skill, x_isDry), rfl, hw, mAt.to hP hK hD ht hW⟩, hS.F ht⟩) hS.2.2 dX9_hatch_79
theorem inw_X9_feed_X9 : ∀ w ∈ wsX90, w ∈ wsX9_feed := fun _ h => List.mem_cons_of_mem _ (List.mem_append_left _ (List.mem_append_right _ h))
def wp_Model_feed_h60 (x_thrown : Int32) (x_taped : Int32) (x_five : Nat → Int32)  (Q : Int32 → Int32 → Int32 → (Nat → Int32) → (Nat → Int32) → Prop) : Nat → Int32 → (Nat → Int32) → Prop
  | 0, _, _ => False
  | n + 1, v6, x_tape => ((20 ≤ v6 → Q (x_taped + 20) x_thrown (x_taped + 20) x_tape x_five) ∧ (¬ 20 ≤ v6 → (vp_in (v6 / 4) 5 ∧ (vp_in (x_taped + v6) 400 ∧ wp_Model_feed_h60 x_thrown x_taped x_five Q n (v6 + 1) (upd x_tape (x_taped + v6).toNatClampNeg (vp_nar .byte (((x_five (v6 / 4).toNatClampNeg) >>> (24 - (8 * (v6 - v6 / 4 * 4)) &&& 31)).toInt8.toInt32)))))))
def wp_Model_feed (x_taped : Int32) (x_tape : Nat → Int32) (x_five : Nat → Int32) (p0 : Int32) (p1 : Int32) (p2 : Int32) (p3 : Int32) (p4 : Int32) (Q : Int32 → Int32 → Int32 → (Nat → Int32) → (Nat → Int32) → Prop) : Prop := ((x_taped + 20 ≤ 400 → (∃ n' : Nat, wp_Model_feed_h60 0 x_taped (upd (upd (upd (upd (upd x_five (0 : Int32).toNatClampNeg p0) (1 : Int32).toNatClampNeg p1) (2 : Int32).toNatClampNeg p2) (3 : Int32).toNatClampNeg p3) (4 : Int32).toNatClampNeg p4) Q n' 0 x_tape)) ∧ (¬ x_taped + 20 ≤ 400 → Q (-1) 0 x_taped x_tape x_five))
set_option maxHeartbeats 4000000 in
set_option maxRecDepth 100000 in
theorem c_Model_feed_h60 {p : Program} {l : Launch} {e : Env} {s : State} {m : MethodId} {args : Array Value} {below : List Frame} {meth : Method} {c : Code} {D : va_G} {y : Nat → ClassId} {bd : Nat → Nat} {A : Nat → Prop} (hx : p.tables.exec = Jvm.exec) (hb : c.code = cX9_feed) (hr : meth.sig.returnType = some .int) (hml : c.maxLocals = 7) (hown : s.vm.findClass RX9 = some m.cls) (hts : ∀ w ∈ wsX9_feed, w.before args s = true) (hlocks : meth.locks = false) (hK : va_K D vwCl (TY y) s) (hE : EV s) (hA : ∀ q, s.heap.size ≤ q → A q) {v1 : Int32} {v2 : Int32} {v3 : Int32} {v4 : Int32} {v5 : Int32} {x_thrown : Int32} {x_taped : Int32} {x_five : Nat → Int32} {x_men : Int32} {x_ships : Int32} {x_entries : Int32} {x_rules : Int32} {x_calls : Int32} {x_gangs : Int32} {x_idle : Int32} {x_moved : Int64} {x_paid : Int64} {x_at : Int32} {x_end : Int32} {x_begin : Int32} {x_faultAt : Int32} {x_wants : Int32}  {Q : Int32 → Int32 → Int32 → (Nat → Int32) → (Nat → Int32) → Prop}  : ∀ (n : Nat) (v6 : Int32) (x_tape : Nat → Int32), wp_Model_feed_h60 x_thrown x_taped x_five Q n v6 x_tape → ∀ (H : Heap) (locs : List Loc) (ls : Array Slot), va_P D vwCl [(ce_xm bd x_thrown x_men x_ships x_entries x_rules x_calls x_gangs x_idle x_moved x_paid x_taped x_at x_end x_begin x_faultAt x_wants), ((bd 21), .inl (y 1, 400, .inl x_tape)), ((bd 22), .inl (y 0, 5, .inl x_five))] H → va_D A [(ce_xm bd x_thrown x_men x_ships x_entries x_rules x_calls x_gangs x_idle x_moved x_paid x_taped x_at x_end x_begin x_faultAt x_wants), ((bd 21), .inl (y 1, 400, .inl x_tape)), ((bd 22), .inl (y 0, 5, .inl x_five))] → va_S A s.heap H locs → lv_has ls 7 [(6, .int v6), (0, .ref (bd 0)), (1, .int v1), (2, .int v2), (3, .int v3), (4, .int v4), (5, .int v5)] → W p l e ({ frames := 0, cells := 0, slots := 0, locals := 0 }) s m args below meth c H locs 0 0 (MQ below (va_Qi (fun (r : Int32) (u : Int32 × Int32 × (Nat → Int32) × (Nat → Int32)) => Q r u.1 u.2.1 u.2.2.1 u.2.2.2) (mAt D y A (fun (u : Int32 × Int32 × (Nat → Int32) × (Nat → Int32)) => [(ce_xm bd u.1 x_men x_ships x_entries x_rules x_calls x_gangs x_idle x_moved x_paid u.2.1 x_at x_end x_begin x_faultAt x_wants), ((bd 21), .inl (y 1, 400, .inl u.2.2.1)), ((bd 22), .inl (y 0, 5, .inl u.2.2.2))])) A) args s 0 0 A) (F0 m 60 ls []) := by
  intro n
  induction n with
  | zero => intro v6 x_tape hw; rw [wp_Model_feed_h60] at hw; exact hw.elim
  | succ n ih =>
    intro v6 x_tape hw H locs ls hP hD hS hl
    rw [wp_Model_feed_h60] at hw
    refine lv_iload hx hb dX9_feed_60 (lv_at hl 0 rfl) ?_
    refine lv_bipush (v := 20) hx hb dX9_feed_62 (by decide) ?_
    refine lv_icmp_ge (tgt := 106) hx hb dX9_feed_64 (by decide) (fun hc => ?_) (fun hc => ?_)
    · have hw := hw.1 hc
      refine lv_aload_n hx hb dX9_feed_106 rfl (lv_at hl 1 rfl) ?_
      refine lv_dup hx hb dX9_feed_107 rfl ?_
      refine va_get (ci := 11) (v := .int x_taped) (C := RX9) (T := TX9) (N := 47) hx hb hts inw_X9_feed_X9 hown hK hP 0 rfl rfl 31 (by decide) (hts (.fieldLink RX9 139 "DockCallModel" "taped" "I") (by decide +kernel)) (fun _ h9 => h9) rfl dX9_feed_108 ?_
      refine lv_bipush (v := 20) hx hb dX9_feed_111 (by decide) ?_
      refine lv_iadd hx hb dX9_feed_113 ?_
      refine va_put (ci := 11) (v := .int (x_taped + 20)) (ty := .int) (C := RX9) (T := TX9) (N := 47) hx hb hts inw_X9_feed_X9 tyX9 tyX9_ok nmX9 hown hK hP hD hS 0 rfl rfl 31 (by decide) (hts (.fieldLink RX9 139 "DockCallModel" "taped" "I") (by decide +kernel)) (fun _ h9 => h9) rfl (by decide +kernel) rfl rfl (Nat.le_of_ble_eq_true rfl) dX9_feed_114 (fun H locs hP hD hS => ?_)
      have hP : va_P D vwCl [(ce_xm bd x_thrown x_men x_ships x_entries x_rules x_calls x_gangs x_idle x_moved x_paid (x_taped + 20) x_at x_end x_begin x_faultAt x_wants), ((bd 21), .inl (y 1, 400, .inl x_tape)), ((bd 22), .inl (y 0, 5, .inl x_five))] H := hP
      have hD : va_D A [(ce_xm bd x_thrown x_men x_ships x_entries x_rules x_calls x_gangs x_idle x_moved x_paid (x_taped + 20) x_at x_end x_begin x_faultAt x_wants), ((bd 21), .inl (y 1, 400, .inl x_tape)), ((bd 22), .inl (y 0, 5, .inl x_five))] := hD
      refine lv_aload_n hx hb dX9_feed_117 rfl (lv_at hl 1 rfl) ?_
      refine va_get (ci := 11) (v := .int (x_taped + 20)) (C := RX9) (T := TX9) (N := 47) hx hb hts inw_X9_feed_X9 hown hK hP 0 rfl rfl 31 (by decide) (hts (.fieldLink RX9 139 "DockCallModel" "taped" "I") (by decide +kernel)) (fun _ h9 => h9) rfl dX9_feed_118 ?_
      exact W.iret (v := x_taped + 20) hx hb hr (fun t ht hW => ⟨⟨x_taped + 20, (x_thrown, x_taped + 20, x_tape, x_five), rfl, hw, mAt.to hP hK hD ht hW⟩, hS.F ht⟩) hS.2.2 dX9_feed_121
    · have hw := hw.2 hc
      refine lv_aload_n hx hb dX9_feed_67 rfl (lv_at hl 1 rfl) ?_
      refine va_get (ci := 11) (v := .ref (bd 21)) (C := RX9) (T := TX9) (N := 47) hx hb hts inw_X9_feed_X9 hown hK hP 0 rfl rfl 30 (by decide) (hts (.fieldLink RX9 71 "DockCallModel" "tape" "[B") (by decide +kernel)) (fun _ h9 => h9) rfl dX9_feed_68 ?_
      refine lv_aload_n hx hb dX9_feed_71 rfl (lv_at hl 1 rfl) ?_
      refine va_get (ci := 11) (v := .int x_taped) (C := RX9) (T := TX9) (N := 47) hx hb hts inw_X9_feed_X9 hown hK hP 0 rfl rfl 31 (by decide) (hts (.fieldLink RX9 139 "DockCallModel" "taped" "I") (by decide +kernel)) (fun _ h9 => h9) rfl dX9_feed_72 ?_
      refine lv_iload hx hb dX9_feed_75 (lv_at hl 0 rfl) ?_
      refine lv_iadd hx hb dX9_feed_77 ?_
      refine lv_aload_n hx hb dX9_feed_78 rfl (lv_at hl 1 rfl) ?_
      refine va_get (ci := 11) (v := .ref (bd 22)) (C := RX9) (T := TX9) (N := 47) hx hb hts inw_X9_feed_X9 hown hK hP 0 rfl rfl 32 (by decide) (hts (.fieldLink RX9 75 "DockCallModel" "five" "[I") (by decide +kernel)) (fun _ h9 => h9) rfl dX9_feed_79 ?_
      refine lv_iload hx hb dX9_feed_82 (lv_at hl 0 rfl) ?_
      refine lv_iconst (v := 4) hx hb dX9_feed_84 (by decide) ?_
      refine lv_idiv hx hb dX9_feed_85 (by decide) ?_
      obtain ⟨hi, hw⟩ := hw
      refine va_iald hx hb hK hP 2 0 rfl rfl hi dX9_feed_86 ?_
      refine lv_bipush (v := 24) hx hb dX9_feed_87 (by decide) ?_
      refine lv_bipush (v := 8) hx hb dX9_feed_89 (by decide) ?_
      refine lv_iload hx hb dX9_feed_91 (lv_at hl 0 rfl) ?_
      refine lv_iconst (v := 4) hx hb dX9_feed_93 (by decide) ?_
      refine lv_irem hx hb dX9_feed_94 (by decide) ?_
      refine lv_imul hx hb dX9_feed_95 ?_
      refine lv_isub hx hb dX9_feed_96 ?_
      refine lv_ishr hx hb dX9_feed_97 ?_
      refine lv_i2b hx hb dX9_feed_98 rfl ?_
      obtain ⟨hi, hw⟩ := hw
      refine va_bast hx hb hK hP hD hS 1 1 rfl rfl hi dX9_feed_99 (fun H locs hP hD hS => ?_)
      have hP : va_P D vwCl [(ce_xm bd x_thrown x_men x_ships x_entries x_rules x_calls x_gangs x_idle x_moved x_paid x_taped x_at x_end x_begin x_faultAt x_wants), ((bd 21), .inl (y 1, 400, .inl (upd x_tape (x_taped + v6).toNatClampNeg (vp_nar .byte (((x_five (v6 / 4).toNatClampNeg) >>> (24 - (8 * (v6 - v6 / 4 * 4)) &&& 31)).toInt8.toInt32))))), ((bd 22), .inl (y 0, 5, .inl x_five))] H := hP
      have hD : va_D A [(ce_xm bd x_thrown x_men x_ships x_entries x_rules x_calls x_gangs x_idle x_moved x_paid x_taped x_at x_end x_begin x_faultAt x_wants), ((bd 21), .inl (y 1, 400, .inl (upd x_tape (x_taped + v6).toNatClampNeg (vp_nar .byte (((x_five (v6 / 4).toNatClampNeg) >>> (24 - (8 * (v6 - v6 / 4 * 4)) &&& 31)).toInt8.toInt32))))), ((bd 22), .inl (y 0, 5, .inl x_five))] := hD
      refine lv_iinc (v := v6 + 1) (lv' := [(6, .int (v6 + 1)), (0, .ref (bd 0)), (1, .int v1), (2, .int v2), (3, .int v3), (4, .int v4), (5, .int v5)]) hx hb dX9_feed_100 hl (k := 0) rfl (by first | rfl | decide) (by decide) rfl (fun ls hl => ?_)
      refine lv_goto (tgt := 60) hx hb dX9_feed_103 (by decide) ?_
      exact ih (v6 + 1) (upd x_tape (x_taped + v6).toNatClampNeg (vp_nar .byte (((x_five (v6 / 4).toNatClampNeg) >>> (24 - (8 * (v6 - v6 / 4 * 4)) &&& 31)).toInt8.toInt32))) hw _ _ _ hP hD hS (lv_sub hl [0, 1, 2, 3, 4, 5, 6] rfl)
set_option maxHeartbeats 4000000 in
set_option maxRecDepth 100000 in
theorem c_Model_feed (l : Launch) (D : va_G) (y : Nat → ClassId) (bd : Nat → Nat) (sz : Nat) (x_thrown : Int32) (x_men : Int32) (x_ships : Int32) (x_entries : Int32) (x_rules : Int32) (x_calls : Int32) (x_gangs : Int32) (x_idle : Int32) (x_moved : Int64) (x_paid : Int64) (x_taped : Int32) (x_at : Int32) (x_end : Int32) (x_begin : Int32) (x_faultAt : Int32) (x_wants : Int32) (x_tape : Nat → Int32) (x_five : Nat → Int32) (p0 : Int32) (p1 : Int32) (p2 : Int32) (p3 : Int32) (p4 : Int32) {Q : Int32 → Int32 → Int32 → (Nat → Int32) → (Nat → Int32) → Prop} (hw : wp_Model_feed x_taped x_tape x_five p0 p1 p2 p3 p4 Q) : Met l yX9_feed wsX9_feed ({ frames := 0, cells := 0, slots := 0, locals := 0 }) (va_Pc [.ref (bd 0), .int p0, .int p1, .int p2, .int p3, .int p4] (mPre D y sz [(ce_xm bd x_thrown x_men x_ships x_entries x_rules x_calls x_gangs x_idle x_moved x_paid x_taped x_at x_end x_begin x_faultAt x_wants), ((bd 21), .inl (y 1, 400, .inl x_tape)), ((bd 22), .inl (y 0, 5, .inl x_five))])) (va_Qi (fun (r : Int32) (u : Int32 × Int32 × (Nat → Int32) × (Nat → Int32)) => Q r u.1 u.2.1 u.2.2.1 u.2.2.2) (mAt D y (va_A [(ce_xm bd x_thrown x_men x_ships x_entries x_rules x_calls x_gangs x_idle x_moved x_paid x_taped x_at x_end x_begin x_faultAt x_wants), ((bd 21), .inl (y 1, 400, .inl x_tape)), ((bd 22), .inl (y 0, 5, .inl x_five))] sz) (fun (u : Int32 × Int32 × (Nat → Int32) × (Nat → Int32)) => [(ce_xm bd u.1 x_men x_ships x_entries x_rules x_calls x_gangs x_idle x_moved x_paid u.2.1 x_at x_end x_begin x_faultAt x_wants), ((bd 21), .inl (y 1, 400, .inl u.2.2.1)), ((bd 22), .inl (y 0, 5, .inl u.2.2.2))])) (va_A [(ce_xm bd x_thrown x_men x_ships x_entries x_rules x_calls x_gangs x_idle x_moved x_paid x_taped x_at x_end x_begin x_faultAt x_wants), ((bd 21), .inl (y 1, 400, .inl x_tape)), ((bd 22), .inl (y 0, 5, .inl x_five))] sz)) 0 0 (va_A [(ce_xm bd x_thrown x_men x_ships x_entries x_rules x_calls x_gangs x_idle x_moved x_paid x_taped x_at x_end x_begin x_faultAt x_wants), ((bd 21), .inl (y 1, 400, .inl x_tape)), ((bd 22), .inl (y 0, 5, .inl x_five))] sz) := by
  unfold wp_Model_feed at hw
  refine Met.ofW (cc := cX9_feed) (maxL := 7) (ret := some .int) (by decide) rfl ?_
  intro p e s m args below meth c s₁ B hml hv
  obtain ⟨rfl, hsz, hP, hK, hD0, hE⟩ := hv
  have hx := B.exec
  have hb := B.bytes
  have hr := B.returns
  have hts := atoms_spec (ws := wsX9_feed) B.pre
  have hown : s.vm.findClass RX9 = some m.cls := findClass_of_methodNamed B.named
  have hlocks := B.notSynchronized
  subst hsz
  have hD := hD0.self (sz := s.heap.size)
  generalize hAe : va_A [(ce_xm bd x_thrown x_men x_ships x_entries x_rules x_calls x_gangs x_idle x_moved x_paid x_taped x_at x_end x_begin x_faultAt x_wants), ((bd 21), .inl (y 1, 400, .inl x_tape)), ((bd 22), .inl (y 0, 5, .inl x_five))] s.heap.size = A at hD ⊢
  have hA : ∀ q : Nat, s.heap.size ≤ q → A q := fun q h => by rw [← hAe]; exact Or.inr h
  have hS : va_S A s.heap s.heap [] := va_S.rf
  have hP : va_P D vwCl [(ce_xm bd x_thrown x_men x_ships x_entries x_rules x_calls x_gangs x_idle x_moved x_paid x_taped x_at x_end x_begin x_faultAt x_wants), ((bd 21), .inl (y 1, 400, .inl x_tape)), ((bd 22), .inl (y 0, 5, .inl x_five))] s.heap := hP
  have hl := lv_entry ([.ref (bd 0), .int p0, .int p1, .int p2, .int p3, .int p4]) (n := 7) (Nat.le_of_ble_eq_true rfl)
  rw [lg_entry_eq]
  generalize (lg_sl ([.ref (bd 0), .int p0, .int p1, .int p2, .int p3, .int p4]) ++ List.replicate (7 - (lg_sl ([.ref (bd 0), .int p0, .int p1, .int p2, .int p3, .int p4])).length) Slot.unset).toArray = ls at hl ⊢
  have hl : lv_has ls 7 [(0, .ref (bd 0)), (1, .int p0), (2, .int p1), (3, .int p2), (4, .int p3), (5, .int p4)] := hl
  refine lv_aload_n hx hb dX9_feed_0 rfl (lv_at hl 0 rfl) ?_
  refine lv_iconst (v := 0) hx hb dX9_feed_1 (by decide) ?_
  refine va_put (ci := 11) (v := .int 0) (ty := .int) (C := RX9) (T := TX9) (N := 47) hx hb hts inw_X9_feed_X9 tyX9 tyX9_ok nmX9 hown hK hP hD hS 0 rfl rfl 0 (by decide) (hts (.fieldLink RX9 109 "DockCallModel" "thrown" "I") (by decide +kernel)) (fun _ h9 => h9) rfl (by decide +kernel) rfl rfl (Nat.le_of_ble_eq_true rfl) dX9_feed_2 (fun H locs hP hD hS => ?_)
  have hP : va_P D vwCl [(ce_xm bd 0 x_men x_ships x_entries x_rules x_calls x_gangs x_idle x_moved x_paid x_taped x_at x_end x_begin x_faultAt x_wants), ((bd 21), .inl (y 1, 400, .inl x_tape)), ((bd 22), .inl (y 0, 5, .inl x_five))] H := hP
  have hD : va_D A [(ce_xm bd 0 x_men x_ships x_entries x_rules x_calls x_gangs x_idle x_moved x_paid x_taped x_at x_end x_begin x_faultAt x_wants), ((bd 21), .inl (y 1, 400, .inl x_tape)), ((bd 22), .inl (y 0, 5, .inl x_five))] := hD
  refine lv_aload_n hx hb dX9_feed_5 rfl (lv_at hl 0 rfl) ?_
  refine va_get (ci := 11) (v := .int x_taped) (C := RX9) (T := TX9) (N := 47) hx hb hts inw_X9_feed_X9 hown hK hP 0 rfl rfl 31 (by decide) (hts (.fieldLink RX9 139 "DockCallModel" "taped" "I") (by decide +kernel)) (fun _ h9 => h9) rfl dX9_feed_6 ?_
  refine lv_bipush (v := 20) hx hb dX9_feed_9 (by decide) ?_
  refine lv_iadd hx hb dX9_feed_11 ?_
  refine lv_sipush (v := 400) hx hb dX9_feed_12 (by decide) ?_
  refine lv_icmp_le (tgt := 20) hx hb dX9_feed_15 (by decide) (fun hc => ?_) (fun hc => ?_)
  · have hw := hw.1 hc
    refine lv_aload_n hx hb dX9_feed_20 rfl (lv_at hl 0 rfl) ?_
    refine va_get (ci := 11) (v := .ref (bd 22)) (C := RX9) (T := TX9) (N := 47) hx hb hts inw_X9_feed_X9 hown hK hP 0 rfl rfl 32 (by decide) (hts (.fieldLink RX9 75 "DockCallModel" "five" "[I") (by decide +kernel)) (fun _ h9 => h9) rfl dX9_feed_21 ?_
    refine lv_iconst (v := 0) hx hb dX9_feed_24 (by decide) ?_
    refine lv_iload_n hx hb dX9_feed_25 rfl (lv_at hl 1 rfl) ?_
    refine va_iast hx hb hK hP hD hS 2 0 rfl rfl (by unfold vp_in; decide) dX9_feed_26 (fun H locs hP hD hS => ?_)
    have hP : va_P D vwCl [(ce_xm bd 0 x_men x_ships x_entries x_rules x_calls x_gangs x_idle x_moved x_paid x_taped x_at x_end x_begin x_faultAt x_wants), ((bd 21), .inl (y 1, 400, .inl x_tape)), ((bd 22), .inl (y 0, 5, .inl (upd x_five (0 : Int32).toNatClampNeg p0)))] H := hP
    have hD : va_D A [(ce_xm bd 0 x_men x_ships x_entries x_rules x_calls x_gangs x_idle x_moved x_paid x_taped x_at x_end x_begin x_faultAt x_wants), ((bd 21), .inl (y 1, 400, .inl x_tape)), ((bd 22), .inl (y 0, 5, .inl (upd x_five (0 : Int32).toNatClampNeg p0)))] := hD
    refine lv_aload_n hx hb dX9_feed_27 rfl (lv_at hl 0 rfl) ?_
    refine va_get (ci := 11) (v := .ref (bd 22)) (C := RX9) (T := TX9) (N := 47) hx hb hts inw_X9_feed_X9 hown hK hP 0 rfl rfl 32 (by decide) (hts (.fieldLink RX9 75 "DockCallModel" "five" "[I") (by decide +kernel)) (fun _ h9 => h9) rfl dX9_feed_28 ?_
    refine lv_iconst (v := 1) hx hb dX9_feed_31 (by decide) ?_
    refine lv_iload_n hx hb dX9_feed_32 rfl (lv_at hl 2 rfl) ?_
    refine va_iast hx hb hK hP hD hS 2 0 rfl rfl (by unfold vp_in; decide) dX9_feed_33 (fun H locs hP hD hS => ?_)
    have hP : va_P D vwCl [(ce_xm bd 0 x_men x_ships x_entries x_rules x_calls x_gangs x_idle x_moved x_paid x_taped x_at x_end x_begin x_faultAt x_wants), ((bd 21), .inl (y 1, 400, .inl x_tape)), ((bd 22), .inl (y 0, 5, .inl (upd (upd x_five (0 : Int32).toNatClampNeg p0) (1 : Int32).toNatClampNeg p1)))] H := hP
    have hD : va_D A [(ce_xm bd 0 x_men x_ships x_entries x_rules x_calls x_gangs x_idle x_moved x_paid x_taped x_at x_end x_begin x_faultAt x_wants), ((bd 21), .inl (y 1, 400, .inl x_tape)), ((bd 22), .inl (y 0, 5, .inl (upd (upd x_five (0 : Int32).toNatClampNeg p0) (1 : Int32).toNatClampNeg p1)))] := hD
    refine lv_aload_n hx hb dX9_feed_34 rfl (lv_at hl 0 rfl) ?_
    refine va_get (ci := 11) (v := .ref (bd 22)) (C := RX9) (T := TX9) (N := 47) hx hb hts inw_X9_feed_X9 hown hK hP 0 rfl rfl 32 (by decide) (hts (.fieldLink RX9 75 "DockCallModel" "five" "[I") (by decide +kernel)) (fun _ h9 => h9) rfl dX9_feed_35 ?_
    refine lv_iconst (v := 2) hx hb dX9_feed_38 (by decide) ?_
    refine lv_iload_n hx hb dX9_feed_39 rfl (lv_at hl 3 rfl) ?_
    refine va_iast hx hb hK hP hD hS 2 0 rfl rfl (by unfold vp_in; decide) dX9_feed_40 (fun H locs hP hD hS => ?_)
    have hP : va_P D vwCl [(ce_xm bd 0 x_men x_ships x_entries x_rules x_calls x_gangs x_idle x_moved x_paid x_taped x_at x_end x_begin x_faultAt x_wants), ((bd 21), .inl (y 1, 400, .inl x_tape)), ((bd 22), .inl (y 0, 5, .inl (upd (upd (upd x_five (0 : Int32).toNatClampNeg p0) (1 : Int32).toNatClampNeg p1) (2 : Int32).toNatClampNeg p2)))] H := hP
    have hD : va_D A [(ce_xm bd 0 x_men x_ships x_entries x_rules x_calls x_gangs x_idle x_moved x_paid x_taped x_at x_end x_begin x_faultAt x_wants), ((bd 21), .inl (y 1, 400, .inl x_tape)), ((bd 22), .inl (y 0, 5, .inl (upd (upd (upd x_five (0 : Int32).toNatClampNeg p0) (1 : Int32).toNatClampNeg p1) (2 : Int32).toNatClampNeg p2)))] := hD
    refine lv_aload_n hx hb dX9_feed_41 rfl (lv_at hl 0 rfl) ?_
    refine va_get (ci := 11) (v := .ref (bd 22)) (C := RX9) (T := TX9) (N := 47) hx hb hts inw_X9_feed_X9 hown hK hP 0 rfl rfl 32 (by decide) (hts (.fieldLink RX9 75 "DockCallModel" "five" "[I") (by decide +kernel)) (fun _ h9 => h9) rfl dX9_feed_42 ?_
    refine lv_iconst (v := 3) hx hb dX9_feed_45 (by decide) ?_
    refine lv_iload hx hb dX9_feed_46 (lv_at hl 4 rfl) ?_
    refine va_iast hx hb hK hP hD hS 2 0 rfl rfl (by unfold vp_in; decide) dX9_feed_48 (fun H locs hP hD hS => ?_)
    have hP : va_P D vwCl [(ce_xm bd 0 x_men x_ships x_entries x_rules x_calls x_gangs x_idle x_moved x_paid x_taped x_at x_end x_begin x_faultAt x_wants), ((bd 21), .inl (y 1, 400, .inl x_tape)), ((bd 22), .inl (y 0, 5, .inl (upd (upd (upd (upd x_five (0 : Int32).toNatClampNeg p0) (1 : Int32).toNatClampNeg p1) (2 : Int32).toNatClampNeg p2) (3 : Int32).toNatClampNeg p3)))] H := hP
    have hD : va_D A [(ce_xm bd 0 x_men x_ships x_entries x_rules x_calls x_gangs x_idle x_moved x_paid x_taped x_at x_end x_begin x_faultAt x_wants), ((bd 21), .inl (y 1, 400, .inl x_tape)), ((bd 22), .inl (y 0, 5, .inl (upd (upd (upd (upd x_five (0 : Int32).toNatClampNeg p0) (1 : Int32).toNatClampNeg p1) (2 : Int32).toNatClampNeg p2) (3 : Int32).toNatClampNeg p3)))] := hD
    refine lv_aload_n hx hb dX9_feed_49 rfl (lv_at hl 0 rfl) ?_
    refine va_get (ci := 11) (v := .ref (bd 22)) (C := RX9) (T := TX9) (N := 47) hx hb hts inw_X9_feed_X9 hown hK hP 0 rfl rfl 32 (by decide) (hts (.fieldLink RX9 75 "DockCallModel" "five" "[I") (by decide +kernel)) (fun _ h9 => h9) rfl dX9_feed_50 ?_
    refine lv_iconst (v := 4) hx hb dX9_feed_53 (by decide) ?_
    refine lv_iload hx hb dX9_feed_54 (lv_at hl 5 rfl) ?_
    refine va_iast hx hb hK hP hD hS 2 0 rfl rfl (by unfold vp_in; decide) dX9_feed_56 (fun H locs hP hD hS => ?_)
    have hP : va_P D vwCl [(ce_xm bd 0 x_men x_ships x_entries x_rules x_calls x_gangs x_idle x_moved x_paid x_taped x_at x_end x_begin x_faultAt x_wants), ((bd 21), .inl (y 1, 400, .inl x_tape)), ((bd 22), .inl (y 0, 5, .inl (upd (upd (upd (upd (upd x_five (0 : Int32).toNatClampNeg p0) (1 : Int32).toNatClampNeg p1) (2 : Int32).toNatClampNeg p2) (3 : Int32).toNatClampNeg p3) (4 : Int32).toNatClampNeg p4)))] H := hP
    have hD : va_D A [(ce_xm bd 0 x_men x_ships x_entries x_rules x_calls x_gangs x_idle x_moved x_paid x_taped x_at x_end x_begin x_faultAt x_wants), ((bd 21), .inl (y 1, 400, .inl x_tape)), ((bd 22), .inl (y 0, 5, .inl (upd (upd (upd (upd (upd x_five (0 : Int32).toNatClampNeg p0) (1 : Int32).toNatClampNeg p1) (2 : Int32).toNatClampNeg p2) (3 : Int32).toNatClampNeg p3) (4 : Int32).toNatClampNeg p4)))] := hD
    refine lv_iconst (v := 0) hx hb dX9_feed_57 (by decide) ?_
    refine lv_istore (lv' := [(6, .int 0), (0, .ref (bd 0)), (1, .int p0), (2, .int p1), (3, .int p2), (4, .int p3), (5, .int p4)]) hx hb dX9_feed_58 hl (by decide) rfl (fun ls hl => ?_)
    obtain ⟨n', hw⟩ := hw
    exact c_Model_feed_h60 hx hb hr hml hown hts hlocks hK hE hA  n' 0 x_tape hw _ _ _ hP hD hS (lv_sub hl [0, 1, 2, 3, 4, 5, 6] rfl)
  · have hw := hw.2 hc
    refine lv_iconst (v := (-1)) hx hb dX9_feed_18 (by decide) ?_
    exact W.iret (v := (-1)) hx hb hr (fun t ht hW => ⟨⟨(-1), (0, x_taped, x_tape, x_five), rfl, hw, mAt.to hP hK hD ht hW⟩, hS.F ht⟩) hS.2.2 dX9_feed_19
theorem inw_X9_end_X9 : ∀ w ∈ wsX90, w ∈ wsX9_end := fun _ h => List.mem_cons_of_mem _ (List.mem_append_right _ h)
def wp_Model_end (x_taped : Int32) (p0 : Int32) (Q : Int32 → Int32 → Int32 → Prop) : Prop := ((p0 < 0 → Q 0 0 x_taped) ∧ (¬ p0 < 0 → ((p0 ≤ x_taped → Q 1 0 p0) ∧ (¬ p0 ≤ x_taped → Q 0 0 x_taped))))
set_option maxHeartbeats 4000000 in
set_option maxRecDepth 100000 in
theorem c_Model_end (l : Launch) (D : va_G) (y : Nat → ClassId) (bd : Nat → Nat) (sz : Nat) (x_thrown : Int32) (x_men : Int32) (x_ships : Int32) (x_entries : Int32) (x_rules : Int32) (x_calls : Int32) (x_gangs : Int32) (x_idle : Int32) (x_moved : Int64) (x_paid : Int64) (x_taped : Int32) (x_at : Int32) (x_end : Int32) (x_begin : Int32) (x_faultAt : Int32) (x_wants : Int32) (p0 : Int32) {Q : Int32 → Int32 → Int32 → Prop} (hw : wp_Model_end x_taped p0 Q) : Met l yX9_end wsX9_end ({ frames := 0, cells := 0, slots := 0, locals := 0 }) (va_Pc [.ref (bd 0), .int p0] (mPre D y sz [(ce_xm bd x_thrown x_men x_ships x_entries x_rules x_calls x_gangs x_idle x_moved x_paid x_taped x_at x_end x_begin x_faultAt x_wants)])) (va_Qi (fun (r : Int32) (u : Int32 × Int32) => Q r u.1 u.2) (mAt D y (va_A [(ce_xm bd x_thrown x_men x_ships x_entries x_rules x_calls x_gangs x_idle x_moved x_paid x_taped x_at x_end x_begin x_faultAt x_wants)] sz) (fun (u : Int32 × Int32) => [(ce_xm bd u.1 x_men x_ships x_entries x_rules x_calls x_gangs x_idle x_moved x_paid u.2 x_at x_end x_begin x_faultAt x_wants)])) (va_A [(ce_xm bd x_thrown x_men x_ships x_entries x_rules x_calls x_gangs x_idle x_moved x_paid x_taped x_at x_end x_begin x_faultAt x_wants)] sz)) 0 0 (va_A [(ce_xm bd x_thrown x_men x_ships x_entries x_rules x_calls x_gangs x_idle x_moved x_paid x_taped x_at x_end x_begin x_faultAt x_wants)] sz) := by
  unfold wp_Model_end at hw
  refine Met.ofW (cc := cX9_end) (maxL := 2) (ret := some .boolean) (by decide) rfl ?_
  intro p e s m args below meth c s₁ B hml hv
  obtain ⟨rfl, hsz, hP, hK, hD0, hE⟩ := hv
  have hx := B.exec
  have hb := B.bytes
  have hr := B.returns
  have hts := atoms_spec (ws := wsX9_end) B.pre
  have hown : s.vm.findClass RX9 = some m.cls := findClass_of_methodNamed B.named
  have hlocks := B.notSynchronized
  subst hsz
  have hD := hD0.self (sz := s.heap.size)
  generalize hAe : va_A [(ce_xm bd x_thrown x_men x_ships x_entries x_rules x_calls x_gangs x_idle x_moved x_paid x_taped x_at x_end x_begin x_faultAt x_wants)] s.heap.size = A at hD ⊢
  have hA : ∀ q : Nat, s.heap.size ≤ q → A q := fun q h => by rw [← hAe]; exact Or.inr h
  have hS : va_S A s.heap s.heap [] := va_S.rf
  have hP : va_P D vwCl [(ce_xm bd x_thrown x_men x_ships x_entries x_rules x_calls x_gangs x_idle x_moved x_paid x_taped x_at x_end x_begin x_faultAt x_wants)] s.heap := hP
  have hl := lv_entry ([.ref (bd 0), .int p0]) (n := 2) (Nat.le_of_ble_eq_true rfl)
  rw [lg_entry_eq]
  generalize (lg_sl ([.ref (bd 0), .int p0]) ++ List.replicate (2 - (lg_sl ([.ref (bd 0), .int p0])).length) Slot.unset).toArray = ls at hl ⊢
  have hl : lv_has ls 2 [(0, .ref (bd 0)), (1, .int p0)] := hl
  refine lv_aload_n hx hb dX9_end_0 rfl (lv_at hl 0 rfl) ?_
  refine lv_iconst (v := 0) hx hb dX9_end_1 (by decide) ?_
  refine va_put (ci := 11) (v := .int 0) (ty := .int) (C := RX9) (T := TX9) (N := 47) hx hb hts inw_X9_end_X9 tyX9 tyX9_ok nmX9 hown hK hP hD hS 0 rfl rfl 0 (by decide) (hts (.fieldLink RX9 109 "DockCallModel" "thrown" "I") (by decide +kernel)) (fun _ h9 => h9) rfl (by decide +kernel) rfl rfl (Nat.le_of_ble_eq_true rfl) dX9_end_2 (fun H locs hP hD hS => ?_)
  have hP : va_P D vwCl [(ce_xm bd 0 x_men x_ships x_entries x_rules x_calls x_gangs x_idle x_moved x_paid x_taped x_at x_end x_begin x_faultAt x_wants)] H := hP
  have hD : va_D A [(ce_xm bd 0 x_men x_ships x_entries x_rules x_calls x_gangs x_idle x_moved x_paid x_taped x_at x_end x_begin x_faultAt x_wants)] := hD
  refine lv_iload_n hx hb dX9_end_5 rfl (lv_at hl 1 rfl) ?_
  refine lv_if_lt (tgt := 17) hx hb dX9_end_6 (by decide) (fun hc => ?_) (fun hc => ?_)
  · have hw := hw.1 hc
    refine lv_iconst (v := 0) hx hb dX9_end_17 (by decide) ?_
    exact W.zret (v := 0) hx hb hr (by decide) (fun t ht hW => ⟨⟨0, (0, x_taped), rfl, hw, mAt.to hP hK hD ht hW⟩, hS.F ht⟩) hS.2.2 dX9_end_18
  · have hw := hw.2 hc
    refine lv_iload_n hx hb dX9_end_9 rfl (lv_at hl 1 rfl) ?_
    refine lv_aload_n hx hb dX9_end_10 rfl (lv_at hl 0 rfl) ?_
    refine va_get (ci := 11) (v := .int x_taped) (C := RX9) (T := TX9) (N := 47) hx hb hts inw_X9_end_X9 hown hK hP 0 rfl rfl 31 (by decide) (hts (.fieldLink RX9 139 "DockCallModel" "taped" "I") (by decide +kernel)) (fun _ h9 => h9) rfl dX9_end_11 ?_
    refine lv_icmp_le (tgt := 19) hx hb dX9_end_14 (by decide) (fun hc => ?_) (fun hc => ?_)
    · have hw := hw.1 hc
      refine lv_aload_n hx hb dX9_end_19 rfl (lv_at hl 0 rfl) ?_
      refine lv_iload_n hx hb dX9_end_20 rfl (lv_at hl 1 rfl) ?_
      refine va_put (ci := 11) (v := .int p0) (ty := .int) (C := RX9) (T := TX9) (N := 47) hx hb hts inw_X9_end_X9 tyX9 tyX9_ok nmX9 hown hK hP hD hS 0 rfl rfl 31 (by decide) (hts (.fieldLink RX9 139 "DockCallModel" "taped" "I") (by decide +kernel)) (fun _ h9 => h9) rfl (by decide +kernel) rfl rfl (Nat.le_of_ble_eq_true rfl) dX9_end_21 (fun H locs hP hD hS => ?_)
      have hP : va_P D vwCl [(ce_xm bd 0 x_men x_ships x_entries x_rules x_calls x_gangs x_idle x_moved x_paid p0 x_at x_end x_begin x_faultAt x_wants)] H := hP
      have hD : va_D A [(ce_xm bd 0 x_men x_ships x_entries x_rules x_calls x_gangs x_idle x_moved x_paid p0 x_at x_end x_begin x_faultAt x_wants)] := hD
      refine lv_iconst (v := 1) hx hb dX9_end_24 (by decide) ?_
      exact W.zret (v := 1) hx hb hr (by decide) (fun t ht hW => ⟨⟨1, (0, p0), rfl, hw, mAt.to hP hK hD ht hW⟩, hS.F ht⟩) hS.2.2 dX9_end_25
    · have hw := hw.2 hc
      refine lv_iconst (v := 0) hx hb dX9_end_17 (by decide) ?_
      exact W.zret (v := 0) hx hb hr (by decide) (fun t ht hW => ⟨⟨0, (0, x_taped), rfl, hw, mAt.to hP hK hD ht hW⟩, hS.F ht⟩) hS.2.2 dX9_end_18
