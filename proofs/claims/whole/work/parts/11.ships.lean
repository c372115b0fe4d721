def wp_Ships_place (p0 : Int32) (p1 : Int32) (Q : Int32 → Prop) : Prop := Q ((p0 * 4) + p1)
set_option maxHeartbeats 4000000 in
set_option maxRecDepth 100000 in
theorem c_Ships_place (l : Launch) (D : va_G) (y : Nat → ClassId) (sz : Nat)  (p0 : Int32) (p1 : Int32) {Q : Int32 → Prop} (hw : wp_Ships_place p0 p1 Q) : Met l yX6_place wsX6_place ({ frames := 0, cells := 0, slots := 0, locals := 0 }) (va_Pc [.int p0, .int p1] (mPre D y sz [])) (va_Qi (fun (r : Int32) (u : Unit) => Q r ) (mAt D y (va_A [] sz) (fun (u : Unit) => [])) (va_A [] sz)) 0 0 (va_A [] sz) := by
  unfold wp_Ships_place at hw
  refine Met.ofW (cc := cX6_place) (maxL := 2) (ret := some .int) (by decide) rfl ?_
  intro p e s m args below meth c s₁ B hml hv
  obtain ⟨rfl, hsz, hP, hK, hD0, hE⟩ := hv
  have hx := B.exec
  have hb := B.bytes
  have hr := B.returns
  have hts := atoms_spec (ws := wsX6_place) B.pre
  have hown : s.vm.findClass RX6 = some m.cls := findClass_of_methodNamed B.named
  have hlocks := B.notSynchronized
  subst hsz
  have hD := hD0.self (sz := s.heap.size)
  generalize hAe : va_A [] s.heap.size = A at hD ⊢
  have hA : ∀ q : Nat, s.heap.size ≤ q → A q := fun q h => by rw [← hAe]; exact Or.inr h
  have hS : va_S A s.heap s.heap [] := va_S.rf
  have hP : va_P D vwCl [] s.heap := hP
  have hl := lv_entry ([.int p0, .int p1]) (n := 2) (Nat.le_of_ble_eq_true rfl)
  rw [lg_entry_eq]
  generalize (lg_sl ([.int p0, .int p1]) ++ List.replicate (2 - (lg_sl ([.int p0, .int p1])).length) Slot.unset).toArray = ls at hl ⊢
  have hl : lv_has ls 2 [(0, .int p0), (1, .int p1)] := hl
  refine lv_iload_n hx hb dX6_place_0 rfl (lv_at hl 0 rfl) ?_
  refine lv_iconst (v := 4) hx hb dX6_place_1 (by decide) ?_
  refine lv_imul hx hb dX6_place_2 ?_
  refine lv_iload_n hx hb dX6_place_3 rfl (lv_at hl 1 rfl) ?_
  refine lv_iadd hx hb dX6_place_4 ?_
  exact W.iret (v := (p0 * 4) + p1) hx hb hr (fun t ht hW => ⟨⟨(p0 * 4) + p1, (), rfl, hw, mAt.to hP hK hD ht hW⟩, hS.F ht⟩) hS.2.2 dX6_place_5
theorem inw_X6_has_X6 : ∀ w ∈ wsX60, w ∈ wsX6_has := fun _ h => List.mem_cons_of_mem _ (List.mem_append_right _ h)
def wp_Ships_has (s_size : Int32) (p0 : Int32) (Q : Int32 → Prop) : Prop := ((p0 < 0 → Q 0) ∧ (¬ p0 < 0 → ((s_size ≤ p0 → Q 0) ∧ (¬ s_size ≤ p0 → Q 1))))
set_option maxHeartbeats 4000000 in
set_option maxRecDepth 100000 in
theorem c_Ships_has (l : Launch) (D : va_G) (y : Nat → ClassId) (ad : Nat → Nat) (sz : Nat) (s_inLine : Int32) (s_size : Int32) (p0 : Int32) {Q : Int32 → Prop} (hw : wp_Ships_has s_size p0 Q) : Met l yX6_has wsX6_has ({ frames := 0, cells := 0, slots := 0, locals := 0 }) (va_Pc [.ref (ad 14), .int p0] (mPre D y sz [(ce_sh ad s_inLine s_size)])) (va_Qi (fun (r : Int32) (u : Unit) => Q r ) (mAt D y (va_A [(ce_sh ad s_inLine s_size)] sz) (fun (u : Unit) => [(ce_sh ad s_inLine s_size)])) (va_A [(ce_sh ad s_inLine s_size)] sz)) 0 0 (va_A [(ce_sh ad s_inLine s_size)] sz) := by
  unfold wp_Ships_has at hw
  refine Met.ofW (cc := cX6_has) (maxL := 2) (ret := some .boolean) (by decide) rfl ?_
  intro p e s m args below meth c s₁ B hml hv
  obtain ⟨rfl, hsz, hP, hK, hD0, hE⟩ := hv
  have hx := B.exec
  have hb := B.bytes
  have hr := B.returns
  have hts := atoms_spec (ws := wsX6_has) B.pre
  have hown : s.vm.findClass RX6 = some m.cls := findClass_of_methodNamed B.named
  have hlocks := B.notSynchronized
  subst hsz
  have hD := hD0.self (sz := s.heap.size)
  generalize hAe : va_A [(ce_sh ad s_inLine s_size)] s.heap.size = A at hD ⊢
  have hA : ∀ q : Nat, s.heap.size ≤ q → A q := fun q h => by rw [← hAe]; exact Or.inr h
  have hS : va_S A s.heap s.heap [] := va_S.rf
  have hP : va_P D vwCl [(ce_sh ad s_inLine s_size)] s.heap := hP
  have hl := lv_entry ([.ref (ad 14), .int p0]) (n := 2) (Nat.le_of_ble_eq_true rfl)
  rw [lg_entry_eq]
  generalize (lg_sl ([.ref (ad 14), .int p0]) ++ List.replicate (2 - (lg_sl ([.ref (ad 14), .int p0])).length) Slot.unset).toArray = ls at hl ⊢
  have hl : lv_has ls 2 [(0, .ref (ad 14)), (1, .int p0)] := hl
  refine lv_iload_n hx hb dX6_has_0 rfl (lv_at hl 1 rfl) ?_
  refine lv_if_lt (tgt := 16) hx hb dX6_has_1 (by decide) (fun hc => ?_) (fun hc => ?_)
  · have hw := hw.1 hc
    refine lv_iconst (v := 0) hx hb dX6_has_16 (by decide) ?_
    exact W.zret (v := 0) hx hb hr (by decide) (fun t ht hW => ⟨⟨0, (), rfl, hw, mAt.to hP hK hD ht hW⟩, hS.F ht⟩) hS.2.2 dX6_has_17
  · have hw := hw.2 hc
    refine lv_iload_n hx hb dX6_has_4 rfl (lv_at hl 1 rfl) ?_
    refine lv_aload_n hx hb dX6_has_5 rfl (lv_at hl 0 rfl) ?_
    refine va_get (ci := 8) (v := .int s_size) (C := RX6) (T := TX6) (N := 10) hx hb hts inw_X6_has_X6 hown hK hP 0 rfl rfl 9 (by decide) (hts (.fieldLink RX6 37 "DockCall$Ships" "size" "I") (by decide +kernel)) (fun _ h9 => h9) rfl dX6_has_6 ?_
    refine lv_icmp_ge (tgt := 16) hx hb dX6_has_9 (by decide) (fun hc => ?_) (fun hc => ?_)
    · have hw := hw.1 hc
      refine lv_iconst (v := 0) hx hb dX6_has_16 (by decide) ?_
      exact W.zret (v := 0) hx hb hr (by decide) (fun t ht hW => ⟨⟨0, (), rfl, hw, mAt.to hP hK hD ht hW⟩, hS.F ht⟩) hS.2.2 dX6_has_17
    · have hw := hw.2 hc
      refine lv_iconst (v := 1) hx hb dX6_has_12 (by decide) ?_
      refine lv_goto (tgt := 17) hx hb dX6_has_13 (by decide) ?_
      exact W.zret (v := 1) hx hb hr (by decide) (fun t ht hW => ⟨⟨1, (), rfl, hw, mAt.to hP hK hD ht hW⟩, hS.F ht⟩) hS.2.2 dX6_has_17
theorem inw_X6_add_X6 : ∀ w ∈ wsX60, w ∈ wsX6_add := fun _ h => List.mem_cons_of_mem _ (List.mem_append_left _ (List.mem_append_right _ h))
def wp_Ships_add (s_size : Int32) (s_came : Nat → Int32) (p0 : Int32) (Q : Int32 → Int32 → (Nat → Int32) → Prop) : Prop := ((s_size < 10 → (vp_in s_size 10 ∧ Q s_size (s_size + 1) (upd s_came s_size.toNatClampNeg p0))) ∧ (¬ s_size < 10 → Q (-1) s_size s_came))
set_option maxHeartbeats 4000000 in
set_option maxRecDepth 100000 in
theorem c_Ships_add (l : Launch) (D : va_G) (y : Nat → ClassId) (ad : Nat → Nat) (sz : Nat) (s_inLine : Int32) (s_size : Int32) (s_came : Nat → Int32) (p0 : Int32) {Q : Int32 → Int32 → (Nat → Int32) → Prop} (hw : wp_Ships_add s_size s_came p0 Q) : Met l yX6_add wsX6_add ({ frames := 0, cells := 0, slots := 0, locals := 0 }) (va_Pc [.ref (ad 14), .int p0] (mPre D y sz [(ce_sh ad s_inLine s_size), ((ad 15), .inl (y 0, 10, .inl s_came))])) (va_Qi (fun (r : Int32) (u : Int32 × (Nat → Int32)) => Q r u.1 u.2) (mAt D y (va_A [(ce_sh ad s_inLine s_size), ((ad 15), .inl (y 0, 10, .inl s_came))] sz) (fun (u : Int32 × (Nat → Int32)) => [(ce_sh ad s_inLine u.1), ((ad 15), .inl (y 0, 10, .inl u.2))])) (va_A [(ce_sh ad s_inLine s_size), ((ad 15), .inl (y 0, 10, .inl s_came))] sz)) 0 0 (va_A [(ce_sh ad s_inLine s_size), ((ad 15), .inl (y 0, 10, .inl s_came))] sz) := by
  unfold wp_Ships_add at hw
  refine Met.ofW (cc := cX6_add) (maxL := 3) (ret := some .int) (by decide) rfl ?_
  intro p e s m args below meth c s₁ B hml hv
  obtain ⟨rfl, hsz, hP, hK, hD0, hE⟩ := hv
  have hx := B.exec
  have hb := B.bytes
  have hr := B.returns
  have hts := atoms_spec (ws := wsX6_add) B.pre
  have hown : s.vm.findClass RX6 = some m.cls := findClass_of_methodNamed B.named
  have hlocks := B.notSynchronized
  subst hsz
  have hD := hD0.self (sz := s.heap.size)
  generalize hAe : va_A [(ce_sh ad s_inLine s_size), ((ad 15), .inl (y 0, 10, .inl s_came))] s.heap.size = A at hD ⊢
  have hA : ∀ q : Nat, s.heap.size ≤ q → A q := fun q h => by rw [← hAe]; exact Or.inr h
  have hS : va_S A s.heap s.heap [] := va_S.rf
  have hP : va_P D vwCl [(ce_sh ad s_inLine s_size), ((ad 15), .inl (y 0, 10, .inl s_came))] s.heap := hP
  have hl := lv_entry ([.ref (ad 14), .int p0]) (n := 3) (Nat.le_of_ble_eq_true rfl)
  rw [lg_entry_eq]
  generalize (lg_sl ([.ref (ad 14), .int p0]) ++ List.replicate (3 - (lg_sl ([.ref (ad 14), .int p0])).length) Slot.unset).toArray = ls at hl ⊢
  have hl : lv_has ls 3 [(0, .ref (ad 14)), (1, .int p0)] := hl
  refine lv_aload_n hx hb dX6_add_0 rfl (lv_at hl 0 rfl) ?_
  refine va_get (ci := 8) (v := .int s_size) (C := RX6) (T := TX6) (N := 10) hx hb hts inw_X6_add_X6 hown hK hP 0 rfl rfl 9 (by decide) (hts (.fieldLink RX6 37 "DockCall$Ships" "size" "I") (by decide +kernel)) (fun _ h9 => h9) rfl dX6_add_1 ?_
  refine lv_istore_n (lv' := [(2, .int s_size), (0, .ref (ad 14)), (1, .int p0)]) hx hb dX6_add_4 rfl hl (by decide) rfl (fun ls hl => ?_)
  refine lv_iload_n hx hb dX6_add_5 rfl (lv_at hl 0 rfl) ?_
  refine lv_bipush (v := 10) hx hb dX6_add_6 (by decide) ?_
  refine lv_icmp_lt (tgt := 13) hx hb dX6_add_8 (by decide) (fun hc => ?_) (fun hc => ?_)
  · have hw := hw.1 hc
    refine lv_aload_n hx hb dX6_add_13 rfl (lv_at hl 1 rfl) ?_
    refine va_get (ci := 8) (v := .ref (ad 15)) (C := RX6) (T := TX6) (N := 10) hx hb hts inw_X6_add_X6 hown hK hP 0 rfl rfl 0 (by decide) (hts (.fieldLink RX6 9 "DockCall$Ships" "came" "[I") (by decide +kernel)) (fun _ h9 => h9) rfl dX6_add_14 ?_
    refine lv_iload_n hx hb dX6_add_17 rfl (lv_at hl 0 rfl) ?_
    refine lv_iload_n hx hb dX6_add_18 rfl (lv_at hl 2 rfl) ?_
    obtain ⟨hi, hw⟩ := hw
    refine va_iast hx hb hK hP hD hS 1 0 rfl rfl hi dX6_add_19 (fun H locs hP hD hS => ?_)
    have hP : va_P D vwCl [(ce_sh ad s_inLine s_size), ((ad 15), .inl (y 0, 10, .inl (upd s_came s_size.toNatClampNeg p0)))] H := hP
    have hD : va_D A [(ce_sh ad s_inLine s_size), ((ad 15), .inl (y 0, 10, .inl (upd s_came s_size.toNatClampNeg p0)))] := hD
    refine lv_aload_n hx hb dX6_add_20 rfl (lv_at hl 1 rfl) ?_
    refine lv_dup hx hb dX6_add_21 rfl ?_
    refine va_get (ci := 8) (v := .int s_size) (C := RX6) (T := TX6) (N := 10) hx hb hts inw_X6_add_X6 hown hK hP 0 rfl rfl 9 (by decide) (hts (.fieldLink RX6 37 "DockCall$Ships" "size" "I") (by decide +kernel)) (fun _ h9 => h9) rfl dX6_add_22 ?_
    refine lv_iconst (v := 1) hx hb dX6_add_25 (by decide) ?_
    refine lv_iadd hx hb dX6_add_26 ?_
    refine va_put (ci := 8) (v := .int (s_size + 1)) (ty := .int) (C := RX6) (T := TX6) (N := 10) hx hb hts inw_X6_add_X6 tyX6 tyX6_ok nmX6 hown hK hP hD hS 0 rfl rfl 9 (by decide) (hts (.fieldLink RX6 37 "DockCall$Ships" "size" "I") (by decide +kernel)) (fun _ h9 => h9) rfl (by decide +kernel) rfl rfl (Nat.le_of_ble_eq_true rfl) dX6_add_27 (fun H locs hP hD hS => ?_)
    have hP : va_P D vwCl [(ce_sh ad s_inLine (s_size + 1)), ((ad 15), .inl (y 0, 10, .inl (upd s_came s_size.toNatClampNeg p0)))] H := hP
    have hD : va_D A [(ce_sh ad s_inLine (s_size + 1)), ((ad 15), .inl (y 0, 10, .inl (upd s_came s_size.toNatClampNeg p0)))] := hD
    refine lv_iload_n hx hb dX6_add_30 rfl (lv_at hl 0 rfl) ?_
    exact W.iret (v := s_size) hx hb hr (fun t ht hW => ⟨⟨s_size, (s_size + 1, upd s_came s_size.toNatClampNeg p0), rfl, hw, mAt.to hP hK hD ht hW⟩, hS.F ht⟩) hS.2.2 dX6_add_31
  · have hw := hw.2 hc
    refine lv_iconst (v := (-1)) hx hb dX6_add_11 (by decide) ?_
    exact W.iret (v := (-1)) hx hb hr (fun t ht hW => ⟨⟨(-1), (s_size, s_came), rfl, hw, mAt.to hP hK hD ht hW⟩, hS.F ht⟩) hS.2.2 dX6_add_12
theorem inw_X6_addHatch_X6 : ∀ w ∈ wsX60, w ∈ wsX6_addHatch := fun _ h => List.mem_cons_of_mem _ (List.mem_append_left _ (List.mem_append_right _ h))
def wp_Ships_addHatch (s_hatches : Nat → Int32) (s_left : Nat → Int32) (s_skill : Nat → Int32) (s_dry : Nat → Int32) (p0 : Int32) (p1 : Int32) (p2 : Int32) (p3 : Int32) (Q : Int32 → (Nat → Int32) → (Nat → Int32) → (Nat → Int32) → (Nat → Int32) → Prop) : Prop := (vp_in p0 10 ∧ ((s_hatches p0.toNatClampNeg < 4 → (wp_Ships_place p0 (s_hatches p0.toNatClampNeg) (fun r_1 => (vp_in r_1 40 ∧ (vp_in r_1 40 ∧ (vp_in r_1 40 ∧ (vp_in p0 10 ∧ (vp_in p0 10 ∧ Q (s_hatches p0.toNatClampNeg) (upd s_hatches p0.toNatClampNeg ((s_hatches p0.toNatClampNeg) + 1)) (upd s_left r_1.toNatClampNeg p1) (upd s_skill r_1.toNatClampNeg p2) (upd s_dry r_1.toNatClampNeg (vp_nar .boolean p3)))))))))) ∧ (¬ s_hatches p0.toNatClampNeg < 4 → Q (-1) s_hatches s_left s_skill s_dry)))
set_option maxHeartbeats 4000000 in
set_option maxRecDepth 100000 in
theorem c_Ships_addHatch (l : Launch) (D : va_G) (y : Nat → ClassId) (ad : Nat → Nat) (sz : Nat) (s_inLine : Int32) (s_size : Int32) (s_hatches : Nat → Int32) (s_left : Nat → Int32) (s_skill : Nat → Int32) (s_dry : Nat → Int32) (p0 : Int32) (p1 : Int32) (p2 : Int32) (p3 : Int32) {Q : Int32 → (Nat → Int32) → (Nat → Int32) → (Nat → Int32) → (Nat → Int32) → Prop} (hw : wp_Ships_addHatch s_hatches s_left s_skill s_dry p0 p1 p2 p3 Q) : Met l yX6_addHatch wsX6_addHatch ({ frames := 1, cells := 0, slots := 0, locals := 21 }) (va_Pc [.ref (ad 14), .int p0, .int p1, .int p2, .int p3] (mPre D y sz [(ce_sh ad s_inLine s_size), ((ad 16), .inl (y 0, 10, .inl s_hatches)), ((ad 18), .inl (y 0, 40, .inl s_left)), ((ad 19), .inl (y 0, 40, .inl s_skill)), ((ad 20), .inl (y 2, 40, .inl s_dry))])) (va_Qi (fun (r : Int32) (u : (Nat → Int32) × (Nat → Int32) × (Nat → Int32) × (Nat → Int32)) => Q r u.1 u.2.1 u.2.2.1 u.2.2.2) (mAt D y (va_A [(ce_sh ad s_inLine s_size), ((ad 16), .inl (y 0, 10, .inl s_hatches)), ((ad 18), .inl (y 0, 40, .inl s_left)), ((ad 19), .inl (y 0, 40, .inl s_skill)), ((ad 20), .inl (y 2, 40, .inl s_dry))] sz) (fun (u : (Nat → Int32) × (Nat → Int32) × (Nat → Int32) × (Nat → Int32)) => [(ce_sh ad s_inLine s_size), ((ad 16), .inl (y 0, 10, .inl u.1)), ((ad 18), .inl (y 0, 40, .inl u.2.1)), ((ad 19), .inl (y 0, 40, .inl u.2.2.1)), ((ad 20), .inl (y 2, 40, .inl u.2.2.2))])) (va_A [(ce_sh ad s_inLine s_size), ((ad 16), .inl (y 0, 10, .inl s_hatches)), ((ad 18), .inl (y 0, 40, .inl s_left)), ((ad 19), .inl (y 0, 40, .inl s_skill)), ((ad 20), .inl (y 2, 40, .inl s_dry))] sz)) 0 0 (va_A [(ce_sh ad s_inLine s_size), ((ad 16), .inl (y 0, 10, .inl s_hatches)), ((ad 18), .inl (y 0, 40, .inl s_left)), ((ad 19), .inl (y 0, 40, .inl s_skill)), ((ad 20), .inl (y 2, 40, .inl s_dry))] sz) := by
  unfold wp_Ships_addHatch at hw
  refine Met.ofW (cc := cX6_addHatch) (maxL := 7) (ret := some .int) (by decide) rfl ?_
  intro p e s m args below meth c s₁ B hml hv
  obtain ⟨rfl, hsz, hP, hK, hD0, hE⟩ := hv
  have hx := B.exec
  have hb := B.bytes
  have hr := B.returns
  have hts := atoms_spec (ws := wsX6_addHatch) B.pre
  have hown : s.vm.findClass RX6 = some m.cls := findClass_of_methodNamed B.named
  have hlocks := B.notSynchronized
  subst hsz
  have hD := hD0.self (sz := s.heap.size)
  generalize hAe : va_A [(ce_sh ad s_inLine s_size), ((ad 16), .inl (y 0, 10, .inl s_hatches)), ((ad 18), .inl (y 0, 40, .inl s_left)), ((ad 19), .inl (y 0, 40, .inl s_skill)), ((ad 20), .inl (y 2, 40, .inl s_dry))] s.heap.size = A at hD ⊢
  have hA : ∀ q : Nat, s.heap.size ≤ q → A q := fun q h => by rw [← hAe]; exact Or.inr h
  have hS : va_S A s.heap s.heap [] := va_S.rf
  have hP : va_P D vwCl [(ce_sh ad s_inLine s_size), ((ad 16), .inl (y 0, 10, .inl s_hatches)), ((ad 18), .inl (y 0, 40, .inl s_left)), ((ad 19), .inl (y 0, 40, .inl s_skill)), ((ad 20), .inl (y 2, 40, .inl s_dry))] s.heap := hP
  have hl := lv_entry ([.ref (ad 14), .int p0, .int p1, .int p2, .int p3]) (n := 7) (Nat.le_of_ble_eq_true rfl)
  rw [lg_entry_eq]
  generalize (lg_sl ([.ref (ad 14), .int p0, .int p1, .int p2, .int p3]) ++ List.replicate (7 - (lg_sl ([.ref (ad 14), .int p0, .int p1, .int p2, .int p3])).length) Slot.unset).toArray = ls at hl ⊢
  have hl : lv_has ls 7 [(0, .ref (ad 14)), (1, .int p0), (2, .int p1), (3, .int p2), (4, .int p3)] := hl
  refine lv_aload_n hx hb dX6_addHatch_0 rfl (lv_at hl 0 rfl) ?_
  refine va_get (ci := 8) (v := .ref (ad 16)) (C := RX6) (T := TX6) (N := 10) hx hb hts inw_X6_addHatch_X6 hown hK hP 0 rfl rfl 1 (by decide) (hts (.fieldLink RX6 15 "DockCall$Ships" "hatches" "[I") (by decide +kernel)) (fun _ h9 => h9) rfl dX6_addHatch_1 ?_
  refine lv_iload_n hx hb dX6_addHatch_4 rfl (lv_at hl 1 rfl) ?_
  obtain ⟨hi, hw⟩ := hw
  refine va_iald hx hb hK hP 1 0 rfl rfl hi dX6_addHatch_5 ?_
  refine lv_istore (lv' := [(5, .int (s_hatches p0.toNatClampNeg)), (0, .ref (ad 14)), (1, .int p0), (2, .int p1), (3, .int p2), (4, .int p3)]) hx hb dX6_addHatch_6 hl (by decide) rfl (fun ls hl => ?_)
  refine lv_iload hx hb dX6_addHatch_8 (lv_at hl 0 rfl) ?_
  refine lv_iconst (v := 4) hx hb dX6_addHatch_10 (by decide) ?_
  refine lv_icmp_lt (tgt := 16) hx hb dX6_addHatch_11 (by decide) (fun hc => ?_) (fun hc => ?_)
  · have hw := hw.1 hc
    refine lv_iload_n hx hb dX6_addHatch_16 rfl (lv_at hl 2 rfl) ?_
    refine lv_iload hx hb dX6_addHatch_17 (lv_at hl 0 rfl) ?_
    refine mx_i (wc := []) (wr := [(ce_sh ad s_inLine s_size), ((ad 16), .inl (y 0, 10, .inl s_hatches)), ((ad 18), .inl (y 0, 40, .inl s_left)), ((ad 19), .inl (y 0, 40, .inl s_skill)), ((ad 20), .inl (y 2, 40, .inl s_dry))]) hP hD hS hA [] [0, 1, 2, 3, 4] [0, 1, 2, 3, 4] rfl rfl (by decide) (by decide) (by decide) (fun (u : Unit) => [(ce_sh ad s_inLine s_size), ((ad 16), .inl (y 0, 10, .inl s_hatches)), ((ad 18), .inl (y 0, 40, .inl s_left)), ((ad 19), .inl (y 0, 40, .inl s_skill)), ((ad 20), .inl (y 2, 40, .inl s_dry))]) (fun _ => rfl) (va_runS (As := [.int p0, .int (s_hatches p0.toNatClampNeg)]) (rest := []) ⟨hx, hb, hml, hown, hts⟩ (c_Ships_place l D y s.heap.size p0 (s_hatches p0.toNatClampNeg) hw) (va_cwS 2 hts gX6_addHatch_X6_place rfl rfl rfl (by decide +kernel) ⟨Nat.le_of_ble_eq_true rfl, Nat.le_of_ble_eq_true rfl⟩) ⟨mPre.blind, mPre.to (hP.sub [] rfl) hK (hD.sub [] (by decide) rfl) hE⟩ rfl rfl hl.1 rfl (lv_room (Nat.le_of_ble_eq_true rfl)) dX6_addHatch_19 ⟨Nat.le_of_ble_eq_true rfl, Nat.le_of_ble_eq_true rfl⟩) (fun r_1 u H locs hw hP hD hS => ?_)
    try dsimp only at hw
    have hP : va_P D vwCl [(ce_sh ad s_inLine s_size), ((ad 16), .inl (y 0, 10, .inl s_hatches)), ((ad 18), .inl (y 0, 40, .inl s_left)), ((ad 19), .inl (y 0, 40, .inl s_skill)), ((ad 20), .inl (y 2, 40, .inl s_dry))] H := hP
    have hD : va_D A [(ce_sh ad s_inLine s_size), ((ad 16), .inl (y 0, 10, .inl s_hatches)), ((ad 18), .inl (y 0, 40, .inl s_left)), ((ad 19), .inl (y 0, 40, .inl s_skill)), ((ad 20), .inl (y 2, 40, .inl s_dry))] := hD
    refine lv_istore (lv' := [(6, .int r_1), (5, .int (s_hatches p0.toNatClampNeg)), (0, .ref (ad 14)), (1, .int p0), (2, .int p1), (3, .int p2), (4, .int p3)]) hx hb dX6_addHatch_22 hl (by decide) rfl (fun ls hl => ?_)
    refine lv_aload_n hx hb dX6_addHatch_24 rfl (lv_at hl 2 rfl) ?_
    refine va_get (ci := 8) (v := .ref (ad 18)) (C := RX6) (T := TX6) (N := 10) hx hb hts inw_X6_addHatch_X6 hown hK hP 0 rfl rfl 3 (by decide) (hts (.fieldLink RX6 21 "DockCall$Ships" "left" "[I") (by decide +kernel)) (fun _ h9 => h9) rfl dX6_addHatch_25 ?_
    refine lv_iload hx hb dX6_addHatch_28 (lv_at hl 0 rfl) ?_
    refine lv_iload_n hx hb dX6_addHatch_30 rfl (lv_at hl 4 rfl) ?_
    obtain ⟨hi, hw⟩ := hw
    refine va_iast hx hb hK hP hD hS 2 0 rfl rfl hi dX6_addHatch_31 (fun H locs hP hD hS => ?_)
    have hP : va_P D vwCl [(ce_sh ad s_inLine s_size), ((ad 16), .inl (y 0, 10, .inl s_hatches)), ((ad 18), .inl (y 0, 40, .inl (upd s_left r_1.toNatClampNeg p1))), ((ad 19), .inl (y 0, 40, .inl s_skill)), ((ad 20), .inl (y 2, 40, .inl s_dry))] H := hP
    have hD : va_D A [(ce_sh ad s_inLine s_size), ((ad 16), .inl (y 0, 10, .inl s_hatches)), ((ad 18), .inl (y 0, 40, .inl (upd s_left r_1.toNatClampNeg p1))), ((ad 19), .inl (y 0, 40, .inl s_skill)), ((ad 20), .inl (y 2, 40, .inl s_dry))] := hD
    refine lv_aload_n hx hb dX6_addHatch_32 rfl (lv_at hl 2 rfl) ?_
    refine va_get (ci := 8) (v := .ref (ad 19)) (C := RX6) (T := TX6) (N := 10) hx hb hts inw_X6_addHatch_X6 hown hK hP 0 rfl rfl 4 (by decide) (hts (.fieldLink RX6 24 "DockCall$Ships" "skill" "[I") (by decide +kernel)) (fun _ h9 => h9) rfl dX6_addHatch_33 ?_
    refine lv_iload hx hb dX6_addHatch_36 (lv_at hl 0 rfl) ?_
    refine lv_iload_n hx hb dX6_addHatch_38 rfl (lv_at hl 5 rfl) ?_
    obtain ⟨hi, hw⟩ := hw
    refine va_iast hx hb hK hP hD hS 3 0 rfl rfl hi dX6_addHatch_39 (fun H locs hP hD hS => ?_)
    have hP : va_P D vwCl [(ce_sh ad s_inLine s_size), ((ad 16), .inl (y 0, 10, .inl s_hatches)), ((ad 18), .inl (y 0, 40, .inl (upd s_left r_1.toNatClampNeg p1))), ((ad 19), .inl (y 0, 40, .inl (upd s_skill r_1.toNatClampNeg p2))), ((ad 20), .inl (y 2, 40, .inl s_dry))] H := hP
    have hD : va_D A [(ce_sh ad s_inLine s_size), ((ad 16), .inl (y 0, 10, .inl s_hatches)), ((ad 18), .inl (y 0, 40, .inl (upd s_left r_1.toNatClampNeg p1))), ((ad 19), .inl (y 0, 40, .inl (upd s_skill r_1.toNatClampNeg p2))), ((ad 20), .inl (y 2, 40, .inl s_dry))] := hD
    refine lv_aload_n hx hb dX6_addHatch_40 rfl (lv_at hl 2 rfl) ?_
    refine va_get (ci := 8) (v := .ref (ad 20)) (C := RX6) (T := TX6) (N := 10) hx hb hts inw_X6_addHatch_X6 hown hK hP 0 rfl rfl 5 (by decide) (hts (.fieldLink RX6 27 "DockCall$Ships" "dry" "[Z") (by decide +kernel)) (fun _ h9 => h9) rfl dX6_addHatch_41 ?_
    refine lv_iload hx hb dX6_addHatch_44 (lv_at hl 0 rfl) ?_
    refine lv_iload hx hb dX6_addHatch_46 (lv_at hl 6 rfl) ?_
    obtain ⟨hi, hw⟩ := hw
    refine va_zast hx hb hK hP hD hS 4 2 rfl rfl hi dX6_addHatch_48 (fun H locs hP hD hS => ?_)
    have hP : va_P D vwCl [(ce_sh ad s_inLine s_size), ((ad 16), .inl (y 0, 10, .inl s_hatches)), ((ad 18), .inl (y 0, 40, .inl (upd s_left r_1.toNatClampNeg p1))), ((ad 19), .inl (y 0, 40, .inl (upd s_skill r_1.toNatClampNeg p2))), ((ad 20), .inl (y 2, 40, .inl (upd s_dry r_1.toNatClampNeg (vp_nar .boolean p3))))] H := hP
    have hD : va_D A [(ce_sh ad s_inLine s_size), ((ad 16), .inl (y 0, 10, .inl s_hatches)), ((ad 18), .inl (y 0, 40, .inl (upd s_left r_1.toNatClampNeg p1))), ((ad 19), .inl (y 0, 40, .inl (upd s_skill r_1.toNatClampNeg p2))), ((ad 20), .inl (y 2, 40, .inl (upd s_dry r_1.toNatClampNeg (vp_nar .boolean p3))))] := hD
    refine lv_aload_n hx hb dX6_addHatch_49 rfl (lv_at hl 2 rfl) ?_
    refine va_get (ci := 8) (v := .ref (ad 16)) (C := RX6) (T := TX6) (N := 10) hx hb hts inw_X6_addHatch_X6 hown hK hP 0 rfl rfl 1 (by decide) (hts (.fieldLink RX6 15 "DockCall$Ships" "hatches" "[I") (by decide +kernel)) (fun _ h9 => h9) rfl dX6_addHatch_50 ?_
    refine lv_iload_n hx hb dX6_addHatch_53 rfl (lv_at hl 3 rfl) ?_
    refine lv_dup2_11 hx hb dX6_addHatch_54 rfl rfl ?_
    obtain ⟨hi, hw⟩ := hw
    refine va_iald hx hb hK hP 1 0 rfl rfl hi dX6_addHatch_55 ?_
    refine lv_iconst (v := 1) hx hb dX6_addHatch_56 (by decide) ?_
    refine lv_iadd hx hb dX6_addHatch_57 ?_
    obtain ⟨hi, hw⟩ := hw
    refine va_iast hx hb hK hP hD hS 1 0 rfl rfl hi dX6_addHatch_58 (fun H locs hP hD hS => ?_)
    have hP : va_P D vwCl [(ce_sh ad s_inLine s_size), ((ad 16), .inl (y 0, 10, .inl (upd s_hatches p0.toNatClampNeg ((s_hatches p0.toNatClampNeg) + 1)))), ((ad 18), .inl (y 0, 40, .inl (upd s_left r_1.toNatClampNeg p1))), ((ad 19), .inl (y 0, 40, .inl (upd s_skill r_1.toNatClampNeg p2))), ((ad 20), .inl (y 2, 40, .inl (upd s_dry r_1.toNatClampNeg (vp_nar .boolean p3))))] H := hP
    have hD : va_D A [(ce_sh ad s_inLine s_size), ((ad 16), .inl (y 0, 10, .inl (upd s_hatches p0.toNatClampNeg ((s_hatches p0.toNatClampNeg) + 1)))), ((ad 18), .inl (y 0, 40, .inl (upd s_left r_1.toNatClampNeg p1))), ((ad 19), .inl (y 0, 40, .inl (upd s_skill r_1.toNatClampNeg p2))), ((ad 20), .inl (y 2, 40, .inl (upd s_dry r_1.toNatClampNeg (vp_nar .boolean p3))))] := hD
    refine lv_iload hx hb dX6_addHatch_59 (lv_at hl 1 rfl) ?_
    exact W.iret (v := s_hatches p0.toNatClampNeg) hx hb hr (fun t ht hW => ⟨⟨s_hatches p0.toNatClampNeg, (upd s_hatches p0.toNatClampNeg ((s_hatches p0.toNatClampNeg) + 1), upd s_left r_1.toNatClampNeg p1, upd s_skill r_1.toNatClampNeg p2, upd s_dry r_1.toNatClampNeg (vp_nar .boolean p3)), rfl, hw, mAt.to hP hK hD ht hW⟩, hS.F ht⟩) hS.2.2 dX6_addHatch_61
  · have hw := hw.2 hc
    refine lv_iconst (v := (-1)) hx hb dX6_addHatch_14 (by decide) ?_
    exact W.iret (v := (-1)) hx hb hr (fun t ht hW => ⟨⟨(-1), (s_hatches, s_left, s_skill, s_dry), rfl, hw, mAt.to hP hK hD ht hW⟩, hS.F ht⟩) hS.2.2 dX6_addHatch_15
theorem inw_X6_tonsOf_X6 : ∀ w ∈ wsX60, w ∈ wsX6_tonsOf := fun _ h => List.mem_cons_of_mem _ (List.mem_append_left _ (List.mem_append_right _ h))
def wp_Ships_tonsOf_h4 (v1 : Int32) (s_hatches : Nat → Int32) (s_left : Nat → Int32)  (Q : Int32 → Prop) : Nat → Int32 → Int32 → Prop
  | 0, _, _ => False
  | n + 1, v2, v3 => (vp_in v1 10 ∧ ((s_hatches v1.toNatClampNeg ≤ v3 → Q v2) ∧ (¬ s_hatches v1.toNatClampNeg ≤ v3 → (wp_Ships_place v1 v3 (fun r_1 => (vp_in r_1 40 ∧ wp_Ships_tonsOf_h4 v1 s_hatches s_left Q n (v2 + (s_left r_1.toNatClampNeg)) (v3 + 1)))))))
def wp_Ships_tonsOf (s_hatches : Nat → Int32) (s_left : Nat → Int32) (p0 : Int32) (Q : Int32 → Prop) : Prop := (∃ n' : Nat, wp_Ships_tonsOf_h4 p0 s_hatches s_left Q n' 0 0)
set_option maxHeartbeats 4000000 in
set_option maxRecDepth 100000 in
theorem c_Ships_tonsOf_h4 {p : Program} {l : Launch} {e : Env} {s : State} {m : MethodId} {args : Array Value} {below : List Frame} {meth : Method} {c : Code} {D : va_G} {y : Nat → ClassId} {ad : Nat → Nat} {A : Nat → Prop} (hx : p.tables.exec = Jvm.exec) (hb : c.code = cX6_tonsOf) (hr : meth.sig.returnType = some .int) (hml : c.maxLocals = 4) (hown : s.vm.findClass RX6 = some m.cls) (hts : ∀ w ∈ wsX6_tonsOf, w.before args s = true) (hlocks : meth.locks = false) (hK : va_K D vwCl (TY y) s) (hE : EV s) (hA : ∀ q, s.heap.size ≤ q → A q) {v1 : Int32} {s_hatches : Nat → Int32} {s_left : Nat → Int32} {s_inLine : Int32} {s_size : Int32}  {Q : Int32 → Prop}  : ∀ (n : Nat) (v2 : Int32) (v3 : Int32), wp_Ships_tonsOf_h4 v1 s_hatches s_left Q n v2 v3 → ∀ (H : Heap) (locs : List Loc) (ls : Array Slot), va_P D vwCl [(ce_sh ad s_inLine s_size), ((ad 16), .inl (y 0, 10, .inl s_hatches)), ((ad 18), .inl (y 0, 40, .inl s_left))] H → va_D A [(ce_sh ad s_inLine s_size), ((ad 16), .inl (y 0, 10, .inl s_hatches)), ((ad 18), .inl (y 0, 40, .inl s_left))] → va_S A s.heap H locs → lv_has ls 4 [(3, .int v3), (2, .int v2), (0, .ref (ad 14)), (1, .int v1)] → W p l e ({ frames := 1, cells := 0, slots := 0, locals := 21 }) s m args below meth c H locs 0 0 (MQ below (va_Qi (fun (r : Int32) (u : Unit) => Q r ) (mAt D y A (fun (u : Unit) => [(ce_sh ad s_inLine s_size), ((ad 16), .inl (y 0, 10, .inl s_hatches)), ((ad 18), .inl (y 0, 40, .inl s_left))])) A) args s 0 0 A) (F0 m 4 ls []) := by
  intro n
  induction n with
  | zero => intro v2 v3 hw; rw [wp_Ships_tonsOf_h4] at hw; exact hw.elim
  | succ n ih =>
    intro v2 v3 hw H locs ls hP hD hS hl
    rw [wp_Ships_tonsOf_h4] at hw
    refine lv_iload_n hx hb dX6_tonsOf_4 rfl (lv_at hl 0 rfl) ?_
    refine lv_aload_n hx hb dX6_tonsOf_5 rfl (lv_at hl 2 rfl) ?_
    refine va_get (ci := 8) (v := .ref (ad 16)) (C := RX6) (T := TX6) (N := 10) hx hb hts inw_X6_tonsOf_X6 hown hK hP 0 rfl rfl 1 (by decide) (hts (.fieldLink RX6 15 "DockCall$Ships" "hatches" "[I") (by decide +kernel)) (fun _ h9 => h9) rfl dX6_tonsOf_6 ?_
    refine lv_iload_n hx hb dX6_tonsOf_9 rfl (lv_at hl 3 rfl) ?_
    obtain ⟨hi, hw⟩ := hw
    refine va_iald hx hb hK hP 1 0 rfl rfl hi dX6_tonsOf_10 ?_
    refine lv_icmp_ge (tgt := 33) hx hb dX6_tonsOf_11 (by decide) (fun hc => ?_) (fun hc => ?_)
    · have hw := hw.1 hc
      refine lv_iload_n hx hb dX6_tonsOf_33 rfl (lv_at hl 1 rfl) ?_
      exact W.iret (v := v2) hx hb hr (fun t ht hW => ⟨⟨v2, (), rfl, hw, mAt.to hP hK hD ht hW⟩, hS.F ht⟩) hS.2.2 dX6_tonsOf_34
    · have hw := hw.2 hc
      refine lv_iload_n hx hb dX6_tonsOf_14 rfl (lv_at hl 1 rfl) ?_
      refine lv_aload_n hx hb dX6_tonsOf_15 rfl (lv_at hl 2 rfl) ?_
      refine va_get (ci := 8) (v := .ref (ad 18)) (C := RX6) (T := TX6) (N := 10) hx hb hts inw_X6_tonsOf_X6 hown hK hP 0 rfl rfl 3 (by decide) (hts (.fieldLink RX6 21 "DockCall$Ships" "left" "[I") (by decide +kernel)) (fun _ h9 => h9) rfl dX6_tonsOf_16 ?_
      refine lv_iload_n hx hb dX6_tonsOf_19 rfl (lv_at hl 3 rfl) ?_
      refine lv_iload_n hx hb dX6_tonsOf_20 rfl (lv_at hl 0 rfl) ?_
      refine mx_i (wc := []) (wr := [(ce_sh ad s_inLine s_size), ((ad 16), .inl (y 0, 10, .inl s_hatches)), ((ad 18), .inl (y 0, 40, .inl s_left))]) hP hD hS hA [] [0, 1, 2] [0, 1, 2] rfl rfl (by decide) (by decide) (by decide) (fun (u : Unit) => [(ce_sh ad s_inLine s_size), ((ad 16), .inl (y 0, 10, .inl s_hatches)), ((ad 18), .inl (y 0, 40, .inl s_left))]) (fun _ => rfl) (va_runS (As := [.int v1, .int v3]) (rest := [.ref (ad 18), .int v2]) ⟨hx, hb, hml, hown, hts⟩ (c_Ships_place l D y H.size v1 v3 hw) (va_cwS 2 hts gX6_tonsOf_X6_place rfl rfl rfl (by decide +kernel) ⟨Nat.le_of_ble_eq_true rfl, Nat.le_of_ble_eq_true rfl⟩) ⟨mPre.blind, mPre.to (hP.sub [] rfl) hK (hD.sub [] (by decide) rfl) hE⟩ rfl rfl hl.1 rfl (lv_room (Nat.le_of_ble_eq_true rfl)) dX6_tonsOf_21 ⟨Nat.le_of_ble_eq_true rfl, Nat.le_of_ble_eq_true rfl⟩) (fun r_1 u H locs hw hP hD hS => ?_)
      try dsimp only at hw
      have hP : va_P D vwCl [(ce_sh ad s_inLine s_size), ((ad 16), .inl (y 0, 10, .inl s_hatches)), ((ad 18), .inl (y 0, 40, .inl s_left))] H := hP
      have hD : va_D A [(ce_sh ad s_inLine s_size), ((ad 16), .inl (y 0, 10, .inl s_hatches)), ((ad 18), .inl (y 0, 40, .inl s_left))] := hD
      obtain ⟨hi, hw⟩ := hw
      refine va_iald hx hb hK hP 2 0 rfl rfl hi dX6_tonsOf_24 ?_
      refine lv_iadd hx hb dX6_tonsOf_25 ?_
      refine lv_istore_n (lv' := [(2, .int (v2 + (s_left r_1.toNatClampNeg))), (3, .int v3), (0, .ref (ad 14)), (1, .int v1)]) hx hb dX6_tonsOf_26 rfl hl (by decide) rfl (fun ls hl => ?_)
      refine lv_iinc (v := v3 + 1) (lv' := [(3, .int (v3 + 1)), (2, .int (v2 + (s_left r_1.toNatClampNeg))), (0, .ref (ad 14)), (1, .int v1)]) hx hb dX6_tonsOf_27 hl (k := 1) rfl (by first | rfl | decide) (by decide) rfl (fun ls hl => ?_)
      refine lv_goto (tgt := 4) hx hb dX6_tonsOf_30 (by decide) ?_
      exact ih (v2 + (s_left r_1.toNatClampNeg)) (v3 + 1)  hw _ _ _ hP hD hS (lv_sub hl [0, 1, 2, 3] rfl)
set_option maxHeartbeats 4000000 in
set_option maxRecDepth 100000 in
theorem c_Ships_tonsOf (l : Launch) (D : va_G) (y : Nat → ClassId) (ad : Nat → Nat) (sz : Nat) (s_inLine : Int32) (s_size : Int32) (s_hatches : Nat → Int32) (s_left : Nat → Int32) (p0 : Int32) {Q : Int32 → Prop} (hw : wp_Ships_tonsOf s_hatches s_left p0 Q) : Met l yX6_tonsOf wsX6_tonsOf ({ frames := 1, cells := 0, slots := 0, locals := 21 }) (va_Pc [.ref (ad 14), .int p0] (mPre D y sz [(ce_sh ad s_inLine s_size), ((ad 16), .inl (y 0, 10, .inl s_hatches)), ((ad 18), .inl (y 0, 40, .inl s_left))])) (va_Qi (fun (r : Int32) (u : Unit) => Q r ) (mAt D y (va_A [(ce_sh ad s_inLine s_size), ((ad 16), .inl (y 0, 10, .inl s_hatches)), ((ad 18), .inl (y 0, 40, .inl s_left))] sz) (fun (u : Unit) => [(ce_sh ad s_inLine s_size), ((ad 16), .inl (y 0, 10, .inl s_hatches)), ((ad 18), .inl (y 0, 40, .inl s_left))])) (va_A [(ce_sh ad s_inLine s_size), ((ad 16), .inl (y 0, 10, .inl s_hatches)), ((ad 18), .inl (y 0, 40, .inl s_left))] sz)) 0 0 (va_A [(ce_sh ad s_inLine s_size), ((ad 16), .inl (y 0, 10, .inl s_hatches)), ((ad 18), .inl (y 0, 40, .inl s_left))] sz) := by
  unfold wp_Ships_tonsOf at hw
  refine Met.ofW (cc := cX6_tonsOf) (maxL := 4) (ret := some .int) (by decide) rfl ?_
  intro p e s m args below meth c s₁ B hml hv
  obtain ⟨rfl, hsz, hP, hK, hD0, hE⟩ := hv
  have hx := B.exec
  have hb := B.bytes
  have hr := B.returns
  have hts := atoms_spec (ws := wsX6_tonsOf) B.pre
  have hown : s.vm.findClass RX6 = some m.cls := findClass_of_methodNamed B.named
  have hlocks := B.notSynchronized
  subst hsz
  have hD := hD0.self (sz := s.heap.size)
  generalize hAe : va_A [(ce_sh ad s_inLine s_size), ((ad 16), .inl (y 0, 10, .inl s_hatches)), ((ad 18), .inl (y 0, 40, .inl s_left))] s.heap.size = A at hD ⊢
  have hA : ∀ q : Nat, s.heap.size ≤ q → A q := fun q h => by rw [← hAe]; exact Or.inr h
  have hS : va_S A s.heap s.heap [] := va_S.rf
  have hP : va_P D vwCl [(ce_sh ad s_inLine s_size), ((ad 16), .inl (y 0, 10, .inl s_hatches)), ((ad 18), .inl (y 0, 40, .inl s_left))] s.heap := hP
  have hl := lv_entry ([.ref (ad 14), .int p0]) (n := 4) (Nat.le_of_ble_eq_true rfl)
  rw [lg_entry_eq]
  generalize (lg_sl ([.ref (ad 14), .int p0]) ++ List.replicate (4 - (lg_sl ([.ref (ad 14), .int p0])).length) Slot.unset).toArray = ls at hl ⊢
  have hl : lv_has ls 4 [(0, .ref (ad 14)), (1, .int p0)] := hl
  refine lv_iconst (v := 0) hx hb dX6_tonsOf_0 (by decide) ?_
  refine lv_istore_n (lv' := [(2, .int 0), (0, .ref (ad 14)), (1, .int p0)]) hx hb dX6_tonsOf_1 rfl hl (by decide) rfl (fun ls hl => ?_)
  refine lv_iconst (v := 0) hx hb dX6_tonsOf_2 (by decide) ?_
  refine lv_istore_n (lv' := [(3, .int 0), (2, .int 0), (0, .ref (ad 14)), (1, .int p0)]) hx hb dX6_tonsOf_3 rfl hl (by decide) rfl (fun ls hl => ?_)
  obtain ⟨n', hw⟩ := hw
  exact c_Ships_tonsOf_h4 hx hb hr hml hown hts hlocks hK hE hA  n' 0 0 hw _ _ _ hP hD hS (lv_sub hl [0, 1, 2, 3] rfl)
theorem inw_X6_tonsLeft_X6 : ∀ w ∈ wsX60, w ∈ wsX6_tonsLeft := fun _ h => List.mem_cons_of_mem _ (List.mem_append_left _ (List.mem_append_right _ h))
def wp_Ships_tonsLeft_h4 (s_size : Int32) (s_hatches : Nat → Int32) (s_left : Nat → Int32)  (Q : Int32 → Prop) : Nat → Int32 → Int32 → Prop
  | 0, _, _ => False
  | n + 1, v1, v2 => ((s_size ≤ v2 → Q v1) ∧ (¬ s_size ≤ v2 → (wp_Ships_tonsOf s_hatches s_left v2 (fun r_1 => wp_Ships_tonsLeft_h4 s_size s_hatches s_left Q n (v1 + r_1) (v2 + 1)))))
def wp_Ships_tonsLeft (s_size : Int32) (s_hatches : Nat → Int32) (s_left : Nat → Int32) (Q : Int32 → Prop) : Prop := (∃ n' : Nat, wp_Ships_tonsLeft_h4 s_size s_hatches s_left Q n' 0 0)
set_option maxHeartbeats 4000000 in
set_option maxRecDepth 100000 in
theorem c_Ships_tonsLeft_h4 {p : Program} {l : Launch} {e : Env} {s : State} {m : MethodId} {args : Array Value} {below : List Frame} {meth : Method} {c : Code} {D : va_G} {y : Nat → ClassId} {ad : Nat → Nat} {A : Nat → Prop} (hx : p.tables.exec = Jvm.exec) (hb : c.code = cX6_tonsLeft) (hr : meth.sig.returnType = some .int) (hml : c.maxLocals = 3) (hown : s.vm.findClass RX6 = some m.cls) (hts : ∀ w ∈ wsX6_tonsLeft, w.before args s = true) (hlocks : meth.locks = false) (hK : va_K D vwCl (TY y) s) (hE : EV s) (hA : ∀ q, s.heap.size ≤ q → A q) {s_size : Int32} {s_hatches : Nat → Int32} {s_left : Nat → Int32} {s_inLine : Int32}  {Q : Int32 → Prop}  : ∀ (n : Nat) (v1 : Int32) (v2 : Int32), wp_Ships_tonsLeft_h4 s_size s_hatches s_left Q n v1 v2 → ∀ (H : Heap) (locs : List Loc) (ls : Array Slot), va_P D vwCl [(ce_sh ad s_inLine s_size), ((ad 16), .inl (y 0, 10, .inl s_hatches)), ((ad 18), .inl (y 0, 40, .inl s_left))] H → va_D A [(ce_sh ad s_inLine s_size), ((ad 16), .inl (y 0, 10, .inl s_hatches)), ((ad 18), .inl (y 0, 40, .inl s_left))] → va_S A s.heap H locs → lv_has ls 3 [(2, .int v2), (1, .int v1), (0, .ref (ad 14))] → W p l e ({ frames := 2, cells := 0, slots := 0, locals := 44 }) s m args below meth c H locs 0 0 (MQ below (va_Qi (fun (r : Int32) (u : Unit) => Q r ) (mAt D y A (fun (u : Unit) => [(ce_sh ad s_inLine s_size), ((ad 16), .inl (y 0, 10, .inl s_hatches)), ((ad 18), .inl (y 0, 40, .inl s_left))])) A) args s 0 0 A) (F0 m 4 ls []) := by
  intro n
  induction n with
  | zero => intro v1 v2 hw; rw [wp_Ships_tonsLeft_h4] at hw; exact hw.elim
  | succ n ih =>
    intro v1 v2 hw H locs ls hP hD hS hl
    rw [wp_Ships_tonsLeft_h4] at hw
    refine lv_iload_n hx hb dX6_tonsLeft_4 rfl (lv_at hl 0 rfl) ?_
    refine lv_aload_n hx hb dX6_tonsLeft_5 rfl (lv_at hl 2 rfl) ?_
    refine va_get (ci := 8) (v := .int s_size) (C := RX6) (T := TX6) (N := 10) hx hb hts inw_X6_tonsLeft_X6 hown hK hP 0 rfl rfl 9 (by decide) (hts (.fieldLink RX6 37 "DockCall$Ships" "size" "I") (by decide +kernel)) (fun _ h9 => h9) rfl dX6_tonsLeft_6 ?_
    refine lv_icmp_ge (tgt := 26) hx hb dX6_tonsLeft_9 (by decide) (fun hc => ?_) (fun hc => ?_)
    · have hw := hw.1 hc
      refine lv_iload_n hx hb dX6_tonsLeft_26 rfl (lv_at hl 1 rfl) ?_
      exact W.iret (v := v1) hx hb hr (fun t ht hW => ⟨⟨v1, (), rfl, hw, mAt.to hP hK hD ht hW⟩, hS.F ht⟩) hS.2.2 dX6_tonsLeft_27
    · have hw := hw.2 hc
      refine lv_iload_n hx hb dX6_tonsLeft_12 rfl (lv_at hl 1 rfl) ?_
      refine lv_aload_n hx hb dX6_tonsLeft_13 rfl (lv_at hl 2 rfl) ?_
      refine lv_iload_n hx hb dX6_tonsLeft_14 rfl (lv_at hl 0 rfl) ?_
      refine mx_i (wc := [(ce_sh ad s_inLine s_size), ((ad 16), .inl (y 0, 10, .inl s_hatches)), ((ad 18), .inl (y 0, 40, .inl s_left))]) (wr := []) hP hD hS hA [0, 1, 2] [] [0, 1, 2] rfl rfl (by decide) (by decide) (by decide) (fun (u : Unit) => [(ce_sh ad s_inLine s_size), ((ad 16), .inl (y 0, 10, .inl s_hatches)), ((ad 18), .inl (y 0, 40, .inl s_left))]) (fun _ => rfl) (va_runV (As := [.int v2]) (rest := [.int v1]) ⟨hx, hb, hml, hown, hts⟩ (c_Ships_tonsOf l D y ad H.size s_inLine s_size s_hatches s_left v2 hw) (cwV 1 hts gX6_tonsLeft_X6_tonsOf rfl rfl rfl (by decide +kernel) ⟨Nat.le_of_ble_eq_true rfl, Nat.le_of_ble_eq_true rfl⟩) ⟨mPre.blind, (va_recv hK hP (ci := 8) (q0 := 0) rfl rfl), mPre.to (hP.sub [0, 1, 2] rfl) hK (hD.sub [0, 1, 2] (by decide) rfl) hE⟩ rfl rfl hl.1 rfl (lv_room (Nat.le_of_ble_eq_true rfl)) dX6_tonsLeft_15 ⟨Nat.le_of_ble_eq_true rfl, Nat.le_of_ble_eq_true rfl⟩) (fun r_1 u H locs hw hP hD hS => ?_)
      try dsimp only at hw
      have hP : va_P D vwCl [(ce_sh ad s_inLine s_size), ((ad 16), .inl (y 0, 10, .inl s_hatches)), ((ad 18), .inl (y 0, 40, .inl s_left))] H := hP
      have hD : va_D A [(ce_sh ad s_inLine s_size), ((ad 16), .inl (y 0, 10, .inl s_hatches)), ((ad 18), .inl (y 0, 40, .inl s_left))] := hD
      refine lv_iadd hx hb dX6_tonsLeft_18 ?_
      refine lv_istore_n (lv' := [(1, .int (v1 + r_1)), (2, .int v2), (0, .ref (ad 14))]) hx hb dX6_tonsLeft_19 rfl hl (by decide) rfl (fun ls hl => ?_)
      refine lv_iinc (v := v2 + 1) (lv' := [(2, .int (v2 + 1)), (1, .int (v1 + r_1)), (0, .ref (ad 14))]) hx hb dX6_tonsLeft_20 hl (k := 1) rfl (by first | rfl | decide) (by decide) rfl (fun ls hl => ?_)
      refine lv_goto (tgt := 4) hx hb dX6_tonsLeft_23 (by decide) ?_
      exact ih (v1 + r_1) (v2 + 1)  hw _ _ _ hP hD hS (lv_sub hl [0, 1, 2] rfl)
set_option maxHeartbeats 4000000 in
set_option maxRecDepth 100000 in
theorem c_Ships_tonsLeft (l : Launch) (D : va_G) (y : Nat → ClassId) (ad : Nat → Nat) (sz : Nat) (s_inLine : Int32) (s_size : Int32) (s_hatches : Nat → Int32) (s_left : Nat → Int32)  {Q : Int32 → Prop} (hw : wp_Ships_tonsLeft s_size s_hatches s_left Q) : Met l yX6_tonsLeft wsX6_tonsLeft ({ frames := 2, cells := 0, slots := 0, locals := 44 }) (va_Pc [.ref (ad 14)] (mPre D y sz [(ce_sh ad s_inLine s_size), ((ad 16), .inl (y 0, 10, .inl s_hatches)), ((ad 18), .inl (y 0, 40, .inl s_left))])) (va_Qi (fun (r : Int32) (u : Unit) => Q r ) (mAt D y (va_A [(ce_sh ad s_inLine s_size), ((ad 16), .inl (y 0, 10, .inl s_hatches)), ((ad 18), .inl (y 0, 40, .inl s_left))] sz) (fun (u : Unit) => [(ce_sh ad s_inLine s_size), ((ad 16), .inl (y 0, 10, .inl s_hatches)), ((ad 18), .inl (y 0, 40, .inl s_left))])) (va_A [(ce_sh ad s_inLine s_size), ((ad 16), .inl (y 0, 10, .inl s_hatches)), ((ad 18), .inl (y 0, 40, .inl s_left))] sz)) 0 0 (va_A [(ce_sh ad s_inLine s_size), ((ad 16), .inl (y 0, 10, .inl s_hatches)), ((ad 18), .inl (y 0, 40, .inl s_left))] sz) := by
  unfold wp_Ships_tonsLeft at hw
  refine Met.ofW (cc := cX6_tonsLeft) (maxL := 3) (ret := some .int) (by decide) rfl ?_
  intro p e s m args below meth c s₁ B hml hv
  obtain ⟨rfl, hsz, hP, hK, hD0, hE⟩ := hv
  have hx := B.exec
  have hb := B.bytes
  have hr := B.returns
  have hts := atoms_spec (ws := wsX6_tonsLeft) B.pre
  have hown : s.vm.findClass RX6 = some m.cls := findClass_of_methodNamed B.named
  have hlocks := B.notSynchronized
  subst hsz
  have hD := hD0.self (sz := s.heap.size)
  generalize hAe : va_A [(ce_sh ad s_inLine s_size), ((ad 16), .inl (y 0, 10, .inl s_hatches)), ((ad 18), .inl (y 0, 40, .inl s_left))] s.heap.size = A at hD ⊢
  have hA : ∀ q : Nat, s.heap.size ≤ q → A q := fun q h => by rw [← hAe]; exact Or.inr h
  have hS : va_S A s.heap s.heap [] := va_S.rf
  have hP : va_P D vwCl [(ce_sh ad s_inLine s_size), ((ad 16), .inl (y 0, 10, .inl s_hatches)), ((ad 18), .inl (y 0, 40, .inl s_left))] s.heap := hP
  have hl := lv_entry ([.ref (ad 14)]) (n := 3) (Nat.le_of_ble_eq_true rfl)
  rw [lg_entry_eq]
  generalize (lg_sl ([.ref (ad 14)]) ++ List.replicate (3 - (lg_sl ([.ref (ad 14)])).length) Slot.unset).toArray = ls at hl ⊢
  have hl : lv_has ls 3 [(0, .ref (ad 14))] := hl
  refine lv_iconst (v := 0) hx hb dX6_tonsLeft_0 (by decide) ?_
  refine lv_istore_n (lv' := [(1, .int 0), (0, .ref (ad 14))]) hx hb dX6_tonsLeft_1 rfl hl (by decide) rfl (fun ls hl => ?_)
  refine lv_iconst (v := 0) hx hb dX6_tonsLeft_2 (by decide) ?_
  refine lv_istore_n (lv' := [(2, .int 0), (1, .int 0), (0, .ref (ad 14))]) hx hb dX6_tonsLeft_3 rfl hl (by decide) rfl (fun ls hl => ?_)
  obtain ⟨n', hw⟩ := hw
  exact c_Ships_tonsLeft_h4 hx hb hr hml hown hts hlocks hK hE hA  n' 0 0 hw _ _ _ hP hD hS (lv_sub hl [0, 1, 2] rfl)
def wp_Ships_isDone (s_hatches : Nat → Int32) (s_left : Nat → Int32) (p0 : Int32) (Q : Int32 → Prop) : Prop := (wp_Ships_tonsOf s_hatches s_left p0 (fun r_1 => ((r_1 = 0 → Q 1) ∧ (¬ r_1 = 0 → Q 0))))
set_option maxHeartbeats 4000000 in
set_option maxRecDepth 100000 in
theorem c_Ships_isDone (l : Launch) (D : va_G) (y : Nat → ClassId) (ad : Nat → Nat) (sz : Nat) (s_inLine : Int32) (s_size : Int32) (s_hatches : Nat → Int32) (s_left : Nat → Int32) (p0 : Int32) {Q : Int32 → Prop} (hw : wp_Ships_isDone s_hatches s_left p0 Q) : Met l yX6_isDone wsX6_isDone ({ frames := 2, cells := 0, slots := 0, locals := 44 }) (va_Pc [.ref (ad 14), .int p0] (mPre D y sz [(ce_sh ad s_inLine s_size), ((ad 16), .inl (y 0, 10, .inl s_hatches)), ((ad 18), .inl (y 0, 40, .inl s_left))])) (va_Qi (fun (r : Int32) (u : Unit) => Q r ) (mAt D y (va_A [(ce_sh ad s_inLine s_size), ((ad 16), .inl (y 0, 10, .inl s_hatches)), ((ad 18), .inl (y 0, 40, .inl s_left))] sz) (fun (u : Unit) => [(ce_sh ad s_inLine s_size), ((ad 16), .inl (y 0, 10, .inl s_hatches)), ((ad 18), .inl (y 0, 40, .inl s_left))])) (va_A [(ce_sh ad s_inLine s_size), ((ad 16), .inl (y 0, 10, .inl s_hatches)), ((ad 18), .inl (y 0, 40, .inl s_left))] sz)) 0 0 (va_A [(ce_sh ad s_inLine s_size), ((ad 16), .inl (y 0, 10, .inl s_hatches)), ((ad 18), .inl (y 0, 40, .inl s_left))] sz) := by
  unfold wp_Ships_isDone at hw
  refine Met.ofW (cc := cX6_isDone) (maxL := 2) (ret := some .boolean) (by decide) rfl ?_
  intro p e s m args below meth c s₁ B hml hv
  obtain ⟨rfl, hsz, hP, hK, hD0, hE⟩ := hv
  have hx := B.exec
  have hb := B.bytes
  have hr := B.returns
  have hts := atoms_spec (ws := wsX6_isDone) B.pre
  have hown : s.vm.findClass RX6 = some m.cls := findClass_of_methodNamed B.named
  have hlocks := B.notSynchronized
  subst hsz
  have hD := hD0.self (sz := s.heap.size)
  generalize hAe : va_A [(ce_sh ad s_inLine s_size), ((ad 16), .inl (y 0, 10, .inl s_hatches)), ((ad 18), .inl (y 0, 40, .inl s_left))] s.heap.size = A at hD ⊢
  have hA : ∀ q : Nat, s.heap.size ≤ q → A q := fun q h => by rw [← hAe]; exact Or.inr h
  have hS : va_S A s.heap s.heap [] := va_S.rf
  have hP : va_P D vwCl [(ce_sh ad s_inLine s_size), ((ad 16), .inl (y 0, 10, .inl s_hatches)), ((ad 18), .inl (y 0, 40, .inl s_left))] s.heap := hP
  have hl := lv_entry ([.ref (ad 14), .int p0]) (n := 2) (Nat.le_of_ble_eq_true rfl)
  rw [lg_entry_eq]
  generalize (lg_sl ([.ref (ad 14), .int p0]) ++ List.replicate (2 - (lg_sl ([.ref (ad 14), .int p0])).length) Slot.unset).toArray = ls at hl ⊢
  have hl : lv_has ls 2 [(0, .ref (ad 14)), (1, .int p0)] := hl
  refine lv_aload_n hx hb dX6_isDone_0 rfl (lv_at hl 0 rfl) ?_
  refine lv_iload_n hx hb dX6_isDone_1 rfl (lv_at hl 1 rfl) ?_
  refine mx_i (wc := [(ce_sh ad s_inLine s_size), ((ad 16), .inl (y 0, 10, .inl s_hatches)), ((ad 18), .inl (y 0, 40, .inl s_left))]) (wr := []) hP hD hS hA [0, 1, 2] [] [0, 1, 2] rfl rfl (by decide) (by decide) (by decide) (fun (u : Unit) => [(ce_sh ad s_inLine s_size), ((ad 16), .inl (y 0, 10, .inl s_hatches)), ((ad 18), .inl (y 0, 40, .inl s_left))]) (fun _ => rfl) (va_runV (As := [.int p0]) (rest := []) ⟨hx, hb, hml, hown, hts⟩ (c_Ships_tonsOf l D y ad s.heap.size s_inLine s_size s_hatches s_left p0 hw) (cwV 1 hts gX6_isDone_X6_tonsOf rfl rfl rfl (by decide +kernel) ⟨Nat.le_of_ble_eq_true rfl, Nat.le_of_ble_eq_true rfl⟩) ⟨mPre.blind, (va_recv hK hP (ci := 8) (q0 := 0) rfl rfl), mPre.to (hP.sub [0, 1, 2] rfl) hK (hD.sub [0, 1, 2] (by decide) rfl) hE⟩ rfl rfl hl.1 rfl (lv_room (Nat.le_of_ble_eq_true rfl)) dX6_isDone_2 ⟨Nat.le_of_ble_eq_true rfl, Nat.le_of_ble_eq_true rfl⟩) (fun r_1 u H locs hw hP hD hS => ?_)
  try dsimp only at hw
  have hP : va_P D vwCl [(ce_sh ad s_inLine s_size), ((ad 16), .inl (y 0, 10, .inl s_hatches)), ((ad 18), .inl (y 0, 40, .inl s_left))] H := hP
  have hD : va_D A [(ce_sh ad s_inLine s_size), ((ad 16), .inl (y 0, 10, .inl s_hatches)), ((ad 18), .inl (y 0, 40, .inl s_left))] := hD
  refine lv_if_ne (tgt := 12) hx hb dX6_isDone_5 (by decide) (fun hc => ?_) (fun hc => ?_)
  · have hw := hw.2 hc
    refine lv_iconst (v := 0) hx hb dX6_isDone_12 (by decide) ?_
    exact W.zret (v := 0) hx hb hr (by decide) (fun t ht hW => ⟨⟨0, (), rfl, hw, mAt.to hP hK hD ht hW⟩, hS.F ht⟩) hS.2.2 dX6_isDone_13
  · have hw := hw.1 hc
    refine lv_iconst (v := 1) hx hb dX6_isDone_8 (by decide) ?_
    refine lv_goto (tgt := 13) hx hb dX6_isDone_9 (by decide) ?_
    exact W.zret (v := 1) hx hb hr (by decide) (fun t ht hW => ⟨⟨1, (), rfl, hw, mAt.to hP hK hD ht hW⟩, hS.F ht⟩) hS.2.2 dX6_isDone_13
theorem inw_X6_rankOf_X6 : ∀ w ∈ wsX60, w ∈ wsX6_rankOf := fun _ h => List.mem_cons_of_mem _ (List.mem_append_left _ (List.mem_append_right _ h))
def wp_Ships_rankOf (s_came : Nat → Int32) (p0 : Int32) (p1 : Int32) (p2 : Int32) (Q : Int32 → Prop) : Prop := ((p1 = 0 → (vp_in p0 10 ∧ Q (s_came p0.toNatClampNeg))) ∧ (¬ p1 = 0 → ((p1 = 1 → Q (-p2)) ∧ (¬ p1 = 1 → Q p0))))
set_option maxHeartbeats 4000000 in
set_option maxRecDepth 100000 in
theorem c_Ships_rankOf (l : Launch) (D : va_G) (y : Nat → ClassId) (ad : Nat → Nat) (sz : Nat) (s_inLine : Int32) (s_size : Int32) (s_came : Nat → Int32) (p0 : Int32) (p1 : Int32) (p2 : Int32) {Q : Int32 → Prop} (hw : wp_Ships_rankOf s_came p0 p1 p2 Q) : Met l yX6_rankOf wsX6_rankOf ({ frames := 0, cells := 0, slots := 0, locals := 0 }) (va_Pc [.ref (ad 14), .int p0, .int p1, .int p2] (mPre D y sz [(ce_sh ad s_inLine s_size), ((ad 15), .inl (y 0, 10, .inl s_came))])) (va_Qi (fun (r : Int32) (u : Unit) => Q r ) (mAt D y (va_A [(ce_sh ad s_inLine s_size), ((ad 15), .inl (y 0, 10, .inl s_came))] sz) (fun (u : Unit) => [(ce_sh ad s_inLine s_size), ((ad 15), .inl (y 0, 10, .inl s_came))])) (va_A [(ce_sh ad s_inLine s_size), ((ad 15), .inl (y 0, 10, .inl s_came))] sz)) 0 0 (va_A [(ce_sh ad s_inLine s_size), ((ad 15), .inl (y 0, 10, .inl s_came))] sz) := by
  unfold wp_Ships_rankOf at hw
  refine Met.ofW (cc := cX6_rankOf) (maxL := 4) (ret := some .int) (by decide) rfl ?_
  intro p e s m args below meth c s₁ B hml hv
  obtain ⟨rfl, hsz, hP, hK, hD0, hE⟩ := hv
  have hx := B.exec
  have hb := B.bytes
  have hr := B.returns
  have hts := atoms_spec (ws := wsX6_rankOf) B.pre
  have hown : s.vm.findClass RX6 = some m.cls := findClass_of_methodNamed B.named
  have hlocks := B.notSynchronized
  subst hsz
  have hD := hD0.self (sz := s.heap.size)
  generalize hAe : va_A [(ce_sh ad s_inLine s_size), ((ad 15), .inl (y 0, 10, .inl s_came))] s.heap.size = A at hD ⊢
  have hA : ∀ q : Nat, s.heap.size ≤ q → A q := fun q h => by rw [← hAe]; exact Or.inr h
  have hS : va_S A s.heap s.heap [] := va_S.rf
  have hP : va_P D vwCl [(ce_sh ad s_inLine s_size), ((ad 15), .inl (y 0, 10, .inl s_came))] s.heap := hP
  have hl := lv_entry ([.ref (ad 14), .int p0, .int p1, .int p2]) (n := 4) (Nat.le_of_ble_eq_true rfl)
  rw [lg_entry_eq]
  generalize (lg_sl ([.ref (ad 14), .int p0, .int p1, .int p2]) ++ List.replicate (4 - (lg_sl ([.ref (ad 14), .int p0, .int p1, .int p2])).length) Slot.unset).toArray = ls at hl ⊢
  have hl : lv_has ls 4 [(0, .ref (ad 14)), (1, .int p0), (2, .int p1), (3, .int p2)] := hl
  refine lv_iload_n hx hb dX6_rankOf_0 rfl (lv_at hl 2 rfl) ?_
  refine lv_if_ne (tgt := 11) hx hb dX6_rankOf_1 (by decide) (fun hc => ?_) (fun hc => ?_)
  · have hw := hw.2 hc
    refine lv_iload_n hx hb dX6_rankOf_11 rfl (lv_at hl 2 rfl) ?_
    refine lv_iconst (v := 1) hx hb dX6_rankOf_12 (by decide) ?_
    refine lv_icmp_ne (tgt := 21) hx hb dX6_rankOf_13 (by decide) (fun hc => ?_) (fun hc => ?_)
    · have hw := hw.2 hc
      refine lv_iload_n hx hb dX6_rankOf_21 rfl (lv_at hl 1 rfl) ?_
      exact W.iret (v := p0) hx hb hr (fun t ht hW => ⟨⟨p0, (), rfl, hw, mAt.to hP hK hD ht hW⟩, hS.F ht⟩) hS.2.2 dX6_rankOf_22
    · have hw := hw.1 hc
      refine lv_iload_n hx hb dX6_rankOf_16 rfl (lv_at hl 3 rfl) ?_
      refine lv_ineg hx hb dX6_rankOf_17 ?_
      refine lv_goto (tgt := 22) hx hb dX6_rankOf_18 (by decide) ?_
      exact W.iret (v := -p2) hx hb hr (fun t ht hW => ⟨⟨-p2, (), rfl, hw, mAt.to hP hK hD ht hW⟩, hS.F ht⟩) hS.2.2 dX6_rankOf_22
  · have hw := hw.1 hc
    refine lv_aload_n hx hb dX6_rankOf_4 rfl (lv_at hl 0 rfl) ?_
    refine va_get (ci := 8) (v := .ref (ad 15)) (C := RX6) (T := TX6) (N := 10) hx hb hts inw_X6_rankOf_X6 hown hK hP 0 rfl rfl 0 (by decide) (hts (.fieldLink RX6 9 "DockCall$Ships" "came" "[I") (by decide +kernel)) (fun _ h9 => h9) rfl dX6_rankOf_5 ?_
    refine lv_iload_n hx hb dX6_rankOf_8 rfl (lv_at hl 1 rfl) ?_
    obtain ⟨hi, hw⟩ := hw
    refine va_iald hx hb hK hP 1 0 rfl rfl hi dX6_rankOf_9 ?_
    exact W.iret (v := s_came p0.toNatClampNeg) hx hb hr (fun t ht hW => ⟨⟨s_came p0.toNatClampNeg, (), rfl, hw, mAt.to hP hK hD ht hW⟩, hS.F ht⟩) hS.2.2 dX6_rankOf_10
theorem inw_X6_lineUp_X6 : ∀ w ∈ wsX60, w ∈ wsX6_lineUp := fun _ h => List.mem_cons_of_mem _ (List.mem_append_left _ (List.mem_append_right _ h))
def wp_Ships_lineUp_h47 (v2 : Int32) (s_inLine : Int32) (s_rank : Nat → Int32) (K7 : Int32 → Int32 → (Nat → Int32) → (Nat → Int32) → Prop) (Q : Int32 → (Nat → Int32) → (Nat → Int32) → Prop) : Nat → Int32 → (Nat → Int32) → Prop
  | 0, _, _ => False
  | n + 1, v4, s_line => ((v4 ≤ 0 → (vp_in v4 10 ∧ K7 (v2 + 1) (s_inLine + 1) (upd s_line v4.toNatClampNeg v2) s_rank)) ∧ (¬ v4 ≤ 0 → (vp_in (v4 - 1) 10 ∧ (vp_in (s_line (v4 - 1).toNatClampNeg) 10 ∧ (vp_in v2 10 ∧ ((s_rank (s_line (v4 - 1).toNatClampNeg).toNatClampNeg ≤ s_rank v2.toNatClampNeg → (vp_in v4 10 ∧ K7 (v2 + 1) (s_inLine + 1) (upd s_line v4.toNatClampNeg v2) s_rank)) ∧ (¬ s_rank (s_line (v4 - 1).toNatClampNeg).toNatClampNeg ≤ s_rank v2.toNatClampNeg → (vp_in (v4 - 1) 10 ∧ (vp_in v4 10 ∧ wp_Ships_lineUp_h47 v2 s_inLine s_rank K7 Q n (v4 + (-1)) (upd s_line v4.toNatClampNeg (s_line (v4 - 1).toNatClampNeg)))))))))))
def wp_Ships_lineUp_h7 (v1 : Int32) (s_size : Int32) (s_came : Nat → Int32) (s_hatches : Nat → Int32) (s_left : Nat → Int32)  (Q : Int32 → (Nat → Int32) → (Nat → Int32) → Prop) : Nat → Int32 → Int32 → (Nat → Int32) → (Nat → Int32) → Prop
  | 0, _, _, _, _ => False
  | n + 1, v2, s_inLine, s_line, s_rank => ((s_size ≤ v2 → Q s_inLine s_line s_rank) ∧ (¬ s_size ≤ v2 → (wp_Ships_tonsOf s_hatches s_left v2 (fun r_1 => ((r_1 = 0 → wp_Ships_lineUp_h7 v1 s_size s_came s_hatches s_left Q n (v2 + 1) s_inLine s_line s_rank) ∧ (¬ r_1 = 0 → (wp_Ships_rankOf s_came v2 v1 r_1 (fun r_2 => (vp_in v2 10 ∧ (∃ n' : Nat, wp_Ships_lineUp_h47 v2 s_inLine (upd s_rank v2.toNatClampNeg r_2) (wp_Ships_lineUp_h7 v1 s_size s_came s_hatches s_left Q n) Q n' s_inLine s_line))))))))))
def wp_Ships_lineUp (s_size : Int32) (s_came : Nat → Int32) (s_hatches : Nat → Int32) (s_left : Nat → Int32) (s_line : Nat → Int32) (s_rank : Nat → Int32) (p0 : Int32) (Q : Int32 → (Nat → Int32) → (Nat → Int32) → Prop) : Prop := (∃ n' : Nat, wp_Ships_lineUp_h7 p0 s_size s_came s_hatches s_left Q n' 0 0 s_line s_rank)
set_option maxHeartbeats 4000000 in
set_option maxRecDepth 100000 in
theorem c_Ships_lineUp_h47 {p : Program} {l : Launch} {e : Env} {s : State} {m : MethodId} {args : Array Value} {below : List Frame} {meth : Method} {c : Code} {D : va_G} {y : Nat → ClassId} {ad : Nat → Nat} {A : Nat → Prop} (hx : p.tables.exec = Jvm.exec) (hb : c.code = cX6_lineUp) (hr : meth.sig.returnType = none) (hml : c.maxLocals = 5) (hown : s.vm.findClass RX6 = some m.cls) (hts : ∀ w ∈ wsX6_lineUp, w.before args s = true) (hlocks : meth.locks = false) (hK : va_K D vwCl (TY y) s) (hE : EV s) (hA : ∀ q, s.heap.size ≤ q → A q) {v1 : Int32} {v2 : Int32} {v3 : Int32} {s_inLine : Int32} {s_size : Int32} {s_came : Nat → Int32} {s_hatches : Nat → Int32} {s_left : Nat → Int32} {s_rank : Nat → Int32} {K7 : Int32 → Int32 → (Nat → Int32) → (Nat → Int32) → Prop} {Q : Int32 → (Nat → Int32) → (Nat → Int32) → Prop} (hK7 : ∀ (w2 : Int32) (s_inLine_w : Int32) (s_line_w : Nat → Int32) (s_rank_w : Nat → Int32), K7 w2 s_inLine_w s_line_w s_rank_w → ∀ (H : Heap) (locs : List Loc) (ls : Array Slot), va_P D vwCl [(ce_sh ad s_inLine_w s_size), ((ad 15), .inl (y 0, 10, .inl s_came)), ((ad 16), .inl (y 0, 10, .inl s_hatches)), ((ad 18), .inl (y 0, 40, .inl s_left)), ((ad 21), .inl (y 0, 10, .inl s_line_w)), ((ad 22), .inl (y 0, 10, .inl s_rank_w))] H → va_D A [(ce_sh ad s_inLine_w s_size), ((ad 15), .inl (y 0, 10, .inl s_came)), ((ad 16), .inl (y 0, 10, .inl s_hatches)), ((ad 18), .inl (y 0, 40, .inl s_left)), ((ad 21), .inl (y 0, 10, .inl s_line_w)), ((ad 22), .inl (y 0, 10, .inl s_rank_w))] → va_S A s.heap H locs → lv_has ls 5 [(2, .int w2), (0, .ref (ad 14)), (1, .int v1)] → W p l e ({ frames := 2, cells := 0, slots := 0, locals := 44 }) s m args below meth c H locs 0 0 (MQ below (va_Qv (fun (u : Int32 × (Nat → Int32) × (Nat → Int32)) => Q u.1 u.2.1 u.2.2) (mAt D y A (fun (u : Int32 × (Nat → Int32) × (Nat → Int32)) => [(ce_sh ad u.1 s_size), ((ad 15), .inl (y 0, 10, .inl s_came)), ((ad 16), .inl (y 0, 10, .inl s_hatches)), ((ad 18), .inl (y 0, 40, .inl s_left)), ((ad 21), .inl (y 0, 10, .inl u.2.1)), ((ad 22), .inl (y 0, 10, .inl u.2.2))])) A) args s 0 0 A) (F0 m 7 ls [])) : ∀ (n : Nat) (v4 : Int32) (s_line : Nat → Int32), wp_Ships_lineUp_h47 v2 s_inLine s_rank K7 Q n v4 s_line → ∀ (H : Heap) (locs : List Loc) (ls : Array Slot), va_P D vwCl [(ce_sh ad s_inLine s_size), ((ad 15), .inl (y 0, 10, .inl s_came)), ((ad 16), .inl (y 0, 10, .inl s_hatches)), ((ad 18), .inl (y 0, 40, .inl s_left)), ((ad 21), .inl (y 0, 10, .inl s_line)), ((ad 22), .inl (y 0, 10, .inl s_rank))] H → va_D A [(ce_sh ad s_inLine s_size), ((ad 15), .inl (y 0, 10, .inl s_came)), ((ad 16), .inl (y 0, 10, .inl s_hatches)), ((ad 18), .inl (y 0, 40, .inl s_left)), ((ad 21), .inl (y 0, 10, .inl s_line)), ((ad 22), .inl (y 0, 10, .inl s_rank))] → va_S A s.heap H locs → lv_has ls 5 [(4, .int v4), (3, .int v3), (2, .int v2), (0, .ref (ad 14)), (1, .int v1)] → W p l e ({ frames := 2, cells := 0, slots := 0, locals := 44 }) s m args below meth c H locs 0 0 (MQ below (va_Qv (fun (u : Int32 × (Nat → Int32) × (Nat → Int32)) => Q u.1 u.2.1 u.2.2) (mAt D y A (fun (u : Int32 × (Nat → Int32) × (Nat → Int32)) => [(ce_sh ad u.1 s_size), ((ad 15), .inl (y 0, 10, .inl s_came)), ((ad 16), .inl (y 0, 10, .inl s_hatches)), ((ad 18), .inl (y 0, 40, .inl s_left)), ((ad 21), .inl (y 0, 10, .inl u.2.1)), ((ad 22), .inl (y 0, 10, .inl u.2.2))])) A) args s 0 0 A) (F0 m 47 ls []) := by
  intro n
  induction n with
  | zero => intro v4 s_line hw; rw [wp_Ships_lineUp_h47] at hw; exact hw.elim
  | succ n ih =>
    intro v4 s_line hw H locs ls hP hD hS hl
    rw [wp_Ships_lineUp_h47] at hw
    refine lv_iload hx hb dX6_lineUp_47 (lv_at hl 0 rfl) ?_
    refine lv_if_le (tgt := 97) hx hb dX6_lineUp_49 (by decide) (fun hc => ?_) (fun hc => ?_)
    · have hw := hw.1 hc
      refine lv_aload_n hx hb dX6_lineUp_97 rfl (lv_at hl 3 rfl) ?_
      refine va_get (ci := 8) (v := .ref (ad 21)) (C := RX6) (T := TX6) (N := 10) hx hb hts inw_X6_lineUp_X6 hown hK hP 0 rfl rfl 6 (by decide) (hts (.fieldLink RX6 31 "DockCall$Ships" "line" "[I") (by decide +kernel)) (fun _ h9 => h9) rfl dX6_lineUp_98 ?_
      refine lv_iload hx hb dX6_lineUp_101 (lv_at hl 0 rfl) ?_
      refine lv_iload_n hx hb dX6_lineUp_103 rfl (lv_at hl 2 rfl) ?_
      obtain ⟨hi, hw⟩ := hw
      refine va_iast hx hb hK hP hD hS 4 0 rfl rfl hi dX6_lineUp_104 (fun H locs hP hD hS => ?_)
      have hP : va_P D vwCl [(ce_sh ad s_inLine s_size), ((ad 15), .inl (y 0, 10, .inl s_came)), ((ad 16), .inl (y 0, 10, .inl s_hatches)), ((ad 18), .inl (y 0, 40, .inl s_left)), ((ad 21), .inl (y 0, 10, .inl (upd s_line v4.toNatClampNeg v2))), ((ad 22), .inl (y 0, 10, .inl s_rank))] H := hP
      have hD : va_D A [(ce_sh ad s_inLine s_size), ((ad 15), .inl (y 0, 10, .inl s_came)), ((ad 16), .inl (y 0, 10, .inl s_hatches)), ((ad 18), .inl (y 0, 40, .inl s_left)), ((ad 21), .inl (y 0, 10, .inl (upd s_line v4.toNatClampNeg v2))), ((ad 22), .inl (y 0, 10, .inl s_rank))] := hD
      refine lv_aload_n hx hb dX6_lineUp_105 rfl (lv_at hl 3 rfl) ?_
      refine lv_dup hx hb dX6_lineUp_106 rfl ?_
      refine va_get (ci := 8) (v := .int s_inLine) (C := RX6) (T := TX6) (N := 10) hx hb hts inw_X6_lineUp_X6 hown hK hP 0 rfl rfl 8 (by decide) (hts (.fieldLink RX6 49 "DockCall$Ships" "inLine" "I") (by decide +kernel)) (fun _ h9 => h9) rfl dX6_lineUp_107 ?_
      refine lv_iconst (v := 1) hx hb dX6_lineUp_110 (by decide) ?_
      refine lv_iadd hx hb dX6_lineUp_111 ?_
      refine va_put (ci := 8) (v := .int (s_inLine + 1)) (ty := .int) (C := RX6) (T := TX6) (N := 10) hx hb hts inw_X6_lineUp_X6 tyX6 tyX6_ok nmX6 hown hK hP hD hS 0 rfl rfl 8 (by decide) (hts (.fieldLink RX6 49 "DockCall$Ships" "inLine" "I") (by decide +kernel)) (fun _ h9 => h9) rfl (by decide +kernel) rfl rfl (Nat.le_of_ble_eq_true rfl) dX6_lineUp_112 (fun H locs hP hD hS => ?_)
      have hP : va_P D vwCl [(ce_sh ad (s_inLine + 1) s_size), ((ad 15), .inl (y 0, 10, .inl s_came)), ((ad 16), .inl (y 0, 10, .inl s_hatches)), ((ad 18), .inl (y 0, 40, .inl s_left)), ((ad 21), .inl (y 0, 10, .inl (upd s_line v4.toNatClampNeg v2))), ((ad 22), .inl (y 0, 10, .inl s_rank))] H := hP
      have hD : va_D A [(ce_sh ad (s_inLine + 1) s_size), ((ad 15), .inl (y 0, 10, .inl s_came)), ((ad 16), .inl (y 0, 10, .inl s_hatches)), ((ad 18), .inl (y 0, 40, .inl s_left)), ((ad 21), .inl (y 0, 10, .inl (upd s_line v4.toNatClampNeg v2))), ((ad 22), .inl (y 0, 10, .inl s_rank))] := hD
      refine lv_iinc (v := v2 + 1) (lv' := [(2, .int (v2 + 1)), (4, .int v4), (3, .int v3), (0, .ref (ad 14)), (1, .int v1)]) hx hb dX6_lineUp_115 hl (k := 2) rfl (by first | rfl | decide) (by decide) rfl (fun ls hl => ?_)
      refine lv_goto (tgt := 7) hx hb dX6_lineUp_118 (by decide) ?_
      exact hK7 (v2 + 1) (s_inLine + 1) (upd s_line v4.toNatClampNeg v2) s_rank hw _ _ _ hP hD hS (lv_sub hl [0, 3, 4] rfl)
    · have hw := hw.2 hc
      refine lv_aload_n hx hb dX6_lineUp_52 rfl (lv_at hl 3 rfl) ?_
      refine va_get (ci := 8) (v := .ref (ad 22)) (C := RX6) (T := TX6) (N := 10) hx hb hts inw_X6_lineUp_X6 hown hK hP 0 rfl rfl 7 (by decide) (hts (.fieldLink RX6 34 "DockCall$Ships" "rank" "[I") (by decide +kernel)) (fun _ h9 => h9) rfl dX6_lineUp_53 ?_
      refine lv_aload_n hx hb dX6_lineUp_56 rfl (lv_at hl 3 rfl) ?_
      refine va_get (ci := 8) (v := .ref (ad 21)) (C := RX6) (T := TX6) (N := 10) hx hb hts inw_X6_lineUp_X6 hown hK hP 0 rfl rfl 6 (by decide) (hts (.fieldLink RX6 31 "DockCall$Ships" "line" "[I") (by decide +kernel)) (fun _ h9 => h9) rfl dX6_lineUp_57 ?_
      refine lv_iload hx hb dX6_lineUp_60 (lv_at hl 0 rfl) ?_
      refine lv_iconst (v := 1) hx hb dX6_lineUp_62 (by decide) ?_
      refine lv_isub hx hb dX6_lineUp_63 ?_
      obtain ⟨hi, hw⟩ := hw
      refine va_iald hx hb hK hP 4 0 rfl rfl hi dX6_lineUp_64 ?_
      obtain ⟨hi, hw⟩ := hw
      refine va_iald hx hb hK hP 5 0 rfl rfl hi dX6_lineUp_65 ?_
      refine lv_aload_n hx hb dX6_lineUp_66 rfl (lv_at hl 3 rfl) ?_
      refine va_get (ci := 8) (v := .ref (ad 22)) (C := RX6) (T := TX6) (N := 10) hx hb hts inw_X6_lineUp_X6 hown hK hP 0 rfl rfl 7 (by decide) (hts (.fieldLink RX6 34 "DockCall$Ships" "rank" "[I") (by decide +kernel)) (fun _ h9 => h9) rfl dX6_lineUp_67 ?_
      refine lv_iload_n hx hb dX6_lineUp_70 rfl (lv_at hl 2 rfl) ?_
      obtain ⟨hi, hw⟩ := hw
      refine va_iald hx hb hK hP 5 0 rfl rfl hi dX6_lineUp_71 ?_
      refine lv_icmp_le (tgt := 97) hx hb dX6_lineUp_72 (by decide) (fun hc => ?_) (fun hc => ?_)
      · have hw := hw.1 hc
        refine lv_aload_n hx hb dX6_lineUp_97 rfl (lv_at hl 3 rfl) ?_
        refine va_get (ci := 8) (v := .ref (ad 21)) (C := RX6) (T := TX6) (N := 10) hx hb hts inw_X6_lineUp_X6 hown hK hP 0 rfl rfl 6 (by decide) (hts (.fieldLink RX6 31 "DockCall$Ships" "line" "[I") (by decide +kernel)) (fun _ h9 => h9) rfl dX6_lineUp_98 ?_
        refine lv_iload hx hb dX6_lineUp_101 (lv_at hl 0 rfl) ?_
        refine lv_iload_n hx hb dX6_lineUp_103 rfl (lv_at hl 2 rfl) ?_
        obtain ⟨hi, hw⟩ := hw
        refine va_iast hx hb hK hP hD hS 4 0 rfl rfl hi dX6_lineUp_104 (fun H locs hP hD hS => ?_)
        have hP : va_P D vwCl [(ce_sh ad s_inLine s_size), ((ad 15), .inl (y 0, 10, .inl s_came)), ((ad 16), .inl (y 0, 10, .inl s_hatches)), ((ad 18), .inl (y 0, 40, .inl s_left)), ((ad 21), .inl (y 0, 10, .inl (upd s_line v4.toNatClampNeg v2))), ((ad 22), .inl (y 0, 10, .inl s_rank))] H := hP
        have hD : va_D A [(ce_sh ad s_inLine s_size), ((ad 15), .inl (y 0, 10, .inl s_came)), ((ad 16), .inl (y 0, 10, .inl s_hatches)), ((ad 18), .inl (y 0, 40, .inl s_left)), ((ad 21), .inl (y 0, 10, .inl (upd s_line v4.toNatClampNeg v2))), ((ad 22), .inl (y 0, 10, .inl s_rank))] := hD
        refine lv_aload_n hx hb dX6_lineUp_105 rfl (lv_at hl 3 rfl) ?_
        refine lv_dup hx hb dX6_lineUp_106 rfl ?_
        refine va_get (ci := 8) (v := .int s_inLine) (C := RX6) (T := TX6) (N := 10) hx hb hts inw_X6_lineUp_X6 hown hK hP 0 rfl rfl 8 (by decide) (hts (.fieldLink RX6 49 "DockCall$Ships" "inLine" "I") (by decide +kernel)) (fun _ h9 => h9) rfl dX6_lineUp_107 ?_
        refine lv_iconst (v := 1) hx hb dX6_lineUp_110 (by decide) ?_
        refine lv_iadd hx hb dX6_lineUp_111 ?_
        refine va_put (ci := 8) (v := .int (s_inLine + 1)) (ty := .int) (C := RX6) (T := TX6) (N := 10) hx hb hts inw_X6_lineUp_X6 tyX6 tyX6_ok nmX6 hown hK hP hD hS 0 rfl rfl 8 (by decide) (hts (.fieldLink RX6 49 "DockCall$Ships" "inLine" "I") (by decide +kernel)) (fun _ h9 => h9) rfl (by decide +kernel) rfl rfl (Nat.le_of_ble_eq_true rfl) dX6_lineUp_112 (fun H locs hP hD hS => ?_)
        have hP : va_P D vwCl [(ce_sh ad (s_inLine + 1) s_size), ((ad 15), .inl (y 0, 10, .inl s_came)), ((ad 16), .inl (y 0, 10, .inl s_hatches)), ((ad 18), .inl (y 0, 40, .inl s_left)), ((ad 21), .inl (y 0, 10, .inl (upd s_line v4.toNatClampNeg v2))), ((ad 22), .inl (y 0, 10, .inl s_rank))] H := hP
        have hD : va_D A [(ce_sh ad (s_inLine + 1) s_size), ((ad 15), .inl (y 0, 10, .inl s_came)), ((ad 16), .inl (y 0, 10, .inl s_hatches)), ((ad 18), .inl (y 0, 40, .inl s_left)), ((ad 21), .inl (y 0, 10, .inl (upd s_line v4.toNatClampNeg v2))), ((ad 22), .inl (y 0, 10, .inl s_rank))] := hD
        refine lv_iinc (v := v2 + 1) (lv' := [(2, .int (v2 + 1)), (4, .int v4), (3, .int v3), (0, .ref (ad 14)), (1, .int v1)]) hx hb dX6_lineUp_115 hl (k := 2) rfl (by first | rfl | decide) (by decide) rfl (fun ls hl => ?_)
        refine lv_goto (tgt := 7) hx hb dX6_lineUp_118 (by decide) ?_
        exact hK7 (v2 + 1) (s_inLine + 1) (upd s_line v4.toNatClampNeg v2) s_rank hw _ _ _ hP hD hS (lv_sub hl [0, 3, 4] rfl)
      · have hw := hw.2 hc
        refine lv_aload_n hx hb dX6_lineUp_75 rfl (lv_at hl 3 rfl) ?_
        refine va_get (ci := 8) (v := .ref (ad 21)) (C := RX6) (T := TX6) (N := 10) hx hb hts inw_X6_lineUp_X6 hown hK hP 0 rfl rfl 6 (by decide) (hts (.fieldLink RX6 31 "DockCall$Ships" "line" "[I") (by decide +kernel)) (fun _ h9 => h9) rfl dX6_lineUp_76 ?_
        refine lv_iload hx hb dX6_lineUp_79 (lv_at hl 0 rfl) ?_
        refine lv_aload_n hx hb dX6_lineUp_81 rfl (lv_at hl 3 rfl) ?_
        refine va_get (ci := 8) (v := .ref (ad 21)) (C := RX6) (T := TX6) (N := 10) hx hb hts inw_X6_lineUp_X6 hown hK hP 0 rfl rfl 6 (by decide) (hts (.fieldLink RX6 31 "DockCall$Ships" "line" "[I") (by decide +kernel)) (fun _ h9 => h9) rfl dX6_lineUp_82 ?_
        refine lv_iload hx hb dX6_lineUp_85 (lv_at hl 0 rfl) ?_
        refine lv_iconst (v := 1) hx hb dX6_lineUp_87 (by decide) ?_
        refine lv_isub hx hb dX6_lineUp_88 ?_
        obtain ⟨hi, hw⟩ := hw
        refine va_iald hx hb hK hP 4 0 rfl rfl hi dX6_lineUp_89 ?_
        obtain ⟨hi, hw⟩ := hw
        refine va_iast hx hb hK hP hD hS 4 0 rfl rfl hi dX6_lineUp_90 (fun H locs hP hD hS => ?_)
        have hP : va_P D vwCl [(ce_sh ad s_inLine s_size), ((ad 15), .inl (y 0, 10, .inl s_came)), ((ad 16), .inl (y 0, 10, .inl s_hatches)), ((ad 18), .inl (y 0, 40, .inl s_left)), ((ad 21), .inl (y 0, 10, .inl (upd s_line v4.toNatClampNeg (s_line (v4 - 1).toNatClampNeg)))), ((ad 22), .inl (y 0, 10, .inl s_rank))] H := hP
        have hD : va_D A [(ce_sh ad s_inLine s_size), ((ad 15), .inl (y 0, 10, .inl s_came)), ((ad 16), .inl (y 0, 10, .inl s_hatches)), ((ad 18), .inl (y 0, 40, .inl s_left)), ((ad 21), .inl (y 0, 10, .inl (upd s_line v4.toNatClampNeg (s_line (v4 - 1).toNatClampNeg)))), ((ad 22), .inl (y 0, 10, .inl s_rank))] := hD
        refine lv_iinc (v := v4 + (-1)) (lv' := [(4, .int (v4 + (-1))), (3, .int v3), (2, .int v2), (0, .ref (ad 14)), (1, .int v1)]) hx hb dX6_lineUp_91 hl (k := 0) rfl (by first | rfl | decide) (by decide) rfl (fun ls hl => ?_)
        refine lv_goto (tgt := 47) hx hb dX6_lineUp_94 (by decide) ?_
        exact ih (v4 + (-1)) (upd s_line v4.toNatClampNeg (s_line (v4 - 1).toNatClampNeg)) hw _ _ _ hP hD hS (lv_sub hl [0, 1, 2, 3, 4] rfl)
set_option maxHeartbeats 4000000 in
set_option maxRecDepth 100000 in
theorem c_Ships_lineUp_h7 {p : Program} {l : Launch} {e : Env} {s : State} {m : MethodId} {args : Array Value} {below : List Frame} {meth : Method} {c : Code} {D : va_G} {y : Nat → ClassId} {ad : Nat → Nat} {A : Nat → Prop} (hx : p.tables.exec = Jvm.exec) (hb : c.code = cX6_lineUp) (hr : meth.sig.returnType = none) (hml : c.maxLocals = 5) (hown : s.vm.findClass RX6 = some m.cls) (hts : ∀ w ∈ wsX6_lineUp, w.before args s = true) (hlocks : meth.locks = false) (hK : va_K D vwCl (TY y) s) (hE : EV s) (hA : ∀ q, s.heap.size ≤ q → A q) {v1 : Int32} {s_size : Int32} {s_came : Nat → Int32} {s_hatches : Nat → Int32} {s_left : Nat → Int32}  {Q : Int32 → (Nat → Int32) → (Nat → Int32) → Prop}  : ∀ (n : Nat) (v2 : Int32) (s_inLine : Int32) (s_line : Nat → Int32) (s_rank : Nat → Int32), wp_Ships_lineUp_h7 v1 s_size s_came s_hatches s_left Q n v2 s_inLine s_line s_rank → ∀ (H : Heap) (locs : List Loc) (ls : Array Slot), va_P D vwCl [(ce_sh ad s_inLine s_size), ((ad 15), .inl (y 0, 10, .inl s_came)), ((ad 16), .inl (y 0, 10, .inl s_hatches)), ((ad 18), .inl (y 0, 40, .inl s_left)), ((ad 21), .inl (y 0, 10, .inl s_line)), ((ad 22), .inl (y 0, 10, .inl s_rank))] H → va_D A [(ce_sh ad s_inLine s_size), ((ad 15), .inl (y 0, 10, .inl s_came)), ((ad 16), .inl (y 0, 10, .inl s_hatches)), ((ad 18), .inl (y 0, 40, .inl s_left)), ((ad 21), .inl (y 0, 10, .inl s_line)), ((ad 22), .inl (y 0, 10, .inl s_rank))] → va_S A s.heap H locs → lv_has ls 5 [(2, .int v2), (0, .ref (ad 14)), (1, .int v1)] → W p l e ({ frames := 2, cells := 0, slots := 0, locals := 44 }) s m args below meth c H locs 0 0 (MQ below (va_Qv (fun (u : Int32 × (Nat → Int32) × (Nat → Int32)) => Q u.1 u.2.1 u.2.2) (mAt D y A (fun (u : Int32 × (Nat → Int32) × (Nat → Int32)) => [(ce_sh ad u.1 s_size), ((ad 15), .inl (y 0, 10, .inl s_came)), ((ad 16), .inl (y 0, 10, .inl s_hatches)), ((ad 18), .inl (y 0, 40, .inl s_left)), ((ad 21), .inl (y 0, 10, .inl u.2.1)), ((ad 22), .inl (y 0, 10, .inl u.2.2))])) A) args s 0 0 A) (F0 m 7 ls []) := by
  intro n
  induction n with
  | zero => intro v2 s_inLine s_line s_rank hw; rw [wp_Ships_lineUp_h7] at hw; exact hw.elim
  | succ n ih =>
    intro v2 s_inLine s_line s_rank hw H locs ls hP hD hS hl
    rw [wp_Ships_lineUp_h7] at hw
    refine lv_iload_n hx hb dX6_lineUp_7 rfl (lv_at hl 0 rfl) ?_
    refine lv_aload_n hx hb dX6_lineUp_8 rfl (lv_at hl 1 rfl) ?_
    refine va_get (ci := 8) (v := .int s_size) (C := RX6) (T := TX6) (N := 10) hx hb hts inw_X6_lineUp_X6 hown hK hP 0 rfl rfl 9 (by decide) (hts (.fieldLink RX6 37 "DockCall$Ships" "size" "I") (by decide +kernel)) (fun _ h9 => h9) rfl dX6_lineUp_9 ?_
    refine lv_icmp_ge (tgt := 121) hx hb dX6_lineUp_12 (by decide) (fun hc => ?_) (fun hc => ?_)
    · have hw := hw.1 hc
      exact W.vret hx hb hr (fun t ht hW => ⟨⟨(s_inLine, s_line, s_rank), rfl, hw, mAt.to hP hK hD ht hW⟩, hS.F ht⟩) hS.2.2 dX6_lineUp_121
    · have hw := hw.2 hc
      refine lv_aload_n hx hb dX6_lineUp_15 rfl (lv_at hl 1 rfl) ?_
      refine lv_iload_n hx hb dX6_lineUp_16 rfl (lv_at hl 0 rfl) ?_
      refine mx_i (wc := [(ce_sh ad s_inLine s_size), ((ad 16), .inl (y 0, 10, .inl s_hatches)), ((ad 18), .inl (y 0, 40, .inl s_left))]) (wr := [((ad 15), .inl (y 0, 10, .inl s_came)), ((ad 21), .inl (y 0, 10, .inl s_line)), ((ad 22), .inl (y 0, 10, .inl s_rank))]) hP hD hS hA [0, 2, 3] [1, 4, 5] [3, 0, 4, 5, 1, 2] rfl rfl (by decide) (by decide) (by decide) (fun (u : Unit) => [(ce_sh ad s_inLine s_size), ((ad 15), .inl (y 0, 10, .inl s_came)), ((ad 16), .inl (y 0, 10, .inl s_hatches)), ((ad 18), .inl (y 0, 40, .inl s_left)), ((ad 21), .inl (y 0, 10, .inl s_line)), ((ad 22), .inl (y 0, 10, .inl s_rank))]) (fun _ => rfl) (va_runV (As := [.int v2]) (rest := []) ⟨hx, hb, hml, hown, hts⟩ (c_Ships_tonsOf l D y ad H.size s_inLine s_size s_hatches s_left v2 hw) (cwV 1 hts gX6_lineUp_X6_tonsOf rfl rfl rfl (by decide +kernel) ⟨Nat.le_of_ble_eq_true rfl, Nat.le_of_ble_eq_true rfl⟩) ⟨mPre.blind, (va_recv hK hP (ci := 8) (q0 := 0) rfl rfl), mPre.to (hP.sub [0, 2, 3] rfl) hK (hD.sub [0, 2, 3] (by decide) rfl) hE⟩ rfl rfl hl.1 rfl (lv_room (Nat.le_of_ble_eq_true rfl)) dX6_lineUp_17 ⟨Nat.le_of_ble_eq_true rfl, Nat.le_of_ble_eq_true rfl⟩) (fun r_1 u H locs hw hP hD hS => ?_)
      try dsimp only at hw
      have hP : va_P D vwCl [(ce_sh ad s_inLine s_size), ((ad 15), .inl (y 0, 10, .inl s_came)), ((ad 16), .inl (y 0, 10, .inl s_hatches)), ((ad 18), .inl (y 0, 40, .inl s_left)), ((ad 21), .inl (y 0, 10, .inl s_line)), ((ad 22), .inl (y 0, 10, .inl s_rank))] H := hP
      have hD : va_D A [(ce_sh ad s_inLine s_size), ((ad 15), .inl (y 0, 10, .inl s_came)), ((ad 16), .inl (y 0, 10, .inl s_hatches)), ((ad 18), .inl (y 0, 40, .inl s_left)), ((ad 21), .inl (y 0, 10, .inl s_line)), ((ad 22), .inl (y 0, 10, .inl s_rank))] := hD
      refine lv_istore_n (lv' := [(3, .int r_1), (2, .int v2), (0, .ref (ad 14)), (1, .int v1)]) hx hb dX6_lineUp_20 rfl hl (by decide) rfl (fun ls hl => ?_)
      refine lv_iload_n hx hb dX6_lineUp_21 rfl (lv_at hl 0 rfl) ?_
      refine lv_if_ne (tgt := 28) hx hb dX6_lineUp_22 (by decide) (fun hc => ?_) (fun hc => ?_)
      · have hw := hw.2 hc
        refine lv_aload_n hx hb dX6_lineUp_28 rfl (lv_at hl 2 rfl) ?_
        refine va_get (ci := 8) (v := .ref (ad 22)) (C := RX6) (T := TX6) (N := 10) hx hb hts inw_X6_lineUp_X6 hown hK hP 0 rfl rfl 7 (by decide) (hts (.fieldLink RX6 34 "DockCall$Ships" "rank" "[I") (by decide +kernel)) (fun _ h9 => h9) rfl dX6_lineUp_29 ?_
        refine lv_iload_n hx hb dX6_lineUp_32 rfl (lv_at hl 1 rfl) ?_
        refine lv_aload_n hx hb dX6_lineUp_33 rfl (lv_at hl 2 rfl) ?_
        refine lv_iload_n hx hb dX6_lineUp_34 rfl (lv_at hl 1 rfl) ?_
        refine lv_iload_n hx hb dX6_lineUp_35 rfl (lv_at hl 3 rfl) ?_
        refine lv_iload_n hx hb dX6_lineUp_36 rfl (lv_at hl 0 rfl) ?_
        refine mx_i (wc := [(ce_sh ad s_inLine s_size), ((ad 15), .inl (y 0, 10, .inl s_came))]) (wr := [((ad 16), .inl (y 0, 10, .inl s_hatches)), ((ad 18), .inl (y 0, 40, .inl s_left)), ((ad 21), .inl (y 0, 10, .inl s_line)), ((ad 22), .inl (y 0, 10, .inl s_rank))]) hP hD hS hA [0, 1] [2, 3, 4, 5] [4, 5, 0, 1, 2, 3] rfl rfl (by decide) (by decide) (by decide) (fun (u : Unit) => [(ce_sh ad s_inLine s_size), ((ad 15), .inl (y 0, 10, .inl s_came)), ((ad 16), .inl (y 0, 10, .inl s_hatches)), ((ad 18), .inl (y 0, 40, .inl s_left)), ((ad 21), .inl (y 0, 10, .inl s_line)), ((ad 22), .inl (y 0, 10, .inl s_rank))]) (fun _ => rfl) (va_runV (As := [.int v2, .int v1, .int r_1]) (rest := [.int v2, .ref (ad 22)]) ⟨hx, hb, hml, hown, hts⟩ (c_Ships_rankOf l D y ad H.size s_inLine s_size s_came v2 v1 r_1 hw) (cwV 3 hts gX6_lineUp_X6_rankOf rfl rfl rfl (by decide +kernel) ⟨Nat.le_of_ble_eq_true rfl, Nat.le_of_ble_eq_true rfl⟩) ⟨mPre.blind, (va_recv hK hP (ci := 8) (q0 := 0) rfl rfl), mPre.to (hP.sub [0, 1] rfl) hK (hD.sub [0, 1] (by decide) rfl) hE⟩ rfl rfl hl.1 rfl (lv_room (Nat.le_of_ble_eq_true rfl)) dX6_lineUp_37 ⟨Nat.le_of_ble_eq_true rfl, Nat.le_of_ble_eq_true rfl⟩) (fun r_2 u H locs hw hP hD hS => ?_)
        try dsimp only at hw
        have hP : va_P D vwCl [(ce_sh ad s_inLine s_size), ((ad 15), .inl (y 0, 10, .inl s_came)), ((ad 16), .inl (y 0, 10, .inl s_hatches)), ((ad 18), .inl (y 0, 40, .inl s_left)), ((ad 21), .inl (y 0, 10, .inl s_line)), ((ad 22), .inl (y 0, 10, .inl s_rank))] H := hP
        have hD : va_D A [(ce_sh ad s_inLine s_size), ((ad 15), .inl (y 0, 10, .inl s_came)), ((ad 16), .inl (y 0, 10, .inl s_hatches)), ((ad 18), .inl (y 0, 40, .inl s_left)), ((ad 21), .inl (y 0, 10, .inl s_line)), ((ad 22), .inl (y 0, 10, .inl s_rank))] := hD
        obtain ⟨hi, hw⟩ := hw
        refine va_iast hx hb hK hP hD hS 5 0 rfl rfl hi dX6_lineUp_40 (fun H locs hP hD hS => ?_)
        have hP : va_P D vwCl [(ce_sh ad s_inLine s_size), ((ad 15), .inl (y 0, 10, .inl s_came)), ((ad 16), .inl (y 0, 10, .inl s_hatches)), ((ad 18), .inl (y 0, 40, .inl s_left)), ((ad 21), .inl (y 0, 10, .inl s_line)), ((ad 22), .inl (y 0, 10, .inl (upd s_rank v2.toNatClampNeg r_2)))] H := hP
        have hD : va_D A [(ce_sh ad s_inLine s_size), ((ad 15), .inl (y 0, 10, .inl s_came)), ((ad 16), .inl (y 0, 10, .inl s_hatches)), ((ad 18), .inl (y 0, 40, .inl s_left)), ((ad 21), .inl (y 0, 10, .inl s_line)), ((ad 22), .inl (y 0, 10, .inl (upd s_rank v2.toNatClampNeg r_2)))] := hD
        refine lv_aload_n hx hb dX6_lineUp_41 rfl (lv_at hl 2 rfl) ?_
        refine va_get (ci := 8) (v := .int s_inLine) (C := RX6) (T := TX6) (N := 10) hx hb hts inw_X6_lineUp_X6 hown hK hP 0 rfl rfl 8 (by decide) (hts (.fieldLink RX6 49 "DockCall$Ships" "inLine" "I") (by decide +kernel)) (fun _ h9 => h9) rfl dX6_lineUp_42 ?_
        refine lv_istore (lv' := [(4, .int s_inLine), (3, .int r_1), (2, .int v2), (0, .ref (ad 14)), (1, .int v1)]) hx hb dX6_lineUp_45 hl (by decide) rfl (fun ls hl => ?_)
        obtain ⟨n', hw⟩ := hw
        exact c_Ships_lineUp_h47 hx hb hr hml hown hts hlocks hK hE hA ih n' s_inLine s_line hw _ _ _ hP hD hS (lv_sub hl [0, 1, 2, 3, 4] rfl)
      · have hw := hw.1 hc
        refine lv_goto (tgt := 115) hx hb dX6_lineUp_25 (by decide) ?_
        refine lv_iinc (v := v2 + 1) (lv' := [(2, .int (v2 + 1)), (3, .int r_1), (0, .ref (ad 14)), (1, .int v1)]) hx hb dX6_lineUp_115 hl (k := 1) rfl (by first | rfl | decide) (by decide) rfl (fun ls hl => ?_)
        refine lv_goto (tgt := 7) hx hb dX6_lineUp_118 (by decide) ?_
        exact ih (v2 + 1) s_inLine s_line s_rank hw _ _ _ hP hD hS (lv_sub hl [0, 2, 3] rfl)
set_option maxHeartbeats 4000000 in
set_option maxRecDepth 100000 in
theorem c_Ships_lineUp (l : Launch) (D : va_G) (y : Nat → ClassId) (ad : Nat → Nat) (sz : Nat) (s_inLine : Int32) (s_size : Int32) (s_came : Nat → Int32) (s_hatches : Nat → Int32) (s_left : Nat → Int32) (s_line : Nat → Int32) (s_rank : Nat → Int32) (p0 : Int32) {Q : Int32 → (Nat → Int32) → (Nat → Int32) → Prop} (hw : wp_Ships_lineUp s_size s_came s_hatches s_left s_line s_rank p0 Q) : Met l yX6_lineUp wsX6_lineUp ({ frames := 2, cells := 0, slots := 0, locals := 44 }) (va_Pc [.ref (ad 14), .int p0] (mPre D y sz [(ce_sh ad s_inLine s_size), ((ad 15), .inl (y 0, 10, .inl s_came)), ((ad 16), .inl (y 0, 10, .inl s_hatches)), ((ad 18), .inl (y 0, 40, .inl s_left)), ((ad 21), .inl (y 0, 10, .inl s_line)), ((ad 22), .inl (y 0, 10, .inl s_rank))])) (va_Qv (fun (u : Int32 × (Nat → Int32) × (Nat → Int32)) => Q u.1 u.2.1 u.2.2) (mAt D y (va_A [(ce_sh ad s_inLine s_size), ((ad 15), .inl (y 0, 10, .inl s_came)), ((ad 16), .inl (y 0, 10, .inl s_hatches)), ((ad 18), .inl (y 0, 40, .inl s_left)), ((ad 21), .inl (y 0, 10, .inl s_line)), ((ad 22), .inl (y 0, 10, .inl s_rank))] sz) (fun (u : Int32 × (Nat → Int32) × (Nat → Int32)) => [(ce_sh ad u.1 s_size), ((ad 15), .inl (y 0, 10, .inl s_came)), ((ad 16), .inl (y 0, 10, .inl s_hatches)), ((ad 18), .inl (y 0, 40, .inl s_left)), ((ad 21), .inl (y 0, 10, .inl u.2.1)), ((ad 22), .inl (y 0, 10, .inl u.2.2))])) (va_A [(ce_sh ad s_inLine s_size), ((ad 15), .inl (y 0, 10, .inl s_came)), ((ad 16), .inl (y 0, 10, .inl s_hatches)), ((ad 18), .inl (y 0, 40, .inl s_left)), ((ad 21), .inl (y 0, 10, .inl s_line)), ((ad 22), .inl (y 0, 10, .inl s_rank))] sz)) 0 0 (va_A [(ce_sh ad s_inLine s_size), ((ad 15), .inl (y 0, 10, .inl s_came)), ((ad 16), .inl (y 0, 10, .inl s_hatches)), ((ad 18), .inl (y 0, 40, .inl s_left)), ((ad 21), .inl (y 0, 10, .inl s_line)), ((ad 22), .inl (y 0, 10, .inl s_rank))] sz) := by
  unfold wp_Ships_lineUp at hw
  refine Met.ofW (cc := cX6_lineUp) (maxL := 5) (ret := none) (by decide) rfl ?_
  intro p e s m args below meth c s₁ B hml hv
  obtain ⟨rfl, hsz, hP, hK, hD0, hE⟩ := hv
  have hx := B.exec
  have hb := B.bytes
  have hr := B.returns
  have hts := atoms_spec (ws := wsX6_lineUp) B.pre
  have hown : s.vm.findClass RX6 = some m.cls := findClass_of_methodNamed B.named
  have hlocks := B.notSynchronized
  subst hsz
  have hD := hD0.self (sz := s.heap.size)
  generalize hAe : va_A [(ce_sh ad s_inLine s_size), ((ad 15), .inl (y 0, 10, .inl s_came)), ((ad 16), .inl (y 0, 10, .inl s_hatches)), ((ad 18), .inl (y 0, 40, .inl s_left)), ((ad 21), .inl (y 0, 10, .inl s_line)), ((ad 22), .inl (y 0, 10, .inl s_rank))] s.heap.size = A at hD ⊢
  have hA : ∀ q : Nat, s.heap.size ≤ q → A q := fun q h => by rw [← hAe]; exact Or.inr h
  have hS : va_S A s.heap s.heap [] := va_S.rf
  have hP : va_P D vwCl [(ce_sh ad s_inLine s_size), ((ad 15), .inl (y 0, 10, .inl s_came)), ((ad 16), .inl (y 0, 10, .inl s_hatches)), ((ad 18), .inl (y 0, 40, .inl s_left)), ((ad 21), .inl (y 0, 10, .inl s_line)), ((ad 22), .inl (y 0, 10, .inl s_rank))] s.heap := hP
  have hl := lv_entry ([.ref (ad 14), .int p0]) (n := 5) (Nat.le_of_ble_eq_true rfl)
  rw [lg_entry_eq]
  generalize (lg_sl ([.ref (ad 14), .int p0]) ++ List.replicate (5 - (lg_sl ([.ref (ad 14), .int p0])).length) Slot.unset).toArray = ls at hl ⊢
  have hl : lv_has ls 5 [(0, .ref (ad 14)), (1, .int p0)] := hl
  refine lv_aload_n hx hb dX6_lineUp_0 rfl (lv_at hl 0 rfl) ?_
  refine lv_iconst (v := 0) hx hb dX6_lineUp_1 (by decide) ?_
  refine va_put (ci := 8) (v := .int 0) (ty := .int) (C := RX6) (T := TX6) (N := 10) hx hb hts inw_X6_lineUp_X6 tyX6 tyX6_ok nmX6 hown hK hP hD hS 0 rfl rfl 8 (by decide) (hts (.fieldLink RX6 49 "DockCall$Ships" "inLine" "I") (by decide +kernel)) (fun _ h9 => h9) rfl (by decide +kernel) rfl rfl (Nat.le_of_ble_eq_true rfl) dX6_lineUp_2 (fun H locs hP hD hS => ?_)
  have hP : va_P D vwCl [(ce_sh ad 0 s_size), ((ad 15), .inl (y 0, 10, .inl s_came)), ((ad 16), .inl (y 0, 10, .inl s_hatches)), ((ad 18), .inl (y 0, 40, .inl s_left)), ((ad 21), .inl (y 0, 10, .inl s_line)), ((ad 22), .inl (y 0, 10, .inl s_rank))] H := hP
  have hD : va_D A [(ce_sh ad 0 s_size), ((ad 15), .inl (y 0, 10, .inl s_came)), ((ad 16), .inl (y 0, 10, .inl s_hatches)), ((ad 18), .inl (y 0, 40, .inl s_left)), ((ad 21), .inl (y 0, 10, .inl s_line)), ((ad 22), .inl (y 0, 10, .inl s_rank))] := hD
  refine lv_iconst (v := 0) hx hb dX6_lineUp_5 (by decide) ?_
  refine lv_istore_n (lv' := [(2, .int 0), (0, .ref (ad 14)), (1, .int p0)]) hx hb dX6_lineUp_6 rfl hl (by decide) rfl (fun ls hl => ?_)
  obtain ⟨n', hw⟩ := hw
  exact c_Ships_lineUp_h7 hx hb hr hml hown hts hlocks hK hE hA  n' 0 0 s_line s_rank hw _ _ _ hP hD hS (lv_sub hl [0, 1, 2] rfl)
theorem inw_X6_countWaiting_X6 : ∀ w ∈ wsX60, w ∈ wsX6_countWaiting := fun _ h => List.mem_cons_of_mem _ (List.mem_append_left _ (List.mem_append_right _ h))
def wp_Ships_countWaiting_h2 (s_size : Int32) (s_hatches : Nat → Int32) (s_left : Nat → Int32)  (Q : (Nat → Int32) → Prop) : Nat → Int32 → (Nat → Int32) → Prop
  | 0, _, _ => False
  | n + 1, v1, s_waited => ((s_size ≤ v1 → Q s_waited) ∧ (¬ s_size ≤ v1 → (wp_Ships_isDone s_hatches s_left v1 (fun r_1 => ((r_1 = 0 → (vp_in v1 10 ∧ (vp_in v1 10 ∧ wp_Ships_countWaiting_h2 s_size s_hatches s_left Q n (v1 + 1) (upd s_waited v1.toNatClampNeg ((s_waited v1.toNatClampNeg) + 1))))) ∧ (¬ r_1 = 0 → wp_Ships_countWaiting_h2 s_size s_hatches s_left Q n (v1 + 1) s_waited))))))
def wp_Ships_countWaiting (s_size : Int32) (s_hatches : Nat → Int32) (s_waited : Nat → Int32) (s_left : Nat → Int32) (Q : (Nat → Int32) → Prop) : Prop := (∃ n' : Nat, wp_Ships_countWaiting_h2 s_size s_hatches s_left Q n' 0 s_waited)
set_option maxHeartbeats 4000000 in
set_option maxRecDepth 100000 in
theorem c_Ships_countWaiting_h2 {p : Program} {l : Launch} {e : Env} {s : State} {m : MethodId} {args : Array Value} {below : List Frame} {meth : Method} {c : Code} {D : va_G} {y : Nat → ClassId} {ad : Nat → Nat} {A : Nat → Prop} (hx : p.tables.exec = Jvm.exec) (hb : c.code = cX6_countWaiting) (hr : meth.sig.returnType = none) (hml : c.maxLocals = 2) (hown : s.vm.findClass RX6 = some m.cls) (hts : ∀ w ∈ wsX6_countWaiting, w.before args s = true) (hlocks : meth.locks = false) (hK : va_K D vwCl (TY y) s) (hE : EV s) (hA : ∀ q, s.heap.size ≤ q → A q) {s_size : Int32} {s_hatches : Nat → Int32} {s_left : Nat → Int32} {s_inLine : Int32}  {Q : (Nat → Int32) → Prop}  : ∀ (n : Nat) (v1 : Int32) (s_waited : Nat → Int32), wp_Ships_countWaiting_h2 s_size s_hatches s_left Q n v1 s_waited → ∀ (H : Heap) (locs : List Loc) (ls : Array Slot), va_P D vwCl [(ce_sh ad s_inLine s_size), ((ad 16), .inl (y 0, 10, .inl s_hatches)), ((ad 17), .inl (y 0, 10, .inl s_waited)), ((ad 18), .inl (y 0, 40, .inl s_left))] H → va_D A [(ce_sh ad s_inLine s_size), ((ad 16), .inl (y 0, 10, .inl s_hatches)), ((ad 17), .inl (y 0, 10, .inl s_waited)), ((ad 18), .inl (y 0, 40, .inl s_left))] → va_S A s.heap H locs → lv_has ls 2 [(1, .int v1), (0, .ref (ad 14))] → W p l e ({ frames := 3, cells := 0, slots := 0, locals := 65 }) s m args below meth c H locs 0 0 (MQ below (va_Qv (fun (u : (Nat → Int32)) => Q u) (mAt D y A (fun (u : (Nat → Int32)) => [(ce_sh ad s_inLine s_size), ((ad 16), .inl (y 0, 10, .inl s_hatches)), ((ad 17), .inl (y 0, 10, .inl u)), ((ad 18), .inl (y 0, 40, .inl s_left))])) A) args s 0 0 A) (F0 m 2 ls []) := by
  intro n
  induction n with
  | zero => intro v1 s_waited hw; rw [wp_Ships_countWaiting_h2] at hw; exact hw.elim
  | succ n ih =>
    intro v1 s_waited hw H locs ls hP hD hS hl
    rw [wp_Ships_countWaiting_h2] at hw
    refine lv_iload_n hx hb dX6_countWaiting_2 rfl (lv_at hl 0 rfl) ?_
    refine lv_aload_n hx hb dX6_countWaiting_3 rfl (lv_at hl 1 rfl) ?_
    refine va_get (ci := 8) (v := .int s_size) (C := RX6) (T := TX6) (N := 10) hx hb hts inw_X6_countWaiting_X6 hown hK hP 0 rfl rfl 9 (by decide) (hts (.fieldLink RX6 37 "DockCall$Ships" "size" "I") (by decide +kernel)) (fun _ h9 => h9) rfl dX6_countWaiting_4 ?_
    refine lv_icmp_ge (tgt := 34) hx hb dX6_countWaiting_7 (by decide) (fun hc => ?_) (fun hc => ?_)
    · have hw := hw.1 hc
      exact W.vret hx hb hr (fun t ht hW => ⟨⟨(s_waited), rfl, hw, mAt.to hP hK hD ht hW⟩, hS.F ht⟩) hS.2.2 dX6_countWaiting_34
    · have hw := hw.2 hc
      refine lv_aload_n hx hb dX6_countWaiting_10 rfl (lv_at hl 1 rfl) ?_
      refine lv_iload_n hx hb dX6_countWaiting_11 rfl (lv_at hl 0 rfl) ?_
      refine mx_i (wc := [(ce_sh ad s_inLine s_size), ((ad 16), .inl (y 0, 10, .inl s_hatches)), ((ad 18), .inl (y 0, 40, .inl s_left))]) (wr := [((ad 17), .inl (y 0, 10, .inl s_waited))]) hP hD hS hA [0, 1, 3] [2] [1, 2, 0, 3] rfl rfl (by decide) (by decide) (by decide) (fun (u : Unit) => [(ce_sh ad s_inLine s_size), ((ad 16), .inl (y 0, 10, .inl s_hatches)), ((ad 17), .inl (y 0, 10, .inl s_waited)), ((ad 18), .inl (y 0, 40, .inl s_left))]) (fun _ => rfl) (va_runV (As := [.int v1]) (rest := []) ⟨hx, hb, hml, hown, hts⟩ (c_Ships_isDone l D y ad H.size s_inLine s_size s_hatches s_left v1 hw) (cwV 1 hts gX6_countWaiting_X6_isDone rfl rfl rfl (by decide +kernel) ⟨Nat.le_of_ble_eq_true rfl, Nat.le_of_ble_eq_true rfl⟩) ⟨mPre.blind, (va_recv hK hP (ci := 8) (q0 := 0) rfl rfl), mPre.to (hP.sub [0, 1, 3] rfl) hK (hD.sub [0, 1, 3] (by decide) rfl) hE⟩ rfl rfl hl.1 rfl (lv_room (Nat.le_of_ble_eq_true rfl)) dX6_countWaiting_12 ⟨Nat.le_of_ble_eq_true rfl, Nat.le_of_ble_eq_true rfl⟩) (fun r_1 u H locs hw hP hD hS => ?_)
      try dsimp only at hw
      have hP : va_P D vwCl [(ce_sh ad s_inLine s_size), ((ad 16), .inl (y 0, 10, .inl s_hatches)), ((ad 17), .inl (y 0, 10, .inl s_waited)), ((ad 18), .inl (y 0, 40, .inl s_left))] H := hP
      have hD : va_D A [(ce_sh ad s_inLine s_size), ((ad 16), .inl (y 0, 10, .inl s_hatches)), ((ad 17), .inl (y 0, 10, .inl s_waited)), ((ad 18), .inl (y 0, 40, .inl s_left))] := hD
      refine lv_if_ne (tgt := 28) hx hb dX6_countWaiting_15 (by decide) (fun hc => ?_) (fun hc => ?_)
      · have hw := hw.2 hc
        refine lv_iinc (v := v1 + 1) (lv' := [(1, .int (v1 + 1)), (0, .ref (ad 14))]) hx hb dX6_countWaiting_28 hl (k := 0) rfl (by first | rfl | decide) (by decide) rfl (fun ls hl => ?_)
        refine lv_goto (tgt := 2) hx hb dX6_countWaiting_31 (by decide) ?_
        exact ih (v1 + 1) s_waited hw _ _ _ hP hD hS (lv_sub hl [0, 1] rfl)
      · have hw := hw.1 hc
        refine lv_aload_n hx hb dX6_countWaiting_18 rfl (lv_at hl 1 rfl) ?_
        refine va_get (ci := 8) (v := .ref (ad 17)) (C := RX6) (T := TX6) (N := 10) hx hb hts inw_X6_countWaiting_X6 hown hK hP 0 rfl rfl 2 (by decide) (hts (.fieldLink RX6 18 "DockCall$Ships" "waited" "[I") (by decide +kernel)) (fun _ h9 => h9) rfl dX6_countWaiting_19 ?_
        refine lv_iload_n hx hb dX6_countWaiting_22 rfl (lv_at hl 0 rfl) ?_
        refine lv_dup2_11 hx hb dX6_countWaiting_23 rfl rfl ?_
        obtain ⟨hi, hw⟩ := hw
        refine va_iald hx hb hK hP 2 0 rfl rfl hi dX6_countWaiting_24 ?_
        refine lv_iconst (v := 1) hx hb dX6_countWaiting_25 (by decide) ?_
        refine lv_iadd hx hb dX6_countWaiting_26 ?_
        obtain ⟨hi, hw⟩ := hw
        refine va_iast hx hb hK hP hD hS 2 0 rfl rfl hi dX6_countWaiting_27 (fun H locs hP hD hS => ?_)
        have hP : va_P D vwCl [(ce_sh ad s_inLine s_size), ((ad 16), .inl (y 0, 10, .inl s_hatches)), ((ad 17), .inl (y 0, 10, .inl (upd s_waited v1.toNatClampNeg ((s_waited v1.toNatClampNeg) + 1)))), ((ad 18), .inl (y 0, 40, .inl s_left))] H := hP
        have hD : va_D A [(ce_sh ad s_inLine s_size), ((ad 16), .inl (y 0, 10, .inl s_hatches)), ((ad 17), .inl (y 0, 10, .inl (upd s_waited v1.toNatClampNeg ((s_waited v1.toNatClampNeg) + 1)))), ((ad 18), .inl (y 0, 40, .inl s_left))] := hD
        refine lv_iinc (v := v1 + 1) (lv' := [(1, .int (v1 + 1)), (0, .ref (ad 14))]) hx hb dX6_countWaiting_28 hl (k := 0) rfl (by first | rfl | decide) (by decide) rfl (fun ls hl => ?_)
        refine lv_goto (tgt := 2) hx hb dX6_countWaiting_31 (by decide) ?_
        exact ih (v1 + 1) (upd s_waited v1.toNatClampNeg ((s_waited v1.toNatClampNeg) + 1)) hw _ _ _ hP hD hS (lv_sub hl [0, 1] rfl)
set_option maxHeartbeats 4000000 in
set_option maxRecDepth 100000 in
theorem c_Ships_countWaiting (l : Launch) (D : va_G) (y : Nat → ClassId) (ad : Nat → Nat) (sz : Nat) (s_inLine : Int32) (s_size : Int32) (s_hatches : Nat → Int32) (s_waited : Nat → Int32) (s_left : Nat → Int32)  {Q : (Nat → Int32) → Prop} (hw : wp_Ships_countWaiting s_size s_hatches s_waited s_left Q) : Met l yX6_countWaiting wsX6_countWaiting ({ frames := 3, cells := 0, slots := 0, locals := 65 }) (va_Pc [.ref (ad 14)] (mPre D y sz [(ce_sh ad s_inLine s_size), ((ad 16), .inl (y 0, 10, .inl s_hatches)), ((ad 17), .inl (y 0, 10, .inl s_waited)), ((ad 18), .inl (y 0, 40, .inl s_left))])) (va_Qv (fun (u : (Nat → Int32)) => Q u) (mAt D y (va_A [(ce_sh ad s_inLine s_size), ((ad 16), .inl (y 0, 10, .inl s_hatches)), ((ad 17), .inl (y 0, 10, .inl s_waited)), ((ad 18), .inl (y 0, 40, .inl s_left))] sz) (fun (u : (Nat → Int32)) => [(ce_sh ad s_inLine s_size), ((ad 16), .inl (y 0, 10, .inl s_hatches)), ((ad 17), .inl (y 0, 10, .inl u)), ((ad 18), .inl (y 0, 40, .inl s_left))])) (va_A [(ce_sh ad s_inLine s_size), ((ad 16), .inl (y 0, 10, .inl s_hatches)), ((ad 17), .inl (y 0, 10, .inl s_waited)), ((ad 18), .inl (y 0, 40, .inl s_left))] sz)) 0 0 (va_A [(ce_sh ad s_inLine s_size), ((ad 16), .inl (y 0, 10, .inl s_hatches)), ((ad 17), .inl (y 0, 10, .inl s_waited)), ((ad 18), .inl (y 0, 40, .inl s_left))] sz) := by
  unfold wp_Ships_countWaiting at hw
  refine Met.ofW (cc := cX6_countWaiting) (maxL := 2) (ret := none) (by decide) rfl ?_
  intro p e s m args below meth c s₁ B hml hv
  obtain ⟨rfl, hsz, hP, hK, hD0, hE⟩ := hv
  have hx := B.exec
  have hb := B.bytes
  have hr := B.returns
  have hts := atoms_spec (ws := wsX6_countWaiting) B.pre
  have hown : s.vm.findClass RX6 = some m.cls := findClass_of_methodNamed B.named
  have hlocks := B.notSynchronized
  subst hsz
  have hD := hD0.self (sz := s.heap.size)
  generalize hAe : va_A [(ce_sh ad s_inLine s_size), ((ad 16), .inl (y 0, 10, .inl s_hatches)), ((ad 17), .inl (y 0, 10, .inl s_waited)), ((ad 18), .inl (y 0, 40, .inl s_left))] s.heap.size = A at hD ⊢
  have hA : ∀ q : Nat, s.heap.size ≤ q → A q := fun q h => by rw [← hAe]; exact Or.inr h
  have hS : va_S A s.heap s.heap [] := va_S.rf
  have hP : va_P D vwCl [(ce_sh ad s_inLine s_size), ((ad 16), .inl (y 0, 10, .inl s_hatches)), ((ad 17), .inl (y 0, 10, .inl s_waited)), ((ad 18), .inl (y 0, 40, .inl s_left))] s.heap := hP
  have hl := lv_entry ([.ref (ad 14)]) (n := 2) (Nat.le_of_ble_eq_true rfl)
  rw [lg_entry_eq]
  generalize (lg_sl ([.ref (ad 14)]) ++ List.replicate (2 - (lg_sl ([.ref (ad 14)])).length) Slot.unset).toArray = ls at hl ⊢
  have hl : lv_has ls 2 [(0, .ref (ad 14))] := hl
  refine lv_iconst (v := 0) hx hb dX6_countWaiting_0 (by decide) ?_
  refine lv_istore_n (lv' := [(1, .int 0), (0, .ref (ad 14))]) hx hb dX6_countWaiting_1 rfl hl (by decide) rfl (fun ls hl => ?_)
  obtain ⟨n', hw⟩ := hw
  exact c_Ships_countWaiting_h2 hx hb hr hml hown hts hlocks hK hE hA  n' 0 s_waited hw _ _ _ hP hD hS (lv_sub hl [0, 1] rfl)
