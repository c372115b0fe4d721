theorem inw_X2_has_X2 : ∀ w ∈ wsX20, w ∈ wsX2_has := fun _ h => List.mem_cons_of_mem _ (List.mem_append_right _ h)
def wp_Men_has (m_size : Int32) (p0 : Int32) (Q : Int32 → Prop) : Prop := ((p0 < 0 → Q 0) ∧ (¬ p0 < 0 → ((m_size ≤ p0 → Q 0) ∧ (¬ m_size ≤ p0 → Q 1))))
set_option maxHeartbeats 4000000 in
set_option maxRecDepth 100000 in
theorem c_Men_has (l : Launch) (D : va_G) (y : Nat → ClassId) (ad : Nat → Nat) (sz : Nat) (m_size : Int32) (p0 : Int32) {Q : Int32 → Prop} (hw : wp_Men_has m_size p0 Q) : Met l yX2_has wsX2_has ({ frames := 0, cells := 0, slots := 0, locals := 0 }) (va_Pc [.ref (ad 6), .int p0] (mPre D y sz [(ce_mn ad m_size)])) (va_Qi (fun (r : Int32) (u : Unit) => Q r ) (mAt D y (va_A [(ce_mn ad m_size)] sz) (fun (u : Unit) => [(ce_mn ad m_size)])) (va_A [(ce_mn ad m_size)] sz)) 0 0 (va_A [(ce_mn ad m_size)] sz) := by
  unfold wp_Men_has at hw
  refine Met.ofW (cc := cX2_has) (maxL := 2) (ret := some .boolean) (by decide) rfl ?_
  intro p e s m args below meth c s₁ B hml hv
  obtain ⟨rfl, hsz, hP, hK, hD0, hE⟩ := hv
  have hx := B.exec
  have hb := B.bytes
  have hr := B.returns
  have hts := atoms_spec (ws := wsX2_has) B.pre
  have hown : s.vm.findClass RX2 = some m.cls := findClass_of_methodNamed B.named
  have hlocks := B.notSynchronized
  subst hsz
  have hD := hD0.self (sz := s.heap.size)
  generalize hAe : va_A [(ce_mn ad m_size)] s.heap.size = A at hD ⊢
  have hA : ∀ q : Nat, s.heap.size ≤ q → A q := fun q h => by rw [← hAe]; exact Or.inr h
  have hS : va_S A s.heap s.heap [] := va_S.rf
  have hP : va_P D vwCl [(ce_mn ad m_size)] s.heap := hP
  have hl := lv_entry ([.ref (ad 6), .int p0]) (n := 2) (Nat.le_of_ble_eq_true rfl)
  rw [lg_entry_eq]
  generalize (lg_sl ([.ref (ad 6), .int p0]) ++ List.replicate (2 - (lg_sl ([.ref (ad 6), .int p0])).length) Slot.unset).toArray = ls at hl ⊢
  have hl : lv_has ls 2 [(0, .ref (ad 6)), (1, .int p0)] := hl
  refine lv_iload_n hx hb dX2_has_0 rfl (lv_at hl 1 rfl) ?_
  refine lv_if_lt (tgt := 16) hx hb dX2_has_1 (by decide) (fun hc => ?_) (fun hc => ?_)
  · have hw := hw.1 hc
    refine lv_iconst (v := 0) hx hb dX2_has_16 (by decide) ?_
    exact W.zret (v := 0) hx hb hr (by decide) (fun t ht hW => ⟨⟨0, (), rfl, hw, mAt.to hP hK hD ht hW⟩, hS.F ht⟩) hS.2.2 dX2_has_17
  · have hw := hw.2 hc
    refine lv_iload_n hx hb dX2_has_4 rfl (lv_at hl 1 rfl) ?_
    refine lv_aload_n hx hb dX2_has_5 rfl (lv_at hl 0 rfl) ?_
    refine va_get (ci := 4) (v := .int m_size) (C := RX2) (T := TX2) (N := 8) hx hb hts inw_X2_has_X2 hown hK hP 0 rfl rfl 7 (by decide) (hts (.fieldLink RX2 33 "DockCall$Men" "size" "I") (by decide +kernel)) (fun _ h9 => h9) rfl dX2_has_6 ?_
    refine lv_icmp_ge (tgt := 16) hx hb dX2_has_9 (by decide) (fun hc => ?_) (fun hc => ?_)
    · have hw := hw.1 hc
      refine lv_iconst (v := 0) hx hb dX2_has_16 (by decide) ?_
      exact W.zret (v := 0) hx hb hr (by decide) (fun t ht hW => ⟨⟨0, (), rfl, hw, mAt.to hP hK hD ht hW⟩, hS.F ht⟩) hS.2.2 dX2_has_17
    · have hw := hw.2 hc
      refine lv_iconst (v := 1) hx hb dX2_has_12 (by decide) ?_
      refine lv_goto (tgt := 17) hx hb dX2_has_13 (by decide) ?_
      exact W.zret (v := 1) hx hb hr (by decide) (fun t ht hW => ⟨⟨1, (), rfl, hw, mAt.to hP hK hD ht hW⟩, hS.F ht⟩) hS.2.2 dX2_has_17
theorem inw_X2_isBarred_X2 : ∀ w ∈ wsX20, w ∈ wsX2_isBarred := fun _ h => List.mem_cons_of_mem _ (List.mem_append_left _ (List.mem_append_right _ h))
def wp_Men_isBarred (m_barredUpTo : Nat → Int32) (p0 : Int32) (p1 : Int32) (Q : Int32 → Prop) : Prop := (vp_in p0 24 ∧ ((m_barredUpTo p0.toNatClampNeg < p1 → Q 0) ∧ (¬ m_barredUpTo p0.toNatClampNeg < p1 → Q 1)))
set_option maxHeartbeats 4000000 in
set_option maxRecDepth 100000 in
theorem c_Men_isBarred (l : Launch) (D : va_G) (y : Nat → ClassId) (ad : Nat → Nat) (sz : Nat) (m_size : Int32) (m_barredUpTo : Nat → Int32) (p0 : Int32) (p1 : Int32) {Q : Int32 → Prop} (hw : wp_Men_isBarred m_barredUpTo p0 p1 Q) : Met l yX2_isBarred wsX2_isBarred ({ frames := 0, cells := 0, slots := 0, locals := 0 }) (va_Pc [.ref (ad 6), .int p0, .int p1] (mPre D y sz [(ce_mn ad m_size), ((ad 9), .inl (y 0, 24, .inl m_barredUpTo))])) (va_Qi (fun (r : Int32) (u : Unit) => Q r ) (mAt D y (va_A [(ce_mn ad m_size), ((ad 9), .inl (y 0, 24, .inl m_barredUpTo))] sz) (fun (u : Unit) => [(ce_mn ad m_size), ((ad 9), .inl (y 0, 24, .inl m_barredUpTo))])) (va_A [(ce_mn ad m_size), ((ad 9), .inl (y 0, 24, .inl m_barredUpTo))] sz)) 0 0 (va_A [(ce_mn ad m_size), ((ad 9), .inl (y 0, 24, .inl m_barredUpTo))] sz) := by
  unfold wp_Men_isBarred at hw
  refine Met.ofW (cc := cX2_isBarred) (maxL := 3) (ret := some .boolean) (by decide) rfl ?_
  intro p e s m args below meth c s₁ B hml hv
  obtain ⟨rfl, hsz, hP, hK, hD0, hE⟩ := hv
  have hx := B.exec
  have hb := B.bytes
  have hr := B.returns
  have hts := atoms_spec (ws := wsX2_isBarred) B.pre
  have hown : s.vm.findClass RX2 = some m.cls := findClass_of_methodNamed B.named
  have hlocks := B.notSynchronized
  subst hsz
  have hD := hD0.self (sz := s.heap.size)
  generalize hAe : va_A [(ce_mn ad m_size), ((ad 9), .inl (y 0, 24, .inl m_barredUpTo))] s.heap.size = A at hD ⊢
  have hA : ∀ q : Nat, s.heap.size ≤ q → A q := fun q h => by rw [← hAe]; exact Or.inr h
  have hS : va_S A s.heap s.heap [] := va_S.rf
  have hP : va_P D vwCl [(ce_mn ad m_size), ((ad 9), .inl (y 0, 24, .inl m_barredUpTo))] s.heap := hP
  have hl := lv_entry ([.ref (ad 6), .int p0, .int p1]) (n := 3) (Nat.le_of_ble_eq_true rfl)
  rw [lg_entry_eq]
  generalize (lg_sl ([.ref (ad 6), .int p0, .int p1]) ++ List.replicate (3 - (lg_sl ([.ref (ad 6), .int p0, .int p1])).length) Slot.unset).toArray = ls at hl ⊢
  have hl : lv_has ls 3 [(0, .ref (ad 6)), (1, .int p0), (2, .int p1)] := hl
  refine lv_aload_n hx hb dX2_isBarred_0 rfl (lv_at hl 0 rfl) ?_
  refine va_get (ci := 4) (v := .ref (ad 9)) (C := RX2) (T := TX2) (N := 8) hx hb hts inw_X2_isBarred_X2 hown hK hP 0 rfl rfl 2 (by decide) (hts (.fieldLink RX2 18 "DockCall$Men" "barredUpTo" "[I") (by decide +kernel)) (fun _ h9 => h9) rfl dX2_isBarred_1 ?_
  refine lv_iload_n hx hb dX2_isBarred_4 rfl (lv_at hl 1 rfl) ?_
  obtain ⟨hi, hw⟩ := hw
  refine va_iald hx hb hK hP 1 0 rfl rfl hi dX2_isBarred_5 ?_
  refine lv_iload_n hx hb dX2_isBarred_6 rfl (lv_at hl 2 rfl) ?_
  refine lv_icmp_lt (tgt := 14) hx hb dX2_isBarred_7 (by decide) (fun hc => ?_) (fun hc => ?_)
  · have hw := hw.1 hc
    refine lv_iconst (v := 0) hx hb dX2_isBarred_14 (by decide) ?_
    exact W.zret (v := 0) hx hb hr (by decide) (fun t ht hW => ⟨⟨0, (), rfl, hw, mAt.to hP hK hD ht hW⟩, hS.F ht⟩) hS.2.2 dX2_isBarred_15
  · have hw := hw.2 hc
    refine lv_iconst (v := 1) hx hb dX2_isBarred_10 (by decide) ?_
    refine lv_goto (tgt := 15) hx hb dX2_isBarred_11 (by decide) ?_
    exact W.zret (v := 1) hx hb hr (by decide) (fun t ht hW => ⟨⟨1, (), rfl, hw, mAt.to hP hK hD ht hW⟩, hS.F ht⟩) hS.2.2 dX2_isBarred_15
theorem inw_X2_leaveGang_X2 : ∀ w ∈ wsX20, w ∈ wsX2_leaveGang := fun _ h => List.mem_cons_of_mem _ (List.mem_append_left _ (List.mem_append_right _ h))
def wp_Men_leaveGang (m_gangShip : Nat → Int32) (m_gangHatch : Nat → Int32) (p0 : Int32) (Q : (Nat → Int32) → (Nat → Int32) → Prop) : Prop := (vp_in p0 24 ∧ (vp_in p0 24 ∧ Q (upd m_gangShip p0.toNatClampNeg (-1)) (upd m_gangHatch p0.toNatClampNeg (-1))))
set_option maxHeartbeats 4000000 in
set_option maxRecDepth 100000 in
theorem c_Men_leaveGang (l : Launch) (D : va_G) (y : Nat → ClassId) (ad : Nat → Nat) (sz : Nat) (m_size : Int32) (m_gangShip : Nat → Int32) (m_gangHatch : Nat → Int32) (p0 : Int32) {Q : (Nat → Int32) → (Nat → Int32) → Prop} (hw : wp_Men_leaveGang m_gangShip m_gangHatch p0 Q) : Met l yX2_leaveGang wsX2_leaveGang ({ frames := 0, cells := 0, slots := 0, locals := 0 }) (va_Pc [.ref (ad 6), .int p0] (mPre D y sz [(ce_mn ad m_size), ((ad 11), .inl (y 0, 24, .inl m_gangShip)), ((ad 12), .inl (y 0, 24, .inl m_gangHatch))])) (va_Qv (fun (u : (Nat → Int32) × (Nat → Int32)) => Q u.1 u.2) (mAt D y (va_A [(ce_mn ad m_size), ((ad 11), .inl (y 0, 24, .inl m_gangShip)), ((ad 12), .inl (y 0, 24, .inl m_gangHatch))] sz) (fun (u : (Nat → Int32) × (Nat → Int32)) => [(ce_mn ad m_size), ((ad 11), .inl (y 0, 24, .inl u.1)), ((ad 12), .inl (y 0, 24, .inl u.2))])) (va_A [(ce_mn ad m_size), ((ad 11), .inl (y 0, 24, .inl m_gangShip)), ((ad 12), .inl (y 0, 24, .inl m_gangHatch))] sz)) 0 0 (va_A [(ce_mn ad m_size), ((ad 11), .inl (y 0, 24, .inl m_gangShip)), ((ad 12), .inl (y 0, 24, .inl m_gangHatch))] sz) := by
  unfold wp_Men_leaveGang at hw
  refine Met.ofW (cc := cX2_leaveGang) (maxL := 2) (ret := none) (by decide) rfl ?_
  intro p e s m args below meth c s₁ B hml hv
  obtain ⟨rfl, hsz, hP, hK, hD0, hE⟩ := hv
  have hx := B.exec
  have hb := B.bytes
  have hr := B.returns
  have hts := atoms_spec (ws := wsX2_leaveGang) B.pre
  have hown : s.vm.findClass RX2 = some m.cls := findClass_of_methodNamed B.named
  have hlocks := B.notSynchronized
  subst hsz
  have hD := hD0.self (sz := s.heap.size)
  generalize hAe : va_A [(ce_mn ad m_size), ((ad 11), .inl (y 0, 24, .inl m_gangShip)), ((ad 12), .inl (y 0, 24, .inl m_gangHatch))] s.heap.size = A at hD ⊢
  have hA : ∀ q : Nat, s.heap.size ≤ q → A q := fun q h => by rw [← hAe]; exact Or.inr h
  have hS : va_S A s.heap s.heap [] := va_S.rf
  have hP : va_P D vwCl [(ce_mn ad m_size), ((ad 11), .inl (y 0, 24, .inl m_gangShip)), ((ad 12), .inl (y 0, 24, .inl m_gangHatch))] s.heap := hP
  have hl := lv_entry ([.ref (ad 6), .int p0]) (n := 2) (Nat.le_of_ble_eq_true rfl)
  rw [lg_entry_eq]
  generalize (lg_sl ([.ref (ad 6), .int p0]) ++ List.replicate (2 - (lg_sl ([.ref (ad 6), .int p0])).length) Slot.unset).toArray = ls at hl ⊢
  have hl : lv_has ls 2 [(0, .ref (ad 6)), (1, .int p0)] := hl
  refine lv_aload_n hx hb dX2_leaveGang_0 rfl (lv_at hl 0 rfl) ?_
  refine va_get (ci := 4) (v := .ref (ad 11)) (C := RX2) (T := TX2) (N := 8) hx hb hts inw_X2_leaveGang_X2 hown hK hP 0 rfl rfl 4 (by decide) (hts (.fieldLink RX2 24 "DockCall$Men" "gangShip" "[I") (by decide +kernel)) (fun _ h9 => h9) rfl dX2_leaveGang_1 ?_
  refine lv_iload_n hx hb dX2_leaveGang_4 rfl (lv_at hl 1 rfl) ?_
  refine lv_iconst (v := (-1)) hx hb dX2_leaveGang_5 (by decide) ?_
  obtain ⟨hi, hw⟩ := hw
  refine va_iast hx hb hK hP hD hS 1 0 rfl rfl hi dX2_leaveGang_6 (fun H locs hP hD hS => ?_)
  have hP : va_P D vwCl [(ce_mn ad m_size), ((ad 11), .inl (y 0, 24, .inl (upd m_gangShip p0.toNatClampNeg (-1)))), ((ad 12), .inl (y 0, 24, .inl m_gangHatch))] H := hP
  have hD : va_D A [(ce_mn ad m_size), ((ad 11), .inl (y 0, 24, .inl (upd m_gangShip p0.toNatClampNeg (-1)))), ((ad 12), .inl (y 0, 24, .inl m_gangHatch))] := hD
  refine lv_aload_n hx hb dX2_leaveGang_7 rfl (lv_at hl 0 rfl) ?_
  refine va_get (ci := 4) (v := .ref (ad 12)) (C := RX2) (T := TX2) (N := 8) hx hb hts inw_X2_leaveGang_X2 hown hK hP 0 rfl rfl 5 (by decide) (hts (.fieldLink RX2 27 "DockCall$Men" "gangHatch" "[I") (by decide +kernel)) (fun _ h9 => h9) rfl dX2_leaveGang_8 ?_
  refine lv_iload_n hx hb dX2_leaveGang_11 rfl (lv_at hl 1 rfl) ?_
  refine lv_iconst (v := (-1)) hx hb dX2_leaveGang_12 (by decide) ?_
  obtain ⟨hi, hw⟩ := hw
  refine va_iast hx hb hK hP hD hS 2 0 rfl rfl hi dX2_leaveGang_13 (fun H locs hP hD hS => ?_)
  have hP : va_P D vwCl [(ce_mn ad m_size), ((ad 11), .inl (y 0, 24, .inl (upd m_gangShip p0.toNatClampNeg (-1)))), ((ad 12), .inl (y 0, 24, .inl (upd m_gangHatch p0.toNatClampNeg (-1))))] H := hP
  have hD : va_D A [(ce_mn ad m_size), ((ad 11), .inl (y 0, 24, .inl (upd m_gangShip p0.toNatClampNeg (-1)))), ((ad 12), .inl (y 0, 24, .inl (upd m_gangHatch p0.toNatClampNeg (-1))))] := hD
  exact W.vret hx hb hr (fun t ht hW => ⟨⟨(upd m_gangShip p0.toNatClampNeg (-1), upd m_gangHatch p0.toNatClampNeg (-1)), rfl, hw, mAt.to hP hK hD ht hW⟩, hS.F ht⟩) hS.2.2 dX2_leaveGang_14
theorem inw_X2_add_X2 : ∀ w ∈ wsX20, w ∈ wsX2_add := fun _ h => List.mem_cons_of_mem _ (List.mem_append_left _ (List.mem_append_right _ h))
def wp_Men_add (m_size : Int32) (m_skills : Nat → Int32) (m_barredUpTo : Nat → Int32) (m_gangShip : Nat → Int32) (m_gangHatch : Nat → Int32) (p0 : Int32) (Q : Int32 → Int32 → (Nat → Int32) → (Nat → Int32) → (Nat → Int32) → (Nat → Int32) → Prop) : Prop := ((m_size < 24 → (vp_in m_size 24 ∧ (vp_in m_size 24 ∧ (wp_Men_leaveGang m_gangShip m_gangHatch m_size (fun m_gangShip_1 m_gangHatch_2 => Q m_size (m_size + 1) (upd m_skills m_size.toNatClampNeg p0) (upd m_barredUpTo m_size.toNatClampNeg (-1)) m_gangShip_1 m_gangHatch_2))))) ∧ (¬ m_size < 24 → Q (-1) m_size m_skills m_barredUpTo m_gangShip m_gangHatch))
set_option maxHeartbeats 4000000 in
set_option maxRecDepth 100000 in
theorem c_Men_add (l : Launch) (D : va_G) (y : Nat → ClassId) (ad : Nat → Nat) (sz : Nat) (m_size : Int32) (m_skills : Nat → Int32) (m_barredUpTo : Nat → Int32) (m_gangShip : Nat → Int32) (m_gangHatch : Nat → Int32) (p0 : Int32) {Q : Int32 → Int32 → (Nat → Int32) → (Nat → Int32) → (Nat → Int32) → (Nat → Int32) → Prop} (hw : wp_Men_add m_size m_skills m_barredUpTo m_gangShip m_gangHatch p0 Q) : Met l yX2_add wsX2_add ({ frames := 1, cells := 0, slots := 0, locals := 21 }) (va_Pc [.ref (ad 6), .int p0] (mPre D y sz [(ce_mn ad m_size), ((ad 7), .inl (y 0, 24, .inl m_skills)), ((ad 9), .inl (y 0, 24, .inl m_barredUpTo)), ((ad 11), .inl (y 0, 24, .inl m_gangShip)), ((ad 12), .inl (y 0, 24, .inl m_gangHatch))])) (va_Qi (fun (r : Int32) (u : Int32 × (Nat → Int32) × (Nat → Int32) × (Nat → Int32) × (Nat → Int32)) => Q r u.1 u.2.1 u.2.2.1 u.2.2.2.1 u.2.2.2.2) (mAt D y (va_A [(ce_mn ad m_size), ((ad 7), .inl (y 0, 24, .inl m_skills)), ((ad 9), .inl (y 0, 24, .inl m_barredUpTo)), ((ad 11), .inl (y 0, 24, .inl m_gangShip)), ((ad 12), .inl (y 0, 24, .inl m_gangHatch))] sz) (fun (u : Int32 × (Nat → Int32) × (Nat → Int32) × (Nat → Int32) × (Nat → Int32)) => [(ce_mn ad u.1), ((ad 7), .inl (y 0, 24, .inl u.2.1)), ((ad 9), .inl (y 0, 24, .inl u.2.2.1)), ((ad 11), .inl (y 0, 24, .inl u.2.2.2.1)), ((ad 12), .inl (y 0, 24, .inl u.2.2.2.2))])) (va_A [(ce_mn ad m_size), ((ad 7), .inl (y 0, 24, .inl m_skills)), ((ad 9), .inl (y 0, 24, .inl m_barredUpTo)), ((ad 11), .inl (y 0, 24, .inl m_gangShip)), ((ad 12), .inl (y 0, 24, .inl m_gangHatch))] sz)) 0 0 (va_A [(ce_mn ad m_size), ((ad 7), .inl (y 0, 24, .inl m_skills)), ((ad 9), .inl (y 0, 24, .inl m_barredUpTo)), ((ad 11), .inl (y 0, 24, .inl m_gangShip)), ((ad 12), .inl (y 0, 24, .inl m_gangHatch))] sz) := by
  unfold wp_Men_add at hw
  refine Met.ofW (cc := cX2_add) (maxL := 3) (ret := some .int) (by decide) rfl ?_
  intro p e s m args below meth c s₁ B hml hv
  obtain ⟨rfl, hsz, hP, hK, hD0, hE⟩ := hv
  have hx := B.exec
  have hb := B.bytes
  have hr := B.returns
  have hts := atoms_spec (ws := wsX2_add) B.pre
  have hown : s.vm.findClass RX2 = some m.cls := findClass_of_methodNamed B.named
  have hlocks := B.notSynchronized
  subst hsz
  have hD := hD0.self (sz := s.heap.size)
  generalize hAe : va_A [(ce_mn ad m_size), ((ad 7), .inl (y 0, 24, .inl m_skills)), ((ad 9), .inl (y 0, 24, .inl m_barredUpTo)), ((ad 11), .inl (y 0, 24, .inl m_gangShip)), ((ad 12), .inl (y 0, 24, .inl m_gangHatch))] s.heap.size = A at hD ⊢
  have hA : ∀ q : Nat, s.heap.size ≤ q → A q := fun q h => by rw [← hAe]; exact Or.inr h
  have hS : va_S A s.heap s.heap [] := va_S.rf
  have hP : va_P D vwCl [(ce_mn ad m_size), ((ad 7), .inl (y 0, 24, .inl m_skills)), ((ad 9), .inl (y 0, 24, .inl m_barredUpTo)), ((ad 11), .inl (y 0, 24, .inl m_gangShip)), ((ad 12), .inl (y 0, 24, .inl m_gangHatch))] s.heap := hP
  have hl := lv_entry ([.ref (ad 6), .int p0]) (n := 3) (Nat.le_of_ble_eq_true rfl)
  rw [lg_entry_eq]
  generalize (lg_sl ([.ref (ad 6), .int p0]) ++ List.replicate (3 - (lg_sl ([.ref (ad 6), .int p0])).length) Slot.unset).toArray = ls at hl ⊢
  have hl : lv_has ls 3 [(0, .ref (ad 6)), (1, .int p0)] := hl
  refine lv_aload_n hx hb dX2_add_0 rfl (lv_at hl 0 rfl) ?_
  refine va_get (ci := 4) (v := .int m_size) (C := RX2) (T := TX2) (N := 8) hx hb hts inw_X2_add_X2 hown hK hP 0 rfl rfl 7 (by decide) (hts (.fieldLink RX2 33 "DockCall$Men" "size" "I") (by decide +kernel)) (fun _ h9 => h9) rfl dX2_add_1 ?_
  refine lv_istore_n (lv' := [(2, .int m_size), (0, .ref (ad 6)), (1, .int p0)]) hx hb dX2_add_4 rfl hl (by decide) rfl (fun ls hl => ?_)
  refine lv_iload_n hx hb dX2_add_5 rfl (lv_at hl 0 rfl) ?_
  refine lv_bipush (v := 24) hx hb dX2_add_6 (by decide) ?_
  refine lv_icmp_lt (tgt := 13) hx hb dX2_add_8 (by decide) (fun hc => ?_) (fun hc => ?_)
  · have hw := hw.1 hc
    refine lv_aload_n hx hb dX2_add_13 rfl (lv_at hl 1 rfl) ?_
    refine va_get (ci := 4) (v := .ref (ad 7)) (C := RX2) (T := TX2) (N := 8) hx hb hts inw_X2_add_X2 hown hK hP 0 rfl rfl 0 (by decide) (hts (.fieldLink RX2 9 "DockCall$Men" "skills" "[I") (by decide +kernel)) (fun _ h9 => h9) rfl dX2_add_14 ?_
    refine lv_iload_n hx hb dX2_add_17 rfl (lv_at hl 0 rfl) ?_
    refine lv_iload_n hx hb dX2_add_18 rfl (lv_at hl 2 rfl) ?_
    obtain ⟨hi, hw⟩ := hw
    refine va_iast hx hb hK hP hD hS 1 0 rfl rfl hi dX2_add_19 (fun H locs hP hD hS => ?_)
    have hP : va_P D vwCl [(ce_mn ad m_size), ((ad 7), .inl (y 0, 24, .inl (upd m_skills m_size.toNatClampNeg p0))), ((ad 9), .inl (y 0, 24, .inl m_barredUpTo)), ((ad 11), .inl (y 0, 24, .inl m_gangShip)), ((ad 12), .inl (y 0, 24, .inl m_gangHatch))] H := hP
    have hD : va_D A [(ce_mn ad m_size), ((ad 7), .inl (y 0, 24, .inl (upd m_skills m_size.toNatClampNeg p0))), ((ad 9), .inl (y 0, 24, .inl m_barredUpTo)), ((ad 11), .inl (y 0, 24, .inl m_gangShip)), ((ad 12), .inl (y 0, 24, .inl m_gangHatch))] := hD
    refine lv_aload_n hx hb dX2_add_20 rfl (lv_at hl 1 rfl) ?_
    refine va_get (ci := 4) (v := .ref (ad 9)) (C := RX2) (T := TX2) (N := 8) hx hb hts inw_X2_add_X2 hown hK hP 0 rfl rfl 2 (by decide) (hts (.fieldLink RX2 18 "DockCall$Men" "barredUpTo" "[I") (by decide +kernel)) (fun _ h9 => h9) rfl dX2_add_21 ?_
    refine lv_iload_n hx hb dX2_add_24 rfl (lv_at hl 0 rfl) ?_
    refine lv_iconst (v := (-1)) hx hb dX2_add_25 (by decide) ?_
    obtain ⟨hi, hw⟩ := hw
    refine va_iast hx hb hK hP hD hS 2 0 rfl rfl hi dX2_add_26 (fun H locs hP hD hS => ?_)
    have hP : va_P D vwCl [(ce_mn ad m_size), ((ad 7), .inl (y 0, 24, .inl (upd m_skills m_size.toNatClampNeg p0))), ((ad 9), .inl (y 0, 24, .inl (upd m_barredUpTo m_size.toNatClampNeg (-1)))), ((ad 11), .inl (y 0, 24, .inl m_gangShip)), ((ad 12), .inl (y 0, 24, .inl m_gangHatch))] H := hP
    have hD : va_D A [(ce_mn ad m_size), ((ad 7), .inl (y 0, 24, .inl (upd m_skills m_size.toNatClampNeg p0))), ((ad 9), .inl (y 0, 24, .inl (upd m_barredUpTo m_size.toNatClampNeg (-1)))), ((ad 11), .inl (y 0, 24, .inl m_gangShip)), ((ad 12), .inl (y 0, 24, .inl m_gangHatch))] := hD
    refine lv_aload_n hx hb dX2_add_27 rfl (lv_at hl 1 rfl) ?_
    refine lv_iload_n hx hb dX2_add_28 rfl (lv_at hl 0 rfl) ?_
    refine mx_v (wc := [(ce_mn ad m_size), ((ad 11), .inl (y 0, 24, .inl m_gangShip)), ((ad 12), .inl (y 0, 24, .inl m_gangHatch))]) (wr := [((ad 7), .inl (y 0, 24, .inl (upd m_skills m_size.toNatClampNeg p0))), ((ad 9), .inl (y 0, 24, .inl (upd m_barredUpTo m_size.toNatClampNeg (-1))))]) hP hD hS hA [0, 3, 4] [1, 2] [2, 0, 1, 3, 4] rfl rfl (by decide) (by decide) (by decide) (fun (u : (Nat → Int32) × (Nat → Int32)) => [(ce_mn ad m_size), ((ad 7), .inl (y 0, 24, .inl (upd m_skills m_size.toNatClampNeg p0))), ((ad 9), .inl (y 0, 24, .inl (upd m_barredUpTo m_size.toNatClampNeg (-1)))), ((ad 11), .inl (y 0, 24, .inl u.1)), ((ad 12), .inl (y 0, 24, .inl u.2))]) (fun _ => rfl) (va_runV (As := [.int m_size]) (rest := []) ⟨hx, hb, hml, hown, hts⟩ (c_Men_leaveGang l D y ad H.size m_size m_gangShip m_gangHatch m_size hw) (cwV 1 hts gX2_add_X2_leaveGang rfl rfl rfl (by decide +kernel) ⟨Nat.le_of_ble_eq_true rfl, Nat.le_of_ble_eq_true rfl⟩) ⟨mPre.blind, (va_recv hK hP (ci := 4) (q0 := 0) rfl rfl), mPre.to (hP.sub [0, 3, 4] rfl) hK (hD.sub [0, 3, 4] (by decide) rfl) hE⟩ rfl rfl hl.1 rfl (lv_room (Nat.le_of_ble_eq_true rfl)) dX2_add_29 ⟨Nat.le_of_ble_eq_true rfl, Nat.le_of_ble_eq_true rfl⟩) (fun u H locs hw hP hD hS => ?_)
    obtain ⟨m_gangShip_1, m_gangHatch_2⟩ := u
    try dsimp only at hw
    have hP : va_P D vwCl [(ce_mn ad m_size), ((ad 7), .inl (y 0, 24, .inl (upd m_skills m_size.toNatClampNeg p0))), ((ad 9), .inl (y 0, 24, .inl (upd m_barredUpTo m_size.toNatClampNeg (-1)))), ((ad 11), .inl (y 0, 24, .inl m_gangShip_1)), ((ad 12), .inl (y 0, 24, .inl m_gangHatch_2))] H := hP
    have hD : va_D A [(ce_mn ad m_size), ((ad 7), .inl (y 0, 24, .inl (upd m_skills m_size.toNatClampNeg p0))), ((ad 9), .inl (y 0, 24, .inl (upd m_barredUpTo m_size.toNatClampNeg (-1)))), ((ad 11), .inl (y 0, 24, .inl m_gangShip_1)), ((ad 12), .inl (y 0, 24, .inl m_gangHatch_2))] := hD
    refine lv_aload_n hx hb dX2_add_32 rfl (lv_at hl 1 rfl) ?_
    refine lv_dup hx hb dX2_add_33 rfl ?_
    refine va_get (ci := 4) (v := .int m_size) (C := RX2) (T := TX2) (N := 8) hx hb hts inw_X2_add_X2 hown hK hP 0 rfl rfl 7 (by decide) (hts (.fieldLink RX2 33 "DockCall$Men" "size" "I") (by decide +kernel)) (fun _ h9 => h9) rfl dX2_add_34 ?_
    refine lv_iconst (v := 1) hx hb dX2_add_37 (by decide) ?_
    refine lv_iadd hx hb dX2_add_38 ?_
    refine va_put (ci := 4) (v := .int (m_size + 1)) (ty := .int) (C := RX2) (T := TX2) (N := 8) hx hb hts inw_X2_add_X2 tyX2 tyX2_ok nmX2 hown hK hP hD hS 0 rfl rfl 7 (by decide) (hts (.fieldLink RX2 33 "DockCall$Men" "size" "I") (by decide +kernel)) (fun _ h9 => h9) rfl (by decide +kernel) rfl rfl (Nat.le_of_ble_eq_true rfl) dX2_add_39 (fun H locs hP hD hS => ?_)
    have hP : va_P D vwCl [(ce_mn ad (m_size + 1)), ((ad 7), .inl (y 0, 24, .inl (upd m_skills m_size.toNatClampNeg p0))), ((ad 9), .inl (y 0, 24, .inl (upd m_barredUpTo m_size.toNatClampNeg (-1)))), ((ad 11), .inl (y 0, 24, .inl m_gangShip_1)), ((ad 12), .inl (y 0, 24, .inl m_gangHatch_2))] H := hP
    have hD : va_D A [(ce_mn ad (m_size + 1)), ((ad 7), .inl (y 0, 24, .inl (upd m_skills m_size.toNatClampNeg p0))), ((ad 9), .inl (y 0, 24, .inl (upd m_barredUpTo m_size.toNatClampNeg (-1)))), ((ad 11), .inl (y 0, 24, .inl m_gangShip_1)), ((ad 12), .inl (y 0, 24, .inl m_gangHatch_2))] := hD
    refine lv_iload_n hx hb dX2_add_42 rfl (lv_at hl 0 rfl) ?_
    exact W.iret (v := m_size) hx hb hr (fun t ht hW => ⟨⟨m_size, (m_size + 1, upd m_skills m_size.toNatClampNeg p0, upd m_barredUpTo m_size.toNatClampNeg (-1), m_gangShip_1, m_gangHatch_2), rfl, hw, mAt.to hP hK hD ht hW⟩, hS.F ht⟩) hS.2.2 dX2_add_43
  · have hw := hw.2 hc
    refine lv_iconst (v := (-1)) hx hb dX2_add_11 (by decide) ?_
    exact W.iret (v := (-1)) hx hb hr (fun t ht hW => ⟨⟨(-1), (m_size, m_skills, m_barredUpTo, m_gangShip, m_gangHatch), rfl, hw, mAt.to hP hK hD ht hW⟩, hS.F ht⟩) hS.2.2 dX2_add_12
theorem inw_X2_mayBeAsked_X2 : ∀ w ∈ wsX20, w ∈ wsX2_mayBeAsked := fun _ h => List.mem_cons_of_mem _ (List.mem_append_left _ (List.mem_append_right _ h))
def wp_Men_mayBeAsked (m_skills : Nat → Int32) (m_barredUpTo : Nat → Int32) (m_gangShip : Nat → Int32) (p0 : Int32) (p1 : Int32) (p2 : Int32) (Q : Int32 → Prop) : Prop := (vp_in p0 24 ∧ ((((m_skills p0.toNatClampNeg) >>> (p1 &&& 31)) &&& 1 = 1 → (wp_Men_isBarred m_barredUpTo p0 p2 (fun r_1 => ((r_1 = 0 → (vp_in p0 24 ∧ ((m_gangShip p0.toNatClampNeg = (-1) → Q 1) ∧ (¬ m_gangShip p0.toNatClampNeg = (-1) → Q 0)))) ∧ (¬ r_1 = 0 → Q 0))))) ∧ (¬ ((m_skills p0.toNatClampNeg) >>> (p1 &&& 31)) &&& 1 = 1 → Q 0)))
set_option maxHeartbeats 4000000 in
set_option maxRecDepth 100000 in
theorem c_Men_mayBeAsked (l : Launch) (D : va_G) (y : Nat → ClassId) (ad : Nat → Nat) (sz : Nat) (m_size : Int32) (m_skills : Nat → Int32) (m_barredUpTo : Nat → Int32) (m_gangShip : Nat → Int32) (p0 : Int32) (p1 : Int32) (p2 : Int32) {Q : Int32 → Prop} (hw : wp_Men_mayBeAsked m_skills m_barredUpTo m_gangShip p0 p1 p2 Q) : Met l yX2_mayBeAsked wsX2_mayBeAsked ({ frames := 1, cells := 0, slots := 0, locals := 22 }) (va_Pc [.ref (ad 6), .int p0, .int p1, .int p2] (mPre D y sz [(ce_mn ad m_size), ((ad 7), .inl (y 0, 24, .inl m_skills)), ((ad 9), .inl (y 0, 24, .inl m_barredUpTo)), ((ad 11), .inl (y 0, 24, .inl m_gangShip))])) (va_Qi (fun (r : Int32) (u : Unit) => Q r ) (mAt D y (va_A [(ce_mn ad m_size), ((ad 7), .inl (y 0, 24, .inl m_skills)), ((ad 9), .inl (y 0, 24, .inl m_barredUpTo)), ((ad 11), .inl (y 0, 24, .inl m_gangShip))] sz) (fun (u : Unit) => [(ce_mn ad m_size), ((ad 7), .inl (y 0, 24, .inl m_skills)), ((ad 9), .inl (y 0, 24, .inl m_barredUpTo)), ((ad 11), .inl (y 0, 24, .inl m_gangShip))])) (va_A [(ce_mn ad m_size), ((ad 7), .inl (y 0, 24, .inl m_skills)), ((ad 9), .inl (y 0, 24, .inl m_barredUpTo)), ((ad 11), .inl (y 0, 24, .inl m_gangShip))] sz)) 0 0 (va_A [(ce_mn ad m_size), ((ad 7), .inl (y 0, 24, .inl m_skills)), ((ad 9), .inl (y 0, 24, .inl m_barredUpTo)), ((ad 11), .inl (y 0, 24, .inl m_gangShip))] sz) := by
  unfold wp_Men_mayBeAsked at hw
  refine Met.ofW (cc := cX2_mayBeAsked) (maxL := 4) (ret := some .boolean) (by decide) rfl ?_
  intro p e s m args below meth c s₁ B hml hv
  obtain ⟨rfl, hsz, hP, hK, hD0, hE⟩ := hv
  have hx := B.exec
  have hb := B.bytes
  have hr := B.returns
  have hts := atoms_spec (ws := wsX2_mayBeAsked) B.pre
  have hown : s.vm.findClass RX2 = some m.cls := findClass_of_methodNamed B.named
  have hlocks := B.notSynchronized
  subst hsz
  have hD := hD0.self (sz := s.heap.size)
  generalize hAe : va_A [(ce_mn ad m_size), ((ad 7), .inl (y 0, 24, .inl m_skills)), ((ad 9), .inl (y 0, 24, .inl m_barredUpTo)), ((ad 11), .inl (y 0, 24, .inl m_gangShip))] s.heap.size = A at hD ⊢
  have hA : ∀ q : Nat, s.heap.size ≤ q → A q := fun q h => by rw [← hAe]; exact Or.inr h
  have hS : va_S A s.heap s.heap [] := va_S.rf
  have hP : va_P D vwCl [(ce_mn ad m_size), ((ad 7), .inl (y 0, 24, .inl m_skills)), ((ad 9), .inl (y 0, 24, .inl m_barredUpTo)), ((ad 11), .inl (y 0, 24, .inl m_gangShip))] s.heap := hP
  have hl := lv_entry ([.ref (ad 6), .int p0, .int p1, .int p2]) (n := 4) (Nat.le_of_ble_eq_true rfl)
  rw [lg_entry_eq]
  generalize (lg_sl ([.ref (ad 6), .int p0, .int p1, .int p2]) ++ List.replicate (4 - (lg_sl ([.ref (ad 6), .int p0, .int p1, .int p2])).length) Slot.unset).toArray = ls at hl ⊢
  have hl : lv_has ls 4 [(0, .ref (ad 6)), (1, .int p0), (2, .int p1), (3, .int p2)] := hl
  refine lv_aload_n hx hb dX2_mayBeAsked_0 rfl (lv_at hl 0 rfl) ?_
  refine va_get (ci := 4) (v := .ref (ad 7)) (C := RX2) (T := TX2) (N := 8) hx hb hts inw_X2_mayBeAsked_X2 hown hK hP 0 rfl rfl 0 (by decide) (hts (.fieldLink RX2 9 "DockCall$Men" "skills" "[I") (by decide +kernel)) (fun _ h9 => h9) rfl dX2_mayBeAsked_1 ?_
  refine lv_iload_n hx hb dX2_mayBeAsked_4 rfl (lv_at hl 1 rfl) ?_
  obtain ⟨hi, hw⟩ := hw
  refine va_iald hx hb hK hP 1 0 rfl rfl hi dX2_mayBeAsked_5 ?_
  refine lv_iload_n hx hb dX2_mayBeAsked_6 rfl (lv_at hl 2 rfl) ?_
  refine lv_ishr hx hb dX2_mayBeAsked_7 ?_
  refine lv_iconst (v := 1) hx hb dX2_mayBeAsked_8 (by decide) ?_
  refine lv_iand hx hb dX2_mayBeAsked_9 ?_
  refine lv_iconst (v := 1) hx hb dX2_mayBeAsked_10 (by decide) ?_
  refine lv_icmp_ne (tgt := 37) hx hb dX2_mayBeAsked_11 (by decide) (fun hc => ?_) (fun hc => ?_)
  · have hw := hw.2 hc
    refine lv_iconst (v := 0) hx hb dX2_mayBeAsked_37 (by decide) ?_
    exact W.zret (v := 0) hx hb hr (by decide) (fun t ht hW => ⟨⟨0, (), rfl, hw, mAt.to hP hK hD ht hW⟩, hS.F ht⟩) hS.2.2 dX2_mayBeAsked_38
  · have hw := hw.1 hc
    refine lv_aload_n hx hb dX2_mayBeAsked_14 rfl (lv_at hl 0 rfl) ?_
    refine lv_iload_n hx hb dX2_mayBeAsked_15 rfl (lv_at hl 1 rfl) ?_
    refine lv_iload_n hx hb dX2_mayBeAsked_16 rfl (lv_at hl 3 rfl) ?_
    refine mx_i (wc := [(ce_mn ad m_size), ((ad 9), .inl (y 0, 24, .inl m_barredUpTo))]) (wr := [((ad 7), .inl (y 0, 24, .inl m_skills)), ((ad 11), .inl (y 0, 24, .inl m_gangShip))]) hP hD hS hA [0, 2] [1, 3] [2, 0, 3, 1] rfl rfl (by decide) (by decide) (by decide) (fun (u : Unit) => [(ce_mn ad m_size), ((ad 7), .inl (y 0, 24, .inl m_skills)), ((ad 9), .inl (y 0, 24, .inl m_barredUpTo)), ((ad 11), .inl (y 0, 24, .inl m_gangShip))]) (fun _ => rfl) (va_runV (As := [.int p0, .int p2]) (rest := []) ⟨hx, hb, hml, hown, hts⟩ (c_Men_isBarred l D y ad s.heap.size m_size m_barredUpTo p0 p2 hw) (cwV 2 hts gX2_mayBeAsked_X2_isBarred rfl rfl rfl (by decide +kernel) ⟨Nat.le_of_ble_eq_true rfl, Nat.le_of_ble_eq_true rfl⟩) ⟨mPre.blind, (va_recv hK hP (ci := 4) (q0 := 0) rfl rfl), mPre.to (hP.sub [0, 2] rfl) hK (hD.sub [0, 2] (by decide) rfl) hE⟩ rfl rfl hl.1 rfl (lv_room (Nat.le_of_ble_eq_true rfl)) dX2_mayBeAsked_17 ⟨Nat.le_of_ble_eq_true rfl, Nat.le_of_ble_eq_true rfl⟩) (fun r_1 u H locs hw hP hD hS => ?_)
    try dsimp only at hw
    have hP : va_P D vwCl [(ce_mn ad m_size), ((ad 7), .inl (y 0, 24, .inl m_skills)), ((ad 9), .inl (y 0, 24, .inl m_barredUpTo)), ((ad 11), .inl (y 0, 24, .inl m_gangShip))] H := hP
    have hD : va_D A [(ce_mn ad m_size), ((ad 7), .inl (y 0, 24, .inl m_skills)), ((ad 9), .inl (y 0, 24, .inl m_barredUpTo)), ((ad 11), .inl (y 0, 24, .inl m_gangShip))] := hD
    refine lv_if_ne (tgt := 37) hx hb dX2_mayBeAsked_20 (by decide) (fun hc => ?_) (fun hc => ?_)
    · have hw := hw.2 hc
      refine lv_iconst (v := 0) hx hb dX2_mayBeAsked_37 (by decide) ?_
      exact W.zret (v := 0) hx hb hr (by decide) (fun t ht hW => ⟨⟨0, (), rfl, hw, mAt.to hP hK hD ht hW⟩, hS.F ht⟩) hS.2.2 dX2_mayBeAsked_38
    · have hw := hw.1 hc
      refine lv_aload_n hx hb dX2_mayBeAsked_23 rfl (lv_at hl 0 rfl) ?_
      refine va_get (ci := 4) (v := .ref (ad 11)) (C := RX2) (T := TX2) (N := 8) hx hb hts inw_X2_mayBeAsked_X2 hown hK hP 0 rfl rfl 4 (by decide) (hts (.fieldLink RX2 24 "DockCall$Men" "gangShip" "[I") (by decide +kernel)) (fun _ h9 => h9) rfl dX2_mayBeAsked_24 ?_
      refine lv_iload_n hx hb dX2_mayBeAsked_27 rfl (lv_at hl 1 rfl) ?_
      obtain ⟨hi, hw⟩ := hw
      refine va_iald hx hb hK hP 3 0 rfl rfl hi dX2_mayBeAsked_28 ?_
      refine lv_iconst (v := (-1)) hx hb dX2_mayBeAsked_29 (by decide) ?_
      refine lv_icmp_ne (tgt := 37) hx hb dX2_mayBeAsked_30 (by decide) (fun hc => ?_) (fun hc => ?_)
      · have hw := hw.2 hc
        refine lv_iconst (v := 0) hx hb dX2_mayBeAsked_37 (by decide) ?_
        exact W.zret (v := 0) hx hb hr (by decide) (fun t ht hW => ⟨⟨0, (), rfl, hw, mAt.to hP hK hD ht hW⟩, hS.F ht⟩) hS.2.2 dX2_mayBeAsked_38
      · have hw := hw.1 hc
        refine lv_iconst (v := 1) hx hb dX2_mayBeAsked_33 (by decide) ?_
        refine lv_goto (tgt := 38) hx hb dX2_mayBeAsked_34 (by decide) ?_
        exact W.zret (v := 1) hx hb hr (by decide) (fun t ht hW => ⟨⟨1, (), rfl, hw, mAt.to hP hK hD ht hW⟩, hS.F ht⟩) hS.2.2 dX2_mayBeAsked_38
theorem inw_X2_refuse_X2 : ∀ w ∈ wsX20, w ∈ wsX2_refuse := fun _ h => List.mem_cons_of_mem _ (List.mem_append_left _ (List.mem_append_right _ h))
def wp_Men_refuse (m_barredUpTo : Nat → Int32) (m_refusals : Nat → Int32) (p0 : Int32) (p1 : Int32) (Q : (Nat → Int32) → (Nat → Int32) → Prop) : Prop := (vp_in p0 24 ∧ (vp_in p0 24 ∧ (vp_in p0 24 ∧ Q (upd m_barredUpTo p0.toNatClampNeg p1) (upd m_refusals p0.toNatClampNeg ((m_refusals p0.toNatClampNeg) + 1)))))
set_option maxHeartbeats 4000000 in
set_option maxRecDepth 100000 in
theorem c_Men_refuse (l : Launch) (D : va_G) (y : Nat → ClassId) (ad : Nat → Nat) (sz : Nat) (m_size : Int32) (m_barredUpTo : Nat → Int32) (m_refusals : Nat → Int32) (p0 : Int32) (p1 : Int32) {Q : (Nat → Int32) → (Nat → Int32) → Prop} (hw : wp_Men_refuse m_barredUpTo m_refusals p0 p1 Q) : Met l yX2_refuse wsX2_refuse ({ frames := 0, cells := 0, slots := 0, locals := 0 }) (va_Pc [.ref (ad 6), .int p0, .int p1] (mPre D y sz [(ce_mn ad m_size), ((ad 9), .inl (y 0, 24, .inl m_barredUpTo)), ((ad 10), .inl (y 0, 24, .inl m_refusals))])) (va_Qv (fun (u : (Nat → Int32) × (Nat → Int32)) => Q u.1 u.2) (mAt D y (va_A [(ce_mn ad m_size), ((ad 9), .inl (y 0, 24, .inl m_barredUpTo)), ((ad 10), .inl (y 0, 24, .inl m_refusals))] sz) (fun (u : (Nat → Int32) × (Nat → Int32)) => [(ce_mn ad m_size), ((ad 9), .inl (y 0, 24, .inl u.1)), ((ad 10), .inl (y 0, 24, .inl u.2))])) (va_A [(ce_mn ad m_size), ((ad 9), .inl (y 0, 24, .inl m_barredUpTo)), ((ad 10), .inl (y 0, 24, .inl m_refusals))] sz)) 0 0 (va_A [(ce_mn ad m_size), ((ad 9), .inl (y 0, 24, .inl m_barredUpTo)), ((ad 10), .inl (y 0, 24, .inl m_refusals))] sz) := by
  unfold wp_Men_refuse at hw
  refine Met.ofW (cc := cX2_refuse) (maxL := 3) (ret := none) (by decide) rfl ?_
  intro p e s m args below meth c s₁ B hml hv
  obtain ⟨rfl, hsz, hP, hK, hD0, hE⟩ := hv
  have hx := B.exec
  have hb := B.bytes
  have hr := B.returns
  have hts := atoms_spec (ws := wsX2_refuse) B.pre
  have hown : s.vm.findClass RX2 = some m.cls := findClass_of_methodNamed B.named
  have hlocks := B.notSynchronized
  subst hsz
  have hD := hD0.self (sz := s.heap.size)
  generalize hAe : va_A [(ce_mn ad m_size), ((ad 9), .inl (y 0, 24, .inl m_barredUpTo)), ((ad 10), .inl (y 0, 24, .inl m_refusals))] s.heap.size = A at hD ⊢
  have hA : ∀ q : Nat, s.heap.size ≤ q → A q := fun q h => by rw [← hAe]; exact Or.inr h
  have hS : va_S A s.heap s.heap [] := va_S.rf
  have hP : va_P D vwCl [(ce_mn ad m_size), ((ad 9), .inl (y 0, 24, .inl m_barredUpTo)), ((ad 10), .inl (y 0, 24, .inl m_refusals))] s.heap := hP
  have hl := lv_entry ([.ref (ad 6), .int p0, .int p1]) (n := 3) (Nat.le_of_ble_eq_true rfl)
  rw [lg_entry_eq]
  generalize (lg_sl ([.ref (ad 6), .int p0, .int p1]) ++ List.replicate (3 - (lg_sl ([.ref (ad 6), .int p0, .int p1])).length) Slot.unset).toArray = ls at hl ⊢
  have hl : lv_has ls 3 [(0, .ref (ad 6)), (1, .int p0), (2, .int p1)] := hl
  refine lv_aload_n hx hb dX2_refuse_0 rfl (lv_at hl 0 rfl) ?_
  refine va_get (ci := 4) (v := .ref (ad 9)) (C := RX2) (T := TX2) (N := 8) hx hb hts inw_X2_refuse_X2 hown hK hP 0 rfl rfl 2 (by decide) (hts (.fieldLink RX2 18 "DockCall$Men" "barredUpTo" "[I") (by decide +kernel)) (fun _ h9 => h9) rfl dX2_refuse_1 ?_
  refine lv_iload_n hx hb dX2_refuse_4 rfl (lv_at hl 1 rfl) ?_
  refine lv_iload_n hx hb dX2_refuse_5 rfl (lv_at hl 2 rfl) ?_
  obtain ⟨hi, hw⟩ := hw
  refine va_iast hx hb hK hP hD hS 1 0 rfl rfl hi dX2_refuse_6 (fun H locs hP hD hS => ?_)
  have hP : va_P D vwCl [(ce_mn ad m_size), ((ad 9), .inl (y 0, 24, .inl (upd m_barredUpTo p0.toNatClampNeg p1))), ((ad 10), .inl (y 0, 24, .inl m_refusals))] H := hP
  have hD : va_D A [(ce_mn ad m_size), ((ad 9), .inl (y 0, 24, .inl (upd m_barredUpTo p0.toNatClampNeg p1))), ((ad 10), .inl (y 0, 24, .inl m_refusals))] := hD
  refine lv_aload_n hx hb dX2_refuse_7 rfl (lv_at hl 0 rfl) ?_
  refine va_get (ci := 4) (v := .ref (ad 10)) (C := RX2) (T := TX2) (N := 8) hx hb hts inw_X2_refuse_X2 hown hK hP 0 rfl rfl 3 (by decide) (hts (.fieldLink RX2 21 "DockCall$Men" "refusals" "[I") (by decide +kernel)) (fun _ h9 => h9) rfl dX2_refuse_8 ?_
  refine lv_iload_n hx hb dX2_refuse_11 rfl (lv_at hl 1 rfl) ?_
  refine lv_dup2_11 hx hb dX2_refuse_12 rfl rfl ?_
  obtain ⟨hi, hw⟩ := hw
  refine va_iald hx hb hK hP 2 0 rfl rfl hi dX2_refuse_13 ?_
  refine lv_iconst (v := 1) hx hb dX2_refuse_14 (by decide) ?_
  refine lv_iadd hx hb dX2_refuse_15 ?_
  obtain ⟨hi, hw⟩ := hw
  refine va_iast hx hb hK hP hD hS 2 0 rfl rfl hi dX2_refuse_16 (fun H locs hP hD hS => ?_)
  have hP : va_P D vwCl [(ce_mn ad m_size), ((ad 9), .inl (y 0, 24, .inl (upd m_barredUpTo p0.toNatClampNeg p1))), ((ad 10), .inl (y 0, 24, .inl (upd m_refusals p0.toNatClampNeg ((m_refusals p0.toNatClampNeg) + 1))))] H := hP
  have hD : va_D A [(ce_mn ad m_size), ((ad 9), .inl (y 0, 24, .inl (upd m_barredUpTo p0.toNatClampNeg p1))), ((ad 10), .inl (y 0, 24, .inl (upd m_refusals p0.toNatClampNeg ((m_refusals p0.toNatClampNeg) + 1))))] := hD
  exact W.vret hx hb hr (fun t ht hW => ⟨⟨(upd m_barredUpTo p0.toNatClampNeg p1, upd m_refusals p0.toNatClampNeg ((m_refusals p0.toNatClampNeg) + 1)), rfl, hw, mAt.to hP hK hD ht hW⟩, hS.F ht⟩) hS.2.2 dX2_refuse_17
theorem inw_X2_joinGang_X2 : ∀ w ∈ wsX20, w ∈ wsX2_joinGang := fun _ h => List.mem_cons_of_mem _ (List.mem_append_left _ (List.mem_append_right _ h))
def wp_Men_joinGang (m_turns : Nat → Int32) (m_gangShip : Nat → Int32) (m_gangHatch : Nat → Int32) (p0 : Int32) (p1 : Int32) (p2 : Int32) (Q : (Nat → Int32) → (Nat → Int32) → (Nat → Int32) → Prop) : Prop := (vp_in p0 24 ∧ (vp_in p0 24 ∧ (vp_in p0 24 ∧ (vp_in p0 24 ∧ Q (upd m_turns p0.toNatClampNeg ((m_turns p0.toNatClampNeg) + 1)) (upd m_gangShip p0.toNatClampNeg p1) (upd m_gangHatch p0.toNatClampNeg p2)))))
set_option maxHeartbeats 4000000 in
set_option maxRecDepth 100000 in
theorem c_Men_joinGang (l : Launch) (D : va_G) (y : Nat → ClassId) (ad : Nat → Nat) (sz : Nat) (m_size : Int32) (m_turns : Nat → Int32) (m_gangShip : Nat → Int32) (m_gangHatch : Nat → Int32) (p0 : Int32) (p1 : Int32) (p2 : Int32) {Q : (Nat → Int32) → (Nat → Int32) → (Nat → Int32) → Prop} (hw : wp_Men_joinGang m_turns m_gangShip m_gangHatch p0 p1 p2 Q) : Met l yX2_joinGang wsX2_joinGang ({ frames := 0, cells := 0, slots := 0, locals := 0 }) (va_Pc [.ref (ad 6), .int p0, .int p1, .int p2] (mPre D y sz [(ce_mn ad m_size), ((ad 8), .inl (y 0, 24, .inl m_turns)), ((ad 11), .inl (y 0, 24, .inl m_gangShip)), ((ad 12), .inl (y 0, 24, .inl m_gangHatch))])) (va_Qv (fun (u : (Nat → Int32) × (Nat → Int32) × (Nat → Int32)) => Q u.1 u.2.1 u.2.2) (mAt D y (va_A [(ce_mn ad m_size), ((ad 8), .inl (y 0, 24, .inl m_turns)), ((ad 11), .inl (y 0, 24, .inl m_gangShip)), ((ad 12), .inl (y 0, 24, .inl m_gangHatch))] sz) (fun (u : (Nat → Int32) × (Nat → Int32) × (Nat → Int32)) => [(ce_mn ad m_size), ((ad 8), .inl (y 0, 24, .inl u.1)), ((ad 11), .inl (y 0, 24, .inl u.2.1)), ((ad 12), .inl (y 0, 24, .inl u.2.2))])) (va_A [(ce_mn ad m_size), ((ad 8), .inl (y 0, 24, .inl m_turns)), ((ad 11), .inl (y 0, 24, .inl m_gangShip)), ((ad 12), .inl (y 0, 24, .inl m_gangHatch))] sz)) 0 0 (va_A [(ce_mn ad m_size), ((ad 8), .inl (y 0, 24, .inl m_turns)), ((ad 11), .inl (y 0, 24, .inl m_gangShip)), ((ad 12), .inl (y 0, 24, .inl m_gangHatch))] sz) := by
  unfold wp_Men_joinGang at hw
  refine Met.ofW (cc := cX2_joinGang) (maxL := 4) (ret := none) (by decide) rfl ?_
  intro p e s m args below meth c s₁ B hml hv
  obtain ⟨rfl, hsz, hP, hK, hD0, hE⟩ := hv
  have hx := B.exec
  have hb := B.bytes
  have hr := B.returns
  have hts := atoms_spec (ws := wsX2_joinGang) B.pre
  have hown : s.vm.findClass RX2 = some m.cls := findClass_of_methodNamed B.named
  have hlocks := B.notSynchronized
  subst hsz
  have hD := hD0.self (sz := s.heap.size)
  generalize hAe : va_A [(ce_mn ad m_size), ((ad 8), .inl (y 0, 24, .inl m_turns)), ((ad 11), .inl (y 0, 24, .inl m_gangShip)), ((ad 12), .inl (y 0, 24, .inl m_gangHatch))] s.heap.size = A at hD ⊢
  have hA : ∀ q : Nat, s.heap.size ≤ q → A q := fun q h => by rw [← hAe]; exact Or.inr h
  have hS : va_S A s.heap s.heap [] := va_S.rf
  have hP : va_P D vwCl [(ce_mn ad m_size), ((ad 8), .inl (y 0, 24, .inl m_turns)), ((ad 11), .inl (y 0, 24, .inl m_gangShip)), ((ad 12), .inl (y 0, 24, .inl m_gangHatch))] s.heap := hP
  have hl := lv_entry ([.ref (ad 6), .int p0, .int p1, .int p2]) (n := 4) (Nat.le_of_ble_eq_true rfl)
  rw [lg_entry_eq]
  generalize (lg_sl ([.ref (ad 6), .int p0, .int p1, .int p2]) ++ List.replicate (4 - (lg_sl ([.ref (ad 6), .int p0, .int p1, .int p2])).length) Slot.unset).toArray = ls at hl ⊢
  have hl : lv_has ls 4 [(0, .ref (ad 6)), (1, .int p0), (2, .int p1), (3, .int p2)] := hl
  refine lv_aload_n hx hb dX2_joinGang_0 rfl (lv_at hl 0 rfl) ?_
  refine va_get (ci := 4) (v := .ref (ad 11)) (C := RX2) (T := TX2) (N := 8) hx hb hts inw_X2_joinGang_X2 hown hK hP 0 rfl rfl 4 (by decide) (hts (.fieldLink RX2 24 "DockCall$Men" "gangShip" "[I") (by decide +kernel)) (fun _ h9 => h9) rfl dX2_joinGang_1 ?_
  refine lv_iload_n hx hb dX2_joinGang_4 rfl (lv_at hl 1 rfl) ?_
  refine lv_iload_n hx hb dX2_joinGang_5 rfl (lv_at hl 2 rfl) ?_
  obtain ⟨hi, hw⟩ := hw
  refine va_iast hx hb hK hP hD hS 2 0 rfl rfl hi dX2_joinGang_6 (fun H locs hP hD hS => ?_)
  have hP : va_P D vwCl [(ce_mn ad m_size), ((ad 8), .inl (y 0, 24, .inl m_turns)), ((ad 11), .inl (y 0, 24, .inl (upd m_gangShip p0.toNatClampNeg p1))), ((ad 12), .inl (y 0, 24, .inl m_gangHatch))] H := hP
  have hD : va_D A [(ce_mn ad m_size), ((ad 8), .inl (y 0, 24, .inl m_turns)), ((ad 11), .inl (y 0, 24, .inl (upd m_gangShip p0.toNatClampNeg p1))), ((ad 12), .inl (y 0, 24, .inl m_gangHatch))] := hD
  refine lv_aload_n hx hb dX2_joinGang_7 rfl (lv_at hl 0 rfl) ?_
  refine va_get (ci := 4) (v := .ref (ad 12)) (C := RX2) (T := TX2) (N := 8) hx hb hts inw_X2_joinGang_X2 hown hK hP 0 rfl rfl 5 (by decide) (hts (.fieldLink RX2 27 "DockCall$Men" "gangHatch" "[I") (by decide +kernel)) (fun _ h9 => h9) rfl dX2_joinGang_8 ?_
  refine lv_iload_n hx hb dX2_joinGang_11 rfl (lv_at hl 1 rfl) ?_
  refine lv_iload_n hx hb dX2_joinGang_12 rfl (lv_at hl 3 rfl) ?_
  obtain ⟨hi, hw⟩ := hw
  refine va_iast hx hb hK hP hD hS 3 0 rfl rfl hi dX2_joinGang_13 (fun H locs hP hD hS => ?_)
  have hP : va_P D vwCl [(ce_mn ad m_size), ((ad 8), .inl (y 0, 24, .inl m_turns)), ((ad 11), .inl (y 0, 24, .inl (upd m_gangShip p0.toNatClampNeg p1))), ((ad 12), .inl (y 0, 24, .inl (upd m_gangHatch p0.toNatClampNeg p2)))] H := hP
  have hD : va_D A [(ce_mn ad m_size), ((ad 8), .inl (y 0, 24, .inl m_turns)), ((ad 11), .inl (y 0, 24, .inl (upd m_gangShip p0.toNatClampNeg p1))), ((ad 12), .inl (y 0, 24, .inl (upd m_gangHatch p0.toNatClampNeg p2)))] := hD
  refine lv_aload_n hx hb dX2_joinGang_14 rfl (lv_at hl 0 rfl) ?_
  refine va_get (ci := 4) (v := .ref (ad 8)) (C := RX2) (T := TX2) (N := 8) hx hb hts inw_X2_joinGang_X2 hown hK hP 0 rfl rfl 1 (by decide) (hts (.fieldLink RX2 15 "DockCall$Men" "turns" "[I") (by decide +kernel)) (fun _ h9 => h9) rfl dX2_joinGang_15 ?_
  refine lv_iload_n hx hb dX2_joinGang_18 rfl (lv_at hl 1 rfl) ?_
  refine lv_dup2_11 hx hb dX2_joinGang_19 rfl rfl ?_
  obtain ⟨hi, hw⟩ := hw
  refine va_iald hx hb hK hP 1 0 rfl rfl hi dX2_joinGang_20 ?_
  refine lv_iconst (v := 1) hx hb dX2_joinGang_21 (by decide) ?_
  refine lv_iadd hx hb dX2_joinGang_22 ?_
  obtain ⟨hi, hw⟩ := hw
  refine va_iast hx hb hK hP hD hS 1 0 rfl rfl hi dX2_joinGang_23 (fun H locs hP hD hS => ?_)
  have hP : va_P D vwCl [(ce_mn ad m_size), ((ad 8), .inl (y 0, 24, .inl (upd m_turns p0.toNatClampNeg ((m_turns p0.toNatClampNeg) + 1)))), ((ad 11), .inl (y 0, 24, .inl (upd m_gangShip p0.toNatClampNeg p1))), ((ad 12), .inl (y 0, 24, .inl (upd m_gangHatch p0.toNatClampNeg p2)))] H := hP
  have hD : va_D A [(ce_mn ad m_size), ((ad 8), .inl (y 0, 24, .inl (upd m_turns p0.toNatClampNeg ((m_turns p0.toNatClampNeg) + 1)))), ((ad 11), .inl (y 0, 24, .inl (upd m_gangShip p0.toNatClampNeg p1))), ((ad 12), .inl (y 0, 24, .inl (upd m_gangHatch p0.toNatClampNeg p2)))] := hD
  exact W.vret hx hb hr (fun t ht hW => ⟨⟨(upd m_turns p0.toNatClampNeg ((m_turns p0.toNatClampNeg) + 1), upd m_gangShip p0.toNatClampNeg p1, upd m_gangHatch p0.toNatClampNeg p2), rfl, hw, mAt.to hP hK hD ht hW⟩, hS.F ht⟩) hS.2.2 dX2_joinGang_24
theorem inw_X2_leaveGangs_X2 : ∀ w ∈ wsX20, w ∈ wsX2_leaveGangs := fun _ h => List.mem_cons_of_mem _ (List.mem_append_left _ (List.mem_append_right _ h))
def wp_Men_leaveGangs_h2 (m_size : Int32)  (Q : (Nat → Int32) → (Nat → Int32) → Prop) : Nat → Int32 → (Nat → Int32) → (Nat → Int32) → Prop
  | 0, _, _, _ => False
  | n + 1, v1, m_gangShip, m_gangHatch => ((m_size ≤ v1 → Q m_gangShip m_gangHatch) ∧ (¬ m_size ≤ v1 → (wp_Men_leaveGang m_gangShip m_gangHatch v1 (fun m_gangShip_1 m_gangHatch_2 => wp_Men_leaveGangs_h2 m_size Q n (v1 + 1) m_gangShip_1 m_gangHatch_2))))
def wp_Men_leaveGangs (m_size : Int32) (m_gangShip : Nat → Int32) (m_gangHatch : Nat → Int32) (Q : (Nat → Int32) → (Nat → Int32) → Prop) : Prop := (∃ n' : Nat, wp_Men_leaveGangs_h2 m_size Q n' 0 m_gangShip m_gangHatch)
set_option maxHeartbeats 4000000 in
set_option maxRecDepth 100000 in
theorem c_Men_leaveGangs_h2 {p : Program} {l : Launch} {e : Env} {s : State} {m : MethodId} {args : Array Value} {below : List Frame} {meth : Method} {c : Code} {D : va_G} {y : Nat → ClassId} {ad : Nat → Nat} {A : Nat → Prop} (hx : p.tables.exec = Jvm.exec) (hb : c.code = cX2_leaveGangs) (hr : meth.sig.returnType = none) (hml : c.maxLocals = 2) (hown : s.vm.findClass RX2 = some m.cls) (hts : ∀ w ∈ wsX2_leaveGangs, w.before args s = true) (hlocks : meth.locks = false) (hK : va_K D vwCl (TY y) s) (hE : EV s) (hA : ∀ q, s.heap.size ≤ q → A q) {m_size : Int32}  {Q : (Nat → Int32) → (Nat → Int32) → Prop}  : ∀ (n : Nat) (v1 : Int32) (m_gangShip : Nat → Int32) (m_gangHatch : Nat → Int32), wp_Men_leaveGangs_h2 m_size Q n v1 m_gangShip m_gangHatch → ∀ (H : Heap) (locs : List Loc) (ls : Array Slot), va_P D vwCl [(ce_mn ad m_size), ((ad 11), .inl (y 0, 24, .inl m_gangShip)), ((ad 12), .inl (y 0, 24, .inl m_gangHatch))] H → va_D A [(ce_mn ad m_size), ((ad 11), .inl (y 0, 24, .inl m_gangShip)), ((ad 12), .inl (y 0, 24, .inl m_gangHatch))] → va_S A s.heap H locs → lv_has ls 2 [(1, .int v1), (0, .ref (ad 6))] → W p l e ({ frames := 1, cells := 0, slots := 0, locals := 21 }) s m args below meth c H locs 0 0 (MQ below (va_Qv (fun (u : (Nat → Int32) × (Nat → Int32)) => Q u.1 u.2) (mAt D y A (fun (u : (Nat → Int32) × (Nat → Int32)) => [(ce_mn ad m_size), ((ad 11), .inl (y 0, 24, .inl u.1)), ((ad 12), .inl (y 0, 24, .inl u.2))])) A) args s 0 0 A) (F0 m 2 ls []) := by
  intro n
  induction n with
  | zero => intro v1 m_gangShip m_gangHatch hw; rw [wp_Men_leaveGangs_h2] at hw; exact hw.elim
  | succ n ih =>
    intro v1 m_gangShip m_gangHatch hw H locs ls hP hD hS hl
    rw [wp_Men_leaveGangs_h2] at hw
    refine lv_iload_n hx hb dX2_leaveGangs_2 rfl (lv_at hl 0 rfl) ?_
    refine lv_aload_n hx hb dX2_leaveGangs_3 rfl (lv_at hl 1 rfl) ?_
    refine va_get (ci := 4) (v := .int m_size) (C := RX2) (T := TX2) (N := 8) hx hb hts inw_X2_leaveGangs_X2 hown hK hP 0 rfl rfl 7 (by decide) (hts (.fieldLink RX2 33 "DockCall$Men" "size" "I") (by decide +kernel)) (fun _ h9 => h9) rfl dX2_leaveGangs_4 ?_
    refine lv_icmp_ge (tgt := 21) hx hb dX2_leaveGangs_7 (by decide) (fun hc => ?_) (fun hc => ?_)
    · have hw := hw.1 hc
      exact W.vret hx hb hr (fun t ht hW => ⟨⟨(m_gangShip, m_gangHatch), rfl, hw, mAt.to hP hK hD ht hW⟩, hS.F ht⟩) hS.2.2 dX2_leaveGangs_21
    · have hw := hw.2 hc
      refine lv_aload_n hx hb dX2_leaveGangs_10 rfl (lv_at hl 1 rfl) ?_
      refine lv_iload_n hx hb dX2_leaveGangs_11 rfl (lv_at hl 0 rfl) ?_
      refine mx_v (wc := [(ce_mn ad m_size), ((ad 11), .inl (y 0, 24, .inl m_gangShip)), ((ad 12), .inl (y 0, 24, .inl m_gangHatch))]) (wr := []) hP hD hS hA [0, 1, 2] [] [0, 1, 2] rfl rfl (by decide) (by decide) (by decide) (fun (u : (Nat → Int32) × (Nat → Int32)) => [(ce_mn ad m_size), ((ad 11), .inl (y 0, 24, .inl u.1)), ((ad 12), .inl (y 0, 24, .inl u.2))]) (fun _ => rfl) (va_runV (As := [.int v1]) (rest := []) ⟨hx, hb, hml, hown, hts⟩ (c_Men_leaveGang l D y ad H.size m_size m_gangShip m_gangHatch v1 hw) (cwV 1 hts gX2_leaveGangs_X2_leaveGang rfl rfl rfl (by decide +kernel) ⟨Nat.le_of_ble_eq_true rfl, Nat.le_of_ble_eq_true rfl⟩) ⟨mPre.blind, (va_recv hK hP (ci := 4) (q0 := 0) rfl rfl), mPre.to (hP.sub [0, 1, 2] rfl) hK (hD.sub [0, 1, 2] (by decide) rfl) hE⟩ rfl rfl hl.1 rfl (lv_room (Nat.le_of_ble_eq_true rfl)) dX2_leaveGangs_12 ⟨Nat.le_of_ble_eq_true rfl, Nat.le_of_ble_eq_true rfl⟩) (fun u H locs hw hP hD hS => ?_)
      obtain ⟨m_gangShip_1, m_gangHatch_2⟩ := u
      try dsimp only at hw
      have hP : va_P D vwCl [(ce_mn ad m_size), ((ad 11), .inl (y 0, 24, .inl m_gangShip_1)), ((ad 12), .inl (y 0, 24, .inl m_gangHatch_2))] H := hP
      have hD : va_D A [(ce_mn ad m_size), ((ad 11), .inl (y 0, 24, .inl m_gangShip_1)), ((ad 12), .inl (y 0, 24, .inl m_gangHatch_2))] := hD
      refine lv_iinc (v := v1 + 1) (lv' := [(1, .int (v1 + 1)), (0, .ref (ad 6))]) hx hb dX2_leaveGangs_15 hl (k := 0) rfl (by first | rfl | decide) (by decide) rfl (fun ls hl => ?_)
      refine lv_goto (tgt := 2) hx hb dX2_leaveGangs_18 (by decide) ?_
      exact ih (v1 + 1) m_gangShip_1 m_gangHatch_2 hw _ _ _ hP hD hS (lv_sub hl [0, 1] rfl)
set_option maxHeartbeats 4000000 in
set_option maxRecDepth 100000 in
theorem c_Men_leaveGangs (l : Launch) (D : va_G) (y : Nat → ClassId) (ad : Nat → Nat) (sz : Nat) (m_size : Int32) (m_gangShip : Nat → Int32) (m_gangHatch : Nat → Int32)  {Q : (Nat → Int32) → (Nat → Int32) → Prop} (hw : wp_Men_leaveGangs m_size m_gangShip m_gangHatch Q) : Met l yX2_leaveGangs wsX2_leaveGangs ({ frames := 1, cells := 0, slots := 0, locals := 21 }) (va_Pc [.ref (ad 6)] (mPre D y sz [(ce_mn ad m_size), ((ad 11), .inl (y 0, 24, .inl m_gangShip)), ((ad 12), .inl (y 0, 24, .inl m_gangHatch))])) (va_Qv (fun (u : (Nat → Int32) × (Nat → Int32)) => Q u.1 u.2) (mAt D y (va_A [(ce_mn ad m_size), ((ad 11), .inl (y 0, 24, .inl m_gangShip)), ((ad 12), .inl (y 0, 24, .inl m_gangHatch))] sz) (fun (u : (Nat → Int32) × (Nat → Int32)) => [(ce_mn ad m_size), ((ad 11), .inl (y 0, 24, .inl u.1)), ((ad 12), .inl (y 0, 24, .inl u.2))])) (va_A [(ce_mn ad m_size), ((ad 11), .inl (y 0, 24, .inl m_gangShip)), ((ad 12), .inl (y 0, 24, .inl m_gangHatch))] sz)) 0 0 (va_A [(ce_mn ad m_size), ((ad 11), .inl (y 0, 24, .inl m_gangShip)), ((ad 12), .inl (y 0, 24, .inl m_gangHatch))] sz) := by
  unfold wp_Men_leaveGangs at hw
  refine Met.ofW (cc := cX2_leaveGangs) (maxL := 2) (ret := none) (by decide) rfl ?_
  intro p e s m args below meth c s₁ B hml hv
  obtain ⟨rfl, hsz, hP, hK, hD0, hE⟩ := hv
  have hx := B.exec
  have hb := B.bytes
  have hr := B.returns
  have hts := atoms_spec (ws := wsX2_leaveGangs) B.pre
  have hown : s.vm.findClass RX2 = some m.cls := findClass_of_methodNamed B.named
  have hlocks := B.notSynchronized
  subst hsz
  have hD := hD0.self (sz := s.heap.size)
  generalize hAe : va_A [(ce_mn ad m_size), ((ad 11), .inl (y 0, 24, .inl m_gangShip)), ((ad 12), .inl (y 0, 24, .inl m_gangHatch))] s.heap.size = A at hD ⊢
  have hA : ∀ q : Nat, s.heap.size ≤ q → A q := fun q h => by rw [← hAe]; exact Or.inr h
  have hS : va_S A s.heap s.heap [] := va_S.rf
  have hP : va_P D vwCl [(ce_mn ad m_size), ((ad 11), .inl (y 0, 24, .inl m_gangShip)), ((ad 12), .inl (y 0, 24, .inl m_gangHatch))] s.heap := hP
  have hl := lv_entry ([.ref (ad 6)]) (n := 2) (Nat.le_of_ble_eq_true rfl)
  rw [lg_entry_eq]
  generalize (lg_sl ([.ref (ad 6)]) ++ List.replicate (2 - (lg_sl ([.ref (ad 6)])).length) Slot.unset).toArray = ls at hl ⊢
  have hl : lv_has ls 2 [(0, .ref (ad 6))] := hl
  refine lv_iconst (v := 0) hx hb dX2_leaveGangs_0 (by decide) ?_
  refine lv_istore_n (lv' := [(1, .int 0), (0, .ref (ad 6))]) hx hb dX2_leaveGangs_1 rfl hl (by decide) rfl (fun ls hl => ?_)
  obtain ⟨n', hw⟩ := hw
  exact c_Men_leaveGangs_h2 hx hb hr hml hown hts hlocks hK hE hA  n' 0 m_gangShip m_gangHatch hw _ _ _ hP hD hS (lv_sub hl [0, 1] rfl)
theorem inw_X2_lineUp_X2 : ∀ w ∈ wsX20, w ∈ wsX2_lineUp := fun _ h => List.mem_cons_of_mem _ (List.mem_append_left _ (List.mem_append_right _ h))
def wp_Men_lineUp_h12 (v1 : Int32) (m_turns : Nat → Int32) (K2 : Int32 → (Nat → Int32) → Prop) (Q : (Nat → Int32) → Prop) : Nat → Int32 → (Nat → Int32) → Prop
  | 0, _, _ => False
  | n + 1, v2, m_line => ((v2 ≤ 0 → (vp_in v2 24 ∧ K2 (v1 + 1) (upd m_line v2.toNatClampNeg v1))) ∧ (¬ v2 ≤ 0 → (vp_in (v2 - 1) 24 ∧ (vp_in (m_line (v2 - 1).toNatClampNeg) 24 ∧ (vp_in v1 24 ∧ ((m_turns (m_line (v2 - 1).toNatClampNeg).toNatClampNeg ≤ m_turns v1.toNatClampNeg → (vp_in v2 24 ∧ K2 (v1 + 1) (upd m_line v2.toNatClampNeg v1))) ∧ (¬ m_turns (m_line (v2 - 1).toNatClampNeg).toNatClampNeg ≤ m_turns v1.toNatClampNeg → (vp_in (v2 - 1) 24 ∧ (vp_in v2 24 ∧ wp_Men_lineUp_h12 v1 m_turns K2 Q n (v2 + (-1)) (upd m_line v2.toNatClampNeg (m_line (v2 - 1).toNatClampNeg)))))))))))
def wp_Men_lineUp_h2 (m_size : Int32) (m_turns : Nat → Int32)  (Q : (Nat → Int32) → Prop) : Nat → Int32 → (Nat → Int32) → Prop
  | 0, _, _ => False
  | n + 1, v1, m_line => ((m_size ≤ v1 → Q m_line) ∧ (¬ m_size ≤ v1 → (∃ n' : Nat, wp_Men_lineUp_h12 v1 m_turns (wp_Men_lineUp_h2 m_size m_turns Q n) Q n' v1 m_line)))
def wp_Men_lineUp (m_size : Int32) (m_turns : Nat → Int32) (m_line : Nat → Int32) (Q : (Nat → Int32) → Prop) : Prop := (∃ n' : Nat, wp_Men_lineUp_h2 m_size m_turns Q n' 0 m_line)
set_option maxHeartbeats 4000000 in
set_option maxRecDepth 100000 in
theorem c_Men_lineUp_h12 {p : Program} {l : Launch} {e : Env} {s : State} {m : MethodId} {args : Array Value} {below : List Frame} {meth : Method} {c : Code} {D : va_G} {y : Nat → ClassId} {ad : Nat → Nat} {A : Nat → Prop} (hx : p.tables.exec = Jvm.exec) (hb : c.code = cX2_lineUp) (hr : meth.sig.returnType = none) (hml : c.maxLocals = 3) (hown : s.vm.findClass RX2 = some m.cls) (hts : ∀ w ∈ wsX2_lineUp, w.before args s = true) (hlocks : meth.locks = false) (hK : va_K D vwCl (TY y) s) (hE : EV s) (hA : ∀ q, s.heap.size ≤ q → A q) {v1 : Int32} {m_size : Int32} {m_turns : Nat → Int32} {K2 : Int32 → (Nat → Int32) → Prop} {Q : (Nat → Int32) → Prop} (hK2 : ∀ (w1 : Int32) (m_line_w : Nat → Int32), K2 w1 m_line_w → ∀ (H : Heap) (locs : List Loc) (ls : Array Slot), va_P D vwCl [(ce_mn ad m_size), ((ad 8), .inl (y 0, 24, .inl m_turns)), ((ad 13), .inl (y 0, 24, .inl m_line_w))] H → va_D A [(ce_mn ad m_size), ((ad 8), .inl (y 0, 24, .inl m_turns)), ((ad 13), .inl (y 0, 24, .inl m_line_w))] → va_S A s.heap H locs → lv_has ls 3 [(1, .int w1), (0, .ref (ad 6))] → W p l e ({ frames := 0, cells := 0, slots := 0, locals := 0 }) s m args below meth c H locs 0 0 (MQ below (va_Qv (fun (u : (Nat → Int32)) => Q u) (mAt D y A (fun (u : (Nat → Int32)) => [(ce_mn ad m_size), ((ad 8), .inl (y 0, 24, .inl m_turns)), ((ad 13), .inl (y 0, 24, .inl u))])) A) args s 0 0 A) (F0 m 2 ls [])) : ∀ (n : Nat) (v2 : Int32) (m_line : Nat → Int32), wp_Men_lineUp_h12 v1 m_turns K2 Q n v2 m_line → ∀ (H : Heap) (locs : List Loc) (ls : Array Slot), va_P D vwCl [(ce_mn ad m_size), ((ad 8), .inl (y 0, 24, .inl m_turns)), ((ad 13), .inl (y 0, 24, .inl m_line))] H → va_D A [(ce_mn ad m_size), ((ad 8), .inl (y 0, 24, .inl m_turns)), ((ad 13), .inl (y 0, 24, .inl m_line))] → va_S A s.heap H locs → lv_has ls 3 [(2, .int v2), (1, .int v1), (0, .ref (ad 6))] → W p l e ({ frames := 0, cells := 0, slots := 0, locals := 0 }) s m args below meth c H locs 0 0 (MQ below (va_Qv (fun (u : (Nat → Int32)) => Q u) (mAt D y A (fun (u : (Nat → Int32)) => [(ce_mn ad m_size), ((ad 8), .inl (y 0, 24, .inl m_turns)), ((ad 13), .inl (y 0, 24, .inl u))])) A) args s 0 0 A) (F0 m 12 ls []) := by
  intro n
  induction n with
  | zero => intro v2 m_line hw; rw [wp_Men_lineUp_h12] at hw; exact hw.elim
  | succ n ih =>
    intro v2 m_line hw H locs ls hP hD hS hl
    rw [wp_Men_lineUp_h12] at hw
    refine lv_iload_n hx hb dX2_lineUp_12 rfl (lv_at hl 0 rfl) ?_
    refine lv_if_le (tgt := 58) hx hb dX2_lineUp_13 (by decide) (fun hc => ?_) (fun hc => ?_)
    · have hw := hw.1 hc
      refine lv_aload_n hx hb dX2_lineUp_58 rfl (lv_at hl 2 rfl) ?_
      refine va_get (ci := 4) (v := .ref (ad 13)) (C := RX2) (T := TX2) (N := 8) hx hb hts inw_X2_lineUp_X2 hown hK hP 0 rfl rfl 6 (by decide) (hts (.fieldLink RX2 30 "DockCall$Men" "line" "[I") (by decide +kernel)) (fun _ h9 => h9) rfl dX2_lineUp_59 ?_
      refine lv_iload_n hx hb dX2_lineUp_62 rfl (lv_at hl 0 rfl) ?_
      refine lv_iload_n hx hb dX2_lineUp_63 rfl (lv_at hl 1 rfl) ?_
      obtain ⟨hi, hw⟩ := hw
      refine va_iast hx hb hK hP hD hS 2 0 rfl rfl hi dX2_lineUp_64 (fun H locs hP hD hS => ?_)
      have hP : va_P D vwCl [(ce_mn ad m_size), ((ad 8), .inl (y 0, 24, .inl m_turns)), ((ad 13), .inl (y 0, 24, .inl (upd m_line v2.toNatClampNeg v1)))] H := hP
      have hD : va_D A [(ce_mn ad m_size), ((ad 8), .inl (y 0, 24, .inl m_turns)), ((ad 13), .inl (y 0, 24, .inl (upd m_line v2.toNatClampNeg v1)))] := hD
      refine lv_iinc (v := v1 + 1) (lv' := [(1, .int (v1 + 1)), (2, .int v2), (0, .ref (ad 6))]) hx hb dX2_lineUp_65 hl (k := 1) rfl (by first | rfl | decide) (by decide) rfl (fun ls hl => ?_)
      refine lv_goto (tgt := 2) hx hb dX2_lineUp_68 (by decide) ?_
      exact hK2 (v1 + 1) (upd m_line v2.toNatClampNeg v1) hw _ _ _ hP hD hS (lv_sub hl [0, 2] rfl)
    · have hw := hw.2 hc
      refine lv_aload_n hx hb dX2_lineUp_16 rfl (lv_at hl 2 rfl) ?_
      refine va_get (ci := 4) (v := .ref (ad 8)) (C := RX2) (T := TX2) (N := 8) hx hb hts inw_X2_lineUp_X2 hown hK hP 0 rfl rfl 1 (by decide) (hts (.fieldLink RX2 15 "DockCall$Men" "turns" "[I") (by decide +kernel)) (fun _ h9 => h9) rfl dX2_lineUp_17 ?_
      refine lv_aload_n hx hb dX2_lineUp_20 rfl (lv_at hl 2 rfl) ?_
      refine va_get (ci := 4) (v := .ref (ad 13)) (C := RX2) (T := TX2) (N := 8) hx hb hts inw_X2_lineUp_X2 hown hK hP 0 rfl rfl 6 (by decide) (hts (.fieldLink RX2 30 "DockCall$Men" "line" "[I") (by decide +kernel)) (fun _ h9 => h9) rfl dX2_lineUp_21 ?_
      refine lv_iload_n hx hb dX2_lineUp_24 rfl (lv_at hl 0 rfl) ?_
      refine lv_iconst (v := 1) hx hb dX2_lineUp_25 (by decide) ?_
      refine lv_isub hx hb dX2_lineUp_26 ?_
      obtain ⟨hi, hw⟩ := hw
      refine va_iald hx hb hK hP 2 0 rfl rfl hi dX2_lineUp_27 ?_
      obtain ⟨hi, hw⟩ := hw
      refine va_iald hx hb hK hP 1 0 rfl rfl hi dX2_lineUp_28 ?_
      refine lv_aload_n hx hb dX2_lineUp_29 rfl (lv_at hl 2 rfl) ?_
      refine va_get (ci := 4) (v := .ref (ad 8)) (C := RX2) (T := TX2) (N := 8) hx hb hts inw_X2_lineUp_X2 hown hK hP 0 rfl rfl 1 (by decide) (hts (.fieldLink RX2 15 "DockCall$Men" "turns" "[I") (by decide +kernel)) (fun _ h9 => h9) rfl dX2_lineUp_30 ?_
      refine lv_iload_n hx hb dX2_lineUp_33 rfl (lv_at hl 1 rfl) ?_
      obtain ⟨hi, hw⟩ := hw
      refine va_iald hx hb hK hP 1 0 rfl rfl hi dX2_lineUp_34 ?_
      refine lv_icmp_le (tgt := 58) hx hb dX2_lineUp_35 (by decide) (fun hc => ?_) (fun hc => ?_)
      · have hw := hw.1 hc
        refine lv_aload_n hx hb dX2_lineUp_58 rfl (lv_at hl 2 rfl) ?_
        refine va_get (ci := 4) (v := .ref (ad 13)) (C := RX2) (T := TX2) (N := 8) hx hb hts inw_X2_lineUp_X2 hown hK hP 0 rfl rfl 6 (by decide) (hts (.fieldLink RX2 30 "DockCall$Men" "line" "[I") (by decide +kernel)) (fun _ h9 => h9) rfl dX2_lineUp_59 ?_
        refine lv_iload_n hx hb dX2_lineUp_62 rfl (lv_at hl 0 rfl) ?_
        refine lv_iload_n hx hb dX2_lineUp_63 rfl (lv_at hl 1 rfl) ?_
        obtain ⟨hi, hw⟩ := hw
        refine va_iast hx hb hK hP hD hS 2 0 rfl rfl hi dX2_lineUp_64 (fun H locs hP hD hS => ?_)
        have hP : va_P D vwCl [(ce_mn ad m_size), ((ad 8), .inl (y 0, 24, .inl m_turns)), ((ad 13), .inl (y 0, 24, .inl (upd m_line v2.toNatClampNeg v1)))] H := hP
        have hD : va_D A [(ce_mn ad m_size), ((ad 8), .inl (y 0, 24, .inl m_turns)), ((ad 13), .inl (y 0, 24, .inl (upd m_line v2.toNatClampNeg v1)))] := hD
        refine lv_iinc (v := v1 + 1) (lv' := [(1, .int (v1 + 1)), (2, .int v2), (0, .ref (ad 6))]) hx hb dX2_lineUp_65 hl (k := 1) rfl (by first | rfl | decide) (by decide) rfl (fun ls hl => ?_)
        refine lv_goto (tgt := 2) hx hb dX2_lineUp_68 (by decide) ?_
        exact hK2 (v1 + 1) (upd m_line v2.toNatClampNeg v1) hw _ _ _ hP hD hS (lv_sub hl [0, 2] rfl)
      · have hw := hw.2 hc
        refine lv_aload_n hx hb dX2_lineUp_38 rfl (lv_at hl 2 rfl) ?_
        refine va_get (ci := 4) (v := .ref (ad 13)) (C := RX2) (T := TX2) (N := 8) hx hb hts inw_X2_lineUp_X2 hown hK hP 0 rfl rfl 6 (by decide) (hts (.fieldLink RX2 30 "DockCall$Men" "line" "[I") (by decide +kernel)) (fun _ h9 => h9) rfl dX2_lineUp_39 ?_
        refine lv_iload_n hx hb dX2_lineUp_42 rfl (lv_at hl 0 rfl) ?_
        refine lv_aload_n hx hb dX2_lineUp_43 rfl (lv_at hl 2 rfl) ?_
        refine va_get (ci := 4) (v := .ref (ad 13)) (C := RX2) (T := TX2) (N := 8) hx hb hts inw_X2_lineUp_X2 hown hK hP 0 rfl rfl 6 (by decide) (hts (.fieldLink RX2 30 "DockCall$Men" "line" "[I") (by decide +kernel)) (fun _ h9 => h9) rfl dX2_lineUp_44 ?_
        refine lv_iload_n hx hb dX2_lineUp_47 rfl (lv_at hl 0 rfl) ?_
        refine lv_iconst (v := 1) hx hb dX2_lineUp_48 (by decide) ?_
        refine lv_isub hx hb dX2_lineUp_49 ?_
        obtain ⟨hi, hw⟩ := hw
        refine va_iald hx hb hK hP 2 0 rfl rfl hi dX2_lineUp_50 ?_
        obtain ⟨hi, hw⟩ := hw
        refine va_iast hx hb hK hP hD hS 2 0 rfl rfl hi dX2_lineUp_51 (fun H locs hP hD hS => ?_)
        have hP : va_P D vwCl [(ce_mn ad m_size), ((ad 8), .inl (y 0, 24, .inl m_turns)), ((ad 13), .inl (y 0, 24, .inl (upd m_line v2.toNatClampNeg (m_line (v2 - 1).toNatClampNeg))))] H := hP
        have hD : va_D A [(ce_mn ad m_size), ((ad 8), .inl (y 0, 24, .inl m_turns)), ((ad 13), .inl (y 0, 24, .inl (upd m_line v2.toNatClampNeg (m_line (v2 - 1).toNatClampNeg))))] := hD
        refine lv_iinc (v := v2 + (-1)) (lv' := [(2, .int (v2 + (-1))), (1, .int v1), (0, .ref (ad 6))]) hx hb dX2_lineUp_52 hl (k := 0) rfl (by first | rfl | decide) (by decide) rfl (fun ls hl => ?_)
        refine lv_goto (tgt := 12) hx hb dX2_lineUp_55 (by decide) ?_
        exact ih (v2 + (-1)) (upd m_line v2.toNatClampNeg (m_line (v2 - 1).toNatClampNeg)) hw _ _ _ hP hD hS (lv_sub hl [0, 1, 2] rfl)
set_option maxHeartbeats 4000000 in
set_option maxRecDepth 100000 in
theorem c_Men_lineUp_h2 {p : Program} {l : Launch} {e : Env} {s : State} {m : MethodId} {args : Array Value} {below : List Frame} {meth : Method} {c : Code} {D : va_G} {y : Nat → ClassId} {ad : Nat → Nat} {A : Nat → Prop} (hx : p.tables.exec = Jvm.exec) (hb : c.code = cX2_lineUp) (hr : meth.sig.returnType = none) (hml : c.maxLocals = 3) (hown : s.vm.findClass RX2 = some m.cls) (hts : ∀ w ∈ wsX2_lineUp, w.before args s = true) (hlocks : meth.locks = false) (hK : va_K D vwCl (TY y) s) (hE : EV s) (hA : ∀ q, s.heap.size ≤ q → A q) {m_size : Int32} {m_turns : Nat → Int32}  {Q : (Nat → Int32) → Prop}  : ∀ (n : Nat) (v1 : Int32) (m_line : Nat → Int32), wp_Men_lineUp_h2 m_size m_turns Q n v1 m_line → ∀ (H : Heap) (locs : List Loc) (ls : Array Slot), va_P D vwCl [(ce_mn ad m_size), ((ad 8), .inl (y 0, 24, .inl m_turns)), ((ad 13), .inl (y 0, 24, .inl m_line))] H → va_D A [(ce_mn ad m_size), ((ad 8), .inl (y 0, 24, .inl m_turns)), ((ad 13), .inl (y 0, 24, .inl m_line))] → va_S A s.heap H locs → lv_has ls 3 [(1, .int v1), (0, .ref (ad 6))] → W p l e ({ frames := 0, cells := 0, slots := 0, locals := 0 }) s m args below meth c H locs 0 0 (MQ below (va_Qv (fun (u : (Nat → Int32)) => Q u) (mAt D y A (fun (u : (Nat → Int32)) => [(ce_mn ad m_size), ((ad 8), .inl (y 0, 24, .inl m_turns)), ((ad 13), .inl (y 0, 24, .inl u))])) A) args s 0 0 A) (F0 m 2 ls []) := by
  intro n
  induction n with
  | zero => intro v1 m_line hw; rw [wp_Men_lineUp_h2] at hw; exact hw.elim
  | succ n ih =>
    intro v1 m_line hw H locs ls hP hD hS hl
    rw [wp_Men_lineUp_h2] at hw
    refine lv_iload_n hx hb dX2_lineUp_2 rfl (lv_at hl 0 rfl) ?_
    refine lv_aload_n hx hb dX2_lineUp_3 rfl (lv_at hl 1 rfl) ?_
    refine va_get (ci := 4) (v := .int m_size) (C := RX2) (T := TX2) (N := 8) hx hb hts inw_X2_lineUp_X2 hown hK hP 0 rfl rfl 7 (by decide) (hts (.fieldLink RX2 33 "DockCall$Men" "size" "I") (by decide +kernel)) (fun _ h9 => h9) rfl dX2_lineUp_4 ?_
    refine lv_icmp_ge (tgt := 71) hx hb dX2_lineUp_7 (by decide) (fun hc => ?_) (fun hc => ?_)
    · have hw := hw.1 hc
      exact W.vret hx hb hr (fun t ht hW => ⟨⟨(m_line), rfl, hw, mAt.to hP hK hD ht hW⟩, hS.F ht⟩) hS.2.2 dX2_lineUp_71
    · have hw := hw.2 hc
      refine lv_iload_n hx hb dX2_lineUp_10 rfl (lv_at hl 0 rfl) ?_
      refine lv_istore_n (lv' := [(2, .int v1), (1, .int v1), (0, .ref (ad 6))]) hx hb dX2_lineUp_11 rfl hl (by decide) rfl (fun ls hl => ?_)
      obtain ⟨n', hw⟩ := hw
      exact c_Men_lineUp_h12 hx hb hr hml hown hts hlocks hK hE hA ih n' v1 m_line hw _ _ _ hP hD hS (lv_sub hl [0, 1, 2] rfl)
set_option maxHeartbeats 4000000 in
set_option maxRecDepth 100000 in
theorem c_Men_lineUp (l : Launch) (D : va_G) (y : Nat → ClassId) (ad : Nat → Nat) (sz : Nat) (m_size : Int32) (m_turns : Nat → Int32) (m_line : Nat → Int32)  {Q : (Nat → Int32) → Prop} (hw : wp_Men_lineUp m_size m_turns m_line Q) : Met l yX2_lineUp wsX2_lineUp ({ frames := 0, cells := 0, slots := 0, locals := 0 }) (va_Pc [.ref (ad 6)] (mPre D y sz [(ce_mn ad m_size), ((ad 8), .inl (y 0, 24, .inl m_turns)), ((ad 13), .inl (y 0, 24, .inl m_line))])) (va_Qv (fun (u : (Nat → Int32)) => Q u) (mAt D y (va_A [(ce_mn ad m_size), ((ad 8), .inl (y 0, 24, .inl m_turns)), ((ad 13), .inl (y 0, 24, .inl m_line))] sz) (fun (u : (Nat → Int32)) => [(ce_mn ad m_size), ((ad 8), .inl (y 0, 24, .inl m_turns)), ((ad 13), .inl (y 0, 24, .inl u))])) (va_A [(ce_mn ad m_size), ((ad 8), .inl (y 0, 24, .inl m_turns)), ((ad 13), .inl (y 0, 24, .inl m_line))] sz)) 0 0 (va_A [(ce_mn ad m_size), ((ad 8), .inl (y 0, 24, .inl m_turns)), ((ad 13), .inl (y 0, 24, .inl m_line))] sz) := by
  unfold wp_Men_lineUp at hw
  refine Met.ofW (cc := cX2_lineUp) (maxL := 3) (ret := none) (by decide) rfl ?_
  intro p e s m args below meth c s₁ B hml hv
  obtain ⟨rfl, hsz, hP, hK, hD0, hE⟩ := hv
  have hx := B.exec
  have hb := B.bytes
  have hr := B.returns
  have hts := atoms_spec (ws := wsX2_lineUp) B.pre
  have hown : s.vm.findClass RX2 = some m.cls := findClass_of_methodNamed B.named
  have hlocks := B.notSynchronized
  subst hsz
  have hD := hD0.self (sz := s.heap.size)
  generalize hAe : va_A [(ce_mn ad m_size), ((ad 8), .inl (y 0, 24, .inl m_turns)), ((ad 13), .inl (y 0, 24, .inl m_line))] s.heap.size = A at hD ⊢
  have hA : ∀ q : Nat, s.heap.size ≤ q → A q := fun q h => by rw [← hAe]; exact Or.inr h
  have hS : va_S A s.heap s.heap [] := va_S.rf
  have hP : va_P D vwCl [(ce_mn ad m_size), ((ad 8), .inl (y 0, 24, .inl m_turns)), ((ad 13), .inl (y 0, 24, .inl m_line))] s.heap := hP
  have hl := lv_entry ([.ref (ad 6)]) (n := 3) (Nat.le_of_ble_eq_true rfl)
  rw [lg_entry_eq]
  generalize (lg_sl ([.ref (ad 6)]) ++ List.replicate (3 - (lg_sl ([.ref (ad 6)])).length) Slot.unset).toArray = ls at hl ⊢
  have hl : lv_has ls 3 [(0, .ref (ad 6))] := hl
  refine lv_iconst (v := 0) hx hb dX2_lineUp_0 (by decide) ?_
  refine lv_istore_n (lv' := [(1, .int 0), (0, .ref (ad 6))]) hx hb dX2_lineUp_1 rfl hl (by decide) rfl (fun ls hl => ?_)
  obtain ⟨n', hw⟩ := hw
  exact c_Men_lineUp_h2 hx hb hr hml hown hts hlocks hK hE hA  n' 0 m_line hw _ _ _ hP hD hS (lv_sub hl [0, 1] rfl)
