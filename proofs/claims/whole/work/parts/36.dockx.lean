theorem inw_X8_man_X2 : ∀ w ∈ wsX20, w ∈ wsX8_man := fun _ h => List.mem_cons_of_mem _ (List.mem_append_left _ (List.mem_append_left _ (List.mem_append_left _ (List.mem_append_right _ h))))
theorem inw_X8_man_X8 : ∀ w ∈ wsX80, w ∈ wsX8_man := fun _ h => List.mem_cons_of_mem _ (List.mem_append_left _ (List.mem_append_left _ (List.mem_append_left _ (List.mem_append_left _ (List.mem_append_right _ h)))))
theorem inx_X8_man_IA : ∀ w ∈ (xa_IA).filter goodWord, w ∈ wsX8_man := by
  rw [xa_IA_eq]
  exact fun w h => List.mem_cons_of_mem _ (List.mem_append_left _ (List.mem_append_left _ (List.mem_append_right _ h)))
theorem xh_IA_74 : ∀ w ∈ Cond.classLink RX8 74 "java/lang/IllegalArgumentException" :: Cond.initialized "java/lang/IllegalArgumentException" :: xa_IA, vx_ot w = true := by decide +kernel
theorem inx_X8_man_UO : ∀ w ∈ (xa_UO).filter goodWord, w ∈ wsX8_man := by
  rw [xa_UO_eq]
  exact fun w h => List.mem_cons_of_mem _ (List.mem_append_left _ (List.mem_append_right _ h))
theorem xh_UO_84 : ∀ w ∈ Cond.classLink RX8 84 "java/lang/UnsupportedOperationException" :: Cond.initialized "java/lang/UnsupportedOperationException" :: xa_UO, vx_ot w = true := by decide +kernel
def wp_Dock_man (m_size : Int32) (m_skills : Nat → Int32) (m_barredUpTo : Nat → Int32) (m_gangShip : Nat → Int32) (m_gangHatch : Nat → Int32) (p0 : Int32) (Q : Int32 → Int32 → (Nat → Int32) → (Nat → Int32) → (Nat → Int32) → (Nat → Int32) → Prop) (X : String → Int32 → (Nat → Int32) → (Nat → Int32) → (Nat → Int32) → (Nat → Int32) → Prop) : Prop := ((p0 < 1 → X "java/lang/IllegalArgumentException" m_size m_skills m_barredUpTo m_gangShip m_gangHatch) ∧ (¬ p0 < 1 → ((p0 ≤ 15 → ((m_size < 24 → (wp_Men_add m_size m_skills m_barredUpTo m_gangShip m_gangHatch p0 (fun r_1 m_size_2 m_skills_3 m_barredUpTo_4 m_gangShip_5 m_gangHatch_6 => Q r_1 m_size_2 m_skills_3 m_barredUpTo_4 m_gangShip_5 m_gangHatch_6))) ∧ (¬ m_size < 24 → X "java/lang/UnsupportedOperationException" m_size m_skills m_barredUpTo m_gangShip m_gangHatch))) ∧ (¬ p0 ≤ 15 → X "java/lang/IllegalArgumentException" m_size m_skills m_barredUpTo m_gangShip m_gangHatch))))
set_option maxHeartbeats 4000000 in
set_option maxRecDepth 100000 in
theorem c_Dock_man (l : Launch) (hl0 : l.stackTraces = false) (D : va_G) (y E : Nat → Nat) (ad : Nat → Nat) (sz : Nat) (m_size : Int32) (m_skills : Nat → Int32) (m_barredUpTo : Nat → Int32) (m_gangShip : Nat → Int32) (m_gangHatch : Nat → Int32) (p0 : Int32) {Q : Int32 → Int32 → (Nat → Int32) → (Nat → Int32) → (Nat → Int32) → (Nat → Int32) → Prop} {X : String → Int32 → (Nat → Int32) → (Nat → Int32) → (Nat → Int32) → (Nat → Int32) → Prop} (hw : wp_Dock_man m_size m_skills m_barredUpTo m_gangShip m_gangHatch p0 Q X) : vx_Met l yX8_man wsX8_man ({ frames := 6, cells := 1, slots := 6, locals := 120 }) (va_Pc [.ref (ad 0), .int p0] (nPre D y E sz [(ce_dk ad), (ce_mn ad m_size), ((ad 7), .inl (y 0, 24, .inl m_skills)), ((ad 9), .inl (y 0, 24, .inl m_barredUpTo)), ((ad 11), .inl (y 0, 24, .inl m_gangShip)), ((ad 12), .inl (y 0, 24, .inl m_gangHatch))])) (va_Qi (fun (r : Int32) (u : Int32 × (Nat → Int32) × (Nat → Int32) × (Nat → Int32) × (Nat → Int32)) => Q r u.1 u.2.1 u.2.2.1 u.2.2.2.1 u.2.2.2.2) (mAt D y (va_A [(ce_dk ad), (ce_mn ad m_size), ((ad 7), .inl (y 0, 24, .inl m_skills)), ((ad 9), .inl (y 0, 24, .inl m_barredUpTo)), ((ad 11), .inl (y 0, 24, .inl m_gangShip)), ((ad 12), .inl (y 0, 24, .inl m_gangHatch))] sz) (fun (u : Int32 × (Nat → Int32) × (Nat → Int32) × (Nat → Int32) × (Nat → Int32)) => [(ce_dk ad), (ce_mn ad u.1), ((ad 7), .inl (y 0, 24, .inl u.2.1)), ((ad 9), .inl (y 0, 24, .inl u.2.2.1)), ((ad 11), .inl (y 0, 24, .inl u.2.2.2.1)), ((ad 12), .inl (y 0, 24, .inl u.2.2.2.2))])) (va_A [(ce_dk ad), (ce_mn ad m_size), ((ad 7), .inl (y 0, 24, .inl m_skills)), ((ad 9), .inl (y 0, 24, .inl m_barredUpTo)), ((ad 11), .inl (y 0, 24, .inl m_gangShip)), ((ad 12), .inl (y 0, 24, .inl m_gangHatch))] sz)) (vx_X (fun _ => True) (fun (E9 : String) (u9 : Int32 × (Nat → Int32) × (Nat → Int32) × (Nat → Int32) × (Nat → Int32)) (t9 : State) => (fun (E8 : String) (u8 : Int32 × (Nat → Int32) × (Nat → Int32) × (Nat → Int32) × (Nat → Int32)) => X E8 u8.1 u8.2.1 u8.2.2.1 u8.2.2.2.1 u8.2.2.2.2) E9 u9 ∧ mAt D y (va_A [(ce_dk ad), (ce_mn ad m_size), ((ad 7), .inl (y 0, 24, .inl m_skills)), ((ad 9), .inl (y 0, 24, .inl m_barredUpTo)), ((ad 11), .inl (y 0, 24, .inl m_gangShip)), ((ad 12), .inl (y 0, 24, .inl m_gangHatch))] sz) (fun (u : Int32 × (Nat → Int32) × (Nat → Int32) × (Nat → Int32) × (Nat → Int32)) => [(ce_dk ad), (ce_mn ad u.1), ((ad 7), .inl (y 0, 24, .inl u.2.1)), ((ad 9), .inl (y 0, 24, .inl u.2.2.1)), ((ad 11), .inl (y 0, 24, .inl u.2.2.2.1)), ((ad 12), .inl (y 0, 24, .inl u.2.2.2.2))]) u9 t9) (va_A [(ce_dk ad), (ce_mn ad m_size), ((ad 7), .inl (y 0, 24, .inl m_skills)), ((ad 9), .inl (y 0, 24, .inl m_barredUpTo)), ((ad 11), .inl (y 0, 24, .inl m_gangShip)), ((ad 12), .inl (y 0, 24, .inl m_gangHatch))] sz)) 1 6 (va_A [(ce_dk ad), (ce_mn ad m_size), ((ad 7), .inl (y 0, 24, .inl m_skills)), ((ad 9), .inl (y 0, 24, .inl m_barredUpTo)), ((ad 11), .inl (y 0, 24, .inl m_gangShip)), ((ad 12), .inl (y 0, 24, .inl m_gangHatch))] sz) := by
  unfold wp_Dock_man at hw
  refine vx_ofW (cc := cX8_man) (maxL := 2) (ret := some .int) (by decide) rfl ?_
  intro p e s m args below meth c s₁ B hml ht hv
  obtain ⟨rfl, ⟨hsz, hP, hK, hD0, hE⟩, hH⟩ := hv
  have hx := B.exec
  have hb := B.bytes
  have hr := B.returns
  have hts := atoms_spec (ws := wsX8_man) B.pre
  have hown : s.vm.findClass RX8 = some m.cls := findClass_of_methodNamed B.named
  have hlocks := B.notSynchronized
  subst hsz
  have hD := hD0.self (sz := s.heap.size)
  generalize hAe : va_A [(ce_dk ad), (ce_mn ad m_size), ((ad 7), .inl (y 0, 24, .inl m_skills)), ((ad 9), .inl (y 0, 24, .inl m_barredUpTo)), ((ad 11), .inl (y 0, 24, .inl m_gangShip)), ((ad 12), .inl (y 0, 24, .inl m_gangHatch))] s.heap.size = A at hD hH ⊢
  have hA : ∀ q : Nat, s.heap.size ≤ q → A q := fun q h => by rw [← hAe]; exact Or.inr h
  have hS : va_S A s.heap s.heap [] := va_S.rf
  have hP : va_P D vwCl [(ce_dk ad), (ce_mn ad m_size), ((ad 7), .inl (y 0, 24, .inl m_skills)), ((ad 9), .inl (y 0, 24, .inl m_barredUpTo)), ((ad 11), .inl (y 0, 24, .inl m_gangShip)), ((ad 12), .inl (y 0, 24, .inl m_gangHatch))] s.heap := hP
  have hl := lv_entry ([.ref (ad 0), .int p0]) (n := 2) (Nat.le_of_ble_eq_true rfl)
  rw [lg_entry_eq]
  generalize (lg_sl ([.ref (ad 0), .int p0]) ++ List.replicate (2 - (lg_sl ([.ref (ad 0), .int p0])).length) Slot.unset).toArray = ls at hl ⊢
  have hl : lv_has ls 2 [(0, .ref (ad 0)), (1, .int p0)] := hl
  refine lv_iload_n hx hb dX8_man_0 rfl (lv_at hl 1 rfl) ?_
  refine lv_iconst (v := 1) hx hb dX8_man_1 (by decide) ?_
  refine lv_icmp_lt (tgt := 11) hx hb dX8_man_2 (by decide) (fun hc => ?_) (fun hc => ?_)
  · have hw := hw.1 hc
    exact nx_throwS (own := RX8) (cls := "java/lang/IllegalArgumentException") (sup := "java/lang/RuntimeException") (names := ["java/lang/Exception"]) (ik := 74) (is := 76) (ic := 78) (i1 := 7) (b1 := Bundle.six) hx hb hl0 (text := "skills are 1 to 15") hown (by decide +kernel) (by decide +kernel) (by decide +kernel) (by decide +kernel) (by decide +kernel) (by decide +kernel) (by decide +kernel) (hts (.classLink RX8 74 "java/lang/IllegalArgumentException") (by decide +kernel)) (hts (.initialized "java/lang/IllegalArgumentException") (by decide +kernel)) (hH.2.1 _ xs_D76) (hH.words xa_IA_xv (fun w hw => hts w (inx_X8_man_IA w hw))) (xh_IA_74) hH.2.2.2.1 hH.2.2.2.2.1 hS (by rw [hml]; exact hl.1) dX8_man_11 dX8_man_14 dX8_man_15 dX8_man_17 dX8_man_20 (fun x hx => (ht x hx).elim) (Nat.le_of_ble_eq_true rfl) (Nat.le_of_ble_eq_true rfl) (Nat.le_of_ble_eq_true rfl) (Nat.le_of_ble_eq_true rfl) hlocks (xAt.to (X := fun (E8 : String) (u8 : Int32 × (Nat → Int32) × (Nat → Int32) × (Nat → Int32) × (Nat → Int32)) => X E8 u8.1 u8.2.1 u8.2.2.1 u8.2.2.2.1 u8.2.2.2.2) (w := fun (u : Int32 × (Nat → Int32) × (Nat → Int32) × (Nat → Int32) × (Nat → Int32)) => [(ce_dk ad), (ce_mn ad u.1), ((ad 7), .inl (y 0, 24, .inl u.2.1)), ((ad 9), .inl (y 0, 24, .inl u.2.2.1)), ((ad 11), .inl (y 0, 24, .inl u.2.2.2.1)), ((ad 12), .inl (y 0, 24, .inl u.2.2.2.2))]) (u := (m_size, m_skills, m_barredUpTo, m_gangShip, m_gangHatch)) hP hK hD hS hw) hS.2.2 (Nat.le_of_ble_eq_true rfl) (Nat.le_of_ble_eq_true rfl)
  · have hw := hw.2 hc
    refine lv_iload_n hx hb dX8_man_5 rfl (lv_at hl 1 rfl) ?_
    refine lv_bipush (v := 15) hx hb dX8_man_6 (by decide) ?_
    refine lv_icmp_le (tgt := 21) hx hb dX8_man_8 (by decide) (fun hc => ?_) (fun hc => ?_)
    · have hw := hw.1 hc
      refine lv_aload_n hx hb dX8_man_21 rfl (lv_at hl 0 rfl) ?_
      refine va_get (ci := 10) (v := .ref (ad 6)) (C := RX8) (T := TX8) (N := 8) hx hb hts inw_X8_man_X8 hown hK hP 0 rfl rfl 3 (by decide) (hts (.fieldLink RX8 32 "DockCall" "men" "LDockCall$Men;") (by decide +kernel)) (fun _ h9 => h9) rfl dX8_man_22 ?_
      refine va_getN (ci := 4) (v := .int m_size) (C := RX2) (T := TX2) (N := 8) hx hb hts inw_X8_man_X2 hown hK hP 1 rfl rfl 7 (by decide) (hE.use nwf_RX8_81) (fun _ h9 => h9) rfl dX8_man_25 ?_
      refine lv_bipush (v := 24) hx hb dX8_man_28 (by decide) ?_
      refine lv_icmp_lt (tgt := 43) hx hb dX8_man_30 (by decide) (fun hc => ?_) (fun hc => ?_)
      · have hw := hw.1 hc
        refine lv_aload_n hx hb dX8_man_43 rfl (lv_at hl 0 rfl) ?_
        refine va_get (ci := 10) (v := .ref (ad 6)) (C := RX8) (T := TX8) (N := 8) hx hb hts inw_X8_man_X8 hown hK hP 0 rfl rfl 3 (by decide) (hts (.fieldLink RX8 32 "DockCall" "men" "LDockCall$Men;") (by decide +kernel)) (fun _ h9 => h9) rfl dX8_man_44 ?_
        refine lv_iload_n hx hb dX8_man_47 rfl (lv_at hl 1 rfl) ?_
        refine mx_i (wc := [(ce_mn ad m_size), ((ad 7), .inl (y 0, 24, .inl m_skills)), ((ad 9), .inl (y 0, 24, .inl m_barredUpTo)), ((ad 11), .inl (y 0, 24, .inl m_gangShip)), ((ad 12), .inl (y 0, 24, .inl m_gangHatch))]) (wr := [(ce_dk ad)]) hP hD hS hA [1, 2, 3, 4, 5] [0] [0, 1, 2, 3, 4, 5] rfl rfl (by decide) (by decide) (by decide) (fun (u : Int32 × (Nat → Int32) × (Nat → Int32) × (Nat → Int32) × (Nat → Int32)) => [(ce_dk ad), (ce_mn ad u.1), ((ad 7), .inl (y 0, 24, .inl u.2.1)), ((ad 9), .inl (y 0, 24, .inl u.2.2.1)), ((ad 11), .inl (y 0, 24, .inl u.2.2.2.1)), ((ad 12), .inl (y 0, 24, .inl u.2.2.2.2))]) (fun _ => rfl) (va_runVN (C := RX2) (As := [.int p0]) (rest := []) ⟨hx, hb, hml, hown, hts⟩ (c_Men_add l D y ad s.heap.size m_size m_skills m_barredUpTo m_gangShip m_gangHatch p0 hw) ⟨va_cnB 1 hts gX8_man_X2_add_n89 rfl rfl rfl (hE _ nwm_RX8_89) (hts (.initialized RX2) (by decide +kernel)) (by decide +kernel) ⟨Nat.le_of_ble_eq_true rfl, Nat.le_of_ble_eq_true rfl⟩, (hts (.instanceMethod yX2_add) (by decide +kernel)), (hts (.selects RX2 yX2_add yX2_add) (by decide +kernel))⟩ ⟨mPre.blind, (va_recv hK hP (ci := 4) (q0 := 1) rfl rfl), mPre.to (hP.sub [1, 2, 3, 4, 5] rfl) hK (hD.sub [1, 2, 3, 4, 5] (by decide) rfl) hE⟩ rfl rfl hl.1 rfl (lv_room (Nat.le_of_ble_eq_true rfl)) dX8_man_48 ⟨Nat.le_of_ble_eq_true rfl, Nat.le_of_ble_eq_true rfl⟩) (fun r_1 u H locs hw hP hD hS => ?_)
        obtain ⟨m_size_2, m_skills_3, m_barredUpTo_4, m_gangShip_5, m_gangHatch_6⟩ := u
        try dsimp only at hw
        have hP : va_P D vwCl [(ce_dk ad), (ce_mn ad m_size_2), ((ad 7), .inl (y 0, 24, .inl m_skills_3)), ((ad 9), .inl (y 0, 24, .inl m_barredUpTo_4)), ((ad 11), .inl (y 0, 24, .inl m_gangShip_5)), ((ad 12), .inl (y 0, 24, .inl m_gangHatch_6))] H := hP
        have hD : va_D A [(ce_dk ad), (ce_mn ad m_size_2), ((ad 7), .inl (y 0, 24, .inl m_skills_3)), ((ad 9), .inl (y 0, 24, .inl m_barredUpTo_4)), ((ad 11), .inl (y 0, 24, .inl m_gangShip_5)), ((ad 12), .inl (y 0, 24, .inl m_gangHatch_6))] := hD
        refine W.widen (k := 1) (n := 6) (by omega) (by omega) ?_
        exact vx_ret (W.iret (v := r_1) hx hb hr (fun t ht hW => ⟨⟨r_1, (m_size_2, m_skills_3, m_barredUpTo_4, m_gangShip_5, m_gangHatch_6), rfl, hw, mAt.to hP hK hD ht hW⟩, hS.F ht⟩) hS.2.2 dX8_man_51)
      · have hw := hw.2 hc
        exact nx_throwS (own := RX8) (cls := "java/lang/UnsupportedOperationException") (sup := "java/lang/RuntimeException") (names := ["java/lang/Exception"]) (ik := 84) (is := 86) (ic := 88) (i1 := 7) (b1 := Bundle.six) hx hb hl0 (text := "there are 24 men") hown (by decide +kernel) (by decide +kernel) (by decide +kernel) (by decide +kernel) (by decide +kernel) (by decide +kernel) (by decide +kernel) (hts (.classLink RX8 84 "java/lang/UnsupportedOperationException") (by decide +kernel)) (hts (.initialized "java/lang/UnsupportedOperationException") (by decide +kernel)) (hH.2.1 _ xs_D86) (hH.words xa_UO_xv (fun w hw => hts w (inx_X8_man_UO w hw))) (xh_UO_84) hH.2.2.2.1 hH.2.2.2.2.1 hS (by rw [hml]; exact hl.1) dX8_man_33 dX8_man_36 dX8_man_37 dX8_man_39 dX8_man_42 (fun x hx => (ht x hx).elim) (Nat.le_of_ble_eq_true rfl) (Nat.le_of_ble_eq_true rfl) (Nat.le_of_ble_eq_true rfl) (Nat.le_of_ble_eq_true rfl) hlocks (xAt.to (X := fun (E8 : String) (u8 : Int32 × (Nat → Int32) × (Nat → Int32) × (Nat → Int32) × (Nat → Int32)) => X E8 u8.1 u8.2.1 u8.2.2.1 u8.2.2.2.1 u8.2.2.2.2) (w := fun (u : Int32 × (Nat → Int32) × (Nat → Int32) × (Nat → Int32) × (Nat → Int32)) => [(ce_dk ad), (ce_mn ad u.1), ((ad 7), .inl (y 0, 24, .inl u.2.1)), ((ad 9), .inl (y 0, 24, .inl u.2.2.1)), ((ad 11), .inl (y 0, 24, .inl u.2.2.2.1)), ((ad 12), .inl (y 0, 24, .inl u.2.2.2.2))]) (u := (m_size, m_skills, m_barredUpTo, m_gangShip, m_gangHatch)) hP hK hD hS hw) hS.2.2 (Nat.le_of_ble_eq_true rfl) (Nat.le_of_ble_eq_true rfl)
    · have hw := hw.2 hc
      exact nx_throwS (own := RX8) (cls := "java/lang/IllegalArgumentException") (sup := "java/lang/RuntimeException") (names := ["java/lang/Exception"]) (ik := 74) (is := 76) (ic := 78) (i1 := 7) (b1 := Bundle.six) hx hb hl0 (text := "skills are 1 to 15") hown (by decide +kernel) (by decide +kernel) (by decide +kernel) (by decide +kernel) (by decide +kernel) (by decide +kernel) (by decide +kernel) (hts (.classLink RX8 74 "java/lang/IllegalArgumentException") (by decide +kernel)) (hts (.initialized "java/lang/IllegalArgumentException") (by decide +kernel)) (hH.2.1 _ xs_D76) (hH.words xa_IA_xv (fun w hw => hts w (inx_X8_man_IA w hw))) (xh_IA_74) hH.2.2.2.1 hH.2.2.2.2.1 hS (by rw [hml]; exact hl.1) dX8_man_11 dX8_man_14 dX8_man_15 dX8_man_17 dX8_man_20 (fun x hx => (ht x hx).elim) (Nat.le_of_ble_eq_true rfl) (Nat.le_of_ble_eq_true rfl) (Nat.le_of_ble_eq_true rfl) (Nat.le_of_ble_eq_true rfl) hlocks (xAt.to (X := fun (E8 : String) (u8 : Int32 × (Nat → Int32) × (Nat → Int32) × (Nat → Int32) × (Nat → Int32)) => X E8 u8.1 u8.2.1 u8.2.2.1 u8.2.2.2.1 u8.2.2.2.2) (w := fun (u : Int32 × (Nat → Int32) × (Nat → Int32) × (Nat → Int32) × (Nat → Int32)) => [(ce_dk ad), (ce_mn ad u.1), ((ad 7), .inl (y 0, 24, .inl u.2.1)), ((ad 9), .inl (y 0, 24, .inl u.2.2.1)), ((ad 11), .inl (y 0, 24, .inl u.2.2.2.1)), ((ad 12), .inl (y 0, 24, .inl u.2.2.2.2))]) (u := (m_size, m_skills, m_barredUpTo, m_gangShip, m_gangHatch)) hP hK hD hS hw) hS.2.2 (Nat.le_of_ble_eq_true rfl) (Nat.le_of_ble_eq_true rfl)
theorem inw_X8_says_X8 : ∀ w ∈ wsX80, w ∈ wsX8_says := fun _ h => List.mem_cons_of_mem _ (List.mem_append_left _ (List.mem_append_left _ (List.mem_append_right _ h)))
theorem inx_X8_says_NS : ∀ w ∈ (xa_NS).filter goodWord, w ∈ wsX8_says := by
  rw [xa_NS_eq]
  exact fun w h => List.mem_cons_of_mem _ (List.mem_append_left _ (List.mem_append_right _ h))
theorem xh_NS_138 : ∀ w ∈ Cond.classLink RX8 138 "java/util/NoSuchElementException" :: Cond.initialized "java/util/NoSuchElementException" :: xa_NS, vx_ot w = true := by decide +kernel
def wp_Dock_says (ag : Nat → Int32) (p0 : Int32) (Q : Int32 → Prop) (X : String → Prop) : Prop := ((p0 < 0 → X "java/util/NoSuchElementException") ∧ (¬ p0 < 0 → ((p0 < 11 → (vp_in p0 11 ∧ Q (ag p0.toNatClampNeg))) ∧ (¬ p0 < 11 → X "java/util/NoSuchElementException"))))
set_option maxHeartbeats 4000000 in
set_option maxRecDepth 100000 in
theorem c_Dock_says (l : Launch) (hl0 : l.stackTraces = false) (D : va_G) (y E : Nat → Nat) (ad : Nat → Nat) (sz : Nat) (ag : Nat → Int32) (p0 : Int32) {Q : Int32 → Prop} {X : String → Prop} (hw : wp_Dock_says ag p0 Q X) : vx_Met l yX8_says wsX8_says ({ frames := 6, cells := 1, slots := 6, locals := 120 }) (va_Pc [.ref (ad 0), .int p0] (nPre D y E sz [(ce_dk ad), ((ad 3), .inl (y 0, 11, .inl ag))])) (va_Qi (fun (r : Int32) (u : Unit) => Q r ) (mAt D y (va_A [(ce_dk ad), ((ad 3), .inl (y 0, 11, .inl ag))] sz) (fun (u : Unit) => [(ce_dk ad), ((ad 3), .inl (y 0, 11, .inl ag))])) (va_A [(ce_dk ad), ((ad 3), .inl (y 0, 11, .inl ag))] sz)) (vx_X (fun _ => True) (fun (E9 : String) (u9 : Unit) (t9 : State) => (fun (E8 : String) (u8 : Unit) => X E8 ) E9 u9 ∧ mAt D y (va_A [(ce_dk ad), ((ad 3), .inl (y 0, 11, .inl ag))] sz) (fun (u : Unit) => [(ce_dk ad), ((ad 3), .inl (y 0, 11, .inl ag))]) u9 t9) (va_A [(ce_dk ad), ((ad 3), .inl (y 0, 11, .inl ag))] sz)) 1 6 (va_A [(ce_dk ad), ((ad 3), .inl (y 0, 11, .inl ag))] sz) := by
  unfold wp_Dock_says at hw
  refine vx_ofW (cc := cX8_says) (maxL := 2) (ret := some .int) (by decide) rfl ?_
  intro p e s m args below meth c s₁ B hml ht hv
  obtain ⟨rfl, ⟨hsz, hP, hK, hD0, hE⟩, hH⟩ := hv
  have hx := B.exec
  have hb := B.bytes
  have hr := B.returns
  have hts := atoms_spec (ws := wsX8_says) B.pre
  have hown : s.vm.findClass RX8 = some m.cls := findClass_of_methodNamed B.named
  have hlocks := B.notSynchronized
  subst hsz
  have hD := hD0.self (sz := s.heap.size)
  generalize hAe : va_A [(ce_dk ad), ((ad 3), .inl (y 0, 11, .inl ag))] s.heap.size = A at hD hH ⊢
  have hA : ∀ q : Nat, s.heap.size ≤ q → A q := fun q h => by rw [← hAe]; exact Or.inr h
  have hS : va_S A s.heap s.heap [] := va_S.rf
  have hP : va_P D vwCl [(ce_dk ad), ((ad 3), .inl (y 0, 11, .inl ag))] s.heap := hP
  have hl := lv_entry ([.ref (ad 0), .int p0]) (n := 2) (Nat.le_of_ble_eq_true rfl)
  rw [lg_entry_eq]
  generalize (lg_sl ([.ref (ad 0), .int p0]) ++ List.replicate (2 - (lg_sl ([.ref (ad 0), .int p0])).length) Slot.unset).toArray = ls at hl ⊢
  have hl : lv_has ls 2 [(0, .ref (ad 0)), (1, .int p0)] := hl
  refine lv_iload_n hx hb dX8_says_0 rfl (lv_at hl 1 rfl) ?_
  refine lv_if_lt (tgt := 10) hx hb dX8_says_1 (by decide) (fun hc => ?_) (fun hc => ?_)
  · have hw := hw.1 hc
    exact nx_throwS (own := RX8) (cls := "java/util/NoSuchElementException") (sup := "java/lang/RuntimeException") (names := ["java/lang/Exception"]) (ik := 138) (is := 140) (ic := 142) (i1 := 13) (b1 := prog_30_method_4_code) hx hb hl0 (text := "the agreement says 0 to 10") hown (by decide +kernel) (by decide +kernel) (by decide +kernel) (by decide +kernel) (by decide +kernel) (by decide +kernel) (by decide +kernel) (hts (.classLink RX8 138 "java/util/NoSuchElementException") (by decide +kernel)) (hts (.initialized "java/util/NoSuchElementException") (by decide +kernel)) (hH.2.1 _ xs_D140) (hH.words xa_NS_xv (fun w hw => hts w (inx_X8_says_NS w hw))) (xh_NS_138) hH.2.2.2.1 hH.2.2.2.2.1 hS (by rw [hml]; exact hl.1) dX8_says_10 dX8_says_13 dX8_says_14 dX8_says_16 dX8_says_19 (fun x hx => (ht x hx).elim) (Nat.le_of_ble_eq_true rfl) (Nat.le_of_ble_eq_true rfl) (Nat.le_of_ble_eq_true rfl) (Nat.le_of_ble_eq_true rfl) hlocks (xAt.to (X := fun (E8 : String) (u8 : Unit) => X E8 ) (w := fun (u : Unit) => [(ce_dk ad), ((ad 3), .inl (y 0, 11, .inl ag))]) (u := ()) hP hK hD hS hw) hS.2.2 (Nat.le_of_ble_eq_true rfl) (Nat.le_of_ble_eq_true rfl)
  · have hw := hw.2 hc
    refine lv_iload_n hx hb dX8_says_4 rfl (lv_at hl 1 rfl) ?_
    refine lv_bipush (v := 11) hx hb dX8_says_5 (by decide) ?_
    refine lv_icmp_lt (tgt := 20) hx hb dX8_says_7 (by decide) (fun hc => ?_) (fun hc => ?_)
    · have hw := hw.1 hc
      refine lv_aload_n hx hb dX8_says_20 rfl (lv_at hl 0 rfl) ?_
      refine va_get (ci := 10) (v := .ref (ad 3)) (C := RX8) (T := TX8) (N := 8) hx hb hts inw_X8_says_X8 hown hK hP 0 rfl rfl 1 (by decide) (hts (.fieldLink RX8 16 "DockCall" "agreement" "[I") (by decide +kernel)) (fun _ h9 => h9) rfl dX8_says_21 ?_
      refine lv_iload_n hx hb dX8_says_24 rfl (lv_at hl 1 rfl) ?_
      obtain ⟨hi, hw⟩ := hw
      refine va_iald hx hb hK hP 1 0 rfl rfl hi dX8_says_25 ?_
      refine W.widen (k := 1) (n := 6) (by omega) (by omega) ?_
      exact vx_ret (W.iret (v := ag p0.toNatClampNeg) hx hb hr (fun t ht hW => ⟨⟨ag p0.toNatClampNeg, (), rfl, hw, mAt.to hP hK hD ht hW⟩, hS.F ht⟩) hS.2.2 dX8_says_26)
    · have hw := hw.2 hc
      exact nx_throwS (own := RX8) (cls := "java/util/NoSuchElementException") (sup := "java/lang/RuntimeException") (names := ["java/lang/Exception"]) (ik := 138) (is := 140) (ic := 142) (i1 := 13) (b1 := prog_30_method_4_code) hx hb hl0 (text := "the agreement says 0 to 10") hown (by decide +kernel) (by decide +kernel) (by decide +kernel) (by decide +kernel) (by decide +kernel) (by decide +kernel) (by decide +kernel) (hts (.classLink RX8 138 "java/util/NoSuchElementException") (by decide +kernel)) (hts (.initialized "java/util/NoSuchElementException") (by decide +kernel)) (hH.2.1 _ xs_D140) (hH.words xa_NS_xv (fun w hw => hts w (inx_X8_says_NS w hw))) (xh_NS_138) hH.2.2.2.1 hH.2.2.2.2.1 hS (by rw [hml]; exact hl.1) dX8_says_10 dX8_says_13 dX8_says_14 dX8_says_16 dX8_says_19 (fun x hx => (ht x hx).elim) (Nat.le_of_ble_eq_true rfl) (Nat.le_of_ble_eq_true rfl) (Nat.le_of_ble_eq_true rfl) (Nat.le_of_ble_eq_true rfl) hlocks (xAt.to (X := fun (E8 : String) (u8 : Unit) => X E8 ) (w := fun (u : Unit) => [(ce_dk ad), ((ad 3), .inl (y 0, 11, .inl ag))]) (u := ()) hP hK hD hS hw) hS.2.2 (Nat.le_of_ble_eq_true rfl) (Nat.le_of_ble_eq_true rfl)
