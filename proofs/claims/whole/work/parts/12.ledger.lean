theorem inw_X1_has_X1 : ∀ w ∈ wsX10, w ∈ wsX1_has := fun _ h => List.mem_cons_of_mem _ (List.mem_append_right _ h)
def wp_Ledger_has (g_size : Int32) (p0 : Int32) (Q : Int32 → Prop) : Prop := ((p0 < 0 → Q 0) ∧ (¬ p0 < 0 → ((g_size ≤ p0 → Q 0) ∧ (¬ g_size ≤ p0 → Q 1))))
set_option maxHeartbeats 4000000 in
set_option maxRecDepth 100000 in
theorem c_Ledger_has (l : Launch) (D : va_G) (y : Nat → ClassId) (ad : Nat → Nat) (sz : Nat) (g_size : Int32) (g_rulings : Int32) (g_paid : Int32) (p0 : Int32) {Q : Int32 → Prop} (hw : wp_Ledger_has g_size p0 Q) : Met l yX1_has wsX1_has ({ frames := 0, cells := 0, slots := 0, locals := 0 }) (va_Pc [.ref (ad 23), .int p0] (mPre D y sz [(ce_lg ad g_size g_rulings g_paid)])) (va_Qi (fun (r : Int32) (u : Unit) => Q r ) (mAt D y (va_A [(ce_lg ad g_size g_rulings g_paid)] sz) (fun (u : Unit) => [(ce_lg ad g_size g_rulings g_paid)])) (va_A [(ce_lg ad g_size g_rulings g_paid)] sz)) 0 0 (va_A [(ce_lg ad g_size g_rulings g_paid)] sz) := by
  unfold wp_Ledger_has at hw
  refine Met.ofW (cc := cX1_has) (maxL := 2) (ret := some .boolean) (by decide) rfl ?_
  intro p e s m args below meth c s₁ B hml hv
  obtain ⟨rfl, hsz, hP, hK, hD0, hE⟩ := hv
  have hx := B.exec
  have hb := B.bytes
  have hr := B.returns
  have hts := atoms_spec (ws := wsX1_has) B.pre
  have hown : s.vm.findClass RX1 = some m.cls := findClass_of_methodNamed B.named
  have hlocks := B.notSynchronized
  subst hsz
  have hD := hD0.self (sz := s.heap.size)
  generalize hAe : va_A [(ce_lg ad g_size g_rulings g_paid)] s.heap.size = A at hD ⊢
  have hA : ∀ q : Nat, s.heap.size ≤ q → A q := fun q h => by rw [← hAe]; exact Or.inr h
  have hS : va_S A s.heap s.heap [] := va_S.rf
  have hP : va_P D vwCl [(ce_lg ad g_size g_rulings g_paid)] s.heap := hP
  have hl := lv_entry ([.ref (ad 23), .int p0]) (n := 2) (Nat.le_of_ble_eq_true rfl)
  rw [lg_entry_eq]
  generalize (lg_sl ([.ref (ad 23), .int p0]) ++ List.replicate (2 - (lg_sl ([.ref (ad 23), .int p0])).length) Slot.unset).toArray = ls at hl ⊢
  have hl : lv_has ls 2 [(0, .ref (ad 23)), (1, .int p0)] := hl
  refine lv_iload_n hx hb dX1_has_0 rfl (lv_at hl 1 rfl) ?_
  refine lv_if_lt (tgt := 16) hx hb dX1_has_1 (by decide) (fun hc => ?_) (fun hc => ?_)
  · have hw := hw.1 hc
    refine lv_iconst (v := 0) hx hb dX1_has_16 (by decide) ?_
    exact W.zret (v := 0) hx hb hr (by decide) (fun t ht hW => ⟨⟨0, (), rfl, hw, mAt.to hP hK hD ht hW⟩, hS.F ht⟩) hS.2.2 dX1_has_17
  · have hw := hw.2 hc
    refine lv_iload_n hx hb dX1_has_4 rfl (lv_at hl 1 rfl) ?_
    refine lv_aload_n hx hb dX1_has_5 rfl (lv_at hl 0 rfl) ?_
    refine va_get (ci := 3) (v := .int g_size) (C := RX1) (T := TX1) (N := 10) hx hb hts inw_X1_has_X1 hown hK hP 0 rfl rfl 7 (by decide) (hts (.fieldLink RX1 33 "DockCall$Ledger" "size" "I") (by decide +kernel)) (fun _ h9 => h9) rfl dX1_has_6 ?_
    refine lv_icmp_ge (tgt := 16) hx hb dX1_has_9 (by decide) (fun hc => ?_) (fun hc => ?_)
    · have hw := hw.1 hc
      refine lv_iconst (v := 0) hx hb dX1_has_16 (by decide) ?_
      exact W.zret (v := 0) hx hb hr (by decide) (fun t ht hW => ⟨⟨0, (), rfl, hw, mAt.to hP hK hD ht hW⟩, hS.F ht⟩) hS.2.2 dX1_has_17
    · have hw := hw.2 hc
      refine lv_iconst (v := 1) hx hb dX1_has_12 (by decide) ?_
      refine lv_goto (tgt := 17) hx hb dX1_has_13 (by decide) ?_
      exact W.zret (v := 1) hx hb hr (by decide) (fun t ht hW => ⟨⟨1, (), rfl, hw, mAt.to hP hK hD ht hW⟩, hS.F ht⟩) hS.2.2 dX1_has_17
theorem inw_X1_add_X1 : ∀ w ∈ wsX10, w ∈ wsX1_add := fun _ h => List.mem_cons_of_mem _ (List.mem_append_left _ (List.mem_append_right _ h))
def wp_Ledger_add (g_size : Int32) (g_paid : Int32) (g_madeAt : Nat → Int32) (g_card : Nat → Int32) (g_money : Nat → Int32) (g_latestRuling : Nat → Int32) (p0 : Int32) (p1 : Int32) (p2 : Int32) (Q : Int32 → Int32 → (Nat → Int32) → (Nat → Int32) → (Nat → Int32) → (Nat → Int32) → Prop) : Prop := ((g_size < 800 → (vp_in g_size 800 ∧ (vp_in g_size 800 ∧ (vp_in g_size 800 ∧ (vp_in g_size 800 ∧ Q (g_size + 1) (g_paid + p2) (upd g_madeAt g_size.toNatClampNeg p0) (upd g_card g_size.toNatClampNeg p1) (upd g_money g_size.toNatClampNeg p2) (upd g_latestRuling g_size.toNatClampNeg (-1))))))) ∧ (¬ g_size < 800 → Q g_size (g_paid + p2) g_madeAt g_card g_money g_latestRuling))
set_option maxHeartbeats 4000000 in
set_option maxRecDepth 100000 in
theorem c_Ledger_add (l : Launch) (D : va_G) (y : Nat → ClassId) (ad : Nat → Nat) (sz : Nat) (g_size : Int32) (g_rulings : Int32) (g_paid : Int32) (g_madeAt : Nat → Int32) (g_card : Nat → Int32) (g_money : Nat → Int32) (g_latestRuling : Nat → Int32) (p0 : Int32) (p1 : Int32) (p2 : Int32) {Q : Int32 → Int32 → (Nat → Int32) → (Nat → Int32) → (Nat → Int32) → (Nat → Int32) → Prop} (hw : wp_Ledger_add g_size g_paid g_madeAt g_card g_money g_latestRuling p0 p1 p2 Q) : Met l yX1_add wsX1_add ({ frames := 0, cells := 0, slots := 0, locals := 0 }) (va_Pc [.ref (ad 23), .int p0, .int p1, .int p2] (mPre D y sz [(ce_lg ad g_size g_rulings g_paid), ((ad 24), .inl (y 0, 800, .inl g_madeAt)), ((ad 25), .inl (y 0, 800, .inl g_card)), ((ad 26), .inl (y 0, 800, .inl g_money)), ((ad 27), .inl (y 0, 800, .inl g_latestRuling))])) (va_Qv (fun (u : Int32 × Int32 × (Nat → Int32) × (Nat → Int32) × (Nat → Int32) × (Nat → Int32)) => Q u.1 u.2.1 u.2.2.1 u.2.2.2.1 u.2.2.2.2.1 u.2.2.2.2.2) (mAt D y (va_A [(ce_lg ad g_size g_rulings g_paid), ((ad 24), .inl (y 0, 800, .inl g_madeAt)), ((ad 25), .inl (y 0, 800, .inl g_card)), ((ad 26), .inl (y 0, 800, .inl g_money)), ((ad 27), .inl (y 0, 800, .inl g_latestRuling))] sz) (fun (u : Int32 × Int32 × (Nat → Int32) × (Nat → Int32) × (Nat → Int32) × (Nat → Int32)) => [(ce_lg ad u.1 g_rulings u.2.1), ((ad 24), .inl (y 0, 800, .inl u.2.2.1)), ((ad 25), .inl (y 0, 800, .inl u.2.2.2.1)), ((ad 26), .inl (y 0, 800, .inl u.2.2.2.2.1)), ((ad 27), .inl (y 0, 800, .inl u.2.2.2.2.2))])) (va_A [(ce_lg ad g_size g_rulings g_paid), ((ad 24), .inl (y 0, 800, .inl g_madeAt)), ((ad 25), .inl (y 0, 800, .inl g_card)), ((ad 26), .inl (y 0, 800, .inl g_money)), ((ad 27), .inl (y 0, 800, .inl g_latestRuling))] sz)) 0 0 (va_A [(ce_lg ad g_size g_rulings g_paid), ((ad 24), .inl (y 0, 800, .inl g_madeAt)), ((ad 25), .inl (y 0, 800, .inl g_card)), ((ad 26), .inl (y 0, 800, .inl g_money)), ((ad 27), .inl (y 0, 800, .inl g_latestRuling))] sz) := by
  unfold wp_Ledger_add at hw
  refine Met.ofW (cc := cX1_add) (maxL := 4) (ret := none) (by decide) rfl ?_
  intro p e s m args below meth c s₁ B hml hv
  obtain ⟨rfl, hsz, hP, hK, hD0, hE⟩ := hv
  have hx := B.exec
  have hb := B.bytes
  have hr := B.returns
  have hts := atoms_spec (ws := wsX1_add) B.pre
  have hown : s.vm.findClass RX1 = some m.cls := findClass_of_methodNamed B.named
  have hlocks := B.notSynchronized
  subst hsz
  have hD := hD0.self (sz := s.heap.size)
  generalize hAe : va_A [(ce_lg ad g_size g_rulings g_paid), ((ad 24), .inl (y 0, 800, .inl g_madeAt)), ((ad 25), .inl (y 0, 800, .inl g_card)), ((ad 26), .inl (y 0, 800, .inl g_money)), ((ad 27), .inl (y 0, 800, .inl g_latestRuling))] s.heap.size = A at hD ⊢
  have hA : ∀ q : Nat, s.heap.size ≤ q → A q := fun q h => by rw [← hAe]; exact Or.inr h
  have hS : va_S A s.heap s.heap [] := va_S.rf
  have hP : va_P D vwCl [(ce_lg ad g_size g_rulings g_paid), ((ad 24), .inl (y 0, 800, .inl g_madeAt)), ((ad 25), .inl (y 0, 800, .inl g_card)), ((ad 26), .inl (y 0, 800, .inl g_money)), ((ad 27), .inl (y 0, 800, .inl g_latestRuling))] s.heap := hP
  have hl := lv_entry ([.ref (ad 23), .int p0, .int p1, .int p2]) (n := 4) (Nat.le_of_ble_eq_true rfl)
  rw [lg_entry_eq]
  generalize (lg_sl ([.ref (ad 23), .int p0, .int p1, .int p2]) ++ List.replicate (4 - (lg_sl ([.ref (ad 23), .int p0, .int p1, .int p2])).length) Slot.unset).toArray = ls at hl ⊢
  have hl : lv_has ls 4 [(0, .ref (ad 23)), (1, .int p0), (2, .int p1), (3, .int p2)] := hl
  refine lv_aload_n hx hb dX1_add_0 rfl (lv_at hl 0 rfl) ?_
  refine lv_dup hx hb dX1_add_1 rfl ?_
  refine va_get (ci := 3) (v := .int g_paid) (C := RX1) (T := TX1) (N := 10) hx hb hts inw_X1_add_X1 hown hK hP 0 rfl rfl 9 (by decide) (hts (.fieldLink RX1 37 "DockCall$Ledger" "paid" "I") (by decide +kernel)) (fun _ h9 => h9) rfl dX1_add_2 ?_
  refine lv_iload_n hx hb dX1_add_5 rfl (lv_at hl 3 rfl) ?_
  refine lv_iadd hx hb dX1_add_6 ?_
  refine va_put (ci := 3) (v := .int (g_paid + p2)) (ty := .int) (C := RX1) (T := TX1) (N := 10) hx hb hts inw_X1_add_X1 tyX1 tyX1_ok nmX1 hown hK hP hD hS 0 rfl rfl 9 (by decide) (hts (.fieldLink RX1 37 "DockCall$Ledger" "paid" "I") (by decide +kernel)) (fun _ h9 => h9) rfl (by decide +kernel) rfl rfl (Nat.le_of_ble_eq_true rfl) dX1_add_7 (fun H locs hP hD hS => ?_)
  have hP : va_P D vwCl [(ce_lg ad g_size g_rulings (g_paid + p2)), ((ad 24), .inl (y 0, 800, .inl g_madeAt)), ((ad 25), .inl (y 0, 800, .inl g_card)), ((ad 26), .inl (y 0, 800, .inl g_money)), ((ad 27), .inl (y 0, 800, .inl g_latestRuling))] H := hP
  have hD : va_D A [(ce_lg ad g_size g_rulings (g_paid + p2)), ((ad 24), .inl (y 0, 800, .inl g_madeAt)), ((ad 25), .inl (y 0, 800, .inl g_card)), ((ad 26), .inl (y 0, 800, .inl g_money)), ((ad 27), .inl (y 0, 800, .inl g_latestRuling))] := hD
  refine lv_aload_n hx hb dX1_add_10 rfl (lv_at hl 0 rfl) ?_
  refine va_get (ci := 3) (v := .int g_size) (C := RX1) (T := TX1) (N := 10) hx hb hts inw_X1_add_X1 hown hK hP 0 rfl rfl 7 (by decide) (hts (.fieldLink RX1 33 "DockCall$Ledger" "size" "I") (by decide +kernel)) (fun _ h9 => h9) rfl dX1_add_11 ?_
  refine lv_sipush (v := 800) hx hb dX1_add_14 (by decide) ?_
  refine lv_icmp_lt (tgt := 21) hx hb dX1_add_17 (by decide) (fun hc => ?_) (fun hc => ?_)
  · have hw := hw.1 hc
    refine lv_aload_n hx hb dX1_add_21 rfl (lv_at hl 0 rfl) ?_
    refine va_get (ci := 3) (v := .ref (ad 24)) (C := RX1) (T := TX1) (N := 10) hx hb hts inw_X1_add_X1 hown hK hP 0 rfl rfl 0 (by decide) (hts (.fieldLink RX1 9 "DockCall$Ledger" "madeAt" "[I") (by decide +kernel)) (fun _ h9 => h9) rfl dX1_add_22 ?_
    refine lv_aload_n hx hb dX1_add_25 rfl (lv_at hl 0 rfl) ?_
    refine va_get (ci := 3) (v := .int g_size) (C := RX1) (T := TX1) (N := 10) hx hb hts inw_X1_add_X1 hown hK hP 0 rfl rfl 7 (by decide) (hts (.fieldLink RX1 33 "DockCall$Ledger" "size" "I") (by decide +kernel)) (fun _ h9 => h9) rfl dX1_add_26 ?_
    refine lv_iload_n hx hb dX1_add_29 rfl (lv_at hl 1 rfl) ?_
    obtain ⟨hi, hw⟩ := hw
    refine va_iast hx hb hK hP hD hS 1 0 rfl rfl hi dX1_add_30 (fun H locs hP hD hS => ?_)
    have hP : va_P D vwCl [(ce_lg ad g_size g_rulings (g_paid + p2)), ((ad 24), .inl (y 0, 800, .inl (upd g_madeAt g_size.toNatClampNeg p0))), ((ad 25), .inl (y 0, 800, .inl g_card)), ((ad 26), .inl (y 0, 800, .inl g_money)), ((ad 27), .inl (y 0, 800, .inl g_latestRuling))] H := hP
    have hD : va_D A [(ce_lg ad g_size g_rulings (g_paid + p2)), ((ad 24), .inl (y 0, 800, .inl (upd g_madeAt g_size.toNatClampNeg p0))), ((ad 25), .inl (y 0, 800, .inl g_card)), ((ad 26), .inl (y 0, 800, .inl g_money)), ((ad 27), .inl (y 0, 800, .inl g_latestRuling))] := hD
    refine lv_aload_n hx hb dX1_add_31 rfl (lv_at hl 0 rfl) ?_
    refine va_get (ci := 3) (v := .ref (ad 25)) (C := RX1) (T := TX1) (N := 10) hx hb hts inw_X1_add_X1 hown hK hP 0 rfl rfl 1 (by decide) (hts (.fieldLink RX1 15 "DockCall$Ledger" "card" "[I") (by decide +kernel)) (fun _ h9 => h9) rfl dX1_add_32 ?_
    refine lv_aload_n hx hb dX1_add_35 rfl (lv_at hl 0 rfl) ?_
    refine va_get (ci := 3) (v := .int g_size) (C := RX1) (T := TX1) (N := 10) hx hb hts inw_X1_add_X1 hown hK hP 0 rfl rfl 7 (by decide) (hts (.fieldLink RX1 33 "DockCall$Ledger" "size" "I") (by decide +kernel)) (fun _ h9 => h9) rfl dX1_add_36 ?_
    refine lv_iload_n hx hb dX1_add_39 rfl (lv_at hl 2 rfl) ?_
    obtain ⟨hi, hw⟩ := hw
    refine va_iast hx hb hK hP hD hS 2 0 rfl rfl hi dX1_add_40 (fun H locs hP hD hS => ?_)
    have hP : va_P D vwCl [(ce_lg ad g_size g_rulings (g_paid + p2)), ((ad 24), .inl (y 0, 800, .inl (upd g_madeAt g_size.toNatClampNeg p0))), ((ad 25), .inl (y 0, 800, .inl (upd g_card g_size.toNatClampNeg p1))), ((ad 26), .inl (y 0, 800, .inl g_money)), ((ad 27), .inl (y 0, 800, .inl g_latestRuling))] H := hP
    have hD : va_D A [(ce_lg ad g_size g_rulings (g_paid + p2)), ((ad 24), .inl (y 0, 800, .inl (upd g_madeAt g_size.toNatClampNeg p0))), ((ad 25), .inl (y 0, 800, .inl (upd g_card g_size.toNatClampNeg p1))), ((ad 26), .inl (y 0, 800, .inl g_money)), ((ad 27), .inl (y 0, 800, .inl g_latestRuling))] := hD
    refine lv_aload_n hx hb dX1_add_41 rfl (lv_at hl 0 rfl) ?_
    refine va_get (ci := 3) (v := .ref (ad 26)) (C := RX1) (T := TX1) (N := 10) hx hb hts inw_X1_add_X1 hown hK hP 0 rfl rfl 2 (by decide) (hts (.fieldLink RX1 18 "DockCall$Ledger" "money" "[I") (by decide +kernel)) (fun _ h9 => h9) rfl dX1_add_42 ?_
    refine lv_aload_n hx hb dX1_add_45 rfl (lv_at hl 0 rfl) ?_
    refine va_get (ci := 3) (v := .int g_size) (C := RX1) (T := TX1) (N := 10) hx hb hts inw_X1_add_X1 hown hK hP 0 rfl rfl 7 (by decide) (hts (.fieldLink RX1 33 "DockCall$Ledger" "size" "I") (by decide +kernel)) (fun _ h9 => h9) rfl dX1_add_46 ?_
    refine lv_iload_n hx hb dX1_add_49 rfl (lv_at hl 3 rfl) ?_
    obtain ⟨hi, hw⟩ := hw
    refine va_iast hx hb hK hP hD hS 3 0 rfl rfl hi dX1_add_50 (fun H locs hP hD hS => ?_)
    have hP : va_P D vwCl [(ce_lg ad g_size g_rulings (g_paid + p2)), ((ad 24), .inl (y 0, 800, .inl (upd g_madeAt g_size.toNatClampNeg p0))), ((ad 25), .inl (y 0, 800, .inl (upd g_card g_size.toNatClampNeg p1))), ((ad 26), .inl (y 0, 800, .inl (upd g_money g_size.toNatClampNeg p2))), ((ad 27), .inl (y 0, 800, .inl g_latestRuling))] H := hP
    have hD : va_D A [(ce_lg ad g_size g_rulings (g_paid + p2)), ((ad 24), .inl (y 0, 800, .inl (upd g_madeAt g_size.toNatClampNeg p0))), ((ad 25), .inl (y 0, 800, .inl (upd g_card g_size.toNatClampNeg p1))), ((ad 26), .inl (y 0, 800, .inl (upd g_money g_size.toNatClampNeg p2))), ((ad 27), .inl (y 0, 800, .inl g_latestRuling))] := hD
    refine lv_aload_n hx hb dX1_add_51 rfl (lv_at hl 0 rfl) ?_
    refine va_get (ci := 3) (v := .ref (ad 27)) (C := RX1) (T := TX1) (N := 10) hx hb hts inw_X1_add_X1 hown hK hP 0 rfl rfl 3 (by decide) (hts (.fieldLink RX1 21 "DockCall$Ledger" "latestRuling" "[I") (by decide +kernel)) (fun _ h9 => h9) rfl dX1_add_52 ?_
    refine lv_aload_n hx hb dX1_add_55 rfl (lv_at hl 0 rfl) ?_
    refine va_get (ci := 3) (v := .int g_size) (C := RX1) (T := TX1) (N := 10) hx hb hts inw_X1_add_X1 hown hK hP 0 rfl rfl 7 (by decide) (hts (.fieldLink RX1 33 "DockCall$Ledger" "size" "I") (by decide +kernel)) (fun _ h9 => h9) rfl dX1_add_56 ?_
    refine lv_iconst (v := (-1)) hx hb dX1_add_59 (by decide) ?_
    obtain ⟨hi, hw⟩ := hw
    refine va_iast hx hb hK hP hD hS 4 0 rfl rfl hi dX1_add_60 (fun H locs hP hD hS => ?_)
    have hP : va_P D vwCl [(ce_lg ad g_size g_rulings (g_paid + p2)), ((ad 24), .inl (y 0, 800, .inl (upd g_madeAt g_size.toNatClampNeg p0))), ((ad 25), .inl (y 0, 800, .inl (upd g_card g_size.toNatClampNeg p1))), ((ad 26), .inl (y 0, 800, .inl (upd g_money g_size.toNatClampNeg p2))), ((ad 27), .inl (y 0, 800, .inl (upd g_latestRuling g_size.toNatClampNeg (-1))))] H := hP
    have hD : va_D A [(ce_lg ad g_size g_rulings (g_paid + p2)), ((ad 24), .inl (y 0, 800, .inl (upd g_madeAt g_size.toNatClampNeg p0))), ((ad 25), .inl (y 0, 800, .inl (upd g_card g_size.toNatClampNeg p1))), ((ad 26), .inl (y 0, 800, .inl (upd g_money g_size.toNatClampNeg p2))), ((ad 27), .inl (y 0, 800, .inl (upd g_latestRuling g_size.toNatClampNeg (-1))))] := hD
    refine lv_aload_n hx hb dX1_add_61 rfl (lv_at hl 0 rfl) ?_
    refine lv_dup hx hb dX1_add_62 rfl ?_
    refine va_get (ci := 3) (v := .int g_size) (C := RX1) (T := TX1) (N := 10) hx hb hts inw_X1_add_X1 hown hK hP 0 rfl rfl 7 (by decide) (hts (.fieldLink RX1 33 "DockCall$Ledger" "size" "I") (by decide +kernel)) (fun _ h9 => h9) rfl dX1_add_63 ?_
    refine lv_iconst (v := 1) hx hb dX1_add_66 (by decide) ?_
    refine lv_iadd hx hb dX1_add_67 ?_
    refine va_put (ci := 3) (v := .int (g_size + 1)) (ty := .int) (C := RX1) (T := TX1) (N := 10) hx hb hts inw_X1_add_X1 tyX1 tyX1_ok nmX1 hown hK hP hD hS 0 rfl rfl 7 (by decide) (hts (.fieldLink RX1 33 "DockCall$Ledger" "size" "I") (by decide +kernel)) (fun _ h9 => h9) rfl (by decide +kernel) rfl rfl (Nat.le_of_ble_eq_true rfl) dX1_add_68 (fun H locs hP hD hS => ?_)
    have hP : va_P D vwCl [(ce_lg ad (g_size + 1) g_rulings (g_paid + p2)), ((ad 24), .inl (y 0, 800, .inl (upd g_madeAt g_size.toNatClampNeg p0))), ((ad 25), .inl (y 0, 800, .inl (upd g_card g_size.toNatClampNeg p1))), ((ad 26), .inl (y 0, 800, .inl (upd g_money g_size.toNatClampNeg p2))), ((ad 27), .inl (y 0, 800, .inl (upd g_latestRuling g_size.toNatClampNeg (-1))))] H := hP
    have hD : va_D A [(ce_lg ad (g_size + 1) g_rulings (g_paid + p2)), ((ad 24), .inl (y 0, 800, .inl (upd g_madeAt g_size.toNatClampNeg p0))), ((ad 25), .inl (y 0, 800, .inl (upd g_card g_size.toNatClampNeg p1))), ((ad 26), .inl (y 0, 800, .inl (upd g_money g_size.toNatClampNeg p2))), ((ad 27), .inl (y 0, 800, .inl (upd g_latestRuling g_size.toNatClampNeg (-1))))] := hD
    exact W.vret hx hb hr (fun t ht hW => ⟨⟨(g_size + 1, g_paid + p2, upd g_madeAt g_size.toNatClampNeg p0, upd g_card g_size.toNatClampNeg p1, upd g_money g_size.toNatClampNeg p2, upd g_latestRuling g_size.toNatClampNeg (-1)), rfl, hw, mAt.to hP hK hD ht hW⟩, hS.F ht⟩) hS.2.2 dX1_add_71
  · have hw := hw.2 hc
    exact W.vret hx hb hr (fun t ht hW => ⟨⟨(g_size, g_paid + p2, g_madeAt, g_card, g_money, g_latestRuling), rfl, hw, mAt.to hP hK hD ht hW⟩, hS.F ht⟩) hS.2.2 dX1_add_20
theorem inw_X1_addRuling_X1 : ∀ w ∈ wsX10, w ∈ wsX1_addRuling := fun _ h => List.mem_cons_of_mem _ (List.mem_append_left _ (List.mem_append_right _ h))
def wp_Ledger_addRuling (g_rulings : Int32) (g_latestRuling : Nat → Int32) (g_rulingFrom : Nat → Int32) (g_rulingMoney : Nat → Int32) (g_rulingBefore : Nat → Int32) (p0 : Int32) (p1 : Int32) (p2 : Int32) (Q : Int32 → Int32 → (Nat → Int32) → (Nat → Int32) → (Nat → Int32) → (Nat → Int32) → Prop) : Prop := ((g_rulings < 100 → (vp_in g_rulings 100 ∧ (vp_in g_rulings 100 ∧ (vp_in p0 800 ∧ (vp_in g_rulings 100 ∧ (vp_in p0 800 ∧ Q 1 (g_rulings + 1) (upd g_latestRuling p0.toNatClampNeg g_rulings) (upd g_rulingFrom g_rulings.toNatClampNeg p2) (upd g_rulingMoney g_rulings.toNatClampNeg p1) (upd g_rulingBefore g_rulings.toNatClampNeg (g_latestRuling p0.toNatClampNeg)))))))) ∧ (¬ g_rulings < 100 → Q 0 g_rulings g_latestRuling g_rulingFrom g_rulingMoney g_rulingBefore))
set_option maxHeartbeats 4000000 in
set_option maxRecDepth 100000 in
theorem c_Ledger_addRuling (l : Launch) (D : va_G) (y : Nat → ClassId) (ad : Nat → Nat) (sz : Nat) (g_size : Int32) (g_rulings : Int32) (g_paid : Int32) (g_latestRuling : Nat → Int32) (g_rulingFrom : Nat → Int32) (g_rulingMoney : Nat → Int32) (g_rulingBefore : Nat → Int32) (p0 : Int32) (p1 : Int32) (p2 : Int32) {Q : Int32 → Int32 → (Nat → Int32) → (Nat → Int32) → (Nat → Int32) → (Nat → Int32) → Prop} (hw : wp_Ledger_addRuling g_rulings g_latestRuling g_rulingFrom g_rulingMoney g_rulingBefore p0 p1 p2 Q) : Met l yX1_addRuling wsX1_addRuling ({ frames := 0, cells := 0, slots := 0, locals := 0 }) (va_Pc [.ref (ad 23), .int p0, .int p1, .int p2] (mPre D y sz [(ce_lg ad g_size g_rulings g_paid), ((ad 27), .inl (y 0, 800, .inl g_latestRuling)), ((ad 28), .inl (y 0, 100, .inl g_rulingFrom)), ((ad 29), .inl (y 0, 100, .inl g_rulingMoney)), ((ad 30), .inl (y 0, 100, .inl g_rulingBefore))])) (va_Qi (fun (r : Int32) (u : Int32 × (Nat → Int32) × (Nat → Int32) × (Nat → Int32) × (Nat → Int32)) => Q r u.1 u.2.1 u.2.2.1 u.2.2.2.1 u.2.2.2.2) (mAt D y (va_A [(ce_lg ad g_size g_rulings g_paid), ((ad 27), .inl (y 0, 800, .inl g_latestRuling)), ((ad 28), .inl (y 0, 100, .inl g_rulingFrom)), ((ad 29), .inl (y 0, 100, .inl g_rulingMoney)), ((ad 30), .inl (y 0, 100, .inl g_rulingBefore))] sz) (fun (u : Int32 × (Nat → Int32) × (Nat → Int32) × (Nat → Int32) × (Nat → Int32)) => [(ce_lg ad g_size u.1 g_paid), ((ad 27), .inl (y 0, 800, .inl u.2.1)), ((ad 28), .inl (y 0, 100, .inl u.2.2.1)), ((ad 29), .inl (y 0, 100, .inl u.2.2.2.1)), ((ad 30), .inl (y 0, 100, .inl u.2.2.2.2))])) (va_A [(ce_lg ad g_size g_rulings g_paid), ((ad 27), .inl (y 0, 800, .inl g_latestRuling)), ((ad 28), .inl (y 0, 100, .inl g_rulingFrom)), ((ad 29), .inl (y 0, 100, .inl g_rulingMoney)), ((ad 30), .inl (y 0, 100, .inl g_rulingBefore))] sz)) 0 0 (va_A [(ce_lg ad g_size g_rulings g_paid), ((ad 27), .inl (y 0, 800, .inl g_latestRuling)), ((ad 28), .inl (y 0, 100, .inl g_rulingFrom)), ((ad 29), .inl (y 0, 100, .inl g_rulingMoney)), ((ad 30), .inl (y 0, 100, .inl g_rulingBefore))] sz) := by
  unfold wp_Ledger_addRuling at hw
  refine Met.ofW (cc := cX1_addRuling) (maxL := 4) (ret := some .boolean) (by decide) rfl ?_
  intro p e s m args below meth c s₁ B hml hv
  obtain ⟨rfl, hsz, hP, hK, hD0, hE⟩ := hv
  have hx := B.exec
  have hb := B.bytes
  have hr := B.returns
  have hts := atoms_spec (ws := wsX1_addRuling) B.pre
  have hown : s.vm.findClass RX1 = some m.cls := findClass_of_methodNamed B.named
  have hlocks := B.notSynchronized
  subst hsz
  have hD := hD0.self (sz := s.heap.size)
  generalize hAe : va_A [(ce_lg ad g_size g_rulings g_paid), ((ad 27), .inl (y 0, 800, .inl g_latestRuling)), ((ad 28), .inl (y 0, 100, .inl g_rulingFrom)), ((ad 29), .inl (y 0, 100, .inl g_rulingMoney)), ((ad 30), .inl (y 0, 100, .inl g_rulingBefore))] s.heap.size = A at hD ⊢
  have hA : ∀ q : Nat, s.heap.size ≤ q → A q := fun q h => by rw [← hAe]; exact Or.inr h
  have hS : va_S A s.heap s.heap [] := va_S.rf
  have hP : va_P D vwCl [(ce_lg ad g_size g_rulings g_paid), ((ad 27), .inl (y 0, 800, .inl g_latestRuling)), ((ad 28), .inl (y 0, 100, .inl g_rulingFrom)), ((ad 29), .inl (y 0, 100, .inl g_rulingMoney)), ((ad 30), .inl (y 0, 100, .inl g_rulingBefore))] s.heap := hP
  have hl := lv_entry ([.ref (ad 23), .int p0, .int p1, .int p2]) (n := 4) (Nat.le_of_ble_eq_true rfl)
  rw [lg_entry_eq]
  generalize (lg_sl ([.ref (ad 23), .int p0, .int p1, .int p2]) ++ List.replicate (4 - (lg_sl ([.ref (ad 23), .int p0, .int p1, .int p2])).length) Slot.unset).toArray = ls at hl ⊢
  have hl : lv_has ls 4 [(0, .ref (ad 23)), (1, .int p0), (2, .int p1), (3, .int p2)] := hl
  refine lv_aload_n hx hb dX1_addRuling_0 rfl (lv_at hl 0 rfl) ?_
  refine va_get (ci := 3) (v := .int g_rulings) (C := RX1) (T := TX1) (N := 10) hx hb hts inw_X1_addRuling_X1 hown hK hP 0 rfl rfl 8 (by decide) (hts (.fieldLink RX1 40 "DockCall$Ledger" "rulings" "I") (by decide +kernel)) (fun _ h9 => h9) rfl dX1_addRuling_1 ?_
  refine lv_bipush (v := 100) hx hb dX1_addRuling_4 (by decide) ?_
  refine lv_icmp_lt (tgt := 11) hx hb dX1_addRuling_6 (by decide) (fun hc => ?_) (fun hc => ?_)
  · have hw := hw.1 hc
    refine lv_aload_n hx hb dX1_addRuling_11 rfl (lv_at hl 0 rfl) ?_
    refine va_get (ci := 3) (v := .ref (ad 28)) (C := RX1) (T := TX1) (N := 10) hx hb hts inw_X1_addRuling_X1 hown hK hP 0 rfl rfl 4 (by decide) (hts (.fieldLink RX1 24 "DockCall$Ledger" "rulingFrom" "[I") (by decide +kernel)) (fun _ h9 => h9) rfl dX1_addRuling_12 ?_
    refine lv_aload_n hx hb dX1_addRuling_15 rfl (lv_at hl 0 rfl) ?_
    refine va_get (ci := 3) (v := .int g_rulings) (C := RX1) (T := TX1) (N := 10) hx hb hts inw_X1_addRuling_X1 hown hK hP 0 rfl rfl 8 (by decide) (hts (.fieldLink RX1 40 "DockCall$Ledger" "rulings" "I") (by decide +kernel)) (fun _ h9 => h9) rfl dX1_addRuling_16 ?_
    refine lv_iload_n hx hb dX1_addRuling_19 rfl (lv_at hl 3 rfl) ?_
    obtain ⟨hi, hw⟩ := hw
    refine va_iast hx hb hK hP hD hS 2 0 rfl rfl hi dX1_addRuling_20 (fun H locs hP hD hS => ?_)
    have hP : va_P D vwCl [(ce_lg ad g_size g_rulings g_paid), ((ad 27), .inl (y 0, 800, .inl g_latestRuling)), ((ad 28), .inl (y 0, 100, .inl (upd g_rulingFrom g_rulings.toNatClampNeg p2))), ((ad 29), .inl (y 0, 100, .inl g_rulingMoney)), ((ad 30), .inl (y 0, 100, .inl g_rulingBefore))] H := hP
    have hD : va_D A [(ce_lg ad g_size g_rulings g_paid), ((ad 27), .inl (y 0, 800, .inl g_latestRuling)), ((ad 28), .inl (y 0, 100, .inl (upd g_rulingFrom g_rulings.toNatClampNeg p2))), ((ad 29), .inl (y 0, 100, .inl g_rulingMoney)), ((ad 30), .inl (y 0, 100, .inl g_rulingBefore))] := hD
    refine lv_aload_n hx hb dX1_addRuling_21 rfl (lv_at hl 0 rfl) ?_
    refine va_get (ci := 3) (v := .ref (ad 29)) (C := RX1) (T := TX1) (N := 10) hx hb hts inw_X1_addRuling_X1 hown hK hP 0 rfl rfl 5 (by decide) (hts (.fieldLink RX1 27 "DockCall$Ledger" "rulingMoney" "[I") (by decide +kernel)) (fun _ h9 => h9) rfl dX1_addRuling_22 ?_
    refine lv_aload_n hx hb dX1_addRuling_25 rfl (lv_at hl 0 rfl) ?_
    refine va_get (ci := 3) (v := .int g_rulings) (C := RX1) (T := TX1) (N := 10) hx hb hts inw_X1_addRuling_X1 hown hK hP 0 rfl rfl 8 (by decide) (hts (.fieldLink RX1 40 "DockCall$Ledger" "rulings" "I") (by decide +kernel)) (fun _ h9 => h9) rfl dX1_addRuling_26 ?_
    refine lv_iload_n hx hb dX1_addRuling_29 rfl (lv_at hl 2 rfl) ?_
    obtain ⟨hi, hw⟩ := hw
    refine va_iast hx hb hK hP hD hS 3 0 rfl rfl hi dX1_addRuling_30 (fun H locs hP hD hS => ?_)
    have hP : va_P D vwCl [(ce_lg ad g_size g_rulings g_paid), ((ad 27), .inl (y 0, 800, .inl g_latestRuling)), ((ad 28), .inl (y 0, 100, .inl (upd g_rulingFrom g_rulings.toNatClampNeg p2))), ((ad 29), .inl (y 0, 100, .inl (upd g_rulingMoney g_rulings.toNatClampNeg p1))), ((ad 30), .inl (y 0, 100, .inl g_rulingBefore))] H := hP
    have hD : va_D A [(ce_lg ad g_size g_rulings g_paid), ((ad 27), .inl (y 0, 800, .inl g_latestRuling)), ((ad 28), .inl (y 0, 100, .inl (upd g_rulingFrom g_rulings.toNatClampNeg p2))), ((ad 29), .inl (y 0, 100, .inl (upd g_rulingMoney g_rulings.toNatClampNeg p1))), ((ad 30), .inl (y 0, 100, .inl g_rulingBefore))] := hD
    refine lv_aload_n hx hb dX1_addRuling_31 rfl (lv_at hl 0 rfl) ?_
    refine va_get (ci := 3) (v := .ref (ad 30)) (C := RX1) (T := TX1) (N := 10) hx hb hts inw_X1_addRuling_X1 hown hK hP 0 rfl rfl 6 (by decide) (hts (.fieldLink RX1 30 "DockCall$Ledger" "rulingBefore" "[I") (by decide +kernel)) (fun _ h9 => h9) rfl dX1_addRuling_32 ?_
    refine lv_aload_n hx hb dX1_addRuling_35 rfl (lv_at hl 0 rfl) ?_
    refine va_get (ci := 3) (v := .int g_rulings) (C := RX1) (T := TX1) (N := 10) hx hb hts inw_X1_addRuling_X1 hown hK hP 0 rfl rfl 8 (by decide) (hts (.fieldLink RX1 40 "DockCall$Ledger" "rulings" "I") (by decide +kernel)) (fun _ h9 => h9) rfl dX1_addRuling_36 ?_
    refine lv_aload_n hx hb dX1_addRuling_39 rfl (lv_at hl 0 rfl) ?_
    refine va_get (ci := 3) (v := .ref (ad 27)) (C := RX1) (T := TX1) (N := 10) hx hb hts inw_X1_addRuling_X1 hown hK hP 0 rfl rfl 3 (by decide) (hts (.fieldLink RX1 21 "DockCall$Ledger" "latestRuling" "[I") (by decide +kernel)) (fun _ h9 => h9) rfl dX1_addRuling_40 ?_
    refine lv_iload_n hx hb dX1_addRuling_43 rfl (lv_at hl 1 rfl) ?_
    obtain ⟨hi, hw⟩ := hw
    refine va_iald hx hb hK hP 1 0 rfl rfl hi dX1_addRuling_44 ?_
    obtain ⟨hi, hw⟩ := hw
    refine va_iast hx hb hK hP hD hS 4 0 rfl rfl hi dX1_addRuling_45 (fun H locs hP hD hS => ?_)
    have hP : va_P D vwCl [(ce_lg ad g_size g_rulings g_paid), ((ad 27), .inl (y 0, 800, .inl g_latestRuling)), ((ad 28), .inl (y 0, 100, .inl (upd g_rulingFrom g_rulings.toNatClampNeg p2))), ((ad 29), .inl (y 0, 100, .inl (upd g_rulingMoney g_rulings.toNatClampNeg p1))), ((ad 30), .inl (y 0, 100, .inl (upd g_rulingBefore g_rulings.toNatClampNeg (g_latestRuling p0.toNatClampNeg))))] H := hP
    have hD : va_D A [(ce_lg ad g_size g_rulings g_paid), ((ad 27), .inl (y 0, 800, .inl g_latestRuling)), ((ad 28), .inl (y 0, 100, .inl (upd g_rulingFrom g_rulings.toNatClampNeg p2))), ((ad 29), .inl (y 0, 100, .inl (upd g_rulingMoney g_rulings.toNatClampNeg p1))), ((ad 30), .inl (y 0, 100, .inl (upd g_rulingBefore g_rulings.toNatClampNeg (g_latestRuling p0.toNatClampNeg))))] := hD
    refine lv_aload_n hx hb dX1_addRuling_46 rfl (lv_at hl 0 rfl) ?_
    refine va_get (ci := 3) (v := .ref (ad 27)) (C := RX1) (T := TX1) (N := 10) hx hb hts inw_X1_addRuling_X1 hown hK hP 0 rfl rfl 3 (by decide) (hts (.fieldLink RX1 21 "DockCall$Ledger" "latestRuling" "[I") (by decide +kernel)) (fun _ h9 => h9) rfl dX1_addRuling_47 ?_
    refine lv_iload_n hx hb dX1_addRuling_50 rfl (lv_at hl 1 rfl) ?_
    refine lv_aload_n hx hb dX1_addRuling_51 rfl (lv_at hl 0 rfl) ?_
    refine va_get (ci := 3) (v := .int g_rulings) (C := RX1) (T := TX1) (N := 10) hx hb hts inw_X1_addRuling_X1 hown hK hP 0 rfl rfl 8 (by decide) (hts (.fieldLink RX1 40 "DockCall$Ledger" "rulings" "I") (by decide +kernel)) (fun _ h9 => h9) rfl dX1_addRuling_52 ?_
    obtain ⟨hi, hw⟩ := hw
    refine va_iast hx hb hK hP hD hS 1 0 rfl rfl hi dX1_addRuling_55 (fun H locs hP hD hS => ?_)
    have hP : va_P D vwCl [(ce_lg ad g_size g_rulings g_paid), ((ad 27), .inl (y 0, 800, .inl (upd g_latestRuling p0.toNatClampNeg g_rulings))), ((ad 28), .inl (y 0, 100, .inl (upd g_rulingFrom g_rulings.toNatClampNeg p2))), ((ad 29), .inl (y 0, 100, .inl (upd g_rulingMoney g_rulings.toNatClampNeg p1))), ((ad 30), .inl (y 0, 100, .inl (upd g_rulingBefore g_rulings.toNatClampNeg (g_latestRuling p0.toNatClampNeg))))] H := hP
    have hD : va_D A [(ce_lg ad g_size g_rulings g_paid), ((ad 27), .inl (y 0, 800, .inl (upd g_latestRuling p0.toNatClampNeg g_rulings))), ((ad 28), .inl (y 0, 100, .inl (upd g_rulingFrom g_rulings.toNatClampNeg p2))), ((ad 29), .inl (y 0, 100, .inl (upd g_rulingMoney g_rulings.toNatClampNeg p1))), ((ad 30), .inl (y 0, 100, .inl (upd g_rulingBefore g_rulings.toNatClampNeg (g_latestRuling p0.toNatClampNeg))))] := hD
    refine lv_aload_n hx hb dX1_addRuling_56 rfl (lv_at hl 0 rfl) ?_
    refine lv_dup hx hb dX1_addRuling_57 rfl ?_
    refine va_get (ci := 3) (v := .int g_rulings) (C := RX1) (T := TX1) (N := 10) hx hb hts inw_X1_addRuling_X1 hown hK hP 0 rfl rfl 8 (by decide) (hts (.fieldLink RX1 40 "DockCall$Ledger" "rulings" "I") (by decide +kernel)) (fun _ h9 => h9) rfl dX1_addRuling_58 ?_
    refine lv_iconst (v := 1) hx hb dX1_addRuling_61 (by decide) ?_
    refine lv_iadd hx hb dX1_addRuling_62 ?_
    refine va_put (ci := 3) (v := .int (g_rulings + 1)) (ty := .int) (C := RX1) (T := TX1) (N := 10) hx hb hts inw_X1_addRuling_X1 tyX1 tyX1_ok nmX1 hown hK hP hD hS 0 rfl rfl 8 (by decide) (hts (.fieldLink RX1 40 "DockCall$Ledger" "rulings" "I") (by decide +kernel)) (fun _ h9 => h9) rfl (by decide +kernel) rfl rfl (Nat.le_of_ble_eq_true rfl) dX1_addRuling_63 (fun H locs hP hD hS => ?_)
    have hP : va_P D vwCl [(ce_lg ad g_size (g_rulings + 1) g_paid), ((ad 27), .inl (y 0, 800, .inl (upd g_latestRuling p0.toNatClampNeg g_rulings))), ((ad 28), .inl (y 0, 100, .inl (upd g_rulingFrom g_rulings.toNatClampNeg p2))), ((ad 29), .inl (y 0, 100, .inl (upd g_rulingMoney g_rulings.toNatClampNeg p1))), ((ad 30), .inl (y 0, 100, .inl (upd g_rulingBefore g_rulings.toNatClampNeg (g_latestRuling p0.toNatClampNeg))))] H := hP
    have hD : va_D A [(ce_lg ad g_size (g_rulings + 1) g_paid), ((ad 27), .inl (y 0, 800, .inl (upd g_latestRuling p0.toNatClampNeg g_rulings))), ((ad 28), .inl (y 0, 100, .inl (upd g_rulingFrom g_rulings.toNatClampNeg p2))), ((ad 29), .inl (y 0, 100, .inl (upd g_rulingMoney g_rulings.toNatClampNeg p1))), ((ad 30), .inl (y 0, 100, .inl (upd g_rulingBefore g_rulings.toNatClampNeg (g_latestRuling p0.toNatClampNeg))))] := hD
    refine lv_iconst (v := 1) hx hb dX1_addRuling_66 (by decide) ?_
    exact W.zret (v := 1) hx hb hr (by decide) (fun t ht hW => ⟨⟨1, (g_rulings + 1, upd g_latestRuling p0.toNatClampNeg g_rulings, upd g_rulingFrom g_rulings.toNatClampNeg p2, upd g_rulingMoney g_rulings.toNatClampNeg p1, upd g_rulingBefore g_rulings.toNatClampNeg (g_latestRuling p0.toNatClampNeg)), rfl, hw, mAt.to hP hK hD ht hW⟩, hS.F ht⟩) hS.2.2 dX1_addRuling_67
  · have hw := hw.2 hc
    refine lv_iconst (v := 0) hx hb dX1_addRuling_9 (by decide) ?_
    exact W.zret (v := 0) hx hb hr (by decide) (fun t ht hW => ⟨⟨0, (g_rulings, g_latestRuling, g_rulingFrom, g_rulingMoney, g_rulingBefore), rfl, hw, mAt.to hP hK hD ht hW⟩, hS.F ht⟩) hS.2.2 dX1_addRuling_10
theorem inw_X1_knownMoney_X1 : ∀ w ∈ wsX10, w ∈ wsX1_knownMoney := fun _ h => List.mem_cons_of_mem _ (List.mem_append_left _ (List.mem_append_right _ h))
def wp_Ledger_knownMoney_h10 (v1 : Int32) (v2 : Int32) (g_rulings : Int32) (g_money : Nat → Int32) (g_rulingFrom : Nat → Int32) (g_rulingMoney : Nat → Int32) (g_rulingBefore : Nat → Int32)  (Q : Int32 → Prop) : Nat → Int32 → Int32 → Prop
  | 0, _, _ => False
  | n + 1, v3, v4 => ((g_rulings ≤ v4 → (vp_in v1 800 ∧ Q (g_money v1.toNatClampNeg))) ∧ (¬ g_rulings ≤ v4 → ((v3 < 0 → (vp_in v1 800 ∧ Q (g_money v1.toNatClampNeg))) ∧ (¬ v3 < 0 → ((g_rulings ≤ v3 → (vp_in v1 800 ∧ Q (g_money v1.toNatClampNeg))) ∧ (¬ g_rulings ≤ v3 → (vp_in v3 100 ∧ ((v2 < g_rulingFrom v3.toNatClampNeg → (vp_in v3 100 ∧ wp_Ledger_knownMoney_h10 v1 v2 g_rulings g_money g_rulingFrom g_rulingMoney g_rulingBefore Q n (g_rulingBefore v3.toNatClampNeg) (v4 + 1))) ∧ (¬ v2 < g_rulingFrom v3.toNatClampNeg → (vp_in v3 100 ∧ Q (g_rulingMoney v3.toNatClampNeg)))))))))))
def wp_Ledger_knownMoney (g_rulings : Int32) (g_money : Nat → Int32) (g_latestRuling : Nat → Int32) (g_rulingFrom : Nat → Int32) (g_rulingMoney : Nat → Int32) (g_rulingBefore : Nat → Int32) (p0 : Int32) (p1 : Int32) (Q : Int32 → Prop) : Prop := (vp_in p0 800 ∧ (∃ n' : Nat, wp_Ledger_knownMoney_h10 p0 p1 g_rulings g_money g_rulingFrom g_rulingMoney g_rulingBefore Q n' (g_latestRuling p0.toNatClampNeg) 0))
set_option maxHeartbeats 4000000 in
set_option maxRecDepth 100000 in
theorem c_Ledger_knownMoney_h10 {p : Program} {l : Launch} {e : Env} {s : State} {m : MethodId} {args : Array Value} {below : List Frame} {meth : Method} {c : Code} {D : va_G} {y : Nat → ClassId} {ad : Nat → Nat} {A : Nat → Prop} (hx : p.tables.exec = Jvm.exec) (hb : c.code = cX1_knownMoney) (hr : meth.sig.returnType = some .int) (hml : c.maxLocals = 5) (hown : s.vm.findClass RX1 = some m.cls) (hts : ∀ w ∈ wsX1_knownMoney, w.before args s = true) (hlocks : meth.locks = false) (hK : va_K D vwCl (TY y) s) (hE : EV s) (hA : ∀ q, s.heap.size ≤ q → A q) {v1 : Int32} {v2 : Int32} {g_rulings : Int32} {g_money : Nat → Int32} {g_latestRuling : Nat → Int32} {g_rulingFrom : Nat → Int32} {g_rulingMoney : Nat → Int32} {g_rulingBefore : Nat → Int32} {g_size : Int32} {g_paid : Int32}  {Q : Int32 → Prop}  : ∀ (n : Nat) (v3 : Int32) (v4 : Int32), wp_Ledger_knownMoney_h10 v1 v2 g_rulings g_money g_rulingFrom g_rulingMoney g_rulingBefore Q n v3 v4 → ∀ (H : Heap) (locs : List Loc) (ls : Array Slot), va_P D vwCl [(ce_lg ad g_size g_rulings g_paid), ((ad 26), .inl (y 0, 800, .inl g_money)), ((ad 27), .inl (y 0, 800, .inl g_latestRuling)), ((ad 28), .inl (y 0, 100, .inl g_rulingFrom)), ((ad 29), .inl (y 0, 100, .inl g_rulingMoney)), ((ad 30), .inl (y 0, 100, .inl g_rulingBefore))] H → va_D A [(ce_lg ad g_size g_rulings g_paid), ((ad 26), .inl (y 0, 800, .inl g_money)), ((ad 27), .inl (y 0, 800, .inl g_latestRuling)), ((ad 28), .inl (y 0, 100, .inl g_rulingFrom)), ((ad 29), .inl (y 0, 100, .inl g_rulingMoney)), ((ad 30), .inl (y 0, 100, .inl g_rulingBefore))] → va_S A s.heap H locs → lv_has ls 5 [(4, .int v4), (3, .int v3), (0, .ref (ad 23)), (1, .int v1), (2, .int v2)] → W p l e ({ frames := 0, cells := 0, slots := 0, locals := 0 }) s m args below meth c H locs 0 0 (MQ below (va_Qi (fun (r : Int32) (u : Unit) => Q r ) (mAt D y A (fun (u : Unit) => [(ce_lg ad g_size g_rulings g_paid), ((ad 26), .inl (y 0, 800, .inl g_money)), ((ad 27), .inl (y 0, 800, .inl g_latestRuling)), ((ad 28), .inl (y 0, 100, .inl g_rulingFrom)), ((ad 29), .inl (y 0, 100, .inl g_rulingMoney)), ((ad 30), .inl (y 0, 100, .inl g_rulingBefore))])) A) args s 0 0 A) (F0 m 10 ls []) := by
  intro n
  induction n with
  | zero => intro v3 v4 hw; rw [wp_Ledger_knownMoney_h10] at hw; exact hw.elim
  | succ n ih =>
    intro v3 v4 hw H locs ls hP hD hS hl
    rw [wp_Ledger_knownMoney_h10] at hw
    refine lv_iload hx hb dX1_knownMoney_10 (lv_at hl 0 rfl) ?_
    refine lv_aload_n hx hb dX1_knownMoney_12 rfl (lv_at hl 2 rfl) ?_
    refine va_get (ci := 3) (v := .int g_rulings) (C := RX1) (T := TX1) (N := 10) hx hb hts inw_X1_knownMoney_X1 hown hK hP 0 rfl rfl 8 (by decide) (hts (.fieldLink RX1 40 "DockCall$Ledger" "rulings" "I") (by decide +kernel)) (fun _ h9 => h9) rfl dX1_knownMoney_13 ?_
    refine lv_icmp_ge (tgt := 61) hx hb dX1_knownMoney_16 (by decide) (fun hc => ?_) (fun hc => ?_)
    · have hw := hw.1 hc
      refine lv_aload_n hx hb dX1_knownMoney_61 rfl (lv_at hl 2 rfl) ?_
      refine va_get (ci := 3) (v := .ref (ad 26)) (C := RX1) (T := TX1) (N := 10) hx hb hts inw_X1_knownMoney_X1 hown hK hP 0 rfl rfl 2 (by decide) (hts (.fieldLink RX1 18 "DockCall$Ledger" "money" "[I") (by decide +kernel)) (fun _ h9 => h9) rfl dX1_knownMoney_62 ?_
      refine lv_iload_n hx hb dX1_knownMoney_65 rfl (lv_at hl 3 rfl) ?_
      obtain ⟨hi, hw⟩ := hw
      refine va_iald hx hb hK hP 1 0 rfl rfl hi dX1_knownMoney_66 ?_
      exact W.iret (v := g_money v1.toNatClampNeg) hx hb hr (fun t ht hW => ⟨⟨g_money v1.toNatClampNeg, (), rfl, hw, mAt.to hP hK hD ht hW⟩, hS.F ht⟩) hS.2.2 dX1_knownMoney_67
    · have hw := hw.2 hc
      refine lv_iload_n hx hb dX1_knownMoney_19 rfl (lv_at hl 1 rfl) ?_
      refine lv_if_lt (tgt := 61) hx hb dX1_knownMoney_20 (by decide) (fun hc => ?_) (fun hc => ?_)
      · have hw := hw.1 hc
        refine lv_aload_n hx hb dX1_knownMoney_61 rfl (lv_at hl 2 rfl) ?_
        refine va_get (ci := 3) (v := .ref (ad 26)) (C := RX1) (T := TX1) (N := 10) hx hb hts inw_X1_knownMoney_X1 hown hK hP 0 rfl rfl 2 (by decide) (hts (.fieldLink RX1 18 "DockCall$Ledger" "money" "[I") (by decide +kernel)) (fun _ h9 => h9) rfl dX1_knownMoney_62 ?_
        refine lv_iload_n hx hb dX1_knownMoney_65 rfl (lv_at hl 3 rfl) ?_
        obtain ⟨hi, hw⟩ := hw
        refine va_iald hx hb hK hP 1 0 rfl rfl hi dX1_knownMoney_66 ?_
        exact W.iret (v := g_money v1.toNatClampNeg) hx hb hr (fun t ht hW => ⟨⟨g_money v1.toNatClampNeg, (), rfl, hw, mAt.to hP hK hD ht hW⟩, hS.F ht⟩) hS.2.2 dX1_knownMoney_67
      · have hw := hw.2 hc
        refine lv_iload_n hx hb dX1_knownMoney_23 rfl (lv_at hl 1 rfl) ?_
        refine lv_aload_n hx hb dX1_knownMoney_24 rfl (lv_at hl 2 rfl) ?_
        refine va_get (ci := 3) (v := .int g_rulings) (C := RX1) (T := TX1) (N := 10) hx hb hts inw_X1_knownMoney_X1 hown hK hP 0 rfl rfl 8 (by decide) (hts (.fieldLink RX1 40 "DockCall$Ledger" "rulings" "I") (by decide +kernel)) (fun _ h9 => h9) rfl dX1_knownMoney_25 ?_
        refine lv_icmp_ge (tgt := 61) hx hb dX1_knownMoney_28 (by decide) (fun hc => ?_) (fun hc => ?_)
        · have hw := hw.1 hc
          refine lv_aload_n hx hb dX1_knownMoney_61 rfl (lv_at hl 2 rfl) ?_
          refine va_get (ci := 3) (v := .ref (ad 26)) (C := RX1) (T := TX1) (N := 10) hx hb hts inw_X1_knownMoney_X1 hown hK hP 0 rfl rfl 2 (by decide) (hts (.fieldLink RX1 18 "DockCall$Ledger" "money" "[I") (by decide +kernel)) (fun _ h9 => h9) rfl dX1_knownMoney_62 ?_
          refine lv_iload_n hx hb dX1_knownMoney_65 rfl (lv_at hl 3 rfl) ?_
          obtain ⟨hi, hw⟩ := hw
          refine va_iald hx hb hK hP 1 0 rfl rfl hi dX1_knownMoney_66 ?_
          exact W.iret (v := g_money v1.toNatClampNeg) hx hb hr (fun t ht hW => ⟨⟨g_money v1.toNatClampNeg, (), rfl, hw, mAt.to hP hK hD ht hW⟩, hS.F ht⟩) hS.2.2 dX1_knownMoney_67
        · have hw := hw.2 hc
          refine lv_aload_n hx hb dX1_knownMoney_31 rfl (lv_at hl 2 rfl) ?_
          refine va_get (ci := 3) (v := .ref (ad 28)) (C := RX1) (T := TX1) (N := 10) hx hb hts inw_X1_knownMoney_X1 hown hK hP 0 rfl rfl 4 (by decide) (hts (.fieldLink RX1 24 "DockCall$Ledger" "rulingFrom" "[I") (by decide +kernel)) (fun _ h9 => h9) rfl dX1_knownMoney_32 ?_
          refine lv_iload_n hx hb dX1_knownMoney_35 rfl (lv_at hl 1 rfl) ?_
          obtain ⟨hi, hw⟩ := hw
          refine va_iald hx hb hK hP 3 0 rfl rfl hi dX1_knownMoney_36 ?_
          refine lv_iload_n hx hb dX1_knownMoney_37 rfl (lv_at hl 4 rfl) ?_
          refine lv_icmp_gt (tgt := 48) hx hb dX1_knownMoney_38 (by decide) (fun hc => ?_) (fun hc => ?_)
          · have hw := hw.1 hc
            refine lv_aload_n hx hb dX1_knownMoney_48 rfl (lv_at hl 2 rfl) ?_
            refine va_get (ci := 3) (v := .ref (ad 30)) (C := RX1) (T := TX1) (N := 10) hx hb hts inw_X1_knownMoney_X1 hown hK hP 0 rfl rfl 6 (by decide) (hts (.fieldLink RX1 30 "DockCall$Ledger" "rulingBefore" "[I") (by decide +kernel)) (fun _ h9 => h9) rfl dX1_knownMoney_49 ?_
            refine lv_iload_n hx hb dX1_knownMoney_52 rfl (lv_at hl 1 rfl) ?_
            obtain ⟨hi, hw⟩ := hw
            refine va_iald hx hb hK hP 5 0 rfl rfl hi dX1_knownMoney_53 ?_
            refine lv_istore_n (lv' := [(3, .int (g_rulingBefore v3.toNatClampNeg)), (4, .int v4), (0, .ref (ad 23)), (1, .int v1), (2, .int v2)]) hx hb dX1_knownMoney_54 rfl hl (by decide) rfl (fun ls hl => ?_)
            refine lv_iinc (v := v4 + 1) (lv' := [(4, .int (v4 + 1)), (3, .int (g_rulingBefore v3.toNatClampNeg)), (0, .ref (ad 23)), (1, .int v1), (2, .int v2)]) hx hb dX1_knownMoney_55 hl (k := 1) rfl (by first | rfl | decide) (by decide) rfl (fun ls hl => ?_)
            refine lv_goto (tgt := 10) hx hb dX1_knownMoney_58 (by decide) ?_
            exact ih (g_rulingBefore v3.toNatClampNeg) (v4 + 1)  hw _ _ _ hP hD hS (lv_sub hl [0, 1, 2, 3, 4] rfl)
          · have hw := hw.2 hc
            refine lv_aload_n hx hb dX1_knownMoney_41 rfl (lv_at hl 2 rfl) ?_
            refine va_get (ci := 3) (v := .ref (ad 29)) (C := RX1) (T := TX1) (N := 10) hx hb hts inw_X1_knownMoney_X1 hown hK hP 0 rfl rfl 5 (by decide) (hts (.fieldLink RX1 27 "DockCall$Ledger" "rulingMoney" "[I") (by decide +kernel)) (fun _ h9 => h9) rfl dX1_knownMoney_42 ?_
            refine lv_iload_n hx hb dX1_knownMoney_45 rfl (lv_at hl 1 rfl) ?_
            obtain ⟨hi, hw⟩ := hw
            refine va_iald hx hb hK hP 4 0 rfl rfl hi dX1_knownMoney_46 ?_
            exact W.iret (v := g_rulingMoney v3.toNatClampNeg) hx hb hr (fun t ht hW => ⟨⟨g_rulingMoney v3.toNatClampNeg, (), rfl, hw, mAt.to hP hK hD ht hW⟩, hS.F ht⟩) hS.2.2 dX1_knownMoney_47
set_option maxHeartbeats 4000000 in
set_option maxRecDepth 100000 in
theorem c_Ledger_knownMoney (l : Launch) (D : va_G) (y : Nat → ClassId) (ad : Nat → Nat) (sz : Nat) (g_size : Int32) (g_rulings : Int32) (g_paid : Int32) (g_money : Nat → Int32) (g_latestRuling : Nat → Int32) (g_rulingFrom : Nat → Int32) (g_rulingMoney : Nat → Int32) (g_rulingBefore : Nat → Int32) (p0 : Int32) (p1 : Int32) {Q : Int32 → Prop} (hw : wp_Ledger_knownMoney g_rulings g_money g_latestRuling g_rulingFrom g_rulingMoney g_rulingBefore p0 p1 Q) : Met l yX1_knownMoney wsX1_knownMoney ({ frames := 0, cells := 0, slots := 0, locals := 0 }) (va_Pc [.ref (ad 23), .int p0, .int p1] (mPre D y sz [(ce_lg ad g_size g_rulings g_paid), ((ad 26), .inl (y 0, 800, .inl g_money)), ((ad 27), .inl (y 0, 800, .inl g_latestRuling)), ((ad 28), .inl (y 0, 100, .inl g_rulingFrom)), ((ad 29), .inl (y 0, 100, .inl g_rulingMoney)), ((ad 30), .inl (y 0, 100, .inl g_rulingBefore))])) (va_Qi (fun (r : Int32) (u : Unit) => Q r ) (mAt D y (va_A [(ce_lg ad g_size g_rulings g_paid), ((ad 26), .inl (y 0, 800, .inl g_money)), ((ad 27), .inl (y 0, 800, .inl g_latestRuling)), ((ad 28), .inl (y 0, 100, .inl g_rulingFrom)), ((ad 29), .inl (y 0, 100, .inl g_rulingMoney)), ((ad 30), .inl (y 0, 100, .inl g_rulingBefore))] sz) (fun (u : Unit) => [(ce_lg ad g_size g_rulings g_paid), ((ad 26), .inl (y 0, 800, .inl g_money)), ((ad 27), .inl (y 0, 800, .inl g_latestRuling)), ((ad 28), .inl (y 0, 100, .inl g_rulingFrom)), ((ad 29), .inl (y 0, 100, .inl g_rulingMoney)), ((ad 30), .inl (y 0, 100, .inl g_rulingBefore))])) (va_A [(ce_lg ad g_size g_rulings g_paid), ((ad 26), .inl (y 0, 800, .inl g_money)), ((ad 27), .inl (y 0, 800, .inl g_latestRuling)), ((ad 28), .inl (y 0, 100, .inl g_rulingFrom)), ((ad 29), .inl (y 0, 100, .inl g_rulingMoney)), ((ad 30), .inl (y 0, 100, .inl g_rulingBefore))] sz)) 0 0 (va_A [(ce_lg ad g_size g_rulings g_paid), ((ad 26), .inl (y 0, 800, .inl g_money)), ((ad 27), .inl (y 0, 800, .inl g_latestRuling)), ((ad 28), .inl (y 0, 100, .inl g_rulingFrom)), ((ad 29), .inl (y 0, 100, .inl g_rulingMoney)), ((ad 30), .inl (y 0, 100, .inl g_rulingBefore))] sz) := by
  unfold wp_Ledger_knownMoney at hw
  refine Met.ofW (cc := cX1_knownMoney) (maxL := 5) (ret := some .int) (by decide) rfl ?_
  intro p e s m args below meth c s₁ B hml hv
  obtain ⟨rfl, hsz, hP, hK, hD0, hE⟩ := hv
  have hx := B.exec
  have hb := B.bytes
  have hr := B.returns
  have hts := atoms_spec (ws := wsX1_knownMoney) B.pre
  have hown : s.vm.findClass RX1 = some m.cls := findClass_of_methodNamed B.named
  have hlocks := B.notSynchronized
  subst hsz
  have hD := hD0.self (sz := s.heap.size)
  generalize hAe : va_A [(ce_lg ad g_size g_rulings g_paid), ((ad 26), .inl (y 0, 800, .inl g_money)), ((ad 27), .inl (y 0, 800, .inl g_latestRuling)), ((ad 28), .inl (y 0, 100, .inl g_rulingFrom)), ((ad 29), .inl (y 0, 100, .inl g_rulingMoney)), ((ad 30), .inl (y 0, 100, .inl g_rulingBefore))] s.heap.size = A at hD ⊢
  have hA : ∀ q : Nat, s.heap.size ≤ q → A q := fun q h => by rw [← hAe]; exact Or.inr h
  have hS : va_S A s.heap s.heap [] := va_S.rf
  have hP : va_P D vwCl [(ce_lg ad g_size g_rulings g_paid), ((ad 26), .inl (y 0, 800, .inl g_money)), ((ad 27), .inl (y 0, 800, .inl g_latestRuling)), ((ad 28), .inl (y 0, 100, .inl g_rulingFrom)), ((ad 29), .inl (y 0, 100, .inl g_rulingMoney)), ((ad 30), .inl (y 0, 100, .inl g_rulingBefore))] s.heap := hP
  have hl := lv_entry ([.ref (ad 23), .int p0, .int p1]) (n := 5) (Nat.le_of_ble_eq_true rfl)
  rw [lg_entry_eq]
  generalize (lg_sl ([.ref (ad 23), .int p0, .int p1]) ++ List.replicate (5 - (lg_sl ([.ref (ad 23), .int p0, .int p1])).length) Slot.unset).toArray = ls at hl ⊢
  have hl : lv_has ls 5 [(0, .ref (ad 23)), (1, .int p0), (2, .int p1)] := hl
  refine lv_aload_n hx hb dX1_knownMoney_0 rfl (lv_at hl 0 rfl) ?_
  refine va_get (ci := 3) (v := .ref (ad 27)) (C := RX1) (T := TX1) (N := 10) hx hb hts inw_X1_knownMoney_X1 hown hK hP 0 rfl rfl 3 (by decide) (hts (.fieldLink RX1 21 "DockCall$Ledger" "latestRuling" "[I") (by decide +kernel)) (fun _ h9 => h9) rfl dX1_knownMoney_1 ?_
  refine lv_iload_n hx hb dX1_knownMoney_4 rfl (lv_at hl 1 rfl) ?_
  obtain ⟨hi, hw⟩ := hw
  refine va_iald hx hb hK hP 2 0 rfl rfl hi dX1_knownMoney_5 ?_
  refine lv_istore_n (lv' := [(3, .int (g_latestRuling p0.toNatClampNeg)), (0, .ref (ad 23)), (1, .int p0), (2, .int p1)]) hx hb dX1_knownMoney_6 rfl hl (by decide) rfl (fun ls hl => ?_)
  refine lv_iconst (v := 0) hx hb dX1_knownMoney_7 (by decide) ?_
  refine lv_istore (lv' := [(4, .int 0), (3, .int (g_latestRuling p0.toNatClampNeg)), (0, .ref (ad 23)), (1, .int p0), (2, .int p1)]) hx hb dX1_knownMoney_8 hl (by decide) rfl (fun ls hl => ?_)
  obtain ⟨n', hw⟩ := hw
  exact c_Ledger_knownMoney_h10 hx hb hr hml hown hts hlocks hK hE hA  n' (g_latestRuling p0.toNatClampNeg) 0 hw _ _ _ hP hD hS (lv_sub hl [0, 1, 2, 3, 4] rfl)
theorem inw_X1_sumOf_X1 : ∀ w ∈ wsX10, w ∈ wsX1_sumOf := fun _ h => List.mem_cons_of_mem _ (List.mem_append_left _ (List.mem_append_right _ h))
def wp_Ledger_sumOf_h6 (v1 : Int32) (v2 : Int32) (v3 : Int32) (g_size : Int32) (g_rulings : Int32) (g_madeAt : Nat → Int32) (g_card : Nat → Int32) (g_money : Nat → Int32) (g_latestRuling : Nat → Int32) (g_rulingFrom : Nat → Int32) (g_rulingMoney : Nat → Int32) (g_rulingBefore : Nat → Int32)  (Q : Int32 → Prop) : Nat → Int32 → Int32 → Prop
  | 0, _, _ => False
  | n + 1, v4, v5 => ((g_size ≤ v5 → Q v4) ∧ (¬ g_size ≤ v5 → (vp_in v5 800 ∧ ((v2 < g_madeAt v5.toNatClampNeg → Q v4) ∧ (¬ v2 < g_madeAt v5.toNatClampNeg → (vp_in v5 800 ∧ ((v3 ≤ g_madeAt v5.toNatClampNeg → Q v4) ∧ (¬ v3 ≤ g_madeAt v5.toNatClampNeg → (vp_in v5 800 ∧ ((g_card v5.toNatClampNeg = v1 → (wp_Ledger_knownMoney g_rulings g_money g_latestRuling g_rulingFrom g_rulingMoney g_rulingBefore v5 v3 (fun r_1 => wp_Ledger_sumOf_h6 v1 v2 v3 g_size g_rulings g_madeAt g_card g_money g_latestRuling g_rulingFrom g_rulingMoney g_rulingBefore Q n (v4 + r_1) (v5 + 1)))) ∧ (¬ g_card v5.toNatClampNeg = v1 → wp_Ledger_sumOf_h6 v1 v2 v3 g_size g_rulings g_madeAt g_card g_money g_latestRuling g_rulingFrom g_rulingMoney g_rulingBefore Q n v4 (v5 + 1))))))))))))
def wp_Ledger_sumOf (g_size : Int32) (g_rulings : Int32) (g_madeAt : Nat → Int32) (g_card : Nat → Int32) (g_money : Nat → Int32) (g_latestRuling : Nat → Int32) (g_rulingFrom : Nat → Int32) (g_rulingMoney : Nat → Int32) (g_rulingBefore : Nat → Int32) (p0 : Int32) (p1 : Int32) (p2 : Int32) (Q : Int32 → Prop) : Prop := (∃ n' : Nat, wp_Ledger_sumOf_h6 p0 p1 p2 g_size g_rulings g_madeAt g_card g_money g_latestRuling g_rulingFrom g_rulingMoney g_rulingBefore Q n' 0 0)
set_option maxHeartbeats 4000000 in
set_option maxRecDepth 100000 in
theorem c_Ledger_sumOf_h6 {p : Program} {l : Launch} {e : Env} {s : State} {m : MethodId} {args : Array Value} {below : List Frame} {meth : Method} {c : Code} {D : va_G} {y : Nat → ClassId} {ad : Nat → Nat} {A : Nat → Prop} (hx : p.tables.exec = Jvm.exec) (hb : c.code = cX1_sumOf) (hr : meth.sig.returnType = some .int) (hml : c.maxLocals = 6) (hown : s.vm.findClass RX1 = some m.cls) (hts : ∀ w ∈ wsX1_sumOf, w.before args s = true) (hlocks : meth.locks = false) (hK : va_K D vwCl (TY y) s) (hE : EV s) (hA : ∀ q, s.heap.size ≤ q → A q) {v1 : Int32} {v2 : Int32} {v3 : Int32} {g_size : Int32} {g_rulings : Int32} {g_madeAt : Nat → Int32} {g_card : Nat → Int32} {g_money : Nat → Int32} {g_latestRuling : Nat → Int32} {g_rulingFrom : Nat → Int32} {g_rulingMoney : Nat → Int32} {g_rulingBefore : Nat → Int32} {g_paid : Int32}  {Q : Int32 → Prop}  : ∀ (n : Nat) (v4 : Int32) (v5 : Int32), wp_Ledger_sumOf_h6 v1 v2 v3 g_size g_rulings g_madeAt g_card g_money g_latestRuling g_rulingFrom g_rulingMoney g_rulingBefore Q n v4 v5 → ∀ (H : Heap) (locs : List Loc) (ls : Array Slot), va_P D vwCl [(ce_lg ad g_size g_rulings g_paid), ((ad 24), .inl (y 0, 800, .inl g_madeAt)), ((ad 25), .inl (y 0, 800, .inl g_card)), ((ad 26), .inl (y 0, 800, .inl g_money)), ((ad 27), .inl (y 0, 800, .inl g_latestRuling)), ((ad 28), .inl (y 0, 100, .inl g_rulingFrom)), ((ad 29), .inl (y 0, 100, .inl g_rulingMoney)), ((ad 30), .inl (y 0, 100, .inl g_rulingBefore))] H → va_D A [(ce_lg ad g_size g_rulings g_paid), ((ad 24), .inl (y 0, 800, .inl g_madeAt)), ((ad 25), .inl (y 0, 800, .inl g_card)), ((ad 26), .inl (y 0, 800, .inl g_money)), ((ad 27), .inl (y 0, 800, .inl g_latestRuling)), ((ad 28), .inl (y 0, 100, .inl g_rulingFrom)), ((ad 29), .inl (y 0, 100, .inl g_rulingMoney)), ((ad 30), .inl (y 0, 100, .inl g_rulingBefore))] → va_S A s.heap H locs → lv_has ls 6 [(5, .int v5), (4, .int v4), (0, .ref (ad 23)), (1, .int v1), (2, .int v2), (3, .int v3)] → W p l e ({ frames := 1, cells := 0, slots := 0, locals := 24 }) s m args below meth c H locs 0 0 (MQ below (va_Qi (fun (r : Int32) (u : Unit) => Q r ) (mAt D y A (fun (u : Unit) => [(ce_lg ad g_size g_rulings g_paid), ((ad 24), .inl (y 0, 800, .inl g_madeAt)), ((ad 25), .inl (y 0, 800, .inl g_card)), ((ad 26), .inl (y 0, 800, .inl g_money)), ((ad 27), .inl (y 0, 800, .inl g_latestRuling)), ((ad 28), .inl (y 0, 100, .inl g_rulingFrom)), ((ad 29), .inl (y 0, 100, .inl g_rulingMoney)), ((ad 30), .inl (y 0, 100, .inl g_rulingBefore))])) A) args s 0 0 A) (F0 m 6 ls []) := by
  intro n
  induction n with
  | zero => intro v4 v5 hw; rw [wp_Ledger_sumOf_h6] at hw; exact hw.elim
  | succ n ih =>
    intro v4 v5 hw H locs ls hP hD hS hl
    rw [wp_Ledger_sumOf_h6] at hw
    refine lv_iload hx hb dX1_sumOf_6 (lv_at hl 0 rfl) ?_
    refine lv_aload_n hx hb dX1_sumOf_8 rfl (lv_at hl 2 rfl) ?_
    refine va_get (ci := 3) (v := .int g_size) (C := RX1) (T := TX1) (N := 10) hx hb hts inw_X1_sumOf_X1 hown hK hP 0 rfl rfl 7 (by decide) (hts (.fieldLink RX1 33 "DockCall$Ledger" "size" "I") (by decide +kernel)) (fun _ h9 => h9) rfl dX1_sumOf_9 ?_
    refine lv_icmp_ge (tgt := 66) hx hb dX1_sumOf_12 (by decide) (fun hc => ?_) (fun hc => ?_)
    · have hw := hw.1 hc
      refine lv_iload hx hb dX1_sumOf_66 (lv_at hl 1 rfl) ?_
      exact W.iret (v := v4) hx hb hr (fun t ht hW => ⟨⟨v4, (), rfl, hw, mAt.to hP hK hD ht hW⟩, hS.F ht⟩) hS.2.2 dX1_sumOf_68
    · have hw := hw.2 hc
      refine lv_aload_n hx hb dX1_sumOf_15 rfl (lv_at hl 2 rfl) ?_
      refine va_get (ci := 3) (v := .ref (ad 24)) (C := RX1) (T := TX1) (N := 10) hx hb hts inw_X1_sumOf_X1 hown hK hP 0 rfl rfl 0 (by decide) (hts (.fieldLink RX1 9 "DockCall$Ledger" "madeAt" "[I") (by decide +kernel)) (fun _ h9 => h9) rfl dX1_sumOf_16 ?_
      refine lv_iload hx hb dX1_sumOf_19 (lv_at hl 0 rfl) ?_
      obtain ⟨hi, hw⟩ := hw
      refine va_iald hx hb hK hP 1 0 rfl rfl hi dX1_sumOf_21 ?_
      refine lv_iload_n hx hb dX1_sumOf_22 rfl (lv_at hl 4 rfl) ?_
      refine lv_icmp_gt (tgt := 66) hx hb dX1_sumOf_23 (by decide) (fun hc => ?_) (fun hc => ?_)
      · have hw := hw.1 hc
        refine lv_iload hx hb dX1_sumOf_66 (lv_at hl 1 rfl) ?_
        exact W.iret (v := v4) hx hb hr (fun t ht hW => ⟨⟨v4, (), rfl, hw, mAt.to hP hK hD ht hW⟩, hS.F ht⟩) hS.2.2 dX1_sumOf_68
      · have hw := hw.2 hc
        refine lv_aload_n hx hb dX1_sumOf_26 rfl (lv_at hl 2 rfl) ?_
        refine va_get (ci := 3) (v := .ref (ad 24)) (C := RX1) (T := TX1) (N := 10) hx hb hts inw_X1_sumOf_X1 hown hK hP 0 rfl rfl 0 (by decide) (hts (.fieldLink RX1 9 "DockCall$Ledger" "madeAt" "[I") (by decide +kernel)) (fun _ h9 => h9) rfl dX1_sumOf_27 ?_
        refine lv_iload hx hb dX1_sumOf_30 (lv_at hl 0 rfl) ?_
        obtain ⟨hi, hw⟩ := hw
        refine va_iald hx hb hK hP 1 0 rfl rfl hi dX1_sumOf_32 ?_
        refine lv_iload_n hx hb dX1_sumOf_33 rfl (lv_at hl 5 rfl) ?_
        refine lv_icmp_ge (tgt := 66) hx hb dX1_sumOf_34 (by decide) (fun hc => ?_) (fun hc => ?_)
        · have hw := hw.1 hc
          refine lv_iload hx hb dX1_sumOf_66 (lv_at hl 1 rfl) ?_
          exact W.iret (v := v4) hx hb hr (fun t ht hW => ⟨⟨v4, (), rfl, hw, mAt.to hP hK hD ht hW⟩, hS.F ht⟩) hS.2.2 dX1_sumOf_68
        · have hw := hw.2 hc
          refine lv_aload_n hx hb dX1_sumOf_37 rfl (lv_at hl 2 rfl) ?_
          refine va_get (ci := 3) (v := .ref (ad 25)) (C := RX1) (T := TX1) (N := 10) hx hb hts inw_X1_sumOf_X1 hown hK hP 0 rfl rfl 1 (by decide) (hts (.fieldLink RX1 15 "DockCall$Ledger" "card" "[I") (by decide +kernel)) (fun _ h9 => h9) rfl dX1_sumOf_38 ?_
          refine lv_iload hx hb dX1_sumOf_41 (lv_at hl 0 rfl) ?_
          obtain ⟨hi, hw⟩ := hw
          refine va_iald hx hb hK hP 2 0 rfl rfl hi dX1_sumOf_43 ?_
          refine lv_iload_n hx hb dX1_sumOf_44 rfl (lv_at hl 3 rfl) ?_
          refine lv_icmp_ne (tgt := 60) hx hb dX1_sumOf_45 (by decide) (fun hc => ?_) (fun hc => ?_)
          · have hw := hw.2 hc
            refine lv_iinc (v := v5 + 1) (lv' := [(5, .int (v5 + 1)), (4, .int v4), (0, .ref (ad 23)), (1, .int v1), (2, .int v2), (3, .int v3)]) hx hb dX1_sumOf_60 hl (k := 0) rfl (by first | rfl | decide) (by decide) rfl (fun ls hl => ?_)
            refine lv_goto (tgt := 6) hx hb dX1_sumOf_63 (by decide) ?_
            exact ih v4 (v5 + 1)  hw _ _ _ hP hD hS (lv_sub hl [0, 1, 2, 3, 4, 5] rfl)
          · have hw := hw.1 hc
            refine lv_iload hx hb dX1_sumOf_48 (lv_at hl 1 rfl) ?_
            refine lv_aload_n hx hb dX1_sumOf_50 rfl (lv_at hl 2 rfl) ?_
            refine lv_iload hx hb dX1_sumOf_51 (lv_at hl 0 rfl) ?_
            refine lv_iload_n hx hb dX1_sumOf_53 rfl (lv_at hl 5 rfl) ?_
            refine mx_i (wc := [(ce_lg ad g_size g_rulings g_paid), ((ad 26), .inl (y 0, 800, .inl g_money)), ((ad 27), .inl (y 0, 800, .inl g_latestRuling)), ((ad 28), .inl (y 0, 100, .inl g_rulingFrom)), ((ad 29), .inl (y 0, 100, .inl g_rulingMoney)), ((ad 30), .inl (y 0, 100, .inl g_rulingBefore))]) (wr := [((ad 24), .inl (y 0, 800, .inl g_madeAt)), ((ad 25), .inl (y 0, 800, .inl g_card))]) hP hD hS hA [0, 3, 4, 5, 6, 7] [1, 2] [2, 0, 1, 3, 4, 5, 6, 7] rfl rfl (by decide) (by decide) (by decide) (fun (u : Unit) => [(ce_lg ad g_size g_rulings g_paid), ((ad 24), .inl (y 0, 800, .inl g_madeAt)), ((ad 25), .inl (y 0, 800, .inl g_card)), ((ad 26), .inl (y 0, 800, .inl g_money)), ((ad 27), .inl (y 0, 800, .inl g_latestRuling)), ((ad 28), .inl (y 0, 100, .inl g_rulingFrom)), ((ad 29), .inl (y 0, 100, .inl g_rulingMoney)), ((ad 30), .inl (y 0, 100, .inl g_rulingBefore))]) (fun _ => rfl) (va_runV (As := [.int v5, .int v3]) (rest := [.int v4]) ⟨hx, hb, hml, hown, hts⟩ (c_Ledger_knownMoney l D y ad H.size g_size g_rulings g_paid g_money g_latestRuling g_rulingFrom g_rulingMoney g_rulingBefore v5 v3 hw) (cwV 2 hts gX1_sumOf_X1_knownMoney rfl rfl rfl (by decide +kernel) ⟨Nat.le_of_ble_eq_true rfl, Nat.le_of_ble_eq_true rfl⟩) ⟨mPre.blind, (va_recv hK hP (ci := 3) (q0 := 0) rfl rfl), mPre.to (hP.sub [0, 3, 4, 5, 6, 7] rfl) hK (hD.sub [0, 3, 4, 5, 6, 7] (by decide) rfl) hE⟩ rfl rfl hl.1 rfl (lv_room (Nat.le_of_ble_eq_true rfl)) dX1_sumOf_54 ⟨Nat.le_of_ble_eq_true rfl, Nat.le_of_ble_eq_true rfl⟩) (fun r_1 u H locs hw hP hD hS => ?_)
            try dsimp only at hw
            have hP : va_P D vwCl [(ce_lg ad g_size g_rulings g_paid), ((ad 24), .inl (y 0, 800, .inl g_madeAt)), ((ad 25), .inl (y 0, 800, .inl g_card)), ((ad 26), .inl (y 0, 800, .inl g_money)), ((ad 27), .inl (y 0, 800, .inl g_latestRuling)), ((ad 28), .inl (y 0, 100, .inl g_rulingFrom)), ((ad 29), .inl (y 0, 100, .inl g_rulingMoney)), ((ad 30), .inl (y 0, 100, .inl g_rulingBefore))] H := hP
            have hD : va_D A [(ce_lg ad g_size g_rulings g_paid), ((ad 24), .inl (y 0, 800, .inl g_madeAt)), ((ad 25), .inl (y 0, 800, .inl g_card)), ((ad 26), .inl (y 0, 800, .inl g_money)), ((ad 27), .inl (y 0, 800, .inl g_latestRuling)), ((ad 28), .inl (y 0, 100, .inl g_rulingFrom)), ((ad 29), .inl (y 0, 100, .inl g_rulingMoney)), ((ad 30), .inl (y 0, 100, .inl g_rulingBefore))] := hD
            refine lv_iadd hx hb dX1_sumOf_57 ?_
            refine lv_istore (lv' := [(4, .int (v4 + r_1)), (5, .int v5), (0, .ref (ad 23)), (1, .int v1), (2, .int v2), (3, .int v3)]) hx hb dX1_sumOf_58 hl (by decide) rfl (fun ls hl => ?_)
            refine lv_iinc (v := v5 + 1) (lv' := [(5, .int (v5 + 1)), (4, .int (v4 + r_1)), (0, .ref (ad 23)), (1, .int v1), (2, .int v2), (3, .int v3)]) hx hb dX1_sumOf_60 hl (k := 1) rfl (by first | rfl | decide) (by decide) rfl (fun ls hl => ?_)
            refine lv_goto (tgt := 6) hx hb dX1_sumOf_63 (by decide) ?_
            exact ih (v4 + r_1) (v5 + 1)  hw _ _ _ hP hD hS (lv_sub hl [0, 1, 2, 3, 4, 5] rfl)
set_option maxHeartbeats 4000000 in
set_option maxRecDepth 100000 in
theorem c_Ledger_sumOf (l : Launch) (D : va_G) (y : Nat → ClassId) (ad : Nat → Nat) (sz : Nat) (g_size : Int32) (g_rulings : Int32) (g_paid : Int32) (g_madeAt : Nat → Int32) (g_card : Nat → Int32) (g_money : Nat → Int32) (g_latestRuling : Nat → Int32) (g_rulingFrom : Nat → Int32) (g_rulingMoney : Nat → Int32) (g_rulingBefore : Nat → Int32) (p0 : Int32) (p1 : Int32) (p2 : Int32) {Q : Int32 → Prop} (hw : wp_Ledger_sumOf g_size g_rulings g_madeAt g_card g_money g_latestRuling g_rulingFrom g_rulingMoney g_rulingBefore p0 p1 p2 Q) : Met l yX1_sumOf wsX1_sumOf ({ frames := 1, cells := 0, slots := 0, locals := 24 }) (va_Pc [.ref (ad 23), .int p0, .int p1, .int p2] (mPre D y sz [(ce_lg ad g_size g_rulings g_paid), ((ad 24), .inl (y 0, 800, .inl g_madeAt)), ((ad 25), .inl (y 0, 800, .inl g_card)), ((ad 26), .inl (y 0, 800, .inl g_money)), ((ad 27), .inl (y 0, 800, .inl g_latestRuling)), ((ad 28), .inl (y 0, 100, .inl g_rulingFrom)), ((ad 29), .inl (y 0, 100, .inl g_rulingMoney)), ((ad 30), .inl (y 0, 100, .inl g_rulingBefore))])) (va_Qi (fun (r : Int32) (u : Unit) => Q r ) (mAt D y (va_A [(ce_lg ad g_size g_rulings g_paid), ((ad 24), .inl (y 0, 800, .inl g_madeAt)), ((ad 25), .inl (y 0, 800, .inl g_card)), ((ad 26), .inl (y 0, 800, .inl g_money)), ((ad 27), .inl (y 0, 800, .inl g_latestRuling)), ((ad 28), .inl (y 0, 100, .inl g_rulingFrom)), ((ad 29), .inl (y 0, 100, .inl g_rulingMoney)), ((ad 30), .inl (y 0, 100, .inl g_rulingBefore))] sz) (fun (u : Unit) => [(ce_lg ad g_size g_rulings g_paid), ((ad 24), .inl (y 0, 800, .inl g_madeAt)), ((ad 25), .inl (y 0, 800, .inl g_card)), ((ad 26), .inl (y 0, 800, .inl g_money)), ((ad 27), .inl (y 0, 800, .inl g_latestRuling)), ((ad 28), .inl (y 0, 100, .inl g_rulingFrom)), ((ad 29), .inl (y 0, 100, .inl g_rulingMoney)), ((ad 30), .inl (y 0, 100, .inl g_rulingBefore))])) (va_A [(ce_lg ad g_size g_rulings g_paid), ((ad 24), .inl (y 0, 800, .inl g_madeAt)), ((ad 25), .inl (y 0, 800, .inl g_card)), ((ad 26), .inl (y 0, 800, .inl g_money)), ((ad 27), .inl (y 0, 800, .inl g_latestRuling)), ((ad 28), .inl (y 0, 100, .inl g_rulingFrom)), ((ad 29), .inl (y 0, 100, .inl g_rulingMoney)), ((ad 30), .inl (y 0, 100, .inl g_rulingBefore))] sz)) 0 0 (va_A [(ce_lg ad g_size g_rulings g_paid), ((ad 24), .inl (y 0, 800, .inl g_madeAt)), ((ad 25), .inl (y 0, 800, .inl g_card)), ((ad 26), .inl (y 0, 800, .inl g_money)), ((ad 27), .inl (y 0, 800, .inl g_latestRuling)), ((ad 28), .inl (y 0, 100, .inl g_rulingFrom)), ((ad 29), .inl (y 0, 100, .inl g_rulingMoney)), ((ad 30), .inl (y 0, 100, .inl g_rulingBefore))] sz) := by
  unfold wp_Ledger_sumOf at hw
  refine Met.ofW (cc := cX1_sumOf) (maxL := 6) (ret := some .int) (by decide) rfl ?_
  intro p e s m args below meth c s₁ B hml hv
  obtain ⟨rfl, hsz, hP, hK, hD0, hE⟩ := hv
  have hx := B.exec
  have hb := B.bytes
  have hr := B.returns
  have hts := atoms_spec (ws := wsX1_sumOf) B.pre
  have hown : s.vm.findClass RX1 = some m.cls := findClass_of_methodNamed B.named
  have hlocks := B.notSynchronized
  subst hsz
  have hD := hD0.self (sz := s.heap.size)
  generalize hAe : va_A [(ce_lg ad g_size g_rulings g_paid), ((ad 24), .inl (y 0, 800, .inl g_madeAt)), ((ad 25), .inl (y 0, 800, .inl g_card)), ((ad 26), .inl (y 0, 800, .inl g_money)), ((ad 27), .inl (y 0, 800, .inl g_latestRuling)), ((ad 28), .inl (y 0, 100, .inl g_rulingFrom)), ((ad 29), .inl (y 0, 100, .inl g_rulingMoney)), ((ad 30), .inl (y 0, 100, .inl g_rulingBefore))] s.heap.size = A at hD ⊢
  have hA : ∀ q : Nat, s.heap.size ≤ q → A q := fun q h => by rw [← hAe]; exact Or.inr h
  have hS : va_S A s.heap s.heap [] := va_S.rf
  have hP : va_P D vwCl [(ce_lg ad g_size g_rulings g_paid), ((ad 24), .inl (y 0, 800, .inl g_madeAt)), ((ad 25), .inl (y 0, 800, .inl g_card)), ((ad 26), .inl (y 0, 800, .inl g_money)), ((ad 27), .inl (y 0, 800, .inl g_latestRuling)), ((ad 28), .inl (y 0, 100, .inl g_rulingFrom)), ((ad 29), .inl (y 0, 100, .inl g_rulingMoney)), ((ad 30), .inl (y 0, 100, .inl g_rulingBefore))] s.heap := hP
  have hl := lv_entry ([.ref (ad 23), .int p0, .int p1, .int p2]) (n := 6) (Nat.le_of_ble_eq_true rfl)
  rw [lg_entry_eq]
  generalize (lg_sl ([.ref (ad 23), .int p0, .int p1, .int p2]) ++ List.replicate (6 - (lg_sl ([.ref (ad 23), .int p0, .int p1, .int p2])).length) Slot.unset).toArray = ls at hl ⊢
  have hl : lv_has ls 6 [(0, .ref (ad 23)), (1, .int p0), (2, .int p1), (3, .int p2)] := hl
  refine lv_iconst (v := 0) hx hb dX1_sumOf_0 (by decide) ?_
  refine lv_istore (lv' := [(4, .int 0), (0, .ref (ad 23)), (1, .int p0), (2, .int p1), (3, .int p2)]) hx hb dX1_sumOf_1 hl (by decide) rfl (fun ls hl => ?_)
  refine lv_iconst (v := 0) hx hb dX1_sumOf_3 (by decide) ?_
  refine lv_istore (lv' := [(5, .int 0), (4, .int 0), (0, .ref (ad 23)), (1, .int p0), (2, .int p1), (3, .int p2)]) hx hb dX1_sumOf_4 hl (by decide) rfl (fun ls hl => ?_)
  obtain ⟨n', hw⟩ := hw
  exact c_Ledger_sumOf_h6 hx hb hr hml hown hts hlocks hK hE hA  n' 0 0 hw _ _ _ hP hD hS (lv_sub hl [0, 1, 2, 3, 4, 5] rfl)
