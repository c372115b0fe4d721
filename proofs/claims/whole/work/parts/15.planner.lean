theorem inw_X3_reach_X3 : ∀ w ∈ wsX30, w ∈ wsX3_reach := fun _ h => List.mem_cons_of_mem _ (List.mem_append_left _ (List.mem_append_right _ h))
def wp_Planner_reach (p_waiting : Nat → Int32) (p0 : Int32) (p1 : Int32) (Q : (Nat → Int32) → Prop) : Prop := ((p0 < 0 → Q p_waiting) ∧ (¬ p0 < 0 → ((6561 ≤ p0 → Q p_waiting) ∧ (¬ 6561 ≤ p0 → (vp_in p0 6561 ∧ ((p_waiting p0.toNatClampNeg ≤ p1 → Q p_waiting) ∧ (¬ p_waiting p0.toNatClampNeg ≤ p1 → (vp_in p0 6561 ∧ Q (upd p_waiting p0.toNatClampNeg p1)))))))))
set_option maxHeartbeats 4000000 in
set_option maxRecDepth 100000 in
theorem c_Planner_reach (l : Launch) (D : va_G) (y : Nat → ClassId) (ad : Nat → Nat) (sz : Nat) (p_size : Int32) (p_waiting : Nat → Int32) (p0 : Int32) (p1 : Int32) {Q : (Nat → Int32) → Prop} (hw : wp_Planner_reach p_waiting p0 p1 Q) : Met l yX3_reach wsX3_reach ({ frames := 0, cells := 0, slots := 0, locals := 0 }) (va_Pc [.ref (ad 33), .int p0, .int p1] (mPre D y sz [(ce_pl ad p_size), ((ad 37), .inl (y 0, 6561, .inl p_waiting))])) (va_Qv (fun (u : (Nat → Int32)) => Q u) (mAt D y (va_A [(ce_pl ad p_size), ((ad 37), .inl (y 0, 6561, .inl p_waiting))] sz) (fun (u : (Nat → Int32)) => [(ce_pl ad p_size), ((ad 37), .inl (y 0, 6561, .inl u))])) (va_A [(ce_pl ad p_size), ((ad 37), .inl (y 0, 6561, .inl p_waiting))] sz)) 0 0 (va_A [(ce_pl ad p_size), ((ad 37), .inl (y 0, 6561, .inl p_waiting))] sz) := by
  unfold wp_Planner_reach at hw
  refine Met.ofW (cc := cX3_reach) (maxL := 3) (ret := none) (by decide) rfl ?_
  intro p e s m args below meth c s₁ B hml hv
  obtain ⟨rfl, hsz, hP, hK, hD0, hE⟩ := hv
  have hx := B.exec
  have hb := B.bytes
  have hr := B.returns
  have hts := atoms_spec (ws := wsX3_reach) B.pre
  have hown : s.vm.findClass RX3 = some m.cls := findClass_of_methodNamed B.named
  have hlocks := B.notSynchronized
  subst hsz
  have hD := hD0.self (sz := s.heap.size)
  generalize hAe : va_A [(ce_pl ad p_size), ((ad 37), .inl (y 0, 6561, .inl p_waiting))] s.heap.size = A at hD ⊢
  have hA : ∀ q : Nat, s.heap.size ≤ q → A q := fun q h => by rw [← hAe]; exact Or.inr h
  have hS : va_S A s.heap s.heap [] := va_S.rf
  have hP : va_P D vwCl [(ce_pl ad p_size), ((ad 37), .inl (y 0, 6561, .inl p_waiting))] s.heap := hP
  have hl := lv_entry ([.ref (ad 33), .int p0, .int p1]) (n := 3) (Nat.le_of_ble_eq_true rfl)
  rw [lg_entry_eq]
  generalize (lg_sl ([.ref (ad 33), .int p0, .int p1]) ++ List.replicate (3 - (lg_sl ([.ref (ad 33), .int p0, .int p1])).length) Slot.unset).toArray = ls at hl ⊢
  have hl : lv_has ls 3 [(0, .ref (ad 33)), (1, .int p0), (2, .int p1)] := hl
  refine lv_iload_n hx hb dX3_reach_0 rfl (lv_at hl 1 rfl) ?_
  refine lv_if_lt (tgt := 28) hx hb dX3_reach_1 (by decide) (fun hc => ?_) (fun hc => ?_)
  · have hw := hw.1 hc
    exact W.vret hx hb hr (fun t ht hW => ⟨⟨(p_waiting), rfl, hw, mAt.to hP hK hD ht hW⟩, hS.F ht⟩) hS.2.2 dX3_reach_28
  · have hw := hw.2 hc
    refine lv_iload_n hx hb dX3_reach_4 rfl (lv_at hl 1 rfl) ?_
    refine lv_sipush (v := 6561) hx hb dX3_reach_5 (by decide) ?_
    refine lv_icmp_ge (tgt := 28) hx hb dX3_reach_8 (by decide) (fun hc => ?_) (fun hc => ?_)
    · have hw := hw.1 hc
      exact W.vret hx hb hr (fun t ht hW => ⟨⟨(p_waiting), rfl, hw, mAt.to hP hK hD ht hW⟩, hS.F ht⟩) hS.2.2 dX3_reach_28
    · have hw := hw.2 hc
      refine lv_iload_n hx hb dX3_reach_11 rfl (lv_at hl 2 rfl) ?_
      refine lv_aload_n hx hb dX3_reach_12 rfl (lv_at hl 0 rfl) ?_
      refine va_get (ci := 5) (v := .ref (ad 37)) (C := RX3) (T := TX3) (N := 6) hx hb hts inw_X3_reach_X3 hown hK hP 0 rfl rfl 3 (by decide) (hts (.fieldLink RX3 23 "DockCall$Planner" "waiting" "[I") (by decide +kernel)) (fun _ h9 => h9) rfl dX3_reach_13 ?_
      refine lv_iload_n hx hb dX3_reach_16 rfl (lv_at hl 1 rfl) ?_
      obtain ⟨hi, hw⟩ := hw
      refine va_iald hx hb hK hP 1 0 rfl rfl hi dX3_reach_17 ?_
      refine lv_icmp_ge (tgt := 28) hx hb dX3_reach_18 (by decide) (fun hc => ?_) (fun hc => ?_)
      · have hw := hw.1 hc
        exact W.vret hx hb hr (fun t ht hW => ⟨⟨(p_waiting), rfl, hw, mAt.to hP hK hD ht hW⟩, hS.F ht⟩) hS.2.2 dX3_reach_28
      · have hw := hw.2 hc
        refine lv_aload_n hx hb dX3_reach_21 rfl (lv_at hl 0 rfl) ?_
        refine va_get (ci := 5) (v := .ref (ad 37)) (C := RX3) (T := TX3) (N := 6) hx hb hts inw_X3_reach_X3 hown hK hP 0 rfl rfl 3 (by decide) (hts (.fieldLink RX3 23 "DockCall$Planner" "waiting" "[I") (by decide +kernel)) (fun _ h9 => h9) rfl dX3_reach_22 ?_
        refine lv_iload_n hx hb dX3_reach_25 rfl (lv_at hl 1 rfl) ?_
        refine lv_iload_n hx hb dX3_reach_26 rfl (lv_at hl 2 rfl) ?_
        obtain ⟨hi, hw⟩ := hw
        refine va_iast hx hb hK hP hD hS 1 0 rfl rfl hi dX3_reach_27 (fun H locs hP hD hS => ?_)
        have hP : va_P D vwCl [(ce_pl ad p_size), ((ad 37), .inl (y 0, 6561, .inl (upd p_waiting p0.toNatClampNeg p1)))] H := hP
        have hD : va_D A [(ce_pl ad p_size), ((ad 37), .inl (y 0, 6561, .inl (upd p_waiting p0.toNatClampNeg p1)))] := hD
        exact W.vret hx hb hr (fun t ht hW => ⟨⟨(upd p_waiting p0.toNatClampNeg p1), rfl, hw, mAt.to hP hK hD ht hW⟩, hS.F ht⟩) hS.2.2 dX3_reach_28
theorem inw_X3_spread_X3 : ∀ w ∈ wsX30, w ∈ wsX3_spread := fun _ h => List.mem_cons_of_mem _ (List.mem_append_left _ (List.mem_append_right _ h))
def wp_Planner_spread_h102 (v1 : Int32) (v3 : Int32) (v5 : Int32) (v7 : Int32) (v8 : Int32) (p_room : Nat → Int32) (K64 : Int32 → (Nat → Int32) → Prop) (Q : (Nat → Int32) → Prop) : Nat → Int32 → (Nat → Int32) → Prop
  | 0, _, _ => False
  | n + 1, v9, p_waiting => (((if v8 < (p_room (2 : Int32).toNatClampNeg) then v8 else (p_room (2 : Int32).toNatClampNeg)) < v9 → K64 (v7 + 1) p_waiting) ∧ (¬ (if v8 < (p_room (2 : Int32).toNatClampNeg) then v8 else (p_room (2 : Int32).toNatClampNeg)) < v9 → (wp_Planner_reach p_waiting ((v1 - v5) - (9 * (v7 + (9 * (v9 + (9 * (v8 - v9))))))) v3 (fun p_waiting_1 => wp_Planner_spread_h102 v1 v3 v5 v7 v8 p_room K64 Q n (v9 + 1) p_waiting_1))))
def wp_Planner_spread_h64 (v1 : Int32) (v3 : Int32) (v5 : Int32) (v6 : Int32) (p_room : Nat → Int32) (K32 : Int32 → (Nat → Int32) → Prop) (Q : (Nat → Int32) → Prop) : Nat → Int32 → (Nat → Int32) → Prop
  | 0, _, _ => False
  | n + 1, v7, p_waiting => (((if v6 < (p_room (1 : Int32).toNatClampNeg) then v6 else (p_room (1 : Int32).toNatClampNeg)) < v7 → K32 (v5 + 1) p_waiting) ∧ (¬ (if v6 < (p_room (1 : Int32).toNatClampNeg) then v6 else (p_room (1 : Int32).toNatClampNeg)) < v7 → (∃ n' : Nat, wp_Planner_spread_h102 v1 v3 v5 v7 (v6 - v7) p_room (wp_Planner_spread_h64 v1 v3 v5 v6 p_room K32 Q n) Q n' (if (0 : Int32) < ((v6 - v7) - (p_room (3 : Int32).toNatClampNeg)) then ((v6 - v7) - (p_room (3 : Int32).toNatClampNeg)) else 0) p_waiting)))
def wp_Planner_spread_h32 (v1 : Int32) (v2 : Int32) (v3 : Int32) (v4 : Int32) (p_room : Nat → Int32)  (Q : (Nat → Int32) → Prop) : Nat → Int32 → (Nat → Int32) → Prop
  | 0, _, _ => False
  | n + 1, v5, p_waiting => (((if v2 < (p_room (0 : Int32).toNatClampNeg) then v2 else (p_room (0 : Int32).toNatClampNeg)) < v5 → Q p_waiting) ∧ (¬ (if v2 < (p_room (0 : Int32).toNatClampNeg) then v2 else (p_room (0 : Int32).toNatClampNeg)) < v5 → (∃ n' : Nat, wp_Planner_spread_h64 v1 v3 v5 (v2 - v5) p_room (wp_Planner_spread_h32 v1 v2 v3 v4 p_room Q n) Q n' (if (0 : Int32) < ((v2 - v5) - v4) then ((v2 - v5) - v4) else 0) p_waiting)))
def wp_Planner_spread (p_room : Nat → Int32) (p_waiting : Nat → Int32) (p0 : Int32) (p1 : Int32) (p2 : Int32) (Q : (Nat → Int32) → Prop) : Prop := (∃ n' : Nat, wp_Planner_spread_h32 p0 p1 p2 ((p_room (2 : Int32).toNatClampNeg) + (p_room (3 : Int32).toNatClampNeg)) p_room Q n' (if (0 : Int32) < ((p1 - (p_room (1 : Int32).toNatClampNeg)) - ((p_room (2 : Int32).toNatClampNeg) + (p_room (3 : Int32).toNatClampNeg))) then ((p1 - (p_room (1 : Int32).toNatClampNeg)) - ((p_room (2 : Int32).toNatClampNeg) + (p_room (3 : Int32).toNatClampNeg))) else 0) p_waiting)
set_option maxHeartbeats 4000000 in
set_option maxRecDepth 100000 in
theorem c_Planner_spread_h102 {p : Program} {l : Launch} {e : Env} {s : State} {m : MethodId} {args : Array Value} {below : List Frame} {meth : Method} {c : Code} {D : va_G} {y : Nat → ClassId} {ad : Nat → Nat} {A : Nat → Prop} (hx : p.tables.exec = Jvm.exec) (hb : c.code = cX3_spread) (hr : meth.sig.returnType = none) (hml : c.maxLocals = 11) (hown : s.vm.findClass RX3 = some m.cls) (hts : ∀ w ∈ wsX3_spread, w.before args s = true) (hlocks : meth.locks = false) (hK : va_K D vwCl (TY y) s) (hE : EV s) (hA : ∀ q, s.heap.size ≤ q → A q) {v1 : Int32} {v2 : Int32} {v3 : Int32} {v4 : Int32} {v5 : Int32} {v6 : Int32} {v7 : Int32} {v8 : Int32} {p_room : Nat → Int32} {p_size : Int32} {K64 : Int32 → (Nat → Int32) → Prop} {Q : (Nat → Int32) → Prop} (hK64 : ∀ (w7 : Int32) (p_waiting_w : Nat → Int32), K64 w7 p_waiting_w → ∀ (H : Heap) (locs : List Loc) (ls : Array Slot), va_P D vwCl [(ce_pl ad p_size), ((ad 36), .inl (y 0, 4, .inl p_room)), ((ad 37), .inl (y 0, 6561, .inl p_waiting_w))] H → va_D A [(ce_pl ad p_size), ((ad 36), .inl (y 0, 4, .inl p_room)), ((ad 37), .inl (y 0, 6561, .inl p_waiting_w))] → va_S A s.heap H locs → lv_has ls 11 [(7, .int w7), (6, .int v6), (5, .int v5), (4, .int v4), (0, .ref (ad 33)), (1, .int v1), (2, .int v2), (3, .int v3)] → W p l e ({ frames := 1, cells := 0, slots := 0, locals := 24 }) s m args below meth c H locs 0 0 (MQ below (va_Qv (fun (u : (Nat → Int32)) => Q u) (mAt D y A (fun (u : (Nat → Int32)) => [(ce_pl ad p_size), ((ad 36), .inl (y 0, 4, .inl p_room)), ((ad 37), .inl (y 0, 6561, .inl u))])) A) args s 0 0 A) (F0 m 64 ls [])) : ∀ (n : Nat) (v9 : Int32) (p_waiting : Nat → Int32), wp_Planner_spread_h102 v1 v3 v5 v7 v8 p_room K64 Q n v9 p_waiting → ∀ (H : Heap) (locs : List Loc) (ls : Array Slot), va_P D vwCl [(ce_pl ad p_size), ((ad 36), .inl (y 0, 4, .inl p_room)), ((ad 37), .inl (y 0, 6561, .inl p_waiting))] H → va_D A [(ce_pl ad p_size), ((ad 36), .inl (y 0, 4, .inl p_room)), ((ad 37), .inl (y 0, 6561, .inl p_waiting))] → va_S A s.heap H locs → lv_has ls 11 [(9, .int v9), (8, .int v8), (7, .int v7), (6, .int v6), (5, .int v5), (4, .int v4), (0, .ref (ad 33)), (1, .int v1), (2, .int v2), (3, .int v3)] → W p l e ({ frames := 1, cells := 0, slots := 0, locals := 24 }) s m args below meth c H locs 0 0 (MQ below (va_Qv (fun (u : (Nat → Int32)) => Q u) (mAt D y A (fun (u : (Nat → Int32)) => [(ce_pl ad p_size), ((ad 36), .inl (y 0, 4, .inl p_room)), ((ad 37), .inl (y 0, 6561, .inl u))])) A) args s 0 0 A) (F0 m 102 ls []) := by
  intro n
  induction n with
  | zero => intro v9 p_waiting hw; rw [wp_Planner_spread_h102] at hw; exact hw.elim
  | succ n ih =>
    intro v9 p_waiting hw H locs ls hP hD hS hl
    rw [wp_Planner_spread_h102] at hw
    refine lv_iload hx hb dX3_spread_102 (lv_at hl 0 rfl) ?_
    refine lv_aload_n hx hb dX3_spread_104 rfl (lv_at hl 6 rfl) ?_
    refine va_get (ci := 5) (v := .ref (ad 36)) (C := RX3) (T := TX3) (N := 6) hx hb hts inw_X3_spread_X3 hown hK hP 0 rfl rfl 2 (by decide) (hts (.fieldLink RX3 20 "DockCall$Planner" "room" "[I") (by decide +kernel)) (fun _ h9 => h9) rfl dX3_spread_105 ?_
    refine lv_iconst (v := 2) hx hb dX3_spread_108 (by decide) ?_
    refine va_iald hx hb hK hP 1 0 rfl rfl (by unfold vp_in; decide) dX3_spread_109 ?_
    refine lv_iload hx hb dX3_spread_110 (lv_at hl 1 rfl) ?_
    refine va_mmin hx hb (by rw [hml]; exact hl.1.symm) hown (hts (.methodLink RX3 51 Lib.Math.min.name) (by decide +kernel)) (hts (.static Lib.Math.min.name) (by decide +kernel)) (hts (.initialized "java/lang/Math") (by decide +kernel)) (hts (.code Lib.Math.min.name Lib.Math.min.code 2 (some .int)) (by decide +kernel)) (Nat.le_of_ble_eq_true rfl) (Nat.le_of_ble_eq_true rfl) (Nat.le_of_ble_eq_true rfl) (Nat.le_of_ble_eq_true rfl) dX3_spread_112 ?_
    refine lv_icmp_gt (tgt := 158) hx hb dX3_spread_115 (by decide) (fun hc => ?_) (fun hc => ?_)
    · have hw := hw.1 hc
      refine lv_iinc (v := v7 + 1) (lv' := [(7, .int (v7 + 1)), (9, .int v9), (8, .int v8), (6, .int v6), (5, .int v5), (4, .int v4), (0, .ref (ad 33)), (1, .int v1), (2, .int v2), (3, .int v3)]) hx hb dX3_spread_158 hl (k := 2) rfl (by first | rfl | decide) (by decide) rfl (fun ls hl => ?_)
      refine lv_goto (tgt := 64) hx hb dX3_spread_161 (by decide) ?_
      exact hK64 (v7 + 1) p_waiting hw _ _ _ hP hD hS (lv_sub hl [0, 3, 4, 5, 6, 7, 8, 9] rfl)
    · have hw := hw.2 hc
      refine lv_iload hx hb dX3_spread_118 (lv_at hl 1 rfl) ?_
      refine lv_iload hx hb dX3_spread_120 (lv_at hl 0 rfl) ?_
      refine lv_isub hx hb dX3_spread_122 ?_
      refine lv_istore (lv' := [(10, .int (v8 - v9)), (9, .int v9), (8, .int v8), (7, .int v7), (6, .int v6), (5, .int v5), (4, .int v4), (0, .ref (ad 33)), (1, .int v1), (2, .int v2), (3, .int v3)]) hx hb dX3_spread_123 hl (by decide) rfl (fun ls hl => ?_)
      refine lv_aload_n hx hb dX3_spread_125 rfl (lv_at hl 7 rfl) ?_
      refine lv_iload_n hx hb dX3_spread_126 rfl (lv_at hl 8 rfl) ?_
      refine lv_iload hx hb dX3_spread_127 (lv_at hl 5 rfl) ?_
      refine lv_isub hx hb dX3_spread_129 ?_
      refine lv_bipush (v := 9) hx hb dX3_spread_130 (by decide) ?_
      refine lv_iload hx hb dX3_spread_132 (lv_at hl 3 rfl) ?_
      refine lv_bipush (v := 9) hx hb dX3_spread_134 (by decide) ?_
      refine lv_iload hx hb dX3_spread_136 (lv_at hl 1 rfl) ?_
      refine lv_bipush (v := 9) hx hb dX3_spread_138 (by decide) ?_
      refine lv_iload hx hb dX3_spread_140 (lv_at hl 0 rfl) ?_
      refine lv_imul hx hb dX3_spread_142 ?_
      refine lv_iadd hx hb dX3_spread_143 ?_
      refine lv_imul hx hb dX3_spread_144 ?_
      refine lv_iadd hx hb dX3_spread_145 ?_
      refine lv_imul hx hb dX3_spread_146 ?_
      refine lv_isub hx hb dX3_spread_147 ?_
      refine lv_iload_n hx hb dX3_spread_148 rfl (lv_at hl 10 rfl) ?_
      refine mx_v (wc := [(ce_pl ad p_size), ((ad 37), .inl (y 0, 6561, .inl p_waiting))]) (wr := [((ad 36), .inl (y 0, 4, .inl p_room))]) hP hD hS hA [0, 2] [1] [1, 0, 2] rfl rfl (by decide) (by decide) (by decide) (fun (u : (Nat → Int32)) => [(ce_pl ad p_size), ((ad 36), .inl (y 0, 4, .inl p_room)), ((ad 37), .inl (y 0, 6561, .inl u))]) (fun _ => rfl) (va_runV (As := [.int ((v1 - v5) - (9 * (v7 + (9 * (v9 + (9 * (v8 - v9))))))), .int v3]) (rest := []) ⟨hx, hb, hml, hown, hts⟩ (c_Planner_reach l D y ad H.size p_size p_waiting ((v1 - v5) - (9 * (v7 + (9 * (v9 + (9 * (v8 - v9))))))) v3 hw) (cwV 2 hts gX3_spread_X3_reach rfl rfl rfl (by decide +kernel) ⟨Nat.le_of_ble_eq_true rfl, Nat.le_of_ble_eq_true rfl⟩) ⟨mPre.blind, (va_recv hK hP (ci := 5) (q0 := 0) rfl rfl), mPre.to (hP.sub [0, 2] rfl) hK (hD.sub [0, 2] (by decide) rfl) hE⟩ rfl rfl hl.1 rfl (lv_room (Nat.le_of_ble_eq_true rfl)) dX3_spread_149 ⟨Nat.le_of_ble_eq_true rfl, Nat.le_of_ble_eq_true rfl⟩) (fun u H locs hw hP hD hS => ?_)
      obtain ⟨p_waiting_1, rfl⟩ : ∃ z, z = u := ⟨_, rfl⟩
      try dsimp only at hw
      have hP : va_P D vwCl [(ce_pl ad p_size), ((ad 36), .inl (y 0, 4, .inl p_room)), ((ad 37), .inl (y 0, 6561, .inl p_waiting_1))] H := hP
      have hD : va_D A [(ce_pl ad p_size), ((ad 36), .inl (y 0, 4, .inl p_room)), ((ad 37), .inl (y 0, 6561, .inl p_waiting_1))] := hD
      refine lv_iinc (v := v9 + 1) (lv' := [(9, .int (v9 + 1)), (10, .int (v8 - v9)), (8, .int v8), (7, .int v7), (6, .int v6), (5, .int v5), (4, .int v4), (0, .ref (ad 33)), (1, .int v1), (2, .int v2), (3, .int v3)]) hx hb dX3_spread_152 hl (k := 1) rfl (by first | rfl | decide) (by decide) rfl (fun ls hl => ?_)
      refine lv_goto (tgt := 102) hx hb dX3_spread_155 (by decide) ?_
      exact ih (v9 + 1) p_waiting_1 hw _ _ _ hP hD hS (lv_sub hl [0, 2, 3, 4, 5, 6, 7, 8, 9, 10] rfl)
set_option maxHeartbeats 4000000 in
set_option maxRecDepth 100000 in
theorem c_Planner_spread_h64 {p : Program} {l : Launch} {e : Env} {s : State} {m : MethodId} {args : Array Value} {below : List Frame} {meth : Method} {c : Code} {D : va_G} {y : Nat → ClassId} {ad : Nat → Nat} {A : Nat → Prop} (hx : p.tables.exec = Jvm.exec) (hb : c.code = cX3_spread) (hr : meth.sig.returnType = none) (hml : c.maxLocals = 11) (hown : s.vm.findClass RX3 = some m.cls) (hts : ∀ w ∈ wsX3_spread, w.before args s = true) (hlocks : meth.locks = false) (hK : va_K D vwCl (TY y) s) (hE : EV s) (hA : ∀ q, s.heap.size ≤ q → A q) {v1 : Int32} {v2 : Int32} {v3 : Int32} {v4 : Int32} {v5 : Int32} {v6 : Int32} {p_room : Nat → Int32} {p_size : Int32} {K32 : Int32 → (Nat → Int32) → Prop} {Q : (Nat → Int32) → Prop} (hK32 : ∀ (w5 : Int32) (p_waiting_w : Nat → Int32), K32 w5 p_waiting_w → ∀ (H : Heap) (locs : List Loc) (ls : Array Slot), va_P D vwCl [(ce_pl ad p_size), ((ad 36), .inl (y 0, 4, .inl p_room)), ((ad 37), .inl (y 0, 6561, .inl p_waiting_w))] H → va_D A [(ce_pl ad p_size), ((ad 36), .inl (y 0, 4, .inl p_room)), ((ad 37), .inl (y 0, 6561, .inl p_waiting_w))] → va_S A s.heap H locs → lv_has ls 11 [(5, .int w5), (4, .int v4), (0, .ref (ad 33)), (1, .int v1), (2, .int v2), (3, .int v3)] → W p l e ({ frames := 1, cells := 0, slots := 0, locals := 24 }) s m args below meth c H locs 0 0 (MQ below (va_Qv (fun (u : (Nat → Int32)) => Q u) (mAt D y A (fun (u : (Nat → Int32)) => [(ce_pl ad p_size), ((ad 36), .inl (y 0, 4, .inl p_room)), ((ad 37), .inl (y 0, 6561, .inl u))])) A) args s 0 0 A) (F0 m 32 ls [])) : ∀ (n : Nat) (v7 : Int32) (p_waiting : Nat → Int32), wp_Planner_spread_h64 v1 v3 v5 v6 p_room K32 Q n v7 p_waiting → ∀ (H : Heap) (locs : List Loc) (ls : Array Slot), va_P D vwCl [(ce_pl ad p_size), ((ad 36), .inl (y 0, 4, .inl p_room)), ((ad 37), .inl (y 0, 6561, .inl p_waiting))] H → va_D A [(ce_pl ad p_size), ((ad 36), .inl (y 0, 4, .inl p_room)), ((ad 37), .inl (y 0, 6561, .inl p_waiting))] → va_S A s.heap H locs → lv_has ls 11 [(7, .int v7), (6, .int v6), (5, .int v5), (4, .int v4), (0, .ref (ad 33)), (1, .int v1), (2, .int v2), (3, .int v3)] → W p l e ({ frames := 1, cells := 0, slots := 0, locals := 24 }) s m args below meth c H locs 0 0 (MQ below (va_Qv (fun (u : (Nat → Int32)) => Q u) (mAt D y A (fun (u : (Nat → Int32)) => [(ce_pl ad p_size), ((ad 36), .inl (y 0, 4, .inl p_room)), ((ad 37), .inl (y 0, 6561, .inl u))])) A) args s 0 0 A) (F0 m 64 ls []) := by
  intro n
  induction n with
  | zero => intro v7 p_waiting hw; rw [wp_Planner_spread_h64] at hw; exact hw.elim
  | succ n ih =>
    intro v7 p_waiting hw H locs ls hP hD hS hl
    rw [wp_Planner_spread_h64] at hw
    refine lv_iload hx hb dX3_spread_64 (lv_at hl 0 rfl) ?_
    refine lv_aload_n hx hb dX3_spread_66 rfl (lv_at hl 4 rfl) ?_
    refine va_get (ci := 5) (v := .ref (ad 36)) (C := RX3) (T := TX3) (N := 6) hx hb hts inw_X3_spread_X3 hown hK hP 0 rfl rfl 2 (by decide) (hts (.fieldLink RX3 20 "DockCall$Planner" "room" "[I") (by decide +kernel)) (fun _ h9 => h9) rfl dX3_spread_67 ?_
    refine lv_iconst (v := 1) hx hb dX3_spread_70 (by decide) ?_
    refine va_iald hx hb hK hP 1 0 rfl rfl (by unfold vp_in; decide) dX3_spread_71 ?_
    refine lv_iload hx hb dX3_spread_72 (lv_at hl 1 rfl) ?_
    refine va_mmin hx hb (by rw [hml]; exact hl.1.symm) hown (hts (.methodLink RX3 51 Lib.Math.min.name) (by decide +kernel)) (hts (.static Lib.Math.min.name) (by decide +kernel)) (hts (.initialized "java/lang/Math") (by decide +kernel)) (hts (.code Lib.Math.min.name Lib.Math.min.code 2 (some .int)) (by decide +kernel)) (Nat.le_of_ble_eq_true rfl) (Nat.le_of_ble_eq_true rfl) (Nat.le_of_ble_eq_true rfl) (Nat.le_of_ble_eq_true rfl) dX3_spread_74 ?_
    refine lv_icmp_gt (tgt := 164) hx hb dX3_spread_77 (by decide) (fun hc => ?_) (fun hc => ?_)
    · have hw := hw.1 hc
      refine lv_iinc (v := v5 + 1) (lv' := [(5, .int (v5 + 1)), (7, .int v7), (6, .int v6), (4, .int v4), (0, .ref (ad 33)), (1, .int v1), (2, .int v2), (3, .int v3)]) hx hb dX3_spread_164 hl (k := 2) rfl (by first | rfl | decide) (by decide) rfl (fun ls hl => ?_)
      refine lv_goto (tgt := 32) hx hb dX3_spread_167 (by decide) ?_
      exact hK32 (v5 + 1) p_waiting hw _ _ _ hP hD hS (lv_sub hl [0, 3, 4, 5, 6, 7] rfl)
    · have hw := hw.2 hc
      refine lv_iload hx hb dX3_spread_80 (lv_at hl 1 rfl) ?_
      refine lv_iload hx hb dX3_spread_82 (lv_at hl 0 rfl) ?_
      refine lv_isub hx hb dX3_spread_84 ?_
      refine lv_istore (lv' := [(8, .int (v6 - v7)), (7, .int v7), (6, .int v6), (5, .int v5), (4, .int v4), (0, .ref (ad 33)), (1, .int v1), (2, .int v2), (3, .int v3)]) hx hb dX3_spread_85 hl (by decide) rfl (fun ls hl => ?_)
      refine lv_iconst (v := 0) hx hb dX3_spread_87 (by decide) ?_
      refine lv_iload hx hb dX3_spread_88 (lv_at hl 0 rfl) ?_
      refine lv_aload_n hx hb dX3_spread_90 rfl (lv_at hl 5 rfl) ?_
      refine va_get (ci := 5) (v := .ref (ad 36)) (C := RX3) (T := TX3) (N := 6) hx hb hts inw_X3_spread_X3 hown hK hP 0 rfl rfl 2 (by decide) (hts (.fieldLink RX3 20 "DockCall$Planner" "room" "[I") (by decide +kernel)) (fun _ h9 => h9) rfl dX3_spread_91 ?_
      refine lv_iconst (v := 3) hx hb dX3_spread_94 (by decide) ?_
      refine va_iald hx hb hK hP 1 0 rfl rfl (by unfold vp_in; decide) dX3_spread_95 ?_
      refine lv_isub hx hb dX3_spread_96 ?_
      refine va_mmax hx hb (by rw [hml]; exact hl.1.symm) hown (hts (.methodLink RX3 61 Lib.Math.max.name) (by decide +kernel)) (hts (.static Lib.Math.max.name) (by decide +kernel)) (hts (.initialized "java/lang/Math") (by decide +kernel)) (hts (.code Lib.Math.max.name Lib.Math.max.code 2 (some .int)) (by decide +kernel)) (Nat.le_of_ble_eq_true rfl) (Nat.le_of_ble_eq_true rfl) (Nat.le_of_ble_eq_true rfl) (Nat.le_of_ble_eq_true rfl) dX3_spread_97 ?_
      refine lv_istore (lv' := [(9, .int (if (0 : Int32) < ((v6 - v7) - (p_room (3 : Int32).toNatClampNeg)) then ((v6 - v7) - (p_room (3 : Int32).toNatClampNeg)) else 0)), (8, .int (v6 - v7)), (7, .int v7), (6, .int v6), (5, .int v5), (4, .int v4), (0, .ref (ad 33)), (1, .int v1), (2, .int v2), (3, .int v3)]) hx hb dX3_spread_100 hl (by decide) rfl (fun ls hl => ?_)
      obtain ⟨n', hw⟩ := hw
      exact c_Planner_spread_h102 hx hb hr hml hown hts hlocks hK hE hA ih n' (if (0 : Int32) < ((v6 - v7) - (p_room (3 : Int32).toNatClampNeg)) then ((v6 - v7) - (p_room (3 : Int32).toNatClampNeg)) else 0) p_waiting hw _ _ _ hP hD hS (lv_sub hl [0, 1, 2, 3, 4, 5, 6, 7, 8, 9] rfl)
set_option maxHeartbeats 4000000 in
set_option maxRecDepth 100000 in
theorem c_Planner_spread_h32 {p : Program} {l : Launch} {e : Env} {s : State} {m : MethodId} {args : Array Value} {below : List Frame} {meth : Method} {c : Code} {D : va_G} {y : Nat → ClassId} {ad : Nat → Nat} {A : Nat → Prop} (hx : p.tables.exec = Jvm.exec) (hb : c.code = cX3_spread) (hr : meth.sig.returnType = none) (hml : c.maxLocals = 11) (hown : s.vm.findClass RX3 = some m.cls) (hts : ∀ w ∈ wsX3_spread, w.before args s = true) (hlocks : meth.locks = false) (hK : va_K D vwCl (TY y) s) (hE : EV s) (hA : ∀ q, s.heap.size ≤ q → A q) {v1 : Int32} {v2 : Int32} {v3 : Int32} {v4 : Int32} {p_room : Nat → Int32} {p_size : Int32}  {Q : (Nat → Int32) → Prop}  : ∀ (n : Nat) (v5 : Int32) (p_waiting : Nat → Int32), wp_Planner_spread_h32 v1 v2 v3 v4 p_room Q n v5 p_waiting → ∀ (H : Heap) (locs : List Loc) (ls : Array Slot), va_P D vwCl [(ce_pl ad p_size), ((ad 36), .inl (y 0, 4, .inl p_room)), ((ad 37), .inl (y 0, 6561, .inl p_waiting))] H → va_D A [(ce_pl ad p_size), ((ad 36), .inl (y 0, 4, .inl p_room)), ((ad 37), .inl (y 0, 6561, .inl p_waiting))] → va_S A s.heap H locs → lv_has ls 11 [(5, .int v5), (4, .int v4), (0, .ref (ad 33)), (1, .int v1), (2, .int v2), (3, .int v3)] → W p l e ({ frames := 1, cells := 0, slots := 0, locals := 24 }) s m args below meth c H locs 0 0 (MQ below (va_Qv (fun (u : (Nat → Int32)) => Q u) (mAt D y A (fun (u : (Nat → Int32)) => [(ce_pl ad p_size), ((ad 36), .inl (y 0, 4, .inl p_room)), ((ad 37), .inl (y 0, 6561, .inl u))])) A) args s 0 0 A) (F0 m 32 ls []) := by
  intro n
  induction n with
  | zero => intro v5 p_waiting hw; rw [wp_Planner_spread_h32] at hw; exact hw.elim
  | succ n ih =>
    intro v5 p_waiting hw H locs ls hP hD hS hl
    rw [wp_Planner_spread_h32] at hw
    refine lv_iload hx hb dX3_spread_32 (lv_at hl 0 rfl) ?_
    refine lv_aload_n hx hb dX3_spread_34 rfl (lv_at hl 2 rfl) ?_
    refine va_get (ci := 5) (v := .ref (ad 36)) (C := RX3) (T := TX3) (N := 6) hx hb hts inw_X3_spread_X3 hown hK hP 0 rfl rfl 2 (by decide) (hts (.fieldLink RX3 20 "DockCall$Planner" "room" "[I") (by decide +kernel)) (fun _ h9 => h9) rfl dX3_spread_35 ?_
    refine lv_iconst (v := 0) hx hb dX3_spread_38 (by decide) ?_
    refine va_iald hx hb hK hP 1 0 rfl rfl (by unfold vp_in; decide) dX3_spread_39 ?_
    refine lv_iload_n hx hb dX3_spread_40 rfl (lv_at hl 4 rfl) ?_
    refine va_mmin hx hb (by rw [hml]; exact hl.1.symm) hown (hts (.methodLink RX3 51 Lib.Math.min.name) (by decide +kernel)) (hts (.static Lib.Math.min.name) (by decide +kernel)) (hts (.initialized "java/lang/Math") (by decide +kernel)) (hts (.code Lib.Math.min.name Lib.Math.min.code 2 (some .int)) (by decide +kernel)) (Nat.le_of_ble_eq_true rfl) (Nat.le_of_ble_eq_true rfl) (Nat.le_of_ble_eq_true rfl) (Nat.le_of_ble_eq_true rfl) dX3_spread_41 ?_
    refine lv_icmp_gt (tgt := 170) hx hb dX3_spread_44 (by decide) (fun hc => ?_) (fun hc => ?_)
    · have hw := hw.1 hc
      exact W.vret hx hb hr (fun t ht hW => ⟨⟨(p_waiting), rfl, hw, mAt.to hP hK hD ht hW⟩, hS.F ht⟩) hS.2.2 dX3_spread_170
    · have hw := hw.2 hc
      refine lv_iload_n hx hb dX3_spread_47 rfl (lv_at hl 4 rfl) ?_
      refine lv_iload hx hb dX3_spread_48 (lv_at hl 0 rfl) ?_
      refine lv_isub hx hb dX3_spread_50 ?_
      refine lv_istore (lv' := [(6, .int (v2 - v5)), (5, .int v5), (4, .int v4), (0, .ref (ad 33)), (1, .int v1), (2, .int v2), (3, .int v3)]) hx hb dX3_spread_51 hl (by decide) rfl (fun ls hl => ?_)
      refine lv_iconst (v := 0) hx hb dX3_spread_53 (by decide) ?_
      refine lv_iload hx hb dX3_spread_54 (lv_at hl 0 rfl) ?_
      refine lv_iload hx hb dX3_spread_56 (lv_at hl 2 rfl) ?_
      refine lv_isub hx hb dX3_spread_58 ?_
      refine va_mmax hx hb (by rw [hml]; exact hl.1.symm) hown (hts (.methodLink RX3 61 Lib.Math.max.name) (by decide +kernel)) (hts (.static Lib.Math.max.name) (by decide +kernel)) (hts (.initialized "java/lang/Math") (by decide +kernel)) (hts (.code Lib.Math.max.name Lib.Math.max.code 2 (some .int)) (by decide +kernel)) (Nat.le_of_ble_eq_true rfl) (Nat.le_of_ble_eq_true rfl) (Nat.le_of_ble_eq_true rfl) (Nat.le_of_ble_eq_true rfl) dX3_spread_59 ?_
      refine lv_istore (lv' := [(7, .int (if (0 : Int32) < ((v2 - v5) - v4) then ((v2 - v5) - v4) else 0)), (6, .int (v2 - v5)), (5, .int v5), (4, .int v4), (0, .ref (ad 33)), (1, .int v1), (2, .int v2), (3, .int v3)]) hx hb dX3_spread_62 hl (by decide) rfl (fun ls hl => ?_)
      obtain ⟨n', hw⟩ := hw
      exact c_Planner_spread_h64 hx hb hr hml hown hts hlocks hK hE hA ih n' (if (0 : Int32) < ((v2 - v5) - v4) then ((v2 - v5) - v4) else 0) p_waiting hw _ _ _ hP hD hS (lv_sub hl [0, 1, 2, 3, 4, 5, 6, 7] rfl)
set_option maxHeartbeats 4000000 in
set_option maxRecDepth 100000 in
theorem c_Planner_spread (l : Launch) (D : va_G) (y : Nat → ClassId) (ad : Nat → Nat) (sz : Nat) (p_size : Int32) (p_room : Nat → Int32) (p_waiting : Nat → Int32) (p0 : Int32) (p1 : Int32) (p2 : Int32) {Q : (Nat → Int32) → Prop} (hw : wp_Planner_spread p_room p_waiting p0 p1 p2 Q) : Met l yX3_spread wsX3_spread ({ frames := 1, cells := 0, slots := 0, locals := 24 }) (va_Pc [.ref (ad 33), .int p0, .int p1, .int p2] (mPre D y sz [(ce_pl ad p_size), ((ad 36), .inl (y 0, 4, .inl p_room)), ((ad 37), .inl (y 0, 6561, .inl p_waiting))])) (va_Qv (fun (u : (Nat → Int32)) => Q u) (mAt D y (va_A [(ce_pl ad p_size), ((ad 36), .inl (y 0, 4, .inl p_room)), ((ad 37), .inl (y 0, 6561, .inl p_waiting))] sz) (fun (u : (Nat → Int32)) => [(ce_pl ad p_size), ((ad 36), .inl (y 0, 4, .inl p_room)), ((ad 37), .inl (y 0, 6561, .inl u))])) (va_A [(ce_pl ad p_size), ((ad 36), .inl (y 0, 4, .inl p_room)), ((ad 37), .inl (y 0, 6561, .inl p_waiting))] sz)) 0 0 (va_A [(ce_pl ad p_size), ((ad 36), .inl (y 0, 4, .inl p_room)), ((ad 37), .inl (y 0, 6561, .inl p_waiting))] sz) := by
  unfold wp_Planner_spread at hw
  refine Met.ofW (cc := cX3_spread) (maxL := 11) (ret := none) (by decide) rfl ?_
  intro p e s m args below meth c s₁ B hml hv
  obtain ⟨rfl, hsz, hP, hK, hD0, hE⟩ := hv
  have hx := B.exec
  have hb := B.bytes
  have hr := B.returns
  have hts := atoms_spec (ws := wsX3_spread) B.pre
  have hown : s.vm.findClass RX3 = some m.cls := findClass_of_methodNamed B.named
  have hlocks := B.notSynchronized
  subst hsz
  have hD := hD0.self (sz := s.heap.size)
  generalize hAe : va_A [(ce_pl ad p_size), ((ad 36), .inl (y 0, 4, .inl p_room)), ((ad 37), .inl (y 0, 6561, .inl p_waiting))] s.heap.size = A at hD ⊢
  have hA : ∀ q : Nat, s.heap.size ≤ q → A q := fun q h => by rw [← hAe]; exact Or.inr h
  have hS : va_S A s.heap s.heap [] := va_S.rf
  have hP : va_P D vwCl [(ce_pl ad p_size), ((ad 36), .inl (y 0, 4, .inl p_room)), ((ad 37), .inl (y 0, 6561, .inl p_waiting))] s.heap := hP
  have hl := lv_entry ([.ref (ad 33), .int p0, .int p1, .int p2]) (n := 11) (Nat.le_of_ble_eq_true rfl)
  rw [lg_entry_eq]
  generalize (lg_sl ([.ref (ad 33), .int p0, .int p1, .int p2]) ++ List.replicate (11 - (lg_sl ([.ref (ad 33), .int p0, .int p1, .int p2])).length) Slot.unset).toArray = ls at hl ⊢
  have hl : lv_has ls 11 [(0, .ref (ad 33)), (1, .int p0), (2, .int p1), (3, .int p2)] := hl
  refine lv_aload_n hx hb dX3_spread_0 rfl (lv_at hl 0 rfl) ?_
  refine va_get (ci := 5) (v := .ref (ad 36)) (C := RX3) (T := TX3) (N := 6) hx hb hts inw_X3_spread_X3 hown hK hP 0 rfl rfl 2 (by decide) (hts (.fieldLink RX3 20 "DockCall$Planner" "room" "[I") (by decide +kernel)) (fun _ h9 => h9) rfl dX3_spread_1 ?_
  refine lv_iconst (v := 2) hx hb dX3_spread_4 (by decide) ?_
  refine va_iald hx hb hK hP 1 0 rfl rfl (by unfold vp_in; decide) dX3_spread_5 ?_
  refine lv_aload_n hx hb dX3_spread_6 rfl (lv_at hl 0 rfl) ?_
  refine va_get (ci := 5) (v := .ref (ad 36)) (C := RX3) (T := TX3) (N := 6) hx hb hts inw_X3_spread_X3 hown hK hP 0 rfl rfl 2 (by decide) (hts (.fieldLink RX3 20 "DockCall$Planner" "room" "[I") (by decide +kernel)) (fun _ h9 => h9) rfl dX3_spread_7 ?_
  refine lv_iconst (v := 3) hx hb dX3_spread_10 (by decide) ?_
  refine va_iald hx hb hK hP 1 0 rfl rfl (by unfold vp_in; decide) dX3_spread_11 ?_
  refine lv_iadd hx hb dX3_spread_12 ?_
  refine lv_istore (lv' := [(4, .int ((p_room (2 : Int32).toNatClampNeg) + (p_room (3 : Int32).toNatClampNeg))), (0, .ref (ad 33)), (1, .int p0), (2, .int p1), (3, .int p2)]) hx hb dX3_spread_13 hl (by decide) rfl (fun ls hl => ?_)
  refine lv_iconst (v := 0) hx hb dX3_spread_15 (by decide) ?_
  refine lv_iload_n hx hb dX3_spread_16 rfl (lv_at hl 3 rfl) ?_
  refine lv_aload_n hx hb dX3_spread_17 rfl (lv_at hl 1 rfl) ?_
  refine va_get (ci := 5) (v := .ref (ad 36)) (C := RX3) (T := TX3) (N := 6) hx hb hts inw_X3_spread_X3 hown hK hP 0 rfl rfl 2 (by decide) (hts (.fieldLink RX3 20 "DockCall$Planner" "room" "[I") (by decide +kernel)) (fun _ h9 => h9) rfl dX3_spread_18 ?_
  refine lv_iconst (v := 1) hx hb dX3_spread_21 (by decide) ?_
  refine va_iald hx hb hK hP 1 0 rfl rfl (by unfold vp_in; decide) dX3_spread_22 ?_
  refine lv_isub hx hb dX3_spread_23 ?_
  refine lv_iload hx hb dX3_spread_24 (lv_at hl 0 rfl) ?_
  refine lv_isub hx hb dX3_spread_26 ?_
  refine va_mmax hx hb (by rw [hml]; exact hl.1.symm) hown (hts (.methodLink RX3 61 Lib.Math.max.name) (by decide +kernel)) (hts (.static Lib.Math.max.name) (by decide +kernel)) (hts (.initialized "java/lang/Math") (by decide +kernel)) (hts (.code Lib.Math.max.name Lib.Math.max.code 2 (some .int)) (by decide +kernel)) (Nat.le_of_ble_eq_true rfl) (Nat.le_of_ble_eq_true rfl) (Nat.le_of_ble_eq_true rfl) (Nat.le_of_ble_eq_true rfl) dX3_spread_27 ?_
  refine lv_istore (lv' := [(5, .int (if (0 : Int32) < ((p1 - (p_room (1 : Int32).toNatClampNeg)) - ((p_room (2 : Int32).toNatClampNeg) + (p_room (3 : Int32).toNatClampNeg))) then ((p1 - (p_room (1 : Int32).toNatClampNeg)) - ((p_room (2 : Int32).toNatClampNeg) + (p_room (3 : Int32).toNatClampNeg))) else 0)), (4, .int ((p_room (2 : Int32).toNatClampNeg) + (p_room (3 : Int32).toNatClampNeg))), (0, .ref (ad 33)), (1, .int p0), (2, .int p1), (3, .int p2)]) hx hb dX3_spread_30 hl (by decide) rfl (fun ls hl => ?_)
  obtain ⟨n', hw⟩ := hw
  exact c_Planner_spread_h32 hx hb hr hml hown hts hlocks hK hE hA  n' (if (0 : Int32) < ((p1 - (p_room (1 : Int32).toNatClampNeg)) - ((p_room (2 : Int32).toNatClampNeg) + (p_room (3 : Int32).toNatClampNeg))) then ((p1 - (p_room (1 : Int32).toNatClampNeg)) - ((p_room (2 : Int32).toNatClampNeg) + (p_room (3 : Int32).toNatClampNeg))) else 0) p_waiting hw _ _ _ hP hD hS (lv_sub hl [0, 1, 2, 3, 4, 5] rfl)
theorem inw_X3_sendGangs_X3 : ∀ w ∈ wsX30, w ∈ wsX3_sendGangs := fun _ h => List.mem_cons_of_mem _ (List.mem_append_left _ (List.mem_append_right _ h))
def wp_Planner_sendGangs_h16 (v1 : Int32) (v2 : Int32) (p_takes : Nat → Int32) (p_waiting : Nat → Int32)  (Q : (Nat → Int32) → (Nat → Int32) → Prop) : Nat → Int32 → Int32 → Int32 → Int32 → (Nat → Int32) → Prop
  | 0, _, _, _, _, _ => False
  | n + 1, v3, v4, v5, v6, p_room => ((4 ≤ v6 → (wp_Planner_spread p_room p_waiting v1 (if v4 < v2 then v4 else v2) v3 (fun p_waiting_1 => Q p_room p_waiting_1))) ∧ (¬ 4 ≤ v6 → ((v5 - v5 / 9 * 9 ≤ 0 → (vp_in v6 4 ∧ (vp_in v6 4 ∧ (vp_in v6 4 ∧ wp_Planner_sendGangs_h16 v1 v2 p_takes p_waiting Q n v3 (v4 + ((upd p_room v6.toNatClampNeg (if (v5 - v5 / 9 * 9) < (p_takes v6.toNatClampNeg) then (v5 - v5 / 9 * 9) else (p_takes v6.toNatClampNeg))) v6.toNatClampNeg)) (v5 / 9) (v6 + 1) (upd p_room v6.toNatClampNeg (if (v5 - v5 / 9 * 9) < (p_takes v6.toNatClampNeg) then (v5 - v5 / 9 * 9) else (p_takes v6.toNatClampNeg))))))) ∧ (¬ v5 - v5 / 9 * 9 ≤ 0 → (vp_in v6 4 ∧ (vp_in v6 4 ∧ (vp_in v6 4 ∧ wp_Planner_sendGangs_h16 v1 v2 p_takes p_waiting Q n (v3 + 1) (v4 + ((upd p_room v6.toNatClampNeg (if (v5 - v5 / 9 * 9) < (p_takes v6.toNatClampNeg) then (v5 - v5 / 9 * 9) else (p_takes v6.toNatClampNeg))) v6.toNatClampNeg)) (v5 / 9) (v6 + 1) (upd p_room v6.toNatClampNeg (if (v5 - v5 / 9 * 9) < (p_takes v6.toNatClampNeg) then (v5 - v5 / 9 * 9) else (p_takes v6.toNatClampNeg))))))))))
def wp_Planner_sendGangs (p_takes : Nat → Int32) (p_room : Nat → Int32) (p_waiting : Nat → Int32) (p0 : Int32) (p1 : Int32) (Q : (Nat → Int32) → (Nat → Int32) → Prop) : Prop := (vp_in p0 6561 ∧ (∃ n' : Nat, wp_Planner_sendGangs_h16 p0 p1 p_takes p_waiting Q n' (p_waiting p0.toNatClampNeg) 0 p0 0 p_room))
set_option maxHeartbeats 4000000 in
set_option maxRecDepth 100000 in
theorem c_Planner_sendGangs_h16 {p : Program} {l : Launch} {e : Env} {s : State} {m : MethodId} {args : Array Value} {below : List Frame} {meth : Method} {c : Code} {D : va_G} {y : Nat → ClassId} {ad : Nat → Nat} {A : Nat → Prop} (hx : p.tables.exec = Jvm.exec) (hb : c.code = cX3_sendGangs) (hr : meth.sig.returnType = none) (hml : c.maxLocals = 8) (hown : s.vm.findClass RX3 = some m.cls) (hts : ∀ w ∈ wsX3_sendGangs, w.before args s = true) (hlocks : meth.locks = false) (hK : va_K D vwCl (TY y) s) (hE : EV s) (hA : ∀ q, s.heap.size ≤ q → A q) {v1 : Int32} {v2 : Int32} {p_takes : Nat → Int32} {p_waiting : Nat → Int32} {p_size : Int32}  {Q : (Nat → Int32) → (Nat → Int32) → Prop}  : ∀ (n : Nat) (v3 : Int32) (v4 : Int32) (v5 : Int32) (v6 : Int32) (p_room : Nat → Int32), wp_Planner_sendGangs_h16 v1 v2 p_takes p_waiting Q n v3 v4 v5 v6 p_room → ∀ (H : Heap) (locs : List Loc) (ls : Array Slot), va_P D vwCl [(ce_pl ad p_size), ((ad 35), .inl (y 0, 4, .inl p_takes)), ((ad 36), .inl (y 0, 4, .inl p_room)), ((ad 37), .inl (y 0, 6561, .inl p_waiting))] H → va_D A [(ce_pl ad p_size), ((ad 35), .inl (y 0, 4, .inl p_takes)), ((ad 36), .inl (y 0, 4, .inl p_room)), ((ad 37), .inl (y 0, 6561, .inl p_waiting))] → va_S A s.heap H locs → lv_has ls 8 [(6, .int v6), (5, .int v5), (4, .int v4), (3, .int v3), (0, .ref (ad 33)), (1, .int v1), (2, .int v2)] → W p l e ({ frames := 2, cells := 0, slots := 0, locals := 54 }) s m args below meth c H locs 0 0 (MQ below (va_Qv (fun (u : (Nat → Int32) × (Nat → Int32)) => Q u.1 u.2) (mAt D y A (fun (u : (Nat → Int32) × (Nat → Int32)) => [(ce_pl ad p_size), ((ad 35), .inl (y 0, 4, .inl p_takes)), ((ad 36), .inl (y 0, 4, .inl u.1)), ((ad 37), .inl (y 0, 6561, .inl u.2))])) A) args s 0 0 A) (F0 m 16 ls []) := by
  intro n
  induction n with
  | zero => intro v3 v4 v5 v6 p_room hw; rw [wp_Planner_sendGangs_h16] at hw; exact hw.elim
  | succ n ih =>
    intro v3 v4 v5 v6 p_room hw H locs ls hP hD hS hl
    rw [wp_Planner_sendGangs_h16] at hw
    refine lv_iload hx hb dX3_sendGangs_16 (lv_at hl 0 rfl) ?_
    refine lv_iconst (v := 4) hx hb dX3_sendGangs_18 (by decide) ?_
    refine lv_icmp_ge (tgt := 81) hx hb dX3_sendGangs_19 (by decide) (fun hc => ?_) (fun hc => ?_)
    · have hw := hw.1 hc
      refine lv_aload_n hx hb dX3_sendGangs_81 rfl (lv_at hl 4 rfl) ?_
      refine lv_iload_n hx hb dX3_sendGangs_82 rfl (lv_at hl 5 rfl) ?_
      refine lv_iload_n hx hb dX3_sendGangs_83 rfl (lv_at hl 6 rfl) ?_
      refine lv_iload hx hb dX3_sendGangs_84 (lv_at hl 2 rfl) ?_
      refine va_mmin hx hb (by rw [hml]; exact hl.1.symm) hown (hts (.methodLink RX3 51 Lib.Math.min.name) (by decide +kernel)) (hts (.static Lib.Math.min.name) (by decide +kernel)) (hts (.initialized "java/lang/Math") (by decide +kernel)) (hts (.code Lib.Math.min.name Lib.Math.min.code 2 (some .int)) (by decide +kernel)) (Nat.le_of_ble_eq_true rfl) (Nat.le_of_ble_eq_true rfl) (Nat.le_of_ble_eq_true rfl) (Nat.le_of_ble_eq_true rfl) dX3_sendGangs_86 ?_
      refine lv_iload_n hx hb dX3_sendGangs_89 rfl (lv_at hl 3 rfl) ?_
      refine mx_v (wc := [(ce_pl ad p_size), ((ad 36), .inl (y 0, 4, .inl p_room)), ((ad 37), .inl (y 0, 6561, .inl p_waiting))]) (wr := [((ad 35), .inl (y 0, 4, .inl p_takes))]) hP hD hS hA [0, 2, 3] [1] [1, 0, 2, 3] rfl rfl (by decide) (by decide) (by decide) (fun (u : (Nat → Int32)) => [(ce_pl ad p_size), ((ad 35), .inl (y 0, 4, .inl p_takes)), ((ad 36), .inl (y 0, 4, .inl p_room)), ((ad 37), .inl (y 0, 6561, .inl u))]) (fun _ => rfl) (va_runV (As := [.int v1, .int (if v4 < v2 then v4 else v2), .int v3]) (rest := []) ⟨hx, hb, hml, hown, hts⟩ (c_Planner_spread l D y ad H.size p_size p_room p_waiting v1 (if v4 < v2 then v4 else v2) v3 hw) (cwV 3 hts gX3_sendGangs_X3_spread rfl rfl rfl (by decide +kernel) ⟨Nat.le_of_ble_eq_true rfl, Nat.le_of_ble_eq_true rfl⟩) ⟨mPre.blind, (va_recv hK hP (ci := 5) (q0 := 0) rfl rfl), mPre.to (hP.sub [0, 2, 3] rfl) hK (hD.sub [0, 2, 3] (by decide) rfl) hE⟩ rfl rfl hl.1 rfl (lv_room (Nat.le_of_ble_eq_true rfl)) dX3_sendGangs_90 ⟨Nat.le_of_ble_eq_true rfl, Nat.le_of_ble_eq_true rfl⟩) (fun u H locs hw hP hD hS => ?_)
      obtain ⟨p_waiting_1, rfl⟩ : ∃ z, z = u := ⟨_, rfl⟩
      try dsimp only at hw
      have hP : va_P D vwCl [(ce_pl ad p_size), ((ad 35), .inl (y 0, 4, .inl p_takes)), ((ad 36), .inl (y 0, 4, .inl p_room)), ((ad 37), .inl (y 0, 6561, .inl p_waiting_1))] H := hP
      have hD : va_D A [(ce_pl ad p_size), ((ad 35), .inl (y 0, 4, .inl p_takes)), ((ad 36), .inl (y 0, 4, .inl p_room)), ((ad 37), .inl (y 0, 6561, .inl p_waiting_1))] := hD
      exact W.vret hx hb hr (fun t ht hW => ⟨⟨(p_room, p_waiting_1), rfl, hw, mAt.to hP hK hD ht hW⟩, hS.F ht⟩) hS.2.2 dX3_sendGangs_93
    · have hw := hw.2 hc
      refine lv_iload hx hb dX3_sendGangs_22 (lv_at hl 1 rfl) ?_
      refine lv_bipush (v := 9) hx hb dX3_sendGangs_24 (by decide) ?_
      refine lv_irem hx hb dX3_sendGangs_26 (by decide) ?_
      refine lv_istore (lv' := [(7, .int (v5 - v5 / 9 * 9)), (6, .int v6), (5, .int v5), (4, .int v4), (3, .int v3), (0, .ref (ad 33)), (1, .int v1), (2, .int v2)]) hx hb dX3_sendGangs_27 hl (by decide) rfl (fun ls hl => ?_)
      refine lv_iload hx hb dX3_sendGangs_29 (lv_at hl 2 rfl) ?_
      refine lv_bipush (v := 9) hx hb dX3_sendGangs_31 (by decide) ?_
      refine lv_idiv hx hb dX3_sendGangs_33 (by decide) ?_
      refine lv_istore (lv' := [(5, .int (v5 / 9)), (7, .int (v5 - v5 / 9 * 9)), (6, .int v6), (4, .int v4), (3, .int v3), (0, .ref (ad 33)), (1, .int v1), (2, .int v2)]) hx hb dX3_sendGangs_34 hl (by decide) rfl (fun ls hl => ?_)
      refine lv_iload hx hb dX3_sendGangs_36 (lv_at hl 1 rfl) ?_
      refine lv_if_le (tgt := 44) hx hb dX3_sendGangs_38 (by decide) (fun hc => ?_) (fun hc => ?_)
      · have hw := hw.1 hc
        refine lv_aload_n hx hb dX3_sendGangs_44 rfl (lv_at hl 5 rfl) ?_
        refine va_get (ci := 5) (v := .ref (ad 36)) (C := RX3) (T := TX3) (N := 6) hx hb hts inw_X3_sendGangs_X3 hown hK hP 0 rfl rfl 2 (by decide) (hts (.fieldLink RX3 20 "DockCall$Planner" "room" "[I") (by decide +kernel)) (fun _ h9 => h9) rfl dX3_sendGangs_45 ?_
        refine lv_iload hx hb dX3_sendGangs_48 (lv_at hl 2 rfl) ?_
        refine lv_aload_n hx hb dX3_sendGangs_50 rfl (lv_at hl 5 rfl) ?_
        refine va_get (ci := 5) (v := .ref (ad 35)) (C := RX3) (T := TX3) (N := 6) hx hb hts inw_X3_sendGangs_X3 hown hK hP 0 rfl rfl 1 (by decide) (hts (.fieldLink RX3 17 "DockCall$Planner" "takes" "[I") (by decide +kernel)) (fun _ h9 => h9) rfl dX3_sendGangs_51 ?_
        refine lv_iload hx hb dX3_sendGangs_54 (lv_at hl 2 rfl) ?_
        obtain ⟨hi, hw⟩ := hw
        refine va_iald hx hb hK hP 1 0 rfl rfl hi dX3_sendGangs_56 ?_
        refine lv_iload hx hb dX3_sendGangs_57 (lv_at hl 1 rfl) ?_
        refine va_mmin hx hb (by rw [hml]; exact hl.1.symm) hown (hts (.methodLink RX3 51 Lib.Math.min.name) (by decide +kernel)) (hts (.static Lib.Math.min.name) (by decide +kernel)) (hts (.initialized "java/lang/Math") (by decide +kernel)) (hts (.code Lib.Math.min.name Lib.Math.min.code 2 (some .int)) (by decide +kernel)) (Nat.le_of_ble_eq_true rfl) (Nat.le_of_ble_eq_true rfl) (Nat.le_of_ble_eq_true rfl) (Nat.le_of_ble_eq_true rfl) dX3_sendGangs_59 ?_
        obtain ⟨hi, hw⟩ := hw
        refine va_iast hx hb hK hP hD hS 2 0 rfl rfl hi dX3_sendGangs_62 (fun H locs hP hD hS => ?_)
        have hP : va_P D vwCl [(ce_pl ad p_size), ((ad 35), .inl (y 0, 4, .inl p_takes)), ((ad 36), .inl (y 0, 4, .inl (upd p_room v6.toNatClampNeg (if (v5 - v5 / 9 * 9) < (p_takes v6.toNatClampNeg) then (v5 - v5 / 9 * 9) else (p_takes v6.toNatClampNeg))))), ((ad 37), .inl (y 0, 6561, .inl p_waiting))] H := hP
        have hD : va_D A [(ce_pl ad p_size), ((ad 35), .inl (y 0, 4, .inl p_takes)), ((ad 36), .inl (y 0, 4, .inl (upd p_room v6.toNatClampNeg (if (v5 - v5 / 9 * 9) < (p_takes v6.toNatClampNeg) then (v5 - v5 / 9 * 9) else (p_takes v6.toNatClampNeg))))), ((ad 37), .inl (y 0, 6561, .inl p_waiting))] := hD
        refine lv_iload hx hb dX3_sendGangs_63 (lv_at hl 3 rfl) ?_
        refine lv_aload_n hx hb dX3_sendGangs_65 rfl (lv_at hl 5 rfl) ?_
        refine va_get (ci := 5) (v := .ref (ad 36)) (C := RX3) (T := TX3) (N := 6) hx hb hts inw_X3_sendGangs_X3 hown hK hP 0 rfl rfl 2 (by decide) (hts (.fieldLink RX3 20 "DockCall$Planner" "room" "[I") (by decide +kernel)) (fun _ h9 => h9) rfl dX3_sendGangs_66 ?_
        refine lv_iload hx hb dX3_sendGangs_69 (lv_at hl 2 rfl) ?_
        obtain ⟨hi, hw⟩ := hw
        refine va_iald hx hb hK hP 2 0 rfl rfl hi dX3_sendGangs_71 ?_
        refine lv_iadd hx hb dX3_sendGangs_72 ?_
        refine lv_istore (lv' := [(4, .int (v4 + ((upd p_room v6.toNatClampNeg (if (v5 - v5 / 9 * 9) < (p_takes v6.toNatClampNeg) then (v5 - v5 / 9 * 9) else (p_takes v6.toNatClampNeg))) v6.toNatClampNeg))), (5, .int (v5 / 9)), (7, .int (v5 - v5 / 9 * 9)), (6, .int v6), (3, .int v3), (0, .ref (ad 33)), (1, .int v1), (2, .int v2)]) hx hb dX3_sendGangs_73 hl (by decide) rfl (fun ls hl => ?_)
        refine lv_iinc (v := v6 + 1) (lv' := [(6, .int (v6 + 1)), (4, .int (v4 + ((upd p_room v6.toNatClampNeg (if (v5 - v5 / 9 * 9) < (p_takes v6.toNatClampNeg) then (v5 - v5 / 9 * 9) else (p_takes v6.toNatClampNeg))) v6.toNatClampNeg))), (5, .int (v5 / 9)), (7, .int (v5 - v5 / 9 * 9)), (3, .int v3), (0, .ref (ad 33)), (1, .int v1), (2, .int v2)]) hx hb dX3_sendGangs_75 hl (k := 3) rfl (by first | rfl | decide) (by decide) rfl (fun ls hl => ?_)
        refine lv_goto (tgt := 16) hx hb dX3_sendGangs_78 (by decide) ?_
        exact ih v3 (v4 + ((upd p_room v6.toNatClampNeg (if (v5 - v5 / 9 * 9) < (p_takes v6.toNatClampNeg) then (v5 - v5 / 9 * 9) else (p_takes v6.toNatClampNeg))) v6.toNatClampNeg)) (v5 / 9) (v6 + 1) (upd p_room v6.toNatClampNeg (if (v5 - v5 / 9 * 9) < (p_takes v6.toNatClampNeg) then (v5 - v5 / 9 * 9) else (p_takes v6.toNatClampNeg))) hw _ _ _ hP hD hS (lv_sub hl [0, 2, 1, 4, 5, 6, 7] rfl)
      · have hw := hw.2 hc
        refine lv_iinc (v := v3 + 1) (lv' := [(3, .int (v3 + 1)), (5, .int (v5 / 9)), (7, .int (v5 - v5 / 9 * 9)), (6, .int v6), (4, .int v4), (0, .ref (ad 33)), (1, .int v1), (2, .int v2)]) hx hb dX3_sendGangs_41 hl (k := 4) rfl (by first | rfl | decide) (by decide) rfl (fun ls hl => ?_)
        refine lv_aload_n hx hb dX3_sendGangs_44 rfl (lv_at hl 5 rfl) ?_
        refine va_get (ci := 5) (v := .ref (ad 36)) (C := RX3) (T := TX3) (N := 6) hx hb hts inw_X3_sendGangs_X3 hown hK hP 0 rfl rfl 2 (by decide) (hts (.fieldLink RX3 20 "DockCall$Planner" "room" "[I") (by decide +kernel)) (fun _ h9 => h9) rfl dX3_sendGangs_45 ?_
        refine lv_iload hx hb dX3_sendGangs_48 (lv_at hl 3 rfl) ?_
        refine lv_aload_n hx hb dX3_sendGangs_50 rfl (lv_at hl 5 rfl) ?_
        refine va_get (ci := 5) (v := .ref (ad 35)) (C := RX3) (T := TX3) (N := 6) hx hb hts inw_X3_sendGangs_X3 hown hK hP 0 rfl rfl 1 (by decide) (hts (.fieldLink RX3 17 "DockCall$Planner" "takes" "[I") (by decide +kernel)) (fun _ h9 => h9) rfl dX3_sendGangs_51 ?_
        refine lv_iload hx hb dX3_sendGangs_54 (lv_at hl 3 rfl) ?_
        obtain ⟨hi, hw⟩ := hw
        refine va_iald hx hb hK hP 1 0 rfl rfl hi dX3_sendGangs_56 ?_
        refine lv_iload hx hb dX3_sendGangs_57 (lv_at hl 2 rfl) ?_
        refine va_mmin hx hb (by rw [hml]; exact hl.1.symm) hown (hts (.methodLink RX3 51 Lib.Math.min.name) (by decide +kernel)) (hts (.static Lib.Math.min.name) (by decide +kernel)) (hts (.initialized "java/lang/Math") (by decide +kernel)) (hts (.code Lib.Math.min.name Lib.Math.min.code 2 (some .int)) (by decide +kernel)) (Nat.le_of_ble_eq_true rfl) (Nat.le_of_ble_eq_true rfl) (Nat.le_of_ble_eq_true rfl) (Nat.le_of_ble_eq_true rfl) dX3_sendGangs_59 ?_
        obtain ⟨hi, hw⟩ := hw
        refine va_iast hx hb hK hP hD hS 2 0 rfl rfl hi dX3_sendGangs_62 (fun H locs hP hD hS => ?_)
        have hP : va_P D vwCl [(ce_pl ad p_size), ((ad 35), .inl (y 0, 4, .inl p_takes)), ((ad 36), .inl (y 0, 4, .inl (upd p_room v6.toNatClampNeg (if (v5 - v5 / 9 * 9) < (p_takes v6.toNatClampNeg) then (v5 - v5 / 9 * 9) else (p_takes v6.toNatClampNeg))))), ((ad 37), .inl (y 0, 6561, .inl p_waiting))] H := hP
        have hD : va_D A [(ce_pl ad p_size), ((ad 35), .inl (y 0, 4, .inl p_takes)), ((ad 36), .inl (y 0, 4, .inl (upd p_room v6.toNatClampNeg (if (v5 - v5 / 9 * 9) < (p_takes v6.toNatClampNeg) then (v5 - v5 / 9 * 9) else (p_takes v6.toNatClampNeg))))), ((ad 37), .inl (y 0, 6561, .inl p_waiting))] := hD
        refine lv_iload hx hb dX3_sendGangs_63 (lv_at hl 4 rfl) ?_
        refine lv_aload_n hx hb dX3_sendGangs_65 rfl (lv_at hl 5 rfl) ?_
        refine va_get (ci := 5) (v := .ref (ad 36)) (C := RX3) (T := TX3) (N := 6) hx hb hts inw_X3_sendGangs_X3 hown hK hP 0 rfl rfl 2 (by decide) (hts (.fieldLink RX3 20 "DockCall$Planner" "room" "[I") (by decide +kernel)) (fun _ h9 => h9) rfl dX3_sendGangs_66 ?_
        refine lv_iload hx hb dX3_sendGangs_69 (lv_at hl 3 rfl) ?_
        obtain ⟨hi, hw⟩ := hw
        refine va_iald hx hb hK hP 2 0 rfl rfl hi dX3_sendGangs_71 ?_
        refine lv_iadd hx hb dX3_sendGangs_72 ?_
        refine lv_istore (lv' := [(4, .int (v4 + ((upd p_room v6.toNatClampNeg (if (v5 - v5 / 9 * 9) < (p_takes v6.toNatClampNeg) then (v5 - v5 / 9 * 9) else (p_takes v6.toNatClampNeg))) v6.toNatClampNeg))), (3, .int (v3 + 1)), (5, .int (v5 / 9)), (7, .int (v5 - v5 / 9 * 9)), (6, .int v6), (0, .ref (ad 33)), (1, .int v1), (2, .int v2)]) hx hb dX3_sendGangs_73 hl (by decide) rfl (fun ls hl => ?_)
        refine lv_iinc (v := v6 + 1) (lv' := [(6, .int (v6 + 1)), (4, .int (v4 + ((upd p_room v6.toNatClampNeg (if (v5 - v5 / 9 * 9) < (p_takes v6.toNatClampNeg) then (v5 - v5 / 9 * 9) else (p_takes v6.toNatClampNeg))) v6.toNatClampNeg))), (3, .int (v3 + 1)), (5, .int (v5 / 9)), (7, .int (v5 - v5 / 9 * 9)), (0, .ref (ad 33)), (1, .int v1), (2, .int v2)]) hx hb dX3_sendGangs_75 hl (k := 4) rfl (by first | rfl | decide) (by decide) rfl (fun ls hl => ?_)
        refine lv_goto (tgt := 16) hx hb dX3_sendGangs_78 (by decide) ?_
        exact ih (v3 + 1) (v4 + ((upd p_room v6.toNatClampNeg (if (v5 - v5 / 9 * 9) < (p_takes v6.toNatClampNeg) then (v5 - v5 / 9 * 9) else (p_takes v6.toNatClampNeg))) v6.toNatClampNeg)) (v5 / 9) (v6 + 1) (upd p_room v6.toNatClampNeg (if (v5 - v5 / 9 * 9) < (p_takes v6.toNatClampNeg) then (v5 - v5 / 9 * 9) else (p_takes v6.toNatClampNeg))) hw _ _ _ hP hD hS (lv_sub hl [0, 3, 1, 2, 5, 6, 7] rfl)
set_option maxHeartbeats 4000000 in
set_option maxRecDepth 100000 in
theorem c_Planner_sendGangs (l : Launch) (D : va_G) (y : Nat → ClassId) (ad : Nat → Nat) (sz : Nat) (p_size : Int32) (p_takes : Nat → Int32) (p_room : Nat → Int32) (p_waiting : Nat → Int32) (p0 : Int32) (p1 : Int32) {Q : (Nat → Int32) → (Nat → Int32) → Prop} (hw : wp_Planner_sendGangs p_takes p_room p_waiting p0 p1 Q) : Met l yX3_sendGangs wsX3_sendGangs ({ frames := 2, cells := 0, slots := 0, locals := 54 }) (va_Pc [.ref (ad 33), .int p0, .int p1] (mPre D y sz [(ce_pl ad p_size), ((ad 35), .inl (y 0, 4, .inl p_takes)), ((ad 36), .inl (y 0, 4, .inl p_room)), ((ad 37), .inl (y 0, 6561, .inl p_waiting))])) (va_Qv (fun (u : (Nat → Int32) × (Nat → Int32)) => Q u.1 u.2) (mAt D y (va_A [(ce_pl ad p_size), ((ad 35), .inl (y 0, 4, .inl p_takes)), ((ad 36), .inl (y 0, 4, .inl p_room)), ((ad 37), .inl (y 0, 6561, .inl p_waiting))] sz) (fun (u : (Nat → Int32) × (Nat → Int32)) => [(ce_pl ad p_size), ((ad 35), .inl (y 0, 4, .inl p_takes)), ((ad 36), .inl (y 0, 4, .inl u.1)), ((ad 37), .inl (y 0, 6561, .inl u.2))])) (va_A [(ce_pl ad p_size), ((ad 35), .inl (y 0, 4, .inl p_takes)), ((ad 36), .inl (y 0, 4, .inl p_room)), ((ad 37), .inl (y 0, 6561, .inl p_waiting))] sz)) 0 0 (va_A [(ce_pl ad p_size), ((ad 35), .inl (y 0, 4, .inl p_takes)), ((ad 36), .inl (y 0, 4, .inl p_room)), ((ad 37), .inl (y 0, 6561, .inl p_waiting))] sz) := by
  unfold wp_Planner_sendGangs at hw
  refine Met.ofW (cc := cX3_sendGangs) (maxL := 8) (ret := none) (by decide) rfl ?_
  intro p e s m args below meth c s₁ B hml hv
  obtain ⟨rfl, hsz, hP, hK, hD0, hE⟩ := hv
  have hx := B.exec
  have hb := B.bytes
  have hr := B.returns
  have hts := atoms_spec (ws := wsX3_sendGangs) B.pre
  have hown : s.vm.findClass RX3 = some m.cls := findClass_of_methodNamed B.named
  have hlocks := B.notSynchronized
  subst hsz
  have hD := hD0.self (sz := s.heap.size)
  generalize hAe : va_A [(ce_pl ad p_size), ((ad 35), .inl (y 0, 4, .inl p_takes)), ((ad 36), .inl (y 0, 4, .inl p_room)), ((ad 37), .inl (y 0, 6561, .inl p_waiting))] s.heap.size = A at hD ⊢
  have hA : ∀ q : Nat, s.heap.size ≤ q → A q := fun q h => by rw [← hAe]; exact Or.inr h
  have hS : va_S A s.heap s.heap [] := va_S.rf
  have hP : va_P D vwCl [(ce_pl ad p_size), ((ad 35), .inl (y 0, 4, .inl p_takes)), ((ad 36), .inl (y 0, 4, .inl p_room)), ((ad 37), .inl (y 0, 6561, .inl p_waiting))] s.heap := hP
  have hl := lv_entry ([.ref (ad 33), .int p0, .int p1]) (n := 8) (Nat.le_of_ble_eq_true rfl)
  rw [lg_entry_eq]
  generalize (lg_sl ([.ref (ad 33), .int p0, .int p1]) ++ List.replicate (8 - (lg_sl ([.ref (ad 33), .int p0, .int p1])).length) Slot.unset).toArray = ls at hl ⊢
  have hl : lv_has ls 8 [(0, .ref (ad 33)), (1, .int p0), (2, .int p1)] := hl
  refine lv_aload_n hx hb dX3_sendGangs_0 rfl (lv_at hl 0 rfl) ?_
  refine va_get (ci := 5) (v := .ref (ad 37)) (C := RX3) (T := TX3) (N := 6) hx hb hts inw_X3_sendGangs_X3 hown hK hP 0 rfl rfl 3 (by decide) (hts (.fieldLink RX3 23 "DockCall$Planner" "waiting" "[I") (by decide +kernel)) (fun _ h9 => h9) rfl dX3_sendGangs_1 ?_
  refine lv_iload_n hx hb dX3_sendGangs_4 rfl (lv_at hl 1 rfl) ?_
  obtain ⟨hi, hw⟩ := hw
  refine va_iald hx hb hK hP 3 0 rfl rfl hi dX3_sendGangs_5 ?_
  refine lv_istore_n (lv' := [(3, .int (p_waiting p0.toNatClampNeg)), (0, .ref (ad 33)), (1, .int p0), (2, .int p1)]) hx hb dX3_sendGangs_6 rfl hl (by decide) rfl (fun ls hl => ?_)
  refine lv_iconst (v := 0) hx hb dX3_sendGangs_7 (by decide) ?_
  refine lv_istore (lv' := [(4, .int 0), (3, .int (p_waiting p0.toNatClampNeg)), (0, .ref (ad 33)), (1, .int p0), (2, .int p1)]) hx hb dX3_sendGangs_8 hl (by decide) rfl (fun ls hl => ?_)
  refine lv_iload_n hx hb dX3_sendGangs_10 rfl (lv_at hl 3 rfl) ?_
  refine lv_istore (lv' := [(5, .int p0), (4, .int 0), (3, .int (p_waiting p0.toNatClampNeg)), (0, .ref (ad 33)), (1, .int p0), (2, .int p1)]) hx hb dX3_sendGangs_11 hl (by decide) rfl (fun ls hl => ?_)
  refine lv_iconst (v := 0) hx hb dX3_sendGangs_13 (by decide) ?_
  refine lv_istore (lv' := [(6, .int 0), (5, .int p0), (4, .int 0), (3, .int (p_waiting p0.toNatClampNeg)), (0, .ref (ad 33)), (1, .int p0), (2, .int p1)]) hx hb dX3_sendGangs_14 hl (by decide) rfl (fun ls hl => ?_)
  obtain ⟨n', hw⟩ := hw
  exact c_Planner_sendGangs_h16 hx hb hr hml hown hts hlocks hK hE hA  n' (p_waiting p0.toNatClampNeg) 0 p0 0 p_room hw _ _ _ hP hD hS (lv_sub hl [0, 1, 2, 3, 4, 5, 6] rfl)
theorem inw_X3_search_X3 : ∀ w ∈ wsX30, w ∈ wsX3_search := fun _ h => List.mem_cons_of_mem _ (List.mem_append_left _ (List.mem_append_left _ (List.mem_append_left _ (List.mem_append_right _ h))))
def wp_Planner_search_h61 (v1 : Int32) (p_takes : Nat → Int32)  (Q : Int32 → (Nat → Int32) → (Nat → Int32) → Prop) : Nat → Int32 → (Nat → Int32) → (Nat → Int32) → Prop
  | 0, _, _, _ => False
  | n + 1, v3, p_room, p_waiting => ((v3 ≤ 0 → Q (p_waiting (0 : Int32).toNatClampNeg) p_room p_waiting) ∧ (¬ v3 ≤ 0 → (vp_in v3 6561 ∧ ((p_waiting v3.toNatClampNeg = 2147483647 → wp_Planner_search_h61 v1 p_takes Q n (v3 + (-1)) p_room p_waiting) ∧ (¬ p_waiting v3.toNatClampNeg = 2147483647 → (wp_Planner_sendGangs p_takes p_room p_waiting v3 v1 (fun p_room_2 p_waiting_3 => wp_Planner_search_h61 v1 p_takes Q n (v3 + (-1)) p_room_2 p_waiting_3)))))))
def wp_Planner_search_h4 (v1 : Int32) (p_need : Nat → Int32) (p_takes : Nat → Int32) (p_room : Nat → Int32) (p_waiting : Nat → Int32)  (Q : Int32 → (Nat → Int32) → (Nat → Int32) → Prop) : Nat → Int32 → Int32 → Prop
  | 0, _, _ => False
  | n + 1, v2, v3 => ((v3 < 0 → ((v2 < 0 → Q (-1) p_room p_waiting) ∧ (¬ v2 < 0 → ((v2 < 6561 → (wp_Arrays_fill_fda19 6561 p_waiting 0 (v2 + 1) 2147483647 (fun p_waiting_1 => (vp_in v2 6561 ∧ (∃ n' : Nat, wp_Planner_search_h61 v1 p_takes Q n' v2 p_room (upd p_waiting_1 v2.toNatClampNeg 0)))))) ∧ (¬ v2 < 6561 → Q (-1) p_room p_waiting))))) ∧ (¬ v3 < 0 → (vp_in v3 4 ∧ wp_Planner_search_h4 v1 p_need p_takes p_room p_waiting Q n ((v2 * 9) + (p_need v3.toNatClampNeg)) (v3 + (-1)))))
def wp_Planner_search (p_need : Nat → Int32) (p_takes : Nat → Int32) (p_room : Nat → Int32) (p_waiting : Nat → Int32) (p0 : Int32) (Q : Int32 → (Nat → Int32) → (Nat → Int32) → Prop) : Prop := (∃ n' : Nat, wp_Planner_search_h4 p0 p_need p_takes p_room p_waiting Q n' 0 3)
set_option maxHeartbeats 4000000 in
set_option maxRecDepth 100000 in
theorem c_Planner_search_h61 {p : Program} {l : Launch} {e : Env} {s : State} {m : MethodId} {args : Array Value} {below : List Frame} {meth : Method} {c : Code} {D : va_G} {y : Nat → ClassId} {ad : Nat → Nat} {A : Nat → Prop} (hx : p.tables.exec = Jvm.exec) (hb : c.code = cX3_search) (hr : meth.sig.returnType = some .int) (hml : c.maxLocals = 4) (hown : s.vm.findClass RX3 = some m.cls) (hts : ∀ w ∈ wsX3_search, w.before args s = true) (hlocks : meth.locks = false) (hK : va_K D vwCl (TY y) s) (hE : EV s) (hA : ∀ q, s.heap.size ≤ q → A q) {v1 : Int32} {v2 : Int32} {p_need : Nat → Int32} {p_takes : Nat → Int32} {p_size : Int32}  {Q : Int32 → (Nat → Int32) → (Nat → Int32) → Prop}  : ∀ (n : Nat) (v3 : Int32) (p_room : Nat → Int32) (p_waiting : Nat → Int32), wp_Planner_search_h61 v1 p_takes Q n v3 p_room p_waiting → ∀ (H : Heap) (locs : List Loc) (ls : Array Slot), va_P D vwCl [(ce_pl ad p_size), ((ad 34), .inl (y 0, 4, .inl p_need)), ((ad 35), .inl (y 0, 4, .inl p_takes)), ((ad 36), .inl (y 0, 4, .inl p_room)), ((ad 37), .inl (y 0, 6561, .inl p_waiting))] H → va_D A [(ce_pl ad p_size), ((ad 34), .inl (y 0, 4, .inl p_need)), ((ad 35), .inl (y 0, 4, .inl p_takes)), ((ad 36), .inl (y 0, 4, .inl p_room)), ((ad 37), .inl (y 0, 6561, .inl p_waiting))] → va_S A s.heap H locs → lv_has ls 4 [(3, .int v3), (2, .int v2), (0, .ref (ad 33)), (1, .int v1)] → W p l e ({ frames := 3, cells := 0, slots := 0, locals := 81 }) s m args below meth c H locs 0 0 (MQ below (va_Qi (fun (r : Int32) (u : (Nat → Int32) × (Nat → Int32)) => Q r u.1 u.2) (mAt D y A (fun (u : (Nat → Int32) × (Nat → Int32)) => [(ce_pl ad p_size), ((ad 34), .inl (y 0, 4, .inl p_need)), ((ad 35), .inl (y 0, 4, .inl p_takes)), ((ad 36), .inl (y 0, 4, .inl u.1)), ((ad 37), .inl (y 0, 6561, .inl u.2))])) A) args s 0 0 A) (F0 m 61 ls []) := by
  intro n
  induction n with
  | zero => intro v3 p_room p_waiting hw; rw [wp_Planner_search_h61] at hw; exact hw.elim
  | succ n ih =>
    intro v3 p_room p_waiting hw H locs ls hP hD hS hl
    rw [wp_Planner_search_h61] at hw
    refine lv_iload_n hx hb dX3_search_61 rfl (lv_at hl 0 rfl) ?_
    refine lv_if_le (tgt := 88) hx hb dX3_search_62 (by decide) (fun hc => ?_) (fun hc => ?_)
    · have hw := hw.1 hc
      refine lv_aload_n hx hb dX3_search_88 rfl (lv_at hl 2 rfl) ?_
      refine va_get (ci := 5) (v := .ref (ad 37)) (C := RX3) (T := TX3) (N := 6) hx hb hts inw_X3_search_X3 hown hK hP 0 rfl rfl 3 (by decide) (hts (.fieldLink RX3 23 "DockCall$Planner" "waiting" "[I") (by decide +kernel)) (fun _ h9 => h9) rfl dX3_search_89 ?_
      refine lv_iconst (v := 0) hx hb dX3_search_92 (by decide) ?_
      refine va_iald hx hb hK hP 4 0 rfl rfl (by unfold vp_in; decide) dX3_search_93 ?_
      exact W.iret (v := p_waiting (0 : Int32).toNatClampNeg) hx hb hr (fun t ht hW => ⟨⟨p_waiting (0 : Int32).toNatClampNeg, (p_room, p_waiting), rfl, hw, mAt.to hP hK hD ht hW⟩, hS.F ht⟩) hS.2.2 dX3_search_94
    · have hw := hw.2 hc
      refine lv_aload_n hx hb dX3_search_65 rfl (lv_at hl 2 rfl) ?_
      refine va_get (ci := 5) (v := .ref (ad 37)) (C := RX3) (T := TX3) (N := 6) hx hb hts inw_X3_search_X3 hown hK hP 0 rfl rfl 3 (by decide) (hts (.fieldLink RX3 23 "DockCall$Planner" "waiting" "[I") (by decide +kernel)) (fun _ h9 => h9) rfl dX3_search_66 ?_
      refine lv_iload_n hx hb dX3_search_69 rfl (lv_at hl 0 rfl) ?_
      obtain ⟨hi, hw⟩ := hw
      refine va_iald hx hb hK hP 4 0 rfl rfl hi dX3_search_70 ?_
      refine lv_ldc hx hb hown (hts (.constant RX3 43 2147483647) (by decide +kernel)) dX3_search_71 ?_
      refine lv_icmp_eq (tgt := 82) hx hb dX3_search_73 (by decide) (fun hc => ?_) (fun hc => ?_)
      · have hw := hw.1 hc
        refine lv_iinc (v := v3 + (-1)) (lv' := [(3, .int (v3 + (-1))), (2, .int v2), (0, .ref (ad 33)), (1, .int v1)]) hx hb dX3_search_82 hl (k := 0) rfl (by first | rfl | decide) (by decide) rfl (fun ls hl => ?_)
        refine lv_goto (tgt := 61) hx hb dX3_search_85 (by decide) ?_
        exact ih (v3 + (-1)) p_room p_waiting hw _ _ _ hP hD hS (lv_sub hl [0, 1, 2, 3] rfl)
      · have hw := hw.2 hc
        refine lv_aload_n hx hb dX3_search_76 rfl (lv_at hl 2 rfl) ?_
        refine lv_iload_n hx hb dX3_search_77 rfl (lv_at hl 0 rfl) ?_
        refine lv_iload_n hx hb dX3_search_78 rfl (lv_at hl 3 rfl) ?_
        refine mx_v (wc := [(ce_pl ad p_size), ((ad 35), .inl (y 0, 4, .inl p_takes)), ((ad 36), .inl (y 0, 4, .inl p_room)), ((ad 37), .inl (y 0, 6561, .inl p_waiting))]) (wr := [((ad 34), .inl (y 0, 4, .inl p_need))]) hP hD hS hA [0, 2, 3, 4] [1] [1, 0, 2, 3, 4] rfl rfl (by decide) (by decide) (by decide) (fun (u : (Nat → Int32) × (Nat → Int32)) => [(ce_pl ad p_size), ((ad 34), .inl (y 0, 4, .inl p_need)), ((ad 35), .inl (y 0, 4, .inl p_takes)), ((ad 36), .inl (y 0, 4, .inl u.1)), ((ad 37), .inl (y 0, 6561, .inl u.2))]) (fun _ => rfl) (va_runV (As := [.int v3, .int v1]) (rest := []) ⟨hx, hb, hml, hown, hts⟩ (c_Planner_sendGangs l D y ad H.size p_size p_takes p_room p_waiting v3 v1 hw) (cwV 2 hts gX3_search_X3_sendGangs rfl rfl rfl (by decide +kernel) ⟨Nat.le_of_ble_eq_true rfl, Nat.le_of_ble_eq_true rfl⟩) ⟨mPre.blind, (va_recv hK hP (ci := 5) (q0 := 0) rfl rfl), mPre.to (hP.sub [0, 2, 3, 4] rfl) hK (hD.sub [0, 2, 3, 4] (by decide) rfl) hE⟩ rfl rfl hl.1 rfl (lv_room (Nat.le_of_ble_eq_true rfl)) dX3_search_79 ⟨Nat.le_of_ble_eq_true rfl, Nat.le_of_ble_eq_true rfl⟩) (fun u H locs hw hP hD hS => ?_)
        obtain ⟨p_room_2, p_waiting_3⟩ := u
        try dsimp only at hw
        have hP : va_P D vwCl [(ce_pl ad p_size), ((ad 34), .inl (y 0, 4, .inl p_need)), ((ad 35), .inl (y 0, 4, .inl p_takes)), ((ad 36), .inl (y 0, 4, .inl p_room_2)), ((ad 37), .inl (y 0, 6561, .inl p_waiting_3))] H := hP
        have hD : va_D A [(ce_pl ad p_size), ((ad 34), .inl (y 0, 4, .inl p_need)), ((ad 35), .inl (y 0, 4, .inl p_takes)), ((ad 36), .inl (y 0, 4, .inl p_room_2)), ((ad 37), .inl (y 0, 6561, .inl p_waiting_3))] := hD
        refine lv_iinc (v := v3 + (-1)) (lv' := [(3, .int (v3 + (-1))), (2, .int v2), (0, .ref (ad 33)), (1, .int v1)]) hx hb dX3_search_82 hl (k := 0) rfl (by first | rfl | decide) (by decide) rfl (fun ls hl => ?_)
        refine lv_goto (tgt := 61) hx hb dX3_search_85 (by decide) ?_
        exact ih (v3 + (-1)) p_room_2 p_waiting_3 hw _ _ _ hP hD hS (lv_sub hl [0, 1, 2, 3] rfl)
set_option maxHeartbeats 4000000 in
set_option maxRecDepth 100000 in
theorem c_Planner_search_h4 {p : Program} {l : Launch} {e : Env} {s : State} {m : MethodId} {args : Array Value} {below : List Frame} {meth : Method} {c : Code} {D : va_G} {y : Nat → ClassId} {ad : Nat → Nat} {A : Nat → Prop} (hx : p.tables.exec = Jvm.exec) (hb : c.code = cX3_search) (hr : meth.sig.returnType = some .int) (hml : c.maxLocals = 4) (hown : s.vm.findClass RX3 = some m.cls) (hts : ∀ w ∈ wsX3_search, w.before args s = true) (hlocks : meth.locks = false) (hK : va_K D vwCl (TY y) s) (hE : EV s) (hA : ∀ q, s.heap.size ≤ q → A q) {v1 : Int32} {p_need : Nat → Int32} {p_takes : Nat → Int32} {p_room : Nat → Int32} {p_waiting : Nat → Int32} {p_size : Int32}  {Q : Int32 → (Nat → Int32) → (Nat → Int32) → Prop}  : ∀ (n : Nat) (v2 : Int32) (v3 : Int32), wp_Planner_search_h4 v1 p_need p_takes p_room p_waiting Q n v2 v3 → ∀ (H : Heap) (locs : List Loc) (ls : Array Slot), va_P D vwCl [(ce_pl ad p_size), ((ad 34), .inl (y 0, 4, .inl p_need)), ((ad 35), .inl (y 0, 4, .inl p_takes)), ((ad 36), .inl (y 0, 4, .inl p_room)), ((ad 37), .inl (y 0, 6561, .inl p_waiting))] H → va_D A [(ce_pl ad p_size), ((ad 34), .inl (y 0, 4, .inl p_need)), ((ad 35), .inl (y 0, 4, .inl p_takes)), ((ad 36), .inl (y 0, 4, .inl p_room)), ((ad 37), .inl (y 0, 6561, .inl p_waiting))] → va_S A s.heap H locs → lv_has ls 4 [(3, .int v3), (2, .int v2), (0, .ref (ad 33)), (1, .int v1)] → W p l e ({ frames := 3, cells := 0, slots := 0, locals := 81 }) s m args below meth c H locs 0 0 (MQ below (va_Qi (fun (r : Int32) (u : (Nat → Int32) × (Nat → Int32)) => Q r u.1 u.2) (mAt D y A (fun (u : (Nat → Int32) × (Nat → Int32)) => [(ce_pl ad p_size), ((ad 34), .inl (y 0, 4, .inl p_need)), ((ad 35), .inl (y 0, 4, .inl p_takes)), ((ad 36), .inl (y 0, 4, .inl u.1)), ((ad 37), .inl (y 0, 6561, .inl u.2))])) A) args s 0 0 A) (F0 m 4 ls []) := by
  intro n
  induction n with
  | zero => intro v2 v3 hw; rw [wp_Planner_search_h4] at hw; exact hw.elim
  | succ n ih =>
    intro v2 v3 hw H locs ls hP hD hS hl
    rw [wp_Planner_search_h4] at hw
    refine lv_iload_n hx hb dX3_search_4 rfl (lv_at hl 0 rfl) ?_
    refine lv_if_lt (tgt := 26) hx hb dX3_search_5 (by decide) (fun hc => ?_) (fun hc => ?_)
    · have hw := hw.1 hc
      refine lv_iload_n hx hb dX3_search_26 rfl (lv_at hl 1 rfl) ?_
      refine lv_if_lt (tgt := 37) hx hb dX3_search_27 (by decide) (fun hc => ?_) (fun hc => ?_)
      · have hw := hw.1 hc
        refine lv_iconst (v := (-1)) hx hb dX3_search_37 (by decide) ?_
        exact W.iret (v := (-1)) hx hb hr (fun t ht hW => ⟨⟨(-1), (p_room, p_waiting), rfl, hw, mAt.to hP hK hD ht hW⟩, hS.F ht⟩) hS.2.2 dX3_search_38
      · have hw := hw.2 hc
        refine lv_iload_n hx hb dX3_search_30 rfl (lv_at hl 1 rfl) ?_
        refine lv_sipush (v := 6561) hx hb dX3_search_31 (by decide) ?_
        refine lv_icmp_lt (tgt := 39) hx hb dX3_search_34 (by decide) (fun hc => ?_) (fun hc => ?_)
        · have hw := hw.1 hc
          refine lv_aload_n hx hb dX3_search_39 rfl (lv_at hl 2 rfl) ?_
          refine va_get (ci := 5) (v := .ref (ad 37)) (C := RX3) (T := TX3) (N := 6) hx hb hts inw_X3_search_X3 hown hK hP 0 rfl rfl 3 (by decide) (hts (.fieldLink RX3 23 "DockCall$Planner" "waiting" "[I") (by decide +kernel)) (fun _ h9 => h9) rfl dX3_search_40 ?_
          refine lv_iconst (v := 0) hx hb dX3_search_43 (by decide) ?_
          refine lv_iload_n hx hb dX3_search_44 rfl (lv_at hl 1 rfl) ?_
          refine lv_iconst (v := 1) hx hb dX3_search_45 (by decide) ?_
          refine lv_iadd hx hb dX3_search_46 ?_
          refine lv_ldc hx hb hown (hts (.constant RX3 43 2147483647) (by decide +kernel)) dX3_search_47 ?_
          refine mx_v (wc := [((ad 37), .inl (y 0, 6561, .inl p_waiting))]) (wr := [(ce_pl ad p_size), ((ad 34), .inl (y 0, 4, .inl p_need)), ((ad 35), .inl (y 0, 4, .inl p_takes)), ((ad 36), .inl (y 0, 4, .inl p_room))]) hP hD hS hA [4] [0, 1, 2, 3] [0, 1, 2, 3, 4] rfl rfl (by decide) (by decide) (by decide) (fun (u : Nat → Int32) => [(ce_pl ad p_size), ((ad 34), .inl (y 0, 4, .inl p_need)), ((ad 35), .inl (y 0, 4, .inl p_takes)), ((ad 36), .inl (y 0, 4, .inl p_room)), ((ad 37), .inl (y 0, 6561, .inl u))]) (fun _ => rfl) (va_runS (As := [.ref (ad 37), .int 0, .int (v2 + 1), .int 2147483647]) (rest := []) ⟨hx, hb, hml, hown, hts⟩ (c_Arrays_fill_fda19 l D y (ad 37) 6561 H.size p_waiting 0 (v2 + 1) 2147483647 hw) (va_cwS 4 hts gX3_search_J7_fill_fda19 rfl rfl rfl (by decide +kernel) ⟨Nat.le_of_ble_eq_true rfl, Nat.le_of_ble_eq_true rfl⟩) ⟨mPre.blind, mPre.to (hP.sub [4] rfl) hK (hD.sub [4] (by decide) rfl) hE⟩ rfl rfl hl.1 rfl (lv_room (Nat.le_of_ble_eq_true rfl)) dX3_search_49 ⟨Nat.le_of_ble_eq_true rfl, Nat.le_of_ble_eq_true rfl⟩) (fun u H locs hw hP hD hS => ?_)
          obtain ⟨p_waiting_1, rfl⟩ : ∃ z, z = u := ⟨_, rfl⟩
          try dsimp only at hw
          have hP : va_P D vwCl [(ce_pl ad p_size), ((ad 34), .inl (y 0, 4, .inl p_need)), ((ad 35), .inl (y 0, 4, .inl p_takes)), ((ad 36), .inl (y 0, 4, .inl p_room)), ((ad 37), .inl (y 0, 6561, .inl p_waiting_1))] H := hP
          have hD : va_D A [(ce_pl ad p_size), ((ad 34), .inl (y 0, 4, .inl p_need)), ((ad 35), .inl (y 0, 4, .inl p_takes)), ((ad 36), .inl (y 0, 4, .inl p_room)), ((ad 37), .inl (y 0, 6561, .inl p_waiting_1))] := hD
          refine lv_aload_n hx hb dX3_search_52 rfl (lv_at hl 2 rfl) ?_
          refine va_get (ci := 5) (v := .ref (ad 37)) (C := RX3) (T := TX3) (N := 6) hx hb hts inw_X3_search_X3 hown hK hP 0 rfl rfl 3 (by decide) (hts (.fieldLink RX3 23 "DockCall$Planner" "waiting" "[I") (by decide +kernel)) (fun _ h9 => h9) rfl dX3_search_53 ?_
          refine lv_iload_n hx hb dX3_search_56 rfl (lv_at hl 1 rfl) ?_
          refine lv_iconst (v := 0) hx hb dX3_search_57 (by decide) ?_
          obtain ⟨hi, hw⟩ := hw
          refine va_iast hx hb hK hP hD hS 4 0 rfl rfl hi dX3_search_58 (fun H locs hP hD hS => ?_)
          have hP : va_P D vwCl [(ce_pl ad p_size), ((ad 34), .inl (y 0, 4, .inl p_need)), ((ad 35), .inl (y 0, 4, .inl p_takes)), ((ad 36), .inl (y 0, 4, .inl p_room)), ((ad 37), .inl (y 0, 6561, .inl (upd p_waiting_1 v2.toNatClampNeg 0)))] H := hP
          have hD : va_D A [(ce_pl ad p_size), ((ad 34), .inl (y 0, 4, .inl p_need)), ((ad 35), .inl (y 0, 4, .inl p_takes)), ((ad 36), .inl (y 0, 4, .inl p_room)), ((ad 37), .inl (y 0, 6561, .inl (upd p_waiting_1 v2.toNatClampNeg 0)))] := hD
          refine lv_iload_n hx hb dX3_search_59 rfl (lv_at hl 1 rfl) ?_
          refine lv_istore_n (lv' := [(3, .int v2), (2, .int v2), (0, .ref (ad 33)), (1, .int v1)]) hx hb dX3_search_60 rfl hl (by decide) rfl (fun ls hl => ?_)
          obtain ⟨n', hw⟩ := hw
          exact c_Planner_search_h61 hx hb hr hml hown hts hlocks hK hE hA  n' v2 p_room (upd p_waiting_1 v2.toNatClampNeg 0) hw _ _ _ hP hD hS (lv_sub hl [0, 1, 2, 3] rfl)
        · have hw := hw.2 hc
          refine lv_iconst (v := (-1)) hx hb dX3_search_37 (by decide) ?_
          exact W.iret (v := (-1)) hx hb hr (fun t ht hW => ⟨⟨(-1), (p_room, p_waiting), rfl, hw, mAt.to hP hK hD ht hW⟩, hS.F ht⟩) hS.2.2 dX3_search_38
    · have hw := hw.2 hc
      refine lv_iload_n hx hb dX3_search_8 rfl (lv_at hl 1 rfl) ?_
      refine lv_bipush (v := 9) hx hb dX3_search_9 (by decide) ?_
      refine lv_imul hx hb dX3_search_11 ?_
      refine lv_aload_n hx hb dX3_search_12 rfl (lv_at hl 2 rfl) ?_
      refine va_get (ci := 5) (v := .ref (ad 34)) (C := RX3) (T := TX3) (N := 6) hx hb hts inw_X3_search_X3 hown hK hP 0 rfl rfl 0 (by decide) (hts (.fieldLink RX3 13 "DockCall$Planner" "need" "[I") (by decide +kernel)) (fun _ h9 => h9) rfl dX3_search_13 ?_
      refine lv_iload_n hx hb dX3_search_16 rfl (lv_at hl 0 rfl) ?_
      obtain ⟨hi, hw⟩ := hw
      refine va_iald hx hb hK hP 1 0 rfl rfl hi dX3_search_17 ?_
      refine lv_iadd hx hb dX3_search_18 ?_
      refine lv_istore_n (lv' := [(2, .int ((v2 * 9) + (p_need v3.toNatClampNeg))), (3, .int v3), (0, .ref (ad 33)), (1, .int v1)]) hx hb dX3_search_19 rfl hl (by decide) rfl (fun ls hl => ?_)
      refine lv_iinc (v := v3 + (-1)) (lv' := [(3, .int (v3 + (-1))), (2, .int ((v2 * 9) + (p_need v3.toNatClampNeg))), (0, .ref (ad 33)), (1, .int v1)]) hx hb dX3_search_20 hl (k := 1) rfl (by first | rfl | decide) (by decide) rfl (fun ls hl => ?_)
      refine lv_goto (tgt := 4) hx hb dX3_search_23 (by decide) ?_
      exact ih ((v2 * 9) + (p_need v3.toNatClampNeg)) (v3 + (-1))  hw _ _ _ hP hD hS (lv_sub hl [0, 1, 2, 3] rfl)
set_option maxHeartbeats 4000000 in
set_option maxRecDepth 100000 in
theorem c_Planner_search (l : Launch) (D : va_G) (y : Nat → ClassId) (ad : Nat → Nat) (sz : Nat) (p_size : Int32) (p_need : Nat → Int32) (p_takes : Nat → Int32) (p_room : Nat → Int32) (p_waiting : Nat → Int32) (p0 : Int32) {Q : Int32 → (Nat → Int32) → (Nat → Int32) → Prop} (hw : wp_Planner_search p_need p_takes p_room p_waiting p0 Q) : Met l yX3_search wsX3_search ({ frames := 3, cells := 0, slots := 0, locals := 81 }) (va_Pc [.ref (ad 33), .int p0] (mPre D y sz [(ce_pl ad p_size), ((ad 34), .inl (y 0, 4, .inl p_need)), ((ad 35), .inl (y 0, 4, .inl p_takes)), ((ad 36), .inl (y 0, 4, .inl p_room)), ((ad 37), .inl (y 0, 6561, .inl p_waiting))])) (va_Qi (fun (r : Int32) (u : (Nat → Int32) × (Nat → Int32)) => Q r u.1 u.2) (mAt D y (va_A [(ce_pl ad p_size), ((ad 34), .inl (y 0, 4, .inl p_need)), ((ad 35), .inl (y 0, 4, .inl p_takes)), ((ad 36), .inl (y 0, 4, .inl p_room)), ((ad 37), .inl (y 0, 6561, .inl p_waiting))] sz) (fun (u : (Nat → Int32) × (Nat → Int32)) => [(ce_pl ad p_size), ((ad 34), .inl (y 0, 4, .inl p_need)), ((ad 35), .inl (y 0, 4, .inl p_takes)), ((ad 36), .inl (y 0, 4, .inl u.1)), ((ad 37), .inl (y 0, 6561, .inl u.2))])) (va_A [(ce_pl ad p_size), ((ad 34), .inl (y 0, 4, .inl p_need)), ((ad 35), .inl (y 0, 4, .inl p_takes)), ((ad 36), .inl (y 0, 4, .inl p_room)), ((ad 37), .inl (y 0, 6561, .inl p_waiting))] sz)) 0 0 (va_A [(ce_pl ad p_size), ((ad 34), .inl (y 0, 4, .inl p_need)), ((ad 35), .inl (y 0, 4, .inl p_takes)), ((ad 36), .inl (y 0, 4, .inl p_room)), ((ad 37), .inl (y 0, 6561, .inl p_waiting))] sz) := by
  unfold wp_Planner_search at hw
  refine Met.ofW (cc := cX3_search) (maxL := 4) (ret := some .int) (by decide) rfl ?_
  intro p e s m args below meth c s₁ B hml hv
  obtain ⟨rfl, hsz, hP, hK, hD0, hE⟩ := hv
  have hx := B.exec
  have hb := B.bytes
  have hr := B.returns
  have hts := atoms_spec (ws := wsX3_search) B.pre
  have hown : s.vm.findClass RX3 = some m.cls := findClass_of_methodNamed B.named
  have hlocks := B.notSynchronized
  subst hsz
  have hD := hD0.self (sz := s.heap.size)
  generalize hAe : va_A [(ce_pl ad p_size), ((ad 34), .inl (y 0, 4, .inl p_need)), ((ad 35), .inl (y 0, 4, .inl p_takes)), ((ad 36), .inl (y 0, 4, .inl p_room)), ((ad 37), .inl (y 0, 6561, .inl p_waiting))] s.heap.size = A at hD ⊢
  have hA : ∀ q : Nat, s.heap.size ≤ q → A q := fun q h => by rw [← hAe]; exact Or.inr h
  have hS : va_S A s.heap s.heap [] := va_S.rf
  have hP : va_P D vwCl [(ce_pl ad p_size), ((ad 34), .inl (y 0, 4, .inl p_need)), ((ad 35), .inl (y 0, 4, .inl p_takes)), ((ad 36), .inl (y 0, 4, .inl p_room)), ((ad 37), .inl (y 0, 6561, .inl p_waiting))] s.heap := hP
  have hl := lv_entry ([.ref (ad 33), .int p0]) (n := 4) (Nat.le_of_ble_eq_true rfl)
  rw [lg_entry_eq]
  generalize (lg_sl ([.ref (ad 33), .int p0]) ++ List.replicate (4 - (lg_sl ([.ref (ad 33), .int p0])).length) Slot.unset).toArray = ls at hl ⊢
  have hl : lv_has ls 4 [(0, .ref (ad 33)), (1, .int p0)] := hl
  refine lv_iconst (v := 0) hx hb dX3_search_0 (by decide) ?_
  refine lv_istore_n (lv' := [(2, .int 0), (0, .ref (ad 33)), (1, .int p0)]) hx hb dX3_search_1 rfl hl (by decide) rfl (fun ls hl => ?_)
  refine lv_iconst (v := 3) hx hb dX3_search_2 (by decide) ?_
  refine lv_istore_n (lv' := [(3, .int 3), (2, .int 0), (0, .ref (ad 33)), (1, .int p0)]) hx hb dX3_search_3 rfl hl (by decide) rfl (fun ls hl => ?_)
  obtain ⟨n', hw⟩ := hw
  exact c_Planner_search_h4 hx hb hr hml hown hts hlocks hK hE hA  n' 0 3 hw _ _ _ hP hD hS (lv_sub hl [0, 1, 2, 3] rfl)
theorem inw_X3_leastWaiting_X3 : ∀ w ∈ wsX30, w ∈ wsX3_leastWaiting := fun _ h => List.mem_cons_of_mem _ (List.mem_append_left _ (List.mem_append_left _ (List.mem_append_left _ (List.mem_append_right _ h))))
def wp_Planner_leastWaiting (p_need : Nat → Int32) (p_takes : Nat → Int32) (p_room : Nat → Int32) (p_waiting : Nat → Int32) (p_answers : Nat → Int32) (p0 : Int32) (Q : Int32 → (Nat → Int32) → (Nat → Int32) → (Nat → Int32) → Prop) : Prop := (vp_in p0 9 ∧ ((p_answers p0.toNatClampNeg = (-1) → (wp_Planner_search p_need p_takes p_room p_waiting p0 (fun r_1 p_room_2 p_waiting_3 => (vp_in p0 9 ∧ (vp_in p0 9 ∧ Q ((upd p_answers p0.toNatClampNeg r_1) p0.toNatClampNeg) p_room_2 p_waiting_3 (upd p_answers p0.toNatClampNeg r_1)))))) ∧ (¬ p_answers p0.toNatClampNeg = (-1) → (vp_in p0 9 ∧ Q (p_answers p0.toNatClampNeg) p_room p_waiting p_answers))))
set_option maxHeartbeats 4000000 in
set_option maxRecDepth 100000 in
theorem c_Planner_leastWaiting (l : Launch) (D : va_G) (y : Nat → ClassId) (ad : Nat → Nat) (sz : Nat) (p_size : Int32) (p_need : Nat → Int32) (p_takes : Nat → Int32) (p_room : Nat → Int32) (p_waiting : Nat → Int32) (p_answers : Nat → Int32) (p0 : Int32) {Q : Int32 → (Nat → Int32) → (Nat → Int32) → (Nat → Int32) → Prop} (hw : wp_Planner_leastWaiting p_need p_takes p_room p_waiting p_answers p0 Q) : Met l yX3_leastWaiting wsX3_leastWaiting ({ frames := 4, cells := 0, slots := 0, locals := 104 }) (va_Pc [.ref (ad 33), .int p0] (mPre D y sz [(ce_pl ad p_size), ((ad 34), .inl (y 0, 4, .inl p_need)), ((ad 35), .inl (y 0, 4, .inl p_takes)), ((ad 36), .inl (y 0, 4, .inl p_room)), ((ad 37), .inl (y 0, 6561, .inl p_waiting)), ((ad 38), .inl (y 0, 9, .inl p_answers))])) (va_Qi (fun (r : Int32) (u : (Nat → Int32) × (Nat → Int32) × (Nat → Int32)) => Q r u.1 u.2.1 u.2.2) (mAt D y (va_A [(ce_pl ad p_size), ((ad 34), .inl (y 0, 4, .inl p_need)), ((ad 35), .inl (y 0, 4, .inl p_takes)), ((ad 36), .inl (y 0, 4, .inl p_room)), ((ad 37), .inl (y 0, 6561, .inl p_waiting)), ((ad 38), .inl (y 0, 9, .inl p_answers))] sz) (fun (u : (Nat → Int32) × (Nat → Int32) × (Nat → Int32)) => [(ce_pl ad p_size), ((ad 34), .inl (y 0, 4, .inl p_need)), ((ad 35), .inl (y 0, 4, .inl p_takes)), ((ad 36), .inl (y 0, 4, .inl u.1)), ((ad 37), .inl (y 0, 6561, .inl u.2.1)), ((ad 38), .inl (y 0, 9, .inl u.2.2))])) (va_A [(ce_pl ad p_size), ((ad 34), .inl (y 0, 4, .inl p_need)), ((ad 35), .inl (y 0, 4, .inl p_takes)), ((ad 36), .inl (y 0, 4, .inl p_room)), ((ad 37), .inl (y 0, 6561, .inl p_waiting)), ((ad 38), .inl (y 0, 9, .inl p_answers))] sz)) 0 0 (va_A [(ce_pl ad p_size), ((ad 34), .inl (y 0, 4, .inl p_need)), ((ad 35), .inl (y 0, 4, .inl p_takes)), ((ad 36), .inl (y 0, 4, .inl p_room)), ((ad 37), .inl (y 0, 6561, .inl p_waiting)), ((ad 38), .inl (y 0, 9, .inl p_answers))] sz) := by
  unfold wp_Planner_leastWaiting at hw
  refine Met.ofW (cc := cX3_leastWaiting) (maxL := 2) (ret := some .int) (by decide) rfl ?_
  intro p e s m args below meth c s₁ B hml hv
  obtain ⟨rfl, hsz, hP, hK, hD0, hE⟩ := hv
  have hx := B.exec
  have hb := B.bytes
  have hr := B.returns
  have hts := atoms_spec (ws := wsX3_leastWaiting) B.pre
  have hown : s.vm.findClass RX3 = some m.cls := findClass_of_methodNamed B.named
  have hlocks := B.notSynchronized
  subst hsz
  have hD := hD0.self (sz := s.heap.size)
  generalize hAe : va_A [(ce_pl ad p_size), ((ad 34), .inl (y 0, 4, .inl p_need)), ((ad 35), .inl (y 0, 4, .inl p_takes)), ((ad 36), .inl (y 0, 4, .inl p_room)), ((ad 37), .inl (y 0, 6561, .inl p_waiting)), ((ad 38), .inl (y 0, 9, .inl p_answers))] s.heap.size = A at hD ⊢
  have hA : ∀ q : Nat, s.heap.size ≤ q → A q := fun q h => by rw [← hAe]; exact Or.inr h
  have hS : va_S A s.heap s.heap [] := va_S.rf
  have hP : va_P D vwCl [(ce_pl ad p_size), ((ad 34), .inl (y 0, 4, .inl p_need)), ((ad 35), .inl (y 0, 4, .inl p_takes)), ((ad 36), .inl (y 0, 4, .inl p_room)), ((ad 37), .inl (y 0, 6561, .inl p_waiting)), ((ad 38), .inl (y 0, 9, .inl p_answers))] s.heap := hP
  have hl := lv_entry ([.ref (ad 33), .int p0]) (n := 2) (Nat.le_of_ble_eq_true rfl)
  rw [lg_entry_eq]
  generalize (lg_sl ([.ref (ad 33), .int p0]) ++ List.replicate (2 - (lg_sl ([.ref (ad 33), .int p0])).length) Slot.unset).toArray = ls at hl ⊢
  have hl : lv_has ls 2 [(0, .ref (ad 33)), (1, .int p0)] := hl
  refine lv_aload_n hx hb dX3_leastWaiting_0 rfl (lv_at hl 0 rfl) ?_
  refine va_get (ci := 5) (v := .ref (ad 38)) (C := RX3) (T := TX3) (N := 6) hx hb hts inw_X3_leastWaiting_X3 hown hK hP 0 rfl rfl 4 (by decide) (hts (.fieldLink RX3 26 "DockCall$Planner" "answers" "[I") (by decide +kernel)) (fun _ h9 => h9) rfl dX3_leastWaiting_1 ?_
  refine lv_iload_n hx hb dX3_leastWaiting_4 rfl (lv_at hl 1 rfl) ?_
  obtain ⟨hi, hw⟩ := hw
  refine va_iald hx hb hK hP 5 0 rfl rfl hi dX3_leastWaiting_5 ?_
  refine lv_iconst (v := (-1)) hx hb dX3_leastWaiting_6 (by decide) ?_
  refine lv_icmp_ne (tgt := 21) hx hb dX3_leastWaiting_7 (by decide) (fun hc => ?_) (fun hc => ?_)
  · have hw := hw.2 hc
    refine lv_aload_n hx hb dX3_leastWaiting_21 rfl (lv_at hl 0 rfl) ?_
    refine va_get (ci := 5) (v := .ref (ad 38)) (C := RX3) (T := TX3) (N := 6) hx hb hts inw_X3_leastWaiting_X3 hown hK hP 0 rfl rfl 4 (by decide) (hts (.fieldLink RX3 26 "DockCall$Planner" "answers" "[I") (by decide +kernel)) (fun _ h9 => h9) rfl dX3_leastWaiting_22 ?_
    refine lv_iload_n hx hb dX3_leastWaiting_25 rfl (lv_at hl 1 rfl) ?_
    obtain ⟨hi, hw⟩ := hw
    refine va_iald hx hb hK hP 5 0 rfl rfl hi dX3_leastWaiting_26 ?_
    exact W.iret (v := p_answers p0.toNatClampNeg) hx hb hr (fun t ht hW => ⟨⟨p_answers p0.toNatClampNeg, (p_room, p_waiting, p_answers), rfl, hw, mAt.to hP hK hD ht hW⟩, hS.F ht⟩) hS.2.2 dX3_leastWaiting_27
  · have hw := hw.1 hc
    refine lv_aload_n hx hb dX3_leastWaiting_10 rfl (lv_at hl 0 rfl) ?_
    refine va_get (ci := 5) (v := .ref (ad 38)) (C := RX3) (T := TX3) (N := 6) hx hb hts inw_X3_leastWaiting_X3 hown hK hP 0 rfl rfl 4 (by decide) (hts (.fieldLink RX3 26 "DockCall$Planner" "answers" "[I") (by decide +kernel)) (fun _ h9 => h9) rfl dX3_leastWaiting_11 ?_
    refine lv_iload_n hx hb dX3_leastWaiting_14 rfl (lv_at hl 1 rfl) ?_
    refine lv_aload_n hx hb dX3_leastWaiting_15 rfl (lv_at hl 0 rfl) ?_
    refine lv_iload_n hx hb dX3_leastWaiting_16 rfl (lv_at hl 1 rfl) ?_
    refine mx_i (wc := [(ce_pl ad p_size), ((ad 34), .inl (y 0, 4, .inl p_need)), ((ad 35), .inl (y 0, 4, .inl p_takes)), ((ad 36), .inl (y 0, 4, .inl p_room)), ((ad 37), .inl (y 0, 6561, .inl p_waiting))]) (wr := [((ad 38), .inl (y 0, 9, .inl p_answers))]) hP hD hS hA [0, 1, 2, 3, 4] [5] [1, 2, 3, 4, 5, 0] rfl rfl (by decide) (by decide) (by decide) (fun (u : (Nat → Int32) × (Nat → Int32)) => [(ce_pl ad p_size), ((ad 34), .inl (y 0, 4, .inl p_need)), ((ad 35), .inl (y 0, 4, .inl p_takes)), ((ad 36), .inl (y 0, 4, .inl u.1)), ((ad 37), .inl (y 0, 6561, .inl u.2)), ((ad 38), .inl (y 0, 9, .inl p_answers))]) (fun _ => rfl) (va_runV (As := [.int p0]) (rest := [.int p0, .ref (ad 38)]) ⟨hx, hb, hml, hown, hts⟩ (c_Planner_search l D y ad s.heap.size p_size p_need p_takes p_room p_waiting p0 hw) (cwV 1 hts gX3_leastWaiting_X3_search rfl rfl rfl (by decide +kernel) ⟨Nat.le_of_ble_eq_true rfl, Nat.le_of_ble_eq_true rfl⟩) ⟨mPre.blind, (va_recv hK hP (ci := 5) (q0 := 0) rfl rfl), mPre.to (hP.sub [0, 1, 2, 3, 4] rfl) hK (hD.sub [0, 1, 2, 3, 4] (by decide) rfl) hE⟩ rfl rfl hl.1 rfl (lv_room (Nat.le_of_ble_eq_true rfl)) dX3_leastWaiting_17 ⟨Nat.le_of_ble_eq_true rfl, Nat.le_of_ble_eq_true rfl⟩) (fun r_1 u H locs hw hP hD hS => ?_)
    obtain ⟨p_room_2, p_waiting_3⟩ := u
    try dsimp only at hw
    have hP : va_P D vwCl [(ce_pl ad p_size), ((ad 34), .inl (y 0, 4, .inl p_need)), ((ad 35), .inl (y 0, 4, .inl p_takes)), ((ad 36), .inl (y 0, 4, .inl p_room_2)), ((ad 37), .inl (y 0, 6561, .inl p_waiting_3)), ((ad 38), .inl (y 0, 9, .inl p_answers))] H := hP
    have hD : va_D A [(ce_pl ad p_size), ((ad 34), .inl (y 0, 4, .inl p_need)), ((ad 35), .inl (y 0, 4, .inl p_takes)), ((ad 36), .inl (y 0, 4, .inl p_room_2)), ((ad 37), .inl (y 0, 6561, .inl p_waiting_3)), ((ad 38), .inl (y 0, 9, .inl p_answers))] := hD
    obtain ⟨hi, hw⟩ := hw
    refine va_iast hx hb hK hP hD hS 5 0 rfl rfl hi dX3_leastWaiting_20 (fun H locs hP hD hS => ?_)
    have hP : va_P D vwCl [(ce_pl ad p_size), ((ad 34), .inl (y 0, 4, .inl p_need)), ((ad 35), .inl (y 0, 4, .inl p_takes)), ((ad 36), .inl (y 0, 4, .inl p_room_2)), ((ad 37), .inl (y 0, 6561, .inl p_waiting_3)), ((ad 38), .inl (y 0, 9, .inl (upd p_answers p0.toNatClampNeg r_1)))] H := hP
    have hD : va_D A [(ce_pl ad p_size), ((ad 34), .inl (y 0, 4, .inl p_need)), ((ad 35), .inl (y 0, 4, .inl p_takes)), ((ad 36), .inl (y 0, 4, .inl p_room_2)), ((ad 37), .inl (y 0, 6561, .inl p_waiting_3)), ((ad 38), .inl (y 0, 9, .inl (upd p_answers p0.toNatClampNeg r_1)))] := hD
    refine lv_aload_n hx hb dX3_leastWaiting_21 rfl (lv_at hl 0 rfl) ?_
    refine va_get (ci := 5) (v := .ref (ad 38)) (C := RX3) (T := TX3) (N := 6) hx hb hts inw_X3_leastWaiting_X3 hown hK hP 0 rfl rfl 4 (by decide) (hts (.fieldLink RX3 26 "DockCall$Planner" "answers" "[I") (by decide +kernel)) (fun _ h9 => h9) rfl dX3_leastWaiting_22 ?_
    refine lv_iload_n hx hb dX3_leastWaiting_25 rfl (lv_at hl 1 rfl) ?_
    obtain ⟨hi, hw⟩ := hw
    refine va_iald hx hb hK hP 5 0 rfl rfl hi dX3_leastWaiting_26 ?_
    exact W.iret (v := (upd p_answers p0.toNatClampNeg r_1) p0.toNatClampNeg) hx hb hr (fun t ht hW => ⟨⟨(upd p_answers p0.toNatClampNeg r_1) p0.toNatClampNeg, (p_room_2, p_waiting_3, upd p_answers p0.toNatClampNeg r_1), rfl, hw, mAt.to hP hK hD ht hW⟩, hS.F ht⟩) hS.2.2 dX3_leastWaiting_27
theorem inw_X3_add_X3 : ∀ w ∈ wsX30, w ∈ wsX3_add := fun _ h => List.mem_cons_of_mem _ (List.mem_append_left _ (List.mem_append_right _ h))
def wp_Planner_add (p_size : Int32) (p_need : Nat → Int32) (p_takes : Nat → Int32) (p_answers : Nat → Int32) (p0 : Int32) (p1 : Int32) (Q : Int32 → Int32 → (Nat → Int32) → (Nat → Int32) → (Nat → Int32) → Prop) : Prop := ((p_size < 4 → (vp_in p_size 4 ∧ (vp_in p_size 4 ∧ (wp_Arrays_fill_53178 9 p_answers (-1) (fun p_answers_1 => Q (p_size + 1) (p_size + 1) (upd p_need p_size.toNatClampNeg p0) (upd p_takes p_size.toNatClampNeg p1) p_answers_1))))) ∧ (¬ p_size < 4 → Q (-1) p_size p_need p_takes p_answers))
set_option maxHeartbeats 4000000 in
set_option maxRecDepth 100000 in
theorem c_Planner_add (l : Launch) (D : va_G) (y : Nat → ClassId) (ad : Nat → Nat) (sz : Nat) (p_size : Int32) (p_need : Nat → Int32) (p_takes : Nat → Int32) (p_answers : Nat → Int32) (p0 : Int32) (p1 : Int32) {Q : Int32 → Int32 → (Nat → Int32) → (Nat → Int32) → (Nat → Int32) → Prop} (hw : wp_Planner_add p_size p_need p_takes p_answers p0 p1 Q) : Met l yX3_add wsX3_add ({ frames := 1, cells := 0, slots := 0, locals := 23 }) (va_Pc [.ref (ad 33), .int p0, .int p1] (mPre D y sz [(ce_pl ad p_size), ((ad 34), .inl (y 0, 4, .inl p_need)), ((ad 35), .inl (y 0, 4, .inl p_takes)), ((ad 38), .inl (y 0, 9, .inl p_answers))])) (va_Qi (fun (r : Int32) (u : Int32 × (Nat → Int32) × (Nat → Int32) × (Nat → Int32)) => Q r u.1 u.2.1 u.2.2.1 u.2.2.2) (mAt D y (va_A [(ce_pl ad p_size), ((ad 34), .inl (y 0, 4, .inl p_need)), ((ad 35), .inl (y 0, 4, .inl p_takes)), ((ad 38), .inl (y 0, 9, .inl p_answers))] sz) (fun (u : Int32 × (Nat → Int32) × (Nat → Int32) × (Nat → Int32)) => [(ce_pl ad u.1), ((ad 34), .inl (y 0, 4, .inl u.2.1)), ((ad 35), .inl (y 0, 4, .inl u.2.2.1)), ((ad 38), .inl (y 0, 9, .inl u.2.2.2))])) (va_A [(ce_pl ad p_size), ((ad 34), .inl (y 0, 4, .inl p_need)), ((ad 35), .inl (y 0, 4, .inl p_takes)), ((ad 38), .inl (y 0, 9, .inl p_answers))] sz)) 0 0 (va_A [(ce_pl ad p_size), ((ad 34), .inl (y 0, 4, .inl p_need)), ((ad 35), .inl (y 0, 4, .inl p_takes)), ((ad 38), .inl (y 0, 9, .inl p_answers))] sz) := by
  unfold wp_Planner_add at hw
  refine Met.ofW (cc := cX3_add) (maxL := 3) (ret := some .int) (by decide) rfl ?_
  intro p e s m args below meth c s₁ B hml hv
  obtain ⟨rfl, hsz, hP, hK, hD0, hE⟩ := hv
  have hx := B.exec
  have hb := B.bytes
  have hr := B.returns
  have hts := atoms_spec (ws := wsX3_add) B.pre
  have hown : s.vm.findClass RX3 = some m.cls := findClass_of_methodNamed B.named
  have hlocks := B.notSynchronized
  subst hsz
  have hD := hD0.self (sz := s.heap.size)
  generalize hAe : va_A [(ce_pl ad p_size), ((ad 34), .inl (y 0, 4, .inl p_need)), ((ad 35), .inl (y 0, 4, .inl p_takes)), ((ad 38), .inl (y 0, 9, .inl p_answers))] s.heap.size = A at hD ⊢
  have hA : ∀ q : Nat, s.heap.size ≤ q → A q := fun q h => by rw [← hAe]; exact Or.inr h
  have hS : va_S A s.heap s.heap [] := va_S.rf
  have hP : va_P D vwCl [(ce_pl ad p_size), ((ad 34), .inl (y 0, 4, .inl p_need)), ((ad 35), .inl (y 0, 4, .inl p_takes)), ((ad 38), .inl (y 0, 9, .inl p_answers))] s.heap := hP
  have hl := lv_entry ([.ref (ad 33), .int p0, .int p1]) (n := 3) (Nat.le_of_ble_eq_true rfl)
  rw [lg_entry_eq]
  generalize (lg_sl ([.ref (ad 33), .int p0, .int p1]) ++ List.replicate (3 - (lg_sl ([.ref (ad 33), .int p0, .int p1])).length) Slot.unset).toArray = ls at hl ⊢
  have hl : lv_has ls 3 [(0, .ref (ad 33)), (1, .int p0), (2, .int p1)] := hl
  refine lv_aload_n hx hb dX3_add_0 rfl (lv_at hl 0 rfl) ?_
  refine va_get (ci := 5) (v := .int p_size) (C := RX3) (T := TX3) (N := 6) hx hb hts inw_X3_add_X3 hown hK hP 0 rfl rfl 5 (by decide) (hts (.fieldLink RX3 35 "DockCall$Planner" "size" "I") (by decide +kernel)) (fun _ h9 => h9) rfl dX3_add_1 ?_
  refine lv_iconst (v := 4) hx hb dX3_add_4 (by decide) ?_
  refine lv_icmp_lt (tgt := 10) hx hb dX3_add_5 (by decide) (fun hc => ?_) (fun hc => ?_)
  · have hw := hw.1 hc
    refine lv_aload_n hx hb dX3_add_10 rfl (lv_at hl 0 rfl) ?_
    refine va_get (ci := 5) (v := .ref (ad 34)) (C := RX3) (T := TX3) (N := 6) hx hb hts inw_X3_add_X3 hown hK hP 0 rfl rfl 0 (by decide) (hts (.fieldLink RX3 13 "DockCall$Planner" "need" "[I") (by decide +kernel)) (fun _ h9 => h9) rfl dX3_add_11 ?_
    refine lv_aload_n hx hb dX3_add_14 rfl (lv_at hl 0 rfl) ?_
    refine va_get (ci := 5) (v := .int p_size) (C := RX3) (T := TX3) (N := 6) hx hb hts inw_X3_add_X3 hown hK hP 0 rfl rfl 5 (by decide) (hts (.fieldLink RX3 35 "DockCall$Planner" "size" "I") (by decide +kernel)) (fun _ h9 => h9) rfl dX3_add_15 ?_
    refine lv_iload_n hx hb dX3_add_18 rfl (lv_at hl 1 rfl) ?_
    obtain ⟨hi, hw⟩ := hw
    refine va_iast hx hb hK hP hD hS 1 0 rfl rfl hi dX3_add_19 (fun H locs hP hD hS => ?_)
    have hP : va_P D vwCl [(ce_pl ad p_size), ((ad 34), .inl (y 0, 4, .inl (upd p_need p_size.toNatClampNeg p0))), ((ad 35), .inl (y 0, 4, .inl p_takes)), ((ad 38), .inl (y 0, 9, .inl p_answers))] H := hP
    have hD : va_D A [(ce_pl ad p_size), ((ad 34), .inl (y 0, 4, .inl (upd p_need p_size.toNatClampNeg p0))), ((ad 35), .inl (y 0, 4, .inl p_takes)), ((ad 38), .inl (y 0, 9, .inl p_answers))] := hD
    refine lv_aload_n hx hb dX3_add_20 rfl (lv_at hl 0 rfl) ?_
    refine va_get (ci := 5) (v := .ref (ad 35)) (C := RX3) (T := TX3) (N := 6) hx hb hts inw_X3_add_X3 hown hK hP 0 rfl rfl 1 (by decide) (hts (.fieldLink RX3 17 "DockCall$Planner" "takes" "[I") (by decide +kernel)) (fun _ h9 => h9) rfl dX3_add_21 ?_
    refine lv_aload_n hx hb dX3_add_24 rfl (lv_at hl 0 rfl) ?_
    refine va_get (ci := 5) (v := .int p_size) (C := RX3) (T := TX3) (N := 6) hx hb hts inw_X3_add_X3 hown hK hP 0 rfl rfl 5 (by decide) (hts (.fieldLink RX3 35 "DockCall$Planner" "size" "I") (by decide +kernel)) (fun _ h9 => h9) rfl dX3_add_25 ?_
    refine lv_iload_n hx hb dX3_add_28 rfl (lv_at hl 2 rfl) ?_
    obtain ⟨hi, hw⟩ := hw
    refine va_iast hx hb hK hP hD hS 2 0 rfl rfl hi dX3_add_29 (fun H locs hP hD hS => ?_)
    have hP : va_P D vwCl [(ce_pl ad p_size), ((ad 34), .inl (y 0, 4, .inl (upd p_need p_size.toNatClampNeg p0))), ((ad 35), .inl (y 0, 4, .inl (upd p_takes p_size.toNatClampNeg p1))), ((ad 38), .inl (y 0, 9, .inl p_answers))] H := hP
    have hD : va_D A [(ce_pl ad p_size), ((ad 34), .inl (y 0, 4, .inl (upd p_need p_size.toNatClampNeg p0))), ((ad 35), .inl (y 0, 4, .inl (upd p_takes p_size.toNatClampNeg p1))), ((ad 38), .inl (y 0, 9, .inl p_answers))] := hD
    refine lv_aload_n hx hb dX3_add_30 rfl (lv_at hl 0 rfl) ?_
    refine lv_dup hx hb dX3_add_31 rfl ?_
    refine va_get (ci := 5) (v := .int p_size) (C := RX3) (T := TX3) (N := 6) hx hb hts inw_X3_add_X3 hown hK hP 0 rfl rfl 5 (by decide) (hts (.fieldLink RX3 35 "DockCall$Planner" "size" "I") (by decide +kernel)) (fun _ h9 => h9) rfl dX3_add_32 ?_
    refine lv_iconst (v := 1) hx hb dX3_add_35 (by decide) ?_
    refine lv_iadd hx hb dX3_add_36 ?_
    refine va_put (ci := 5) (v := .int (p_size + 1)) (ty := .int) (C := RX3) (T := TX3) (N := 6) hx hb hts inw_X3_add_X3 tyX3 tyX3_ok nmX3 hown hK hP hD hS 0 rfl rfl 5 (by decide) (hts (.fieldLink RX3 35 "DockCall$Planner" "size" "I") (by decide +kernel)) (fun _ h9 => h9) rfl (by decide +kernel) rfl rfl (Nat.le_of_ble_eq_true rfl) dX3_add_37 (fun H locs hP hD hS => ?_)
    have hP : va_P D vwCl [(ce_pl ad (p_size + 1)), ((ad 34), .inl (y 0, 4, .inl (upd p_need p_size.toNatClampNeg p0))), ((ad 35), .inl (y 0, 4, .inl (upd p_takes p_size.toNatClampNeg p1))), ((ad 38), .inl (y 0, 9, .inl p_answers))] H := hP
    have hD : va_D A [(ce_pl ad (p_size + 1)), ((ad 34), .inl (y 0, 4, .inl (upd p_need p_size.toNatClampNeg p0))), ((ad 35), .inl (y 0, 4, .inl (upd p_takes p_size.toNatClampNeg p1))), ((ad 38), .inl (y 0, 9, .inl p_answers))] := hD
    refine lv_aload_n hx hb dX3_add_40 rfl (lv_at hl 0 rfl) ?_
    refine va_get (ci := 5) (v := .ref (ad 38)) (C := RX3) (T := TX3) (N := 6) hx hb hts inw_X3_add_X3 hown hK hP 0 rfl rfl 4 (by decide) (hts (.fieldLink RX3 26 "DockCall$Planner" "answers" "[I") (by decide +kernel)) (fun _ h9 => h9) rfl dX3_add_41 ?_
    refine lv_iconst (v := (-1)) hx hb dX3_add_44 (by decide) ?_
    refine mx_v (wc := [((ad 38), .inl (y 0, 9, .inl p_answers))]) (wr := [(ce_pl ad (p_size + 1)), ((ad 34), .inl (y 0, 4, .inl (upd p_need p_size.toNatClampNeg p0))), ((ad 35), .inl (y 0, 4, .inl (upd p_takes p_size.toNatClampNeg p1)))]) hP hD hS hA [3] [0, 1, 2] [0, 1, 2, 3] rfl rfl (by decide) (by decide) (by decide) (fun (u : Nat → Int32) => [(ce_pl ad (p_size + 1)), ((ad 34), .inl (y 0, 4, .inl (upd p_need p_size.toNatClampNeg p0))), ((ad 35), .inl (y 0, 4, .inl (upd p_takes p_size.toNatClampNeg p1))), ((ad 38), .inl (y 0, 9, .inl u))]) (fun _ => rfl) (va_runS (As := [.ref (ad 38), .int (-1)]) (rest := []) ⟨hx, hb, hml, hown, hts⟩ (c_Arrays_fill_53178 l D y (ad 38) 9 H.size p_answers (-1) hw) (va_cwS 2 hts gX3_add_J7_fill_53178 rfl rfl rfl (by decide +kernel) ⟨Nat.le_of_ble_eq_true rfl, Nat.le_of_ble_eq_true rfl⟩) ⟨mPre.blind, mPre.to (hP.sub [3] rfl) hK (hD.sub [3] (by decide) rfl) hE⟩ rfl rfl hl.1 rfl (lv_room (Nat.le_of_ble_eq_true rfl)) dX3_add_45 ⟨Nat.le_of_ble_eq_true rfl, Nat.le_of_ble_eq_true rfl⟩) (fun u H locs hw hP hD hS => ?_)
    obtain ⟨p_answers_1, rfl⟩ : ∃ z, z = u := ⟨_, rfl⟩
    try dsimp only at hw
    have hP : va_P D vwCl [(ce_pl ad (p_size + 1)), ((ad 34), .inl (y 0, 4, .inl (upd p_need p_size.toNatClampNeg p0))), ((ad 35), .inl (y 0, 4, .inl (upd p_takes p_size.toNatClampNeg p1))), ((ad 38), .inl (y 0, 9, .inl p_answers_1))] H := hP
    have hD : va_D A [(ce_pl ad (p_size + 1)), ((ad 34), .inl (y 0, 4, .inl (upd p_need p_size.toNatClampNeg p0))), ((ad 35), .inl (y 0, 4, .inl (upd p_takes p_size.toNatClampNeg p1))), ((ad 38), .inl (y 0, 9, .inl p_answers_1))] := hD
    refine lv_aload_n hx hb dX3_add_48 rfl (lv_at hl 0 rfl) ?_
    refine va_get (ci := 5) (v := .int (p_size + 1)) (C := RX3) (T := TX3) (N := 6) hx hb hts inw_X3_add_X3 hown hK hP 0 rfl rfl 5 (by decide) (hts (.fieldLink RX3 35 "DockCall$Planner" "size" "I") (by decide +kernel)) (fun _ h9 => h9) rfl dX3_add_49 ?_
    exact W.iret (v := p_size + 1) hx hb hr (fun t ht hW => ⟨⟨p_size + 1, (p_size + 1, upd p_need p_size.toNatClampNeg p0, upd p_takes p_size.toNatClampNeg p1, p_answers_1), rfl, hw, mAt.to hP hK hD ht hW⟩, hS.F ht⟩) hS.2.2 dX3_add_52
  · have hw := hw.2 hc
    refine lv_iconst (v := (-1)) hx hb dX3_add_8 (by decide) ?_
    exact W.iret (v := (-1)) hx hb hr (fun t ht hW => ⟨⟨(-1), (p_size, p_need, p_takes, p_answers), rfl, hw, mAt.to hP hK hD ht hW⟩, hS.F ht⟩) hS.2.2 dX3_add_9
theorem inw_X3_clear_X3 : ∀ w ∈ wsX30, w ∈ wsX3_clear := fun _ h => List.mem_cons_of_mem _ (List.mem_append_right _ h)
def wp_Planner_clear (p_size : Int32) (p_need : Nat → Int32) (p_answers : Nat → Int32) (Q : Int32 → Int32 → (Nat → Int32) → (Nat → Int32) → Prop) : Prop := (wp_Arrays_fill_53178 4 p_need 0 (fun p_need_1 => (wp_Arrays_fill_53178 9 p_answers (-1) (fun p_answers_2 => Q p_size 0 p_need_1 p_answers_2))))
set_option maxHeartbeats 4000000 in
set_option maxRecDepth 100000 in
theorem c_Planner_clear (l : Launch) (D : va_G) (y : Nat → ClassId) (ad : Nat → Nat) (sz : Nat) (p_size : Int32) (p_need : Nat → Int32) (p_answers : Nat → Int32)  {Q : Int32 → Int32 → (Nat → Int32) → (Nat → Int32) → Prop} (hw : wp_Planner_clear p_size p_need p_answers Q) : Met l yX3_clear wsX3_clear ({ frames := 1, cells := 0, slots := 0, locals := 23 }) (va_Pc [.ref (ad 33)] (mPre D y sz [(ce_pl ad p_size), ((ad 34), .inl (y 0, 4, .inl p_need)), ((ad 38), .inl (y 0, 9, .inl p_answers))])) (va_Qi (fun (r : Int32) (u : Int32 × (Nat → Int32) × (Nat → Int32)) => Q r u.1 u.2.1 u.2.2) (mAt D y (va_A [(ce_pl ad p_size), ((ad 34), .inl (y 0, 4, .inl p_need)), ((ad 38), .inl (y 0, 9, .inl p_answers))] sz) (fun (u : Int32 × (Nat → Int32) × (Nat → Int32)) => [(ce_pl ad u.1), ((ad 34), .inl (y 0, 4, .inl u.2.1)), ((ad 38), .inl (y 0, 9, .inl u.2.2))])) (va_A [(ce_pl ad p_size), ((ad 34), .inl (y 0, 4, .inl p_need)), ((ad 38), .inl (y 0, 9, .inl p_answers))] sz)) 0 0 (va_A [(ce_pl ad p_size), ((ad 34), .inl (y 0, 4, .inl p_need)), ((ad 38), .inl (y 0, 9, .inl p_answers))] sz) := by
  unfold wp_Planner_clear at hw
  refine Met.ofW (cc := cX3_clear) (maxL := 2) (ret := some .int) (by decide) rfl ?_
  intro p e s m args below meth c s₁ B hml hv
  obtain ⟨rfl, hsz, hP, hK, hD0, hE⟩ := hv
  have hx := B.exec
  have hb := B.bytes
  have hr := B.returns
  have hts := atoms_spec (ws := wsX3_clear) B.pre
  have hown : s.vm.findClass RX3 = some m.cls := findClass_of_methodNamed B.named
  have hlocks := B.notSynchronized
  subst hsz
  have hD := hD0.self (sz := s.heap.size)
  generalize hAe : va_A [(ce_pl ad p_size), ((ad 34), .inl (y 0, 4, .inl p_need)), ((ad 38), .inl (y 0, 9, .inl p_answers))] s.heap.size = A at hD ⊢
  have hA : ∀ q : Nat, s.heap.size ≤ q → A q := fun q h => by rw [← hAe]; exact Or.inr h
  have hS : va_S A s.heap s.heap [] := va_S.rf
  have hP : va_P D vwCl [(ce_pl ad p_size), ((ad 34), .inl (y 0, 4, .inl p_need)), ((ad 38), .inl (y 0, 9, .inl p_answers))] s.heap := hP
  have hl := lv_entry ([.ref (ad 33)]) (n := 2) (Nat.le_of_ble_eq_true rfl)
  rw [lg_entry_eq]
  generalize (lg_sl ([.ref (ad 33)]) ++ List.replicate (2 - (lg_sl ([.ref (ad 33)])).length) Slot.unset).toArray = ls at hl ⊢
  have hl : lv_has ls 2 [(0, .ref (ad 33))] := hl
  refine lv_aload_n hx hb dX3_clear_0 rfl (lv_at hl 0 rfl) ?_
  refine va_get (ci := 5) (v := .int p_size) (C := RX3) (T := TX3) (N := 6) hx hb hts inw_X3_clear_X3 hown hK hP 0 rfl rfl 5 (by decide) (hts (.fieldLink RX3 35 "DockCall$Planner" "size" "I") (by decide +kernel)) (fun _ h9 => h9) rfl dX3_clear_1 ?_
  refine lv_istore_n (lv' := [(1, .int p_size), (0, .ref (ad 33))]) hx hb dX3_clear_4 rfl hl (by decide) rfl (fun ls hl => ?_)
  refine lv_aload_n hx hb dX3_clear_5 rfl (lv_at hl 1 rfl) ?_
  refine lv_iconst (v := 0) hx hb dX3_clear_6 (by decide) ?_
  refine va_put (ci := 5) (v := .int 0) (ty := .int) (C := RX3) (T := TX3) (N := 6) hx hb hts inw_X3_clear_X3 tyX3 tyX3_ok nmX3 hown hK hP hD hS 0 rfl rfl 5 (by decide) (hts (.fieldLink RX3 35 "DockCall$Planner" "size" "I") (by decide +kernel)) (fun _ h9 => h9) rfl (by decide +kernel) rfl rfl (Nat.le_of_ble_eq_true rfl) dX3_clear_7 (fun H locs hP hD hS => ?_)
  have hP : va_P D vwCl [(ce_pl ad 0), ((ad 34), .inl (y 0, 4, .inl p_need)), ((ad 38), .inl (y 0, 9, .inl p_answers))] H := hP
  have hD : va_D A [(ce_pl ad 0), ((ad 34), .inl (y 0, 4, .inl p_need)), ((ad 38), .inl (y 0, 9, .inl p_answers))] := hD
  refine lv_aload_n hx hb dX3_clear_10 rfl (lv_at hl 1 rfl) ?_
  refine va_get (ci := 5) (v := .ref (ad 34)) (C := RX3) (T := TX3) (N := 6) hx hb hts inw_X3_clear_X3 hown hK hP 0 rfl rfl 0 (by decide) (hts (.fieldLink RX3 13 "DockCall$Planner" "need" "[I") (by decide +kernel)) (fun _ h9 => h9) rfl dX3_clear_11 ?_
  refine lv_iconst (v := 0) hx hb dX3_clear_14 (by decide) ?_
  refine mx_v (wc := [((ad 34), .inl (y 0, 4, .inl p_need))]) (wr := [(ce_pl ad 0), ((ad 38), .inl (y 0, 9, .inl p_answers))]) hP hD hS hA [1] [0, 2] [0, 2, 1] rfl rfl (by decide) (by decide) (by decide) (fun (u : Nat → Int32) => [(ce_pl ad 0), ((ad 34), .inl (y 0, 4, .inl u)), ((ad 38), .inl (y 0, 9, .inl p_answers))]) (fun _ => rfl) (va_runS (As := [.ref (ad 34), .int 0]) (rest := []) ⟨hx, hb, hml, hown, hts⟩ (c_Arrays_fill_53178 l D y (ad 34) 4 H.size p_need 0 hw) (va_cwS 2 hts gX3_clear_J7_fill_53178 rfl rfl rfl (by decide +kernel) ⟨Nat.le_of_ble_eq_true rfl, Nat.le_of_ble_eq_true rfl⟩) ⟨mPre.blind, mPre.to (hP.sub [1] rfl) hK (hD.sub [1] (by decide) rfl) hE⟩ rfl rfl hl.1 rfl (lv_room (Nat.le_of_ble_eq_true rfl)) dX3_clear_15 ⟨Nat.le_of_ble_eq_true rfl, Nat.le_of_ble_eq_true rfl⟩) (fun u H locs hw hP hD hS => ?_)
  obtain ⟨p_need_1, rfl⟩ : ∃ z, z = u := ⟨_, rfl⟩
  try dsimp only at hw
  have hP : va_P D vwCl [(ce_pl ad 0), ((ad 34), .inl (y 0, 4, .inl p_need_1)), ((ad 38), .inl (y 0, 9, .inl p_answers))] H := hP
  have hD : va_D A [(ce_pl ad 0), ((ad 34), .inl (y 0, 4, .inl p_need_1)), ((ad 38), .inl (y 0, 9, .inl p_answers))] := hD
  refine lv_aload_n hx hb dX3_clear_18 rfl (lv_at hl 1 rfl) ?_
  refine va_get (ci := 5) (v := .ref (ad 38)) (C := RX3) (T := TX3) (N := 6) hx hb hts inw_X3_clear_X3 hown hK hP 0 rfl rfl 4 (by decide) (hts (.fieldLink RX3 26 "DockCall$Planner" "answers" "[I") (by decide +kernel)) (fun _ h9 => h9) rfl dX3_clear_19 ?_
  refine lv_iconst (v := (-1)) hx hb dX3_clear_22 (by decide) ?_
  refine mx_v (wc := [((ad 38), .inl (y 0, 9, .inl p_answers))]) (wr := [(ce_pl ad 0), ((ad 34), .inl (y 0, 4, .inl p_need_1))]) hP hD hS hA [2] [0, 1] [0, 1, 2] rfl rfl (by decide) (by decide) (by decide) (fun (u : Nat → Int32) => [(ce_pl ad 0), ((ad 34), .inl (y 0, 4, .inl p_need_1)), ((ad 38), .inl (y 0, 9, .inl u))]) (fun _ => rfl) (va_runS (As := [.ref (ad 38), .int (-1)]) (rest := []) ⟨hx, hb, hml, hown, hts⟩ (c_Arrays_fill_53178 l D y (ad 38) 9 H.size p_answers (-1) hw) (va_cwS 2 hts gX3_clear_J7_fill_53178 rfl rfl rfl (by decide +kernel) ⟨Nat.le_of_ble_eq_true rfl, Nat.le_of_ble_eq_true rfl⟩) ⟨mPre.blind, mPre.to (hP.sub [2] rfl) hK (hD.sub [2] (by decide) rfl) hE⟩ rfl rfl hl.1 rfl (lv_room (Nat.le_of_ble_eq_true rfl)) dX3_clear_23 ⟨Nat.le_of_ble_eq_true rfl, Nat.le_of_ble_eq_true rfl⟩) (fun u H locs hw hP hD hS => ?_)
  obtain ⟨p_answers_2, rfl⟩ : ∃ z, z = u := ⟨_, rfl⟩
  try dsimp only at hw
  have hP : va_P D vwCl [(ce_pl ad 0), ((ad 34), .inl (y 0, 4, .inl p_need_1)), ((ad 38), .inl (y 0, 9, .inl p_answers_2))] H := hP
  have hD : va_D A [(ce_pl ad 0), ((ad 34), .inl (y 0, 4, .inl p_need_1)), ((ad 38), .inl (y 0, 9, .inl p_answers_2))] := hD
  refine lv_iload_n hx hb dX3_clear_26 rfl (lv_at hl 0 rfl) ?_
  exact W.iret (v := p_size) hx hb hr (fun t ht hW => ⟨⟨p_size, (0, p_need_1, p_answers_2), rfl, hw, mAt.to hP hK hD ht hW⟩, hS.F ht⟩) hS.2.2 dX3_clear_27
