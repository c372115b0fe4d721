def wp_Arrays_fill_53178_h5 (N : Nat) (v1 : Int32) (v3 : Int32)  (Q : (Nat → Int32) → Prop) : Nat → Int32 → (Nat → Int32) → Prop
  | 0, _, _ => False
  | n + 1, v2, fa => ((v3 ≤ v2 → Q fa) ∧ (¬ v3 ≤ v2 → (vp_in v2 N ∧ wp_Arrays_fill_53178_h5 N v1 v3 Q n (v2 + 1) (upd fa v2.toNatClampNeg v1))))
def wp_Arrays_fill_53178 (N : Nat) (fa : Nat → Int32) (p1 : Int32) (Q : (Nat → Int32) → Prop) : Prop := (∃ n' : Nat, wp_Arrays_fill_53178_h5 N p1 (nI N) Q n' 0 fa)
set_option maxHeartbeats 4000000 in
set_option maxRecDepth 100000 in
theorem c_Arrays_fill_53178_h5 {p : Program} {l : Launch} {e : Env} {s : State} {m : MethodId} {args : Array Value} {below : List Frame} {meth : Method} {c : Code} {D : va_G} {y : Nat → ClassId} {aq N : Nat} {A : Nat → Prop} (hx : p.tables.exec = Jvm.exec) (hb : c.code = cJ7_fill_53178) (hr : meth.sig.returnType = none) (hml : c.maxLocals = 4) (hown : s.vm.findClass RJ7 = some m.cls) (hts : ∀ w ∈ wsJ7_fill_53178, w.before args s = true) (hlocks : meth.locks = false) (hK : va_K D vwCl (TY y) s) (hE : EV s) (hA : ∀ q, s.heap.size ≤ q → A q) {v1 : Int32} {v3 : Int32}  {Q : (Nat → Int32) → Prop}  : ∀ (n : Nat) (v2 : Int32) (fa : Nat → Int32), wp_Arrays_fill_53178_h5 N v1 v3 Q n v2 fa → ∀ (H : Heap) (locs : List Loc) (ls : Array Slot), va_P D vwCl [(aq, .inl (y 0, N, .inl fa))] H → va_D A [(aq, .inl (y 0, N, .inl fa))] → va_S A s.heap H locs → lv_has ls 4 [(3, .int v3), (2, .int v2), (0, .ref aq), (1, .int v1)] → W p l e ({ frames := 0, cells := 0, slots := 0, locals := 0 }) s m args below meth c H locs 0 0 (MQ below (va_Qv (fun (u : (Nat → Int32)) => Q u) (mAt D y A (fun (u : (Nat → Int32)) => [(aq, .inl (y 0, N, .inl u))])) A) args s 0 0 A) (F0 m 5 ls []) := by
  intro n
  induction n with
  | zero => intro v2 fa hw; rw [wp_Arrays_fill_53178_h5] at hw; exact hw.elim
  | succ n ih =>
    intro v2 fa hw H locs ls hP hD hS hl
    rw [wp_Arrays_fill_53178_h5] at hw
    refine lv_iload_n hx hb dJ7_fill_53178_5 rfl (lv_at hl 1 rfl) ?_
    refine lv_iload_n hx hb dJ7_fill_53178_6 rfl (lv_at hl 0 rfl) ?_
    refine lv_icmp_ge (tgt := 20) hx hb dJ7_fill_53178_7 (by decide) (fun hc => ?_) (fun hc => ?_)
    · have hw := hw.1 hc
      exact W.vret hx hb hr (fun t ht hW => ⟨⟨(fa), rfl, hw, mAt.to hP hK hD ht hW⟩, hS.F ht⟩) hS.2.2 dJ7_fill_53178_20
    · have hw := hw.2 hc
      refine lv_aload_n hx hb dJ7_fill_53178_10 rfl (lv_at hl 2 rfl) ?_
      refine lv_iload_n hx hb dJ7_fill_53178_11 rfl (lv_at hl 1 rfl) ?_
      refine lv_iload_n hx hb dJ7_fill_53178_12 rfl (lv_at hl 3 rfl) ?_
      obtain ⟨hi, hw⟩ := hw
      refine va_iast hx hb hK hP hD hS 0 0 rfl rfl hi dJ7_fill_53178_13 (fun H locs hP hD hS => ?_)
      have hP : va_P D vwCl [(aq, .inl (y 0, N, .inl (upd fa v2.toNatClampNeg v1)))] H := hP
      have hD : va_D A [(aq, .inl (y 0, N, .inl (upd fa v2.toNatClampNeg v1)))] := hD
      refine lv_iinc (v := v2 + 1) (lv' := [(2, .int (v2 + 1)), (3, .int v3), (0, .ref aq), (1, .int v1)]) hx hb dJ7_fill_53178_14 hl (k := 1) rfl (by first | rfl | decide) (by decide) rfl (fun ls hl => ?_)
      refine lv_goto (tgt := 5) hx hb dJ7_fill_53178_17 (by decide) ?_
      exact ih (v2 + 1) (upd fa v2.toNatClampNeg v1) hw _ _ _ hP hD hS (lv_sub hl [1, 0, 2, 3] rfl)
set_option maxHeartbeats 4000000 in
set_option maxRecDepth 100000 in
theorem c_Arrays_fill_53178 (l : Launch) (D : va_G) (y : Nat → ClassId) (aq N : Nat) (sz : Nat) (fa : Nat → Int32) (p1 : Int32) {Q : (Nat → Int32) → Prop} (hw : wp_Arrays_fill_53178 N fa p1 Q) : Met l yJ7_fill_53178 wsJ7_fill_53178 ({ frames := 0, cells := 0, slots := 0, locals := 0 }) (va_Pc [.ref aq, .int p1] (mPre D y sz [(aq, .inl (y 0, N, .inl fa))])) (va_Qv (fun (u : (Nat → Int32)) => Q u) (mAt D y (va_A [(aq, .inl (y 0, N, .inl fa))] sz) (fun (u : (Nat → Int32)) => [(aq, .inl (y 0, N, .inl u))])) (va_A [(aq, .inl (y 0, N, .inl fa))] sz)) 0 0 (va_A [(aq, .inl (y 0, N, .inl fa))] sz) := by
  unfold wp_Arrays_fill_53178 at hw
  refine Met.ofW (cc := cJ7_fill_53178) (maxL := 4) (ret := none) (by decide) rfl ?_
  intro p e s m args below meth c s₁ B hml hv
  obtain ⟨rfl, hsz, hP, hK, hD0, hE⟩ := hv
  have hx := B.exec
  have hb := B.bytes
  have hr := B.returns
  have hts := atoms_spec (ws := wsJ7_fill_53178) B.pre
  have hown : s.vm.findClass RJ7 = some m.cls := findClass_of_methodNamed B.named
  have hlocks := B.notSynchronized
  subst hsz
  have hD := hD0.self (sz := s.heap.size)
  generalize hAe : va_A [(aq, .inl (y 0, N, .inl fa))] s.heap.size = A at hD ⊢
  have hA : ∀ q : Nat, s.heap.size ≤ q → A q := fun q h => by rw [← hAe]; exact Or.inr h
  have hS : va_S A s.heap s.heap [] := va_S.rf
  have hP : va_P D vwCl [(aq, .inl (y 0, N, .inl fa))] s.heap := hP
  have hl := lv_entry ([.ref aq, .int p1]) (n := 4) (Nat.le_of_ble_eq_true rfl)
  rw [lg_entry_eq]
  generalize (lg_sl ([.ref aq, .int p1]) ++ List.replicate (4 - (lg_sl ([.ref aq, .int p1])).length) Slot.unset).toArray = ls at hl ⊢
  have hl : lv_has ls 4 [(0, .ref aq), (1, .int p1)] := hl
  refine lv_iconst (v := 0) hx hb dJ7_fill_53178_0 (by decide) ?_
  refine lv_istore_n (lv' := [(2, .int 0), (0, .ref aq), (1, .int p1)]) hx hb dJ7_fill_53178_1 rfl hl (by decide) rfl (fun ls hl => ?_)
  refine lv_aload_n hx hb dJ7_fill_53178_2 rfl (lv_at hl 1 rfl) ?_
  refine va_alen (v := nI N) hx hb hK hP 0 0 rfl rfl rfl dJ7_fill_53178_3 ?_
  refine lv_istore_n (lv' := [(3, .int (nI N)), (2, .int 0), (0, .ref aq), (1, .int p1)]) hx hb dJ7_fill_53178_4 rfl hl (by decide) rfl (fun ls hl => ?_)
  obtain ⟨n', hw⟩ := hw
  exact c_Arrays_fill_53178_h5 hx hb hr hml hown hts hlocks hK hE hA  n' 0 fa hw _ _ _ hP hD hS (lv_sub hl [0, 1, 2, 3] rfl)
def wp_Arrays_rangeCheck_23922 (p0 : Int32) (p1 : Int32) (p2 : Int32) (Q : Prop) : Prop := ((p1 ≤ p2 → ((0 ≤ p1 → ((p2 ≤ p0 → Q) ∧ (¬ p2 ≤ p0 → False))) ∧ (¬ 0 ≤ p1 → False))) ∧ (¬ p1 ≤ p2 → False))
set_option maxHeartbeats 4000000 in
set_option maxRecDepth 100000 in
theorem c_Arrays_rangeCheck_23922 (l : Launch) (D : va_G) (y : Nat → ClassId) (sz : Nat)  (p0 : Int32) (p1 : Int32) (p2 : Int32) {Q : Prop} (hw : wp_Arrays_rangeCheck_23922 p0 p1 p2 Q) : Met l yJ7_rangeCheck_23922 wsJ7_rangeCheck_23922 ({ frames := 0, cells := 0, slots := 0, locals := 0 }) (va_Pc [.int p0, .int p1, .int p2] (mPre D y sz [])) (va_Qv (fun (u : Unit) => Q ) (mAt D y (va_A [] sz) (fun (u : Unit) => [])) (va_A [] sz)) 0 0 (va_A [] sz) := by
  unfold wp_Arrays_rangeCheck_23922 at hw
  refine Met.ofW (cc := cJ7_rangeCheck_23922) (maxL := 3) (ret := none) (by decide) rfl ?_
  intro p e s m args below meth c s₁ B hml hv
  obtain ⟨rfl, hsz, hP, hK, hD0, hE⟩ := hv
  have hx := B.exec
  have hb := B.bytes
  have hr := B.returns
  have hts := atoms_spec (ws := wsJ7_rangeCheck_23922) B.pre
  have hown : s.vm.findClass RJ7 = some m.cls := findClass_of_methodNamed B.named
  have hlocks := B.notSynchronized
  subst hsz
  have hD := hD0.self (sz := s.heap.size)
  generalize hAe : va_A [] s.heap.size = A at hD ⊢
  have hA : ∀ q : Nat, s.heap.size ≤ q → A q := fun q h => by rw [← hAe]; exact Or.inr h
  have hS : va_S A s.heap s.heap [] := va_S.rf
  have hP : va_P D vwCl [] s.heap := hP
  have hl := lv_entry ([.int p0, .int p1, .int p2]) (n := 3) (Nat.le_of_ble_eq_true rfl)
  rw [lg_entry_eq]
  generalize (lg_sl ([.int p0, .int p1, .int p2]) ++ List.replicate (3 - (lg_sl ([.int p0, .int p1, .int p2])).length) Slot.unset).toArray = ls at hl ⊢
  have hl : lv_has ls 3 [(0, .int p0), (1, .int p1), (2, .int p2)] := hl
  refine lv_iload_n hx hb dJ7_rangeCheck_23922_0 rfl (lv_at hl 1 rfl) ?_
  refine lv_iload_n hx hb dJ7_rangeCheck_23922_1 rfl (lv_at hl 2 rfl) ?_
  refine lv_icmp_le (tgt := 46) hx hb dJ7_rangeCheck_23922_2 (by decide) (fun hc => ?_) (fun hc => ?_)
  · have hw := hw.1 hc
    refine lv_iload_n hx hb dJ7_rangeCheck_23922_46 rfl (lv_at hl 1 rfl) ?_
    refine lv_if_ge (tgt := 59) hx hb dJ7_rangeCheck_23922_47 (by decide) (fun hc => ?_) (fun hc => ?_)
    · have hw := hw.1 hc
      refine lv_iload_n hx hb dJ7_rangeCheck_23922_59 rfl (lv_at hl 2 rfl) ?_
      refine lv_iload_n hx hb dJ7_rangeCheck_23922_60 rfl (lv_at hl 0 rfl) ?_
      refine lv_icmp_le (tgt := 73) hx hb dJ7_rangeCheck_23922_61 (by decide) (fun hc => ?_) (fun hc => ?_)
      · have hw := hw.1 hc
        exact W.vret hx hb hr (fun t ht hW => ⟨⟨(), rfl, hw, mAt.to hP hK hD ht hW⟩, hS.F ht⟩) hS.2.2 dJ7_rangeCheck_23922_73
      · have hw := hw.2 hc
        exact hw.elim
    · have hw := hw.2 hc
      exact hw.elim
  · have hw := hw.2 hc
    exact hw.elim
def wp_Arrays_fill_fda19_h10 (N : Nat) (v2 : Int32) (v3 : Int32)  (Q : (Nat → Int32) → Prop) : Nat → Int32 → (Nat → Int32) → Prop
  | 0, _, _ => False
  | n + 1, v4, fa => ((v2 ≤ v4 → Q fa) ∧ (¬ v2 ≤ v4 → (vp_in v4 N ∧ wp_Arrays_fill_fda19_h10 N v2 v3 Q n (v4 + 1) (upd fa v4.toNatClampNeg v3))))
def wp_Arrays_fill_fda19 (N : Nat) (fa : Nat → Int32) (p1 : Int32) (p2 : Int32) (p3 : Int32) (Q : (Nat → Int32) → Prop) : Prop := (wp_Arrays_rangeCheck_23922 (nI N) p1 p2 (∃ n' : Nat, wp_Arrays_fill_fda19_h10 N p2 p3 Q n' p1 fa))
set_option maxHeartbeats 4000000 in
set_option maxRecDepth 100000 in
theorem c_Arrays_fill_fda19_h10 {p : Program} {l : Launch} {e : Env} {s : State} {m : MethodId} {args : Array Value} {below : List Frame} {meth : Method} {c : Code} {D : va_G} {y : Nat → ClassId} {aq N : Nat} {A : Nat → Prop} (hx : p.tables.exec = Jvm.exec) (hb : c.code = cJ7_fill_fda19) (hr : meth.sig.returnType = none) (hml : c.maxLocals = 5) (hown : s.vm.findClass RJ7 = some m.cls) (hts : ∀ w ∈ wsJ7_fill_fda19, w.before args s = true) (hlocks : meth.locks = false) (hK : va_K D vwCl (TY y) s) (hE : EV s) (hA : ∀ q, s.heap.size ≤ q → A q) {v1 : Int32} {v2 : Int32} {v3 : Int32}  {Q : (Nat → Int32) → Prop}  : ∀ (n : Nat) (v4 : Int32) (fa : Nat → Int32), wp_Arrays_fill_fda19_h10 N v2 v3 Q n v4 fa → ∀ (H : Heap) (locs : List Loc) (ls : Array Slot), va_P D vwCl [(aq, .inl (y 0, N, .inl fa))] H → va_D A [(aq, .inl (y 0, N, .inl fa))] → va_S A s.heap H locs → lv_has ls 5 [(4, .int v4), (0, .ref aq), (1, .int v1), (2, .int v2), (3, .int v3)] → W p l e ({ frames := 1, cells := 0, slots := 0, locals := 22 }) s m args below meth c H locs 0 0 (MQ below (va_Qv (fun (u : (Nat → Int32)) => Q u) (mAt D y A (fun (u : (Nat → Int32)) => [(aq, .inl (y 0, N, .inl u))])) A) args s 0 0 A) (F0 m 10 ls []) := by
  intro n
  induction n with
  | zero => intro v4 fa hw; rw [wp_Arrays_fill_fda19_h10] at hw; exact hw.elim
  | succ n ih =>
    intro v4 fa hw H locs ls hP hD hS hl
    rw [wp_Arrays_fill_fda19_h10] at hw
    refine lv_iload hx hb dJ7_fill_fda19_10 (lv_at hl 0 rfl) ?_
    refine lv_iload_n hx hb dJ7_fill_fda19_12 rfl (lv_at hl 3 rfl) ?_
    refine lv_icmp_ge (tgt := 27) hx hb dJ7_fill_fda19_13 (by decide) (fun hc => ?_) (fun hc => ?_)
    · have hw := hw.1 hc
      exact W.vret hx hb hr (fun t ht hW => ⟨⟨(fa), rfl, hw, mAt.to hP hK hD ht hW⟩, hS.F ht⟩) hS.2.2 dJ7_fill_fda19_27
    · have hw := hw.2 hc
      refine lv_aload_n hx hb dJ7_fill_fda19_16 rfl (lv_at hl 1 rfl) ?_
      refine lv_iload hx hb dJ7_fill_fda19_17 (lv_at hl 0 rfl) ?_
      refine lv_iload_n hx hb dJ7_fill_fda19_19 rfl (lv_at hl 4 rfl) ?_
      obtain ⟨hi, hw⟩ := hw
      refine va_iast hx hb hK hP hD hS 0 0 rfl rfl hi dJ7_fill_fda19_20 (fun H locs hP hD hS => ?_)
      have hP : va_P D vwCl [(aq, .inl (y 0, N, .inl (upd fa v4.toNatClampNeg v3)))] H := hP
      have hD : va_D A [(aq, .inl (y 0, N, .inl (upd fa v4.toNatClampNeg v3)))] := hD
      refine lv_iinc (v := v4 + 1) (lv' := [(4, .int (v4 + 1)), (0, .ref aq), (1, .int v1), (2, .int v2), (3, .int v3)]) hx hb dJ7_fill_fda19_21 hl (k := 0) rfl (by first | rfl | decide) (by decide) rfl (fun ls hl => ?_)
      refine lv_goto (tgt := 10) hx hb dJ7_fill_fda19_24 (by decide) ?_
      exact ih (v4 + 1) (upd fa v4.toNatClampNeg v3) hw _ _ _ hP hD hS (lv_sub hl [0, 1, 2, 3, 4] rfl)
set_option maxHeartbeats 4000000 in
set_option maxRecDepth 100000 in
theorem c_Arrays_fill_fda19 (l : Launch) (D : va_G) (y : Nat → ClassId) (aq N : Nat) (sz : Nat) (fa : Nat → Int32) (p1 : Int32) (p2 : Int32) (p3 : Int32) {Q : (Nat → Int32) → Prop} (hw : wp_Arrays_fill_fda19 N fa p1 p2 p3 Q) : Met l yJ7_fill_fda19 wsJ7_fill_fda19 ({ frames := 1, cells := 0, slots := 0, locals := 22 }) (va_Pc [.ref aq, .int p1, .int p2, .int p3] (mPre D y sz [(aq, .inl (y 0, N, .inl fa))])) (va_Qv (fun (u : (Nat → Int32)) => Q u) (mAt D y (va_A [(aq, .inl (y 0, N, .inl fa))] sz) (fun (u : (Nat → Int32)) => [(aq, .inl (y 0, N, .inl u))])) (va_A [(aq, .inl (y 0, N, .inl fa))] sz)) 0 0 (va_A [(aq, .inl (y 0, N, .inl fa))] sz) := by
  unfold wp_Arrays_fill_fda19 at hw
  refine Met.ofW (cc := cJ7_fill_fda19) (maxL := 5) (ret := none) (by decide) rfl ?_
  intro p e s m args below meth c s₁ B hml hv
  obtain ⟨rfl, hsz, hP, hK, hD0, hE⟩ := hv
  have hx := B.exec
  have hb := B.bytes
  have hr := B.returns
  have hts := atoms_spec (ws := wsJ7_fill_fda19) B.pre
  have hown : s.vm.findClass RJ7 = some m.cls := findClass_of_methodNamed B.named
  have hlocks := B.notSynchronized
  subst hsz
  have hD := hD0.self (sz := s.heap.size)
  generalize hAe : va_A [(aq, .inl (y 0, N, .inl fa))] s.heap.size = A at hD ⊢
  have hA : ∀ q : Nat, s.heap.size ≤ q → A q := fun q h => by rw [← hAe]; exact Or.inr h
  have hS : va_S A s.heap s.heap [] := va_S.rf
  have hP : va_P D vwCl [(aq, .inl (y 0, N, .inl fa))] s.heap := hP
  have hl := lv_entry ([.ref aq, .int p1, .int p2, .int p3]) (n := 5) (Nat.le_of_ble_eq_true rfl)
  rw [lg_entry_eq]
  generalize (lg_sl ([.ref aq, .int p1, .int p2, .int p3]) ++ List.replicate (5 - (lg_sl ([.ref aq, .int p1, .int p2, .int p3])).length) Slot.unset).toArray = ls at hl ⊢
  have hl : lv_has ls 5 [(0, .ref aq), (1, .int p1), (2, .int p2), (3, .int p3)] := hl
  refine lv_aload_n hx hb dJ7_fill_fda19_0 rfl (lv_at hl 0 rfl) ?_
  refine va_alen (v := nI N) hx hb hK hP 0 0 rfl rfl rfl dJ7_fill_fda19_1 ?_
  refine lv_iload_n hx hb dJ7_fill_fda19_2 rfl (lv_at hl 1 rfl) ?_
  refine lv_iload_n hx hb dJ7_fill_fda19_3 rfl (lv_at hl 2 rfl) ?_
  refine mx_v (wc := []) (wr := [(aq, .inl (y 0, N, .inl fa))]) hP hD hS hA [] [0] [0] rfl rfl (by decide) (by decide) (by decide) (fun (u : Unit) => [(aq, .inl (y 0, N, .inl fa))]) (fun _ => rfl) (va_runS (As := [.int (nI N), .int p1, .int p2]) (rest := []) ⟨hx, hb, hml, hown, hts⟩ (c_Arrays_rangeCheck_23922 l D y s.heap.size (nI N) p1 p2 hw) (va_cwS 3 hts gJ7_fill_fda19_J7_rangeCheck_23922 rfl rfl rfl (by decide +kernel) ⟨Nat.le_of_ble_eq_true rfl, Nat.le_of_ble_eq_true rfl⟩) ⟨mPre.blind, mPre.to (hP.sub [] rfl) hK (hD.sub [] (by decide) rfl) hE⟩ rfl rfl hl.1 rfl (lv_room (Nat.le_of_ble_eq_true rfl)) dJ7_fill_fda19_4 ⟨Nat.le_of_ble_eq_true rfl, Nat.le_of_ble_eq_true rfl⟩) (fun u H locs hw hP hD hS => ?_)
  try dsimp only at hw
  have hP : va_P D vwCl [(aq, .inl (y 0, N, .inl fa))] H := hP
  have hD : va_D A [(aq, .inl (y 0, N, .inl fa))] := hD
  refine lv_iload_n hx hb dJ7_fill_fda19_7 rfl (lv_at hl 1 rfl) ?_
  refine lv_istore (lv' := [(4, .int p1), (0, .ref aq), (1, .int p1), (2, .int p2), (3, .int p3)]) hx hb dJ7_fill_fda19_8 hl (by decide) rfl (fun ls hl => ?_)
  obtain ⟨n', hw⟩ := hw
  exact c_Arrays_fill_fda19_h10 hx hb hr hml hown hts hlocks hK hE hA  n' p1 fa hw _ _ _ hP hD hS (lv_sub hl [0, 1, 2, 3, 4] rfl)
