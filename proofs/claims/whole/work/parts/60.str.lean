/-! Length and charAt of the words that are constants. -/
theorem HX.str {E : Nat → Nat} {A : Nat → Prop} {s : State} {H : Heap} (h : HX E A s H) {k : Nat} (hk : k < 11) : va_O "java/lang/String" (E k) A s H ∧ va_OF "java/lang/String" "coder" "B" (.int 0) (E k) A s H ∧ va_OF "java/lang/String" "value" "[B" (.ref (E (100 + k))) (E k) A s H ∧ va_T .byte (E (100 + k)) (lenJS.getD k 0) (fun j => .int ((bytJS.getD k []).getD j 0)) A s H := h.2.2.2.2.2.1.1 k hk
theorem HX.compact {E : Nat → Nat} {A : Nat → Prop} {s : State} {H : Heap} (h : HX E A s H) : va_Z "java/lang/String" "COMPACT_STRINGS" "Z" (.int 1) A s H := h.2.2.2.2.2.2.2.2.2.2.2.1
theorem HX.sio {E : Nat → Nat} {A : Nat → Prop} {s : State} {H : Heap} (h : HX E A s H) : va_Zq "jdk/internal/util/Preconditions" "SIOOBE_FORMATTER" "Ljava/util/function/BiFunction;" A s H := h.2.2.2.2.2.2.2.2.2.2.2.2
theorem HX.recv {p : Program} {l : Launch} {E : Nat → Nat} {A : Nat → Prop} {s : State} {H : Heap} {locs : List Loc} (h : HX E A s s.heap) {k : Nat} (hk : k < 11) (hS : va_S A s.heap H locs) : ∃ cell : Cell, H[E k]? = some cell ∧ cell.vm.isStatics = false ∧ s.vm.findClass "java/lang/String" = some cell.cls := vk_recv h.2.2.2.2.2.1 hk hS
def wp_Str_length (k : Nat) (Q : Int32 → Prop) : Prop := k < 11 ∧ Q (nI (lenJS.getD k 0))
def wp_Str_charAt (k : Nat) (i : Int32) (Q : Int32 → Prop) : Prop := k < 11 ∧ vp_in i (lenJS.getD k 0) ∧ Q ((bytJS.getD k []).getD i.toNatClampNeg 0)
theorem str_shr : ∀ k, k < 11 → (nI (lenJS.getD k 0)) >>> ((0 : Int32) &&& 31) = nI (lenJS.getD k 0) := by decide +kernel
theorem str_len : ∀ k, k < 11 → lenJS.getD k 0 ≤ 8 := by decide +kernel
theorem str_chr : ∀ k, k < 11 → ∀ j, j < 8 → ((((bytJS.getD k []).getD j 0) &&& 255).toUInt32 % 65536).toInt32 = (bytJS.getD k []).getD j 0 := by decide +kernel
theorem str_nar : ∀ k, k < 11 → ∀ j, j < 8 → narrow .char (.int ((bytJS.getD k []).getD j 0)) = .int ((bytJS.getD k []).getD j 0) := by decide +kernel
set_option maxHeartbeats 4000000 in
set_option maxRecDepth 100000 in
theorem c_Str_coder (l : Launch) (D : va_G) (y E : Nat → Nat) (sz : Nat) (k : Nat) (hk : k < 11) {Q : Int32 → Prop} (hw : Q 0) : Met l yJ0_coder_7d493 wsJ0_coder_7d493 ({ frames := 0, cells := 0, slots := 0, locals := 0 }) (va_Pc [.ref (E k)] (nPre D y E sz [])) (va_Qi (fun (r : Int32) (u : Unit) => Q r) (mAt D y (va_A [] sz) (fun (u : Unit) => [])) (va_A [] sz)) 0 0 (va_A [] sz) := by
  refine Met.ofW (cc := cJ0_coder_7d493) (maxL := 1) (ret := some .byte) (by decide) rfl ?_
  intro p e s m args below meth c s₁ B hml hv
  obtain ⟨rfl, ⟨hsz, hP, hK, hD0, hE⟩, hH⟩ := hv
  have hx := B.exec
  have hb := B.bytes
  have hr := B.returns
  have hts := atoms_spec (ws := wsJ0_coder_7d493) B.pre
  have hown : s.vm.findClass RJ0 = some m.cls := findClass_of_methodNamed B.named
  have hlocks := B.notSynchronized
  subst hsz
  have hD := hD0.self (sz := s.heap.size)
  generalize hAe : va_A [] s.heap.size = A at hD hH ⊢
  have hA : ∀ q : Nat, s.heap.size ≤ q → A q := fun q h => by rw [← hAe]; exact Or.inr h
  have hS : va_S A s.heap s.heap [] := va_S.rf
  have hP : va_P D vwCl [] s.heap := hP
  have hF : ∀ q, va_A [] s.heap.size q → A q := va_free (wc := []) hD hS hA [] rfl
  have hl := lv_entry ([.ref (E k)]) (n := 1) (Nat.le_of_ble_eq_true rfl)
  rw [lg_entry_eq]
  generalize (lg_sl ([.ref (E k)]) ++ List.replicate (1 - (lg_sl ([.ref (E k)])).length) Slot.unset).toArray = ls at hl ⊢
  have hl : lv_has ls 1 [(0, .ref (E k))] := hl
  refine va_gets hx hb hH.compact hS hown (hts (.fieldLink RJ0 38 "java/lang/String" "COMPACT_STRINGS" "Z") (by decide +kernel)) (fun _ h => h) dJ0_coder_7d493_0 ?_
  refine lv_if_eq (tgt := 13) hx hb dJ0_coder_7d493_3 (by decide) (fun hc => absurd hc (by decide)) (fun _ => ?_)
  refine lv_aload_n hx hb dJ0_coder_7d493_6 rfl (lv_at hl 0 rfl) ?_
  refine vk_getf hx hb (hH.str hk).2.1 hS hown (hts (.fieldLink RJ0 15 "java/lang/String" "coder" "B") (by decide +kernel)) (fun _ h => h) dJ0_coder_7d493_7 ?_
  refine lv_goto (tgt := 14) hx hb dJ0_coder_7d493_10 (by decide) ?_
  exact W.zret (ty := .byte) (v := 0) hx hb hr (by decide) (fun t ht hW => ⟨⟨0, (), rfl, hw, mAt.to hP hK hD ht hW⟩, hS.F ht⟩) hS.2.2 dJ0_coder_7d493_14
set_option maxHeartbeats 4000000 in
set_option maxRecDepth 100000 in
theorem c_Str_isLatin1 (l : Launch) (D : va_G) (y E : Nat → Nat) (sz : Nat) (k : Nat) (hk : k < 11) {Q : Int32 → Prop} (hw : Q 1) : Met l yJ0_isLatin1_aae02 wsJ0_isLatin1_aae02 ({ frames := 0, cells := 0, slots := 0, locals := 0 }) (va_Pc [.ref (E k)] (nPre D y E sz [])) (va_Qi (fun (r : Int32) (u : Unit) => Q r) (mAt D y (va_A [] sz) (fun (u : Unit) => [])) (va_A [] sz)) 0 0 (va_A [] sz) := by
  refine Met.ofW (cc := cJ0_isLatin1_aae02) (maxL := 1) (ret := some .boolean) (by decide) rfl ?_
  intro p e s m args below meth c s₁ B hml hv
  obtain ⟨rfl, ⟨hsz, hP, hK, hD0, hE⟩, hH⟩ := hv
  have hx := B.exec
  have hb := B.bytes
  have hr := B.returns
  have hts := atoms_spec (ws := wsJ0_isLatin1_aae02) B.pre
  have hown : s.vm.findClass RJ0 = some m.cls := findClass_of_methodNamed B.named
  have hlocks := B.notSynchronized
  subst hsz
  have hD := hD0.self (sz := s.heap.size)
  generalize hAe : va_A [] s.heap.size = A at hD hH ⊢
  have hA : ∀ q : Nat, s.heap.size ≤ q → A q := fun q h => by rw [← hAe]; exact Or.inr h
  have hS : va_S A s.heap s.heap [] := va_S.rf
  have hP : va_P D vwCl [] s.heap := hP
  have hF : ∀ q, va_A [] s.heap.size q → A q := va_free (wc := []) hD hS hA [] rfl
  have hl := lv_entry ([.ref (E k)]) (n := 1) (Nat.le_of_ble_eq_true rfl)
  rw [lg_entry_eq]
  generalize (lg_sl ([.ref (E k)]) ++ List.replicate (1 - (lg_sl ([.ref (E k)])).length) Slot.unset).toArray = ls at hl ⊢
  have hl : lv_has ls 1 [(0, .ref (E k))] := hl
  refine va_gets hx hb hH.compact hS hown (hts (.fieldLink RJ0 38 "java/lang/String" "COMPACT_STRINGS" "Z") (by decide +kernel)) (fun _ h => h) dJ0_isLatin1_aae02_0 ?_
  refine lv_if_eq (tgt := 17) hx hb dJ0_isLatin1_aae02_3 (by decide) (fun hc => absurd hc (by decide)) (fun _ => ?_)
  refine lv_aload_n hx hb dJ0_isLatin1_aae02_6 rfl (lv_at hl 0 rfl) ?_
  refine vk_getf hx hb (hH.str hk).2.1 hS hown (hts (.fieldLink RJ0 15 "java/lang/String" "coder" "B") (by decide +kernel)) (fun _ h => h) dJ0_isLatin1_aae02_7 ?_
  refine lv_if_ne (tgt := 17) hx hb dJ0_isLatin1_aae02_10 (by decide) (fun hc => absurd rfl hc) (fun _ => ?_)
  refine lv_iconst (v := 1) hx hb dJ0_isLatin1_aae02_13 (by decide) ?_
  refine lv_goto (tgt := 18) hx hb dJ0_isLatin1_aae02_14 (by decide) ?_
  exact W.zret (v := 1) hx hb hr (by decide) (fun t ht hW => ⟨⟨1, (), rfl, hw, mAt.to hP hK hD ht hW⟩, hS.F ht⟩) hS.2.2 dJ0_isLatin1_aae02_18
set_option maxHeartbeats 4000000 in
set_option maxRecDepth 100000 in
theorem c_Str_length (l : Launch) (D : va_G) (y E : Nat → Nat) (sz : Nat) (k : Nat) {Q : Int32 → Prop} (hw : wp_Str_length k Q) : Met l yJ0_length_8abf5 wsJ0_length_8abf5 ({ frames := 1, cells := 0, slots := 0, locals := 20 }) (va_Pc [.ref (E k)] (nPre D y E sz [])) (va_Qi (fun (r : Int32) (u : Unit) => Q r) (mAt D y (va_A [] sz) (fun (u : Unit) => [])) (va_A [] sz)) 0 0 (va_A [] sz) := by
  obtain ⟨hk, hw⟩ := hw
  refine Met.ofW (cc := cJ0_length_8abf5) (maxL := 1) (ret := some .int) (by decide) rfl ?_
  intro p e s m args below meth c s₁ B hml hv
  obtain ⟨rfl, ⟨hsz, hP, hK, hD0, hE⟩, hH⟩ := hv
  have hx := B.exec
  have hb := B.bytes
  have hr := B.returns
  have hts := atoms_spec (ws := wsJ0_length_8abf5) B.pre
  have hown : s.vm.findClass RJ0 = some m.cls := findClass_of_methodNamed B.named
  have hlocks := B.notSynchronized
  subst hsz
  have hD := hD0.self (sz := s.heap.size)
  generalize hAe : va_A [] s.heap.size = A at hD hH ⊢
  have hA : ∀ q : Nat, s.heap.size ≤ q → A q := fun q h => by rw [← hAe]; exact Or.inr h
  have hS : va_S A s.heap s.heap [] := va_S.rf
  have hP : va_P D vwCl [] s.heap := hP
  have hF : ∀ q, va_A [] s.heap.size q → A q := va_free (wc := []) hD hS hA [] rfl
  have hl := lv_entry ([.ref (E k)]) (n := 1) (Nat.le_of_ble_eq_true rfl)
  rw [lg_entry_eq]
  generalize (lg_sl ([.ref (E k)]) ++ List.replicate (1 - (lg_sl ([.ref (E k)])).length) Slot.unset).toArray = ls at hl ⊢
  have hl : lv_has ls 1 [(0, .ref (E k))] := hl
  refine lv_aload_n hx hb dJ0_length_8abf5_0 rfl (lv_at hl 0 rfl) ?_
  refine vk_getf hx hb (hH.str hk).2.2.1 hS hown (hts (.fieldLink RJ0 9 "java/lang/String" "value" "[B") (by decide +kernel)) (fun _ h => h) dJ0_length_8abf5_1 ?_
  refine va_tlen (v := nI (lenJS.getD k 0)) hx hb (hH.str hk).2.2.2 hS rfl dJ0_length_8abf5_4 ?_
  refine lv_aload_n hx hb dJ0_length_8abf5_5 rfl (lv_at hl 0 rfl) ?_
  refine mx_i (wc := []) (wr := []) hP hD hS hA [] [] [] rfl rfl (by decide) (by decide) (by decide) (fun (u : Unit) => []) (fun _ => rfl) (va_runV (As := []) (rest := [.int (nI (lenJS.getD k 0))]) ⟨hx, hb, hml, hown, hts⟩ (c_Str_coder l D y E s.heap.size k hk (Q := fun r => r = 0) rfl) (cwV 0 hts gJ0_length_8abf5_J0_coder_7d493 rfl rfl rfl (by decide +kernel) ⟨Nat.le_of_ble_eq_true rfl, Nat.le_of_ble_eq_true rfl⟩) ⟨nPre.blind, (HX.recv (p := p) (l := l) hH hk hS), nPre.to hP hK hD hE hH hS hF⟩ rfl rfl hl.1 rfl (lv_room (Nat.le_of_ble_eq_true rfl)) dJ0_length_8abf5_6 ⟨Nat.le_of_ble_eq_true rfl, Nat.le_of_ble_eq_true rfl⟩) (fun r u H locs hq hP hD hS => ?_)
  subst hq
  refine lv_ishr hx hb dJ0_length_8abf5_9 ?_
  rw [str_shr k hk]
  exact W.iret (v := nI (lenJS.getD k 0)) hx hb hr (fun t ht hW => ⟨⟨_, (), rfl, hw, mAt.to hP hK hD ht hW⟩, hS.F ht⟩) hS.2.2 dJ0_length_8abf5_10
set_option maxHeartbeats 4000000 in
set_option maxRecDepth 100000 in
theorem c_Pre_checkIndexN (l : Launch) (D : va_G) (y E : Nat → Nat) (sz : Nat) (i n : Int32) (h0 : ¬ i < 0) (h1 : i < n) {Q : Int32 → Prop} (hw : Q i) : Met l yJ3_checkIndex_8e157 wsJ3_checkIndex_8e157 ({ frames := 0, cells := 0, slots := 0, locals := 0 }) (va_Pc [.int i, .int n, .null] (nPre D y E sz [])) (va_Qi (fun (r : Int32) (u : Unit) => Q r) (mAt D y (va_A [] sz) (fun (u : Unit) => [])) (va_A [] sz)) 0 0 (va_A [] sz) := by
  refine Met.ofW (cc := cJ3_checkIndex_8e157) (maxL := 3) (ret := some .int) (by decide) rfl ?_
  intro p e s m args below meth c s₁ B hml hv
  obtain ⟨rfl, ⟨hsz, hP, hK, hD0, hE⟩, hH⟩ := hv
  have hx := B.exec
  have hb := B.bytes
  have hr := B.returns
  have hts := atoms_spec (ws := wsJ3_checkIndex_8e157) B.pre
  have hown : s.vm.findClass RJ3 = some m.cls := findClass_of_methodNamed B.named
  have hlocks := B.notSynchronized
  subst hsz
  have hD := hD0.self (sz := s.heap.size)
  generalize hAe : va_A [] s.heap.size = A at hD hH ⊢
  have hA : ∀ q : Nat, s.heap.size ≤ q → A q := fun q h => by rw [← hAe]; exact Or.inr h
  have hS : va_S A s.heap s.heap [] := va_S.rf
  have hP : va_P D vwCl [] s.heap := hP
  have hF : ∀ q, va_A [] s.heap.size q → A q := va_free (wc := []) hD hS hA [] rfl
  have hl := lv_entry ([.int i, .int n, .null]) (n := 3) (Nat.le_of_ble_eq_true rfl)
  rw [lg_entry_eq]
  generalize (lg_sl ([.int i, .int n, .null]) ++ List.replicate (3 - (lg_sl ([.int i, .int n, .null])).length) Slot.unset).toArray = ls at hl ⊢
  have hl : lv_has ls 3 [(0, .int i), (1, .int n), (2, .null)] := hl
  refine lv_iload_n hx hb dJ3_checkIndex_8e157_0 rfl (lv_at hl 0 rfl) ?_
  refine lv_if_lt (tgt := 9) hx hb dJ3_checkIndex_8e157_1 (by decide) (fun hc => absurd hc h0) (fun _ => ?_)
  refine lv_iload_n hx hb dJ3_checkIndex_8e157_4 rfl (lv_at hl 0 rfl) ?_
  refine lv_iload_n hx hb dJ3_checkIndex_8e157_5 rfl (lv_at hl 1 rfl) ?_
  refine lv_icmp_lt (tgt := 16) hx hb dJ3_checkIndex_8e157_6 (by decide) (fun _ => ?_) (fun hc => absurd h1 hc)
  refine lv_iload_n hx hb dJ3_checkIndex_8e157_16 rfl (lv_at hl 0 rfl) ?_
  exact W.iret (v := i) hx hb hr (fun t ht hW => ⟨⟨_, (), rfl, hw, mAt.to hP hK hD ht hW⟩, hS.F ht⟩) hS.2.2 dJ3_checkIndex_8e157_17
set_option maxHeartbeats 4000000 in
set_option maxRecDepth 100000 in
theorem c_Pre_checkIndexR (l : Launch) (D : va_G) (y E : Nat → Nat) (sz : Nat) (f : Nat) (i n : Int32) (h0 : ¬ i < 0) (h1 : i < n) {Q : Int32 → Prop} (hw : Q i) : Met l yJ3_checkIndex_8e157 wsJ3_checkIndex_8e157 ({ frames := 0, cells := 0, slots := 0, locals := 0 }) (va_Pc [.int i, .int n, .ref f] (nPre D y E sz [])) (va_Qi (fun (r : Int32) (u : Unit) => Q r) (mAt D y (va_A [] sz) (fun (u : Unit) => [])) (va_A [] sz)) 0 0 (va_A [] sz) := by
  refine Met.ofW (cc := cJ3_checkIndex_8e157) (maxL := 3) (ret := some .int) (by decide) rfl ?_
  intro p e s m args below meth c s₁ B hml hv
  obtain ⟨rfl, ⟨hsz, hP, hK, hD0, hE⟩, hH⟩ := hv
  have hx := B.exec
  have hb := B.bytes
  have hr := B.returns
  have hts := atoms_spec (ws := wsJ3_checkIndex_8e157) B.pre
  have hown : s.vm.findClass RJ3 = some m.cls := findClass_of_methodNamed B.named
  have hlocks := B.notSynchronized
  subst hsz
  have hD := hD0.self (sz := s.heap.size)
  generalize hAe : va_A [] s.heap.size = A at hD hH ⊢
  have hA : ∀ q : Nat, s.heap.size ≤ q → A q := fun q h => by rw [← hAe]; exact Or.inr h
  have hS : va_S A s.heap s.heap [] := va_S.rf
  have hP : va_P D vwCl [] s.heap := hP
  have hF : ∀ q, va_A [] s.heap.size q → A q := va_free (wc := []) hD hS hA [] rfl
  have hl := lv_entry ([.int i, .int n, .ref f]) (n := 3) (Nat.le_of_ble_eq_true rfl)
  rw [lg_entry_eq]
  generalize (lg_sl ([.int i, .int n, .ref f]) ++ List.replicate (3 - (lg_sl ([.int i, .int n, .ref f])).length) Slot.unset).toArray = ls at hl ⊢
  have hl : lv_has ls 3 [(0, .int i), (1, .int n), (2, .ref f)] := hl
  refine lv_iload_n hx hb dJ3_checkIndex_8e157_0 rfl (lv_at hl 0 rfl) ?_
  refine lv_if_lt (tgt := 9) hx hb dJ3_checkIndex_8e157_1 (by decide) (fun hc => absurd hc h0) (fun _ => ?_)
  refine lv_iload_n hx hb dJ3_checkIndex_8e157_4 rfl (lv_at hl 0 rfl) ?_
  refine lv_iload_n hx hb dJ3_checkIndex_8e157_5 rfl (lv_at hl 1 rfl) ?_
  refine lv_icmp_lt (tgt := 16) hx hb dJ3_checkIndex_8e157_6 (by decide) (fun _ => ?_) (fun hc => absurd h1 hc)
  refine lv_iload_n hx hb dJ3_checkIndex_8e157_16 rfl (lv_at hl 0 rfl) ?_
  exact W.iret (v := i) hx hb hr (fun t ht hW => ⟨⟨_, (), rfl, hw, mAt.to hP hK hD ht hW⟩, hS.F ht⟩) hS.2.2 dJ3_checkIndex_8e157_17
set_option maxHeartbeats 4000000 in
set_option maxRecDepth 100000 in
theorem c_Str_checkIndex (l : Launch) (D : va_G) (y E : Nat → Nat) (sz : Nat) (i n : Int32) (h0 : ¬ i < 0) (h1 : i < n) {Q : Prop} (hw : Q) : Met l yJ0_checkIndex_df160 wsJ0_checkIndex_df160 ({ frames := 1, cells := 0, slots := 0, locals := 22 }) (va_Pc [.int i, .int n] (nPre D y E sz [])) (va_Qv (fun (u : Unit) => Q) (mAt D y (va_A [] sz) (fun (u : Unit) => [])) (va_A [] sz)) 0 0 (va_A [] sz) := by
  refine Met.ofW (cc := cJ0_checkIndex_df160) (maxL := 2) (ret := none) (by decide) rfl ?_
  intro p e s m args below meth c s₁ B hml hv
  obtain ⟨rfl, ⟨hsz, hP, hK, hD0, hE⟩, hH⟩ := hv
  have hx := B.exec
  have hb := B.bytes
  have hr := B.returns
  have hts := atoms_spec (ws := wsJ0_checkIndex_df160) B.pre
  have hown : s.vm.findClass RJ0 = some m.cls := findClass_of_methodNamed B.named
  have hlocks := B.notSynchronized
  subst hsz
  have hD := hD0.self (sz := s.heap.size)
  generalize hAe : va_A [] s.heap.size = A at hD hH ⊢
  have hA : ∀ q : Nat, s.heap.size ≤ q → A q := fun q h => by rw [← hAe]; exact Or.inr h
  have hS : va_S A s.heap s.heap [] := va_S.rf
  have hP : va_P D vwCl [] s.heap := hP
  have hF : ∀ q, va_A [] s.heap.size q → A q := va_free (wc := []) hD hS hA [] rfl
  have hl := lv_entry ([.int i, .int n]) (n := 2) (Nat.le_of_ble_eq_true rfl)
  rw [lg_entry_eq]
  generalize (lg_sl ([.int i, .int n]) ++ List.replicate (2 - (lg_sl ([.int i, .int n])).length) Slot.unset).toArray = ls at hl ⊢
  have hl : lv_has ls 2 [(0, .int i), (1, .int n)] := hl
  refine lv_iload_n hx hb dJ0_checkIndex_df160_0 rfl (lv_at hl 0 rfl) ?_
  refine lv_iload_n hx hb dJ0_checkIndex_df160_1 rfl (lv_at hl 1 rfl) ?_
  rcases hH.sio with hz | ⟨f, hz⟩
  · refine va_gets hx hb hz hS hown (hts (.fieldLink RJ0 1053 "jdk/internal/util/Preconditions" "SIOOBE_FORMATTER" "Ljava/util/function/BiFunction;") (by decide +kernel)) (fun _ h => h) dJ0_checkIndex_df160_2 ?_
    refine mx_i (wc := []) (wr := []) hP hD hS hA [] [] [] rfl rfl (by decide) (by decide) (by decide) (fun (u : Unit) => []) (fun _ => rfl) (va_runS (As := [.int i, .int n, .null]) (rest := []) ⟨hx, hb, hml, hown, hts⟩ (c_Pre_checkIndexN l D y E s.heap.size i n h0 h1 (Q := fun _ => True) trivial) (va_cwS 3 hts gJ0_checkIndex_df160_J3_checkIndex_8e157 rfl rfl rfl (by decide +kernel) ⟨Nat.le_of_ble_eq_true rfl, Nat.le_of_ble_eq_true rfl⟩) ⟨nPre.blind, nPre.to hP hK hD hE hH hS hF⟩ rfl rfl hl.1 rfl (lv_room (Nat.le_of_ble_eq_true rfl)) dJ0_checkIndex_df160_5 ⟨Nat.le_of_ble_eq_true rfl, Nat.le_of_ble_eq_true rfl⟩) (fun r u H locs hq hP hD hS => ?_)
    refine lv_pop hx hb dJ0_checkIndex_df160_8 rfl ?_
    exact W.vret hx hb hr (fun t ht hW => ⟨⟨(), rfl, hw, mAt.to hP hK hD ht hW⟩, hS.F ht⟩) hS.2.2 dJ0_checkIndex_df160_9
  · refine va_gets hx hb hz hS hown (hts (.fieldLink RJ0 1053 "jdk/internal/util/Preconditions" "SIOOBE_FORMATTER" "Ljava/util/function/BiFunction;") (by decide +kernel)) (fun _ h => h) dJ0_checkIndex_df160_2 ?_
    refine mx_i (wc := []) (wr := []) hP hD hS hA [] [] [] rfl rfl (by decide) (by decide) (by decide) (fun (u : Unit) => []) (fun _ => rfl) (va_runS (As := [.int i, .int n, .ref f]) (rest := []) ⟨hx, hb, hml, hown, hts⟩ (c_Pre_checkIndexR l D y E s.heap.size f i n h0 h1 (Q := fun _ => True) trivial) (va_cwS 3 hts gJ0_checkIndex_df160_J3_checkIndex_8e157 rfl rfl rfl (by decide +kernel) ⟨Nat.le_of_ble_eq_true rfl, Nat.le_of_ble_eq_true rfl⟩) ⟨nPre.blind, nPre.to hP hK hD hE hH hS hF⟩ rfl rfl hl.1 rfl (lv_room (Nat.le_of_ble_eq_true rfl)) dJ0_checkIndex_df160_5 ⟨Nat.le_of_ble_eq_true rfl, Nat.le_of_ble_eq_true rfl⟩) (fun r u H locs hq hP hD hS => ?_)
    refine lv_pop hx hb dJ0_checkIndex_df160_8 rfl ?_
    exact W.vret hx hb hr (fun t ht hW => ⟨⟨(), rfl, hw, mAt.to hP hK hD ht hW⟩, hS.F ht⟩) hS.2.2 dJ0_checkIndex_df160_9
set_option maxHeartbeats 4000000 in
set_option maxRecDepth 100000 in
theorem c_Latin_charAt (l : Launch) (D : va_G) (y E : Nat → Nat) (sz : Nat) (k : Nat) (hk : k < 11) (i : Int32) (hi : vp_in i (lenJS.getD k 0)) {Q : Int32 → Prop} (hw : Q ((bytJS.getD k []).getD i.toNatClampNeg 0)) : Met l yJ1_charAt_3b067 wsJ1_charAt_3b067 ({ frames := 2, cells := 0, slots := 0, locals := 43 }) (va_Pc [.ref (E (100 + k)), .int i] (nPre D y E sz [])) (va_Qi (fun (r : Int32) (u : Unit) => Q r) (mAt D y (va_A [] sz) (fun (u : Unit) => [])) (va_A [] sz)) 0 0 (va_A [] sz) := by
  refine Met.ofW (cc := cJ1_charAt_3b067) (maxL := 2) (ret := some .char) (by decide) rfl ?_
  intro p e s m args below meth c s₁ B hml hv
  obtain ⟨rfl, ⟨hsz, hP, hK, hD0, hE⟩, hH⟩ := hv
  have hx := B.exec
  have hb := B.bytes
  have hr := B.returns
  have hts := atoms_spec (ws := wsJ1_charAt_3b067) B.pre
  have hown : s.vm.findClass RJ1 = some m.cls := findClass_of_methodNamed B.named
  have hlocks := B.notSynchronized
  subst hsz
  have hD := hD0.self (sz := s.heap.size)
  generalize hAe : va_A [] s.heap.size = A at hD hH ⊢
  have hA : ∀ q : Nat, s.heap.size ≤ q → A q := fun q h => by rw [← hAe]; exact Or.inr h
  have hS : va_S A s.heap s.heap [] := va_S.rf
  have hP : va_P D vwCl [] s.heap := hP
  have hF : ∀ q, va_A [] s.heap.size q → A q := va_free (wc := []) hD hS hA [] rfl
  have hl := lv_entry ([.ref (E (100 + k)), .int i]) (n := 2) (Nat.le_of_ble_eq_true rfl)
  rw [lg_entry_eq]
  generalize (lg_sl ([.ref (E (100 + k)), .int i]) ++ List.replicate (2 - (lg_sl ([.ref (E (100 + k)), .int i])).length) Slot.unset).toArray = ls at hl ⊢
  have hl : lv_has ls 2 [(0, .ref (E (100 + k))), (1, .int i)] := hl
  have h0 : ¬ i < 0 := fun q => hi (Or.inl q)
  have hl8 := str_len k hk
  have hj : i.toNatClampNeg < lenJS.getD k 0 := Nat.not_le.mp fun q => hi (Or.inr q)
  have h1 : i < nI (lenJS.getD k 0) := by
    rcases pk_ix i (n := lenJS.getD k 0) (by omega) with q | q | ⟨j, h2, rfl⟩
    · exact absurd q h0
    · have h3 : (nI (lenJS.getD k 0)).toNatClampNeg ≤ i.toNatClampNeg := Int32.toNatClampNeg_le q
      rw [nI_clamp (by omega)] at h3
      omega
    · exact nI_lt h2 (by omega)
  refine lv_iload_n hx hb dJ1_charAt_3b067_0 rfl (lv_at hl 1 rfl) ?_
  refine lv_aload_n hx hb dJ1_charAt_3b067_1 rfl (lv_at hl 0 rfl) ?_
  refine va_tlen (v := nI (lenJS.getD k 0)) hx hb (hH.str hk).2.2.2 hS rfl dJ1_charAt_3b067_2 ?_
  refine mx_v (wc := []) (wr := []) hP hD hS hA [] [] [] rfl rfl (by decide) (by decide) (by decide) (fun (u : Unit) => []) (fun _ => rfl) (va_runS (As := [.int i, .int (nI (lenJS.getD k 0))]) (rest := []) ⟨hx, hb, hml, hown, hts⟩ (c_Str_checkIndex l D y E s.heap.size i (nI (lenJS.getD k 0)) h0 h1 (Q := True) trivial) (va_cwS 2 hts gJ1_charAt_3b067_J0_checkIndex_df160 rfl rfl rfl (by decide +kernel) ⟨Nat.le_of_ble_eq_true rfl, Nat.le_of_ble_eq_true rfl⟩) ⟨nPre.blind, nPre.to hP hK hD hE hH hS hF⟩ rfl rfl hl.1 rfl (lv_room (Nat.le_of_ble_eq_true rfl)) dJ1_charAt_3b067_3 ⟨Nat.le_of_ble_eq_true rfl, Nat.le_of_ble_eq_true rfl⟩) (fun u H locs hq hP hD hS => ?_)
  refine lv_aload_n hx hb dJ1_charAt_3b067_6 rfl (lv_at hl 0 rfl) ?_
  refine lv_iload_n hx hb dJ1_charAt_3b067_7 rfl (lv_at hl 1 rfl) ?_
  refine va_tb (v := .int ((bytJS.getD k []).getD i.toNatClampNeg 0)) hx hb (hH.str hk).2.2.2 hS hi rfl dJ1_charAt_3b067_8 ?_
  refine lv_sipush (v := 255) hx hb dJ1_charAt_3b067_9 (by decide) ?_
  refine lv_iand hx hb dJ1_charAt_3b067_12 ?_
  refine lv_i2c (v := (bytJS.getD k []).getD i.toNatClampNeg 0) hx hb dJ1_charAt_3b067_13 (str_chr k hk _ (by omega)) ?_
  exact W.zret (ty := .char) (v := (bytJS.getD k []).getD i.toNatClampNeg 0) hx hb hr (str_nar k hk _ (by omega)) (fun t ht hW => ⟨⟨_, (), rfl, hw, mAt.to hP hK hD ht hW⟩, hS.F ht⟩) hS.2.2 dJ1_charAt_3b067_14
set_option maxHeartbeats 4000000 in
set_option maxRecDepth 100000 in
theorem c_Str_charAt (l : Launch) (D : va_G) (y E : Nat → Nat) (sz : Nat) (k : Nat) (i : Int32) {Q : Int32 → Prop} (hw : wp_Str_charAt k i Q) : Met l yJ0_charAt_5068e wsJ0_charAt_5068e ({ frames := 3, cells := 0, slots := 0, locals := 64 }) (va_Pc [.ref (E k), .int i] (nPre D y E sz [])) (va_Qi (fun (r : Int32) (u : Unit) => Q r) (mAt D y (va_A [] sz) (fun (u : Unit) => [])) (va_A [] sz)) 0 0 (va_A [] sz) := by
  obtain ⟨hk, hi, hw⟩ := hw
  refine Met.ofW (cc := cJ0_charAt_5068e) (maxL := 2) (ret := some .char) (by decide) rfl ?_
  intro p e s m args below meth c s₁ B hml hv
  obtain ⟨rfl, ⟨hsz, hP, hK, hD0, hE⟩, hH⟩ := hv
  have hx := B.exec
  have hb := B.bytes
  have hr := B.returns
  have hts := atoms_spec (ws := wsJ0_charAt_5068e) B.pre
  have hown : s.vm.findClass RJ0 = some m.cls := findClass_of_methodNamed B.named
  have hlocks := B.notSynchronized
  subst hsz
  have hD := hD0.self (sz := s.heap.size)
  generalize hAe : va_A [] s.heap.size = A at hD hH ⊢
  have hA : ∀ q : Nat, s.heap.size ≤ q → A q := fun q h => by rw [← hAe]; exact Or.inr h
  have hS : va_S A s.heap s.heap [] := va_S.rf
  have hP : va_P D vwCl [] s.heap := hP
  have hF : ∀ q, va_A [] s.heap.size q → A q := va_free (wc := []) hD hS hA [] rfl
  have hl := lv_entry ([.ref (E k), .int i]) (n := 2) (Nat.le_of_ble_eq_true rfl)
  rw [lg_entry_eq]
  generalize (lg_sl ([.ref (E k), .int i]) ++ List.replicate (2 - (lg_sl ([.ref (E k), .int i])).length) Slot.unset).toArray = ls at hl ⊢
  have hl : lv_has ls 2 [(0, .ref (E k)), (1, .int i)] := hl
  have hl8 := str_len k hk
  have hj : i.toNatClampNeg < lenJS.getD k 0 := Nat.not_le.mp fun q => hi (Or.inr q)
  refine lv_aload_n hx hb dJ0_charAt_5068e_0 rfl (lv_at hl 0 rfl) ?_
  refine mx_i (wc := []) (wr := []) hP hD hS hA [] [] [] rfl rfl (by decide) (by decide) (by decide) (fun (u : Unit) => []) (fun _ => rfl) (va_runV (As := []) (rest := []) ⟨hx, hb, hml, hown, hts⟩ (c_Str_isLatin1 l D y E s.heap.size k hk (Q := fun r => r = 1) rfl) (cwV 0 hts gJ0_charAt_5068e_J0_isLatin1_aae02 rfl rfl rfl (by decide +kernel) ⟨Nat.le_of_ble_eq_true rfl, Nat.le_of_ble_eq_true rfl⟩) ⟨nPre.blind, (HX.recv (p := p) (l := l) hH hk hS), nPre.to hP hK hD hE hH hS hF⟩ rfl rfl hl.1 rfl (lv_room (Nat.le_of_ble_eq_true rfl)) dJ0_charAt_5068e_1 ⟨Nat.le_of_ble_eq_true rfl, Nat.le_of_ble_eq_true rfl⟩) (fun r u H locs hq hP hD hS => ?_)
  subst hq
  have hF : ∀ q, va_A [] H.size q → A q := va_free (wc := []) hD hS hA [] rfl
  refine lv_if_eq (tgt := 16) hx hb dJ0_charAt_5068e_4 (by decide) (fun hc => absurd hc (by decide)) (fun _ => ?_)
  refine lv_aload_n hx hb dJ0_charAt_5068e_7 rfl (lv_at hl 0 rfl) ?_
  refine vk_getf hx hb (hH.str hk).2.2.1 hS hown (hts (.fieldLink RJ0 9 "java/lang/String" "value" "[B") (by decide +kernel)) (fun _ h => h) dJ0_charAt_5068e_8 ?_
  refine lv_iload_n hx hb dJ0_charAt_5068e_11 rfl (lv_at hl 1 rfl) ?_
  refine mx_i (wc := []) (wr := []) hP hD hS hA [] [] [] rfl rfl (by decide) (by decide) (by decide) (fun (u : Unit) => []) (fun _ => rfl) (va_runS (As := [.ref (E (100 + k)), .int i]) (rest := []) ⟨hx, hb, hml, hown, hts⟩ (c_Latin_charAt l D y E H.size k hk i hi (Q := fun r => r = (bytJS.getD k []).getD i.toNatClampNeg 0) rfl) (va_cwS 2 hts gJ0_charAt_5068e_J1_charAt_3b067 rfl rfl rfl (by decide +kernel) ⟨Nat.le_of_ble_eq_true rfl, Nat.le_of_ble_eq_true rfl⟩) ⟨nPre.blind, nPre.to hP hK hD hE hH hS hF⟩ rfl rfl hl.1 rfl (lv_room (Nat.le_of_ble_eq_true rfl)) dJ0_charAt_5068e_12 ⟨Nat.le_of_ble_eq_true rfl, Nat.le_of_ble_eq_true rfl⟩) (fun r u H locs hq hP hD hS => ?_)
  subst hq
  exact W.zret (ty := .char) (v := (bytJS.getD k []).getD i.toNatClampNeg 0) hx hb hr (str_nar k hk _ (by omega)) (fun t ht hW => ⟨⟨_, (), rfl, hw, mAt.to hP hK hD ht hW⟩, hS.F ht⟩) hS.2.2 dJ0_charAt_5068e_15
