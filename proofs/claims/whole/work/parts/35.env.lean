/-! The start's old cells that methods read: constants, the clauses, what a throw needs. E gives the addresses: 0..10 the words, 11..28 the messages, 100.. the words' bytes, 200..207 the clauses, 300 their array. -/
def lenJS : List Nat := [4, 6, 3, 3, 4, 6, 5, 4, 7, 4, 6]
def bytJS : List (List Int32) := [[103, 97, 110, 103], [99, 114, 97, 110, 101, 115], [98, 97, 114], [112, 97, 121], [114, 97, 105, 110], [98, 114, 111, 107, 101, 110], [102, 105, 114, 115, 116], [114, 97, 116, 101], [119, 97, 105, 116, 105, 110, 103], [116, 111, 110, 115], [110, 117, 109, 98, 101, 114]]
/-- the words of a throw of java/lang/IllegalArgumentException -/
abbrev xa_IA : List Cond := nx_at RX8 78 "java/lang/IllegalArgumentException" "java/lang/RuntimeException" 7 Bundle.six ["java/lang/Exception"]
theorem xa_IA_ot : ∀ w ∈ xa_IA, vx_ot w = true := by decide +kernel
/-- the words of a throw of java/lang/UnsupportedOperationException -/
abbrev xa_UO : List Cond := nx_at RX8 88 "java/lang/UnsupportedOperationException" "java/lang/RuntimeException" 7 Bundle.six ["java/lang/Exception"]
theorem xa_UO_ot : ∀ w ∈ xa_UO, vx_ot w = true := by decide +kernel
/-- the words of a throw of java/lang/IndexOutOfBoundsException -/
abbrev xa_IO : List Cond := nx_at RX8 108 "java/lang/IndexOutOfBoundsException" "java/lang/RuntimeException" 7 Bundle.six ["java/lang/Exception"]
theorem xa_IO_ot : ∀ w ∈ xa_IO, vx_ot w = true := by decide +kernel
/-- the words of a throw of java/util/NoSuchElementException -/
abbrev xa_NS : List Cond := nx_at RX8 142 "java/util/NoSuchElementException" "java/lang/RuntimeException" 13 prog_30_method_4_code ["java/lang/Exception"]
theorem xa_NS_ot : ∀ w ∈ xa_NS, vx_ot w = true := by decide +kernel
theorem xa_IA_eq : xa_IA = vx_atS RX8 78 "java/lang/IllegalArgumentException" ["java/lang/RuntimeException", "java/lang/Exception"] := congrArg (List.filter vx_no) (by simp only [nx_own, Bundle.ownAtoms, Bundle.chainSAtoms])
theorem xa_UO_eq : xa_UO = vx_atS RX8 88 "java/lang/UnsupportedOperationException" ["java/lang/RuntimeException", "java/lang/Exception"] := congrArg (List.filter vx_no) (by simp only [nx_own, Bundle.ownAtoms, Bundle.chainSAtoms])
theorem xa_IO_eq : xa_IO = vx_atS RX8 108 "java/lang/IndexOutOfBoundsException" ["java/lang/RuntimeException", "java/lang/Exception"] := congrArg (List.filter vx_no) (by simp only [nx_own, Bundle.ownAtoms, Bundle.chainSAtoms])
theorem xa_NS_eq : xa_NS = nx_atNS := rfl
def xv_W : List Cond := (xa_IA ++ (xa_UO ++ (xa_IO ++ xa_NS))).filter (fun w => !goodWord w)
def xv_is : Cond → Bool
  | .declares .. => true
  | .castable .. => true
  | _ => false
theorem xv_all : ∀ w ∈ xv_W, xv_is w = true := by decide +kernel
theorem xv_cast {a b : String} {s U : State} (hv : s.vm.Alike U.vm) (h : va_Nw (.castable a b) s) : va_Nw (.castable a b) U := by
  obtain ⟨c3, c4, hc3, hc4, hasg⟩ := Cond.castable_spec (show (Cond.castable a b).holds #[] s none s [] = true from h)
  show (Cond.castable a b).holds #[] U none U [] = true
  simp [Cond.holds, Cond.value, hv.findClass, hc3, hc4, hv.assignable, hasg]
theorem xv_warm1 {w : Cond} (h : xv_is w = true) {s U : State} (hW : s.WarmedH U.vm) (hZ : va_Nw w s) : va_Nw w U := by
  cases w <;> first | exact va_Nw.warmD hW hZ | exact xv_cast hW.alike hZ | cases h
theorem xv_same1 {w : Cond} (h : xv_is w = true) {s U : State} (hv : s.vm = U.vm) (hZ : va_Nw w s) : va_Nw w U := by
  cases w <;> first | exact va_Nw.same rfl hv hZ | cases h
theorem xv_use1 {w : Cond} (h : xv_is w = true) {A : Array Value} {U : State} (hZ : va_Nw w U) : w.before A U = true := by
  cases w <;> first | exact va_Nw.use rfl hZ | cases h
def xs_L : List (String × Nat × String × Nat) := [("DockCallModel", 165, "gang", 0), ("DockCallModel", 166, "cranes", 1), ("DockCallModel", 168, "bar", 2), ("DockCallModel", 170, "pay", 3), ("DockCallModel", 172, "rain", 4), ("DockCallModel", 174, "broken", 5), ("DockCallModel", 176, "first", 6), ("DockCallModel", 178, "rate", 7), ("DockCallModel", 180, "waiting", 8), ("DockCallModel", 182, "tons", 9), ("DockCallModel", 183, "number", 10), ("DockCall$Reader", 96, "waiting", 8), ("DockCall$Reader", 98, "tons", 9), ("DockCall$Reader", 100, "number", 10), ("DockCall", 76, "skills are 1 to 15", 11), ("DockCall", 86, "there are 24 men", 12), ("DockCall", 94, "there are 10 ships", 13), ("DockCall", 106, "no such ship", 14), ("DockCall", 109, "tons are 0 to 2000, a skill is 0 to 3", 15), ("DockCall", 114, "it has 4 hatches", 16), ("DockCall", 124, "the text is wrong", 17), ("DockCall", 140, "the agreement says 0 to 10", 18), ("DockCall", 143, "rain is 0 to 15", 19), ("DockCall", 150, "no such man", 20), ("DockCall", 171, "of a man there is 0 to 5", 21), ("DockCall", 173, "no such ship or hatch", 22), ("DockCall", 190, "of a ship there is 0 to 3", 23), ("DockCall", 193, "no such entry", 24), ("DockCall", 207, "of an entry there is 0 to 3", 25), ("DockCall", 210, "money is 0 to 100000", 26), ("DockCall", 220, "gangs are 0 to 8, at most 1 to 4 a call", 27), ("DockCall", 228, "gangs a call are 1 to 8", 28)]
theorem xs_M165 : ("DockCallModel", 165, "gang", 0) ∈ xs_L := List.mem_of_getElem? (i := 0) rfl
theorem xs_M166 : ("DockCallModel", 166, "cranes", 1) ∈ xs_L := List.mem_of_getElem? (i := 1) rfl
theorem xs_M168 : ("DockCallModel", 168, "bar", 2) ∈ xs_L := List.mem_of_getElem? (i := 2) rfl
theorem xs_M170 : ("DockCallModel", 170, "pay", 3) ∈ xs_L := List.mem_of_getElem? (i := 3) rfl
theorem xs_M172 : ("DockCallModel", 172, "rain", 4) ∈ xs_L := List.mem_of_getElem? (i := 4) rfl
theorem xs_M174 : ("DockCallModel", 174, "broken", 5) ∈ xs_L := List.mem_of_getElem? (i := 5) rfl
theorem xs_M176 : ("DockCallModel", 176, "first", 6) ∈ xs_L := List.mem_of_getElem? (i := 6) rfl
theorem xs_M178 : ("DockCallModel", 178, "rate", 7) ∈ xs_L := List.mem_of_getElem? (i := 7) rfl
theorem xs_M180 : ("DockCallModel", 180, "waiting", 8) ∈ xs_L := List.mem_of_getElem? (i := 8) rfl
theorem xs_M182 : ("DockCallModel", 182, "tons", 9) ∈ xs_L := List.mem_of_getElem? (i := 9) rfl
theorem xs_M183 : ("DockCallModel", 183, "number", 10) ∈ xs_L := List.mem_of_getElem? (i := 10) rfl
theorem xs_R96 : ("DockCall$Reader", 96, "waiting", 8) ∈ xs_L := List.mem_of_getElem? (i := 11) rfl
theorem xs_R98 : ("DockCall$Reader", 98, "tons", 9) ∈ xs_L := List.mem_of_getElem? (i := 12) rfl
theorem xs_R100 : ("DockCall$Reader", 100, "number", 10) ∈ xs_L := List.mem_of_getElem? (i := 13) rfl
theorem xs_D76 : ("DockCall", 76, "skills are 1 to 15", 11) ∈ xs_L := List.mem_of_getElem? (i := 14) rfl
theorem xs_D86 : ("DockCall", 86, "there are 24 men", 12) ∈ xs_L := List.mem_of_getElem? (i := 15) rfl
theorem xs_D94 : ("DockCall", 94, "there are 10 ships", 13) ∈ xs_L := List.mem_of_getElem? (i := 16) rfl
theorem xs_D106 : ("DockCall", 106, "no such ship", 14) ∈ xs_L := List.mem_of_getElem? (i := 17) rfl
theorem xs_D109 : ("DockCall", 109, "tons are 0 to 2000, a skill is 0 to 3", 15) ∈ xs_L := List.mem_of_getElem? (i := 18) rfl
theorem xs_D114 : ("DockCall", 114, "it has 4 hatches", 16) ∈ xs_L := List.mem_of_getElem? (i := 19) rfl
theorem xs_D124 : ("DockCall", 124, "the text is wrong", 17) ∈ xs_L := List.mem_of_getElem? (i := 20) rfl
theorem xs_D140 : ("DockCall", 140, "the agreement says 0 to 10", 18) ∈ xs_L := List.mem_of_getElem? (i := 21) rfl
theorem xs_D143 : ("DockCall", 143, "rain is 0 to 15", 19) ∈ xs_L := List.mem_of_getElem? (i := 22) rfl
theorem xs_D150 : ("DockCall", 150, "no such man", 20) ∈ xs_L := List.mem_of_getElem? (i := 23) rfl
theorem xs_D171 : ("DockCall", 171, "of a man there is 0 to 5", 21) ∈ xs_L := List.mem_of_getElem? (i := 24) rfl
theorem xs_D173 : ("DockCall", 173, "no such ship or hatch", 22) ∈ xs_L := List.mem_of_getElem? (i := 25) rfl
theorem xs_D190 : ("DockCall", 190, "of a ship there is 0 to 3", 23) ∈ xs_L := List.mem_of_getElem? (i := 26) rfl
theorem xs_D193 : ("DockCall", 193, "no such entry", 24) ∈ xs_L := List.mem_of_getElem? (i := 27) rfl
theorem xs_D207 : ("DockCall", 207, "of an entry there is 0 to 3", 25) ∈ xs_L := List.mem_of_getElem? (i := 28) rfl
theorem xs_D210 : ("DockCall", 210, "money is 0 to 100000", 26) ∈ xs_L := List.mem_of_getElem? (i := 29) rfl
theorem xs_D220 : ("DockCall", 220, "gangs are 0 to 8, at most 1 to 4 a call", 27) ∈ xs_L := List.mem_of_getElem? (i := 30) rfl
theorem xs_D228 : ("DockCall", 228, "gangs a call are 1 to 8", 28) ∈ xs_L := List.mem_of_getElem? (i := 31) rfl
/-- a clause's word (its place), its place in the row, its least and most number -/
def cl_w : List Nat := [0, 7, 1, 2, 3, 4, 5, 6]
def cl_p : List Int32 := [0, 7, 1, 2, 3, 4, 5, 6]
def cl_l : List Int32 := [1, 1, 1, 0, 0, 0, 0, 0]
def cl_m : List Int32 := [8, 500, 12, 20, 1000, 100, 4, 2]
/-- what is said of old cells only: nothing of it is in A -/
def HC (E : Nat → Nat) (A : Nat → Prop) (U : State) (H : Heap) : Prop :=
  (∀ i : Nat, i < 8 → va_O "DockCall$Clause" (E (200 + i)) A U H ∧ va_OF "DockCall$Clause" "word" "Ljava/lang/String;" (.ref (E (cl_w.getD i 0))) (E (200 + i)) A U H ∧ va_OF "DockCall$Clause" "place" "I" (.int (cl_p.getD i 0)) (E (200 + i)) A U H ∧ va_OF "DockCall$Clause" "least" "I" (.int (cl_l.getD i 0)) (E (200 + i)) A U H ∧ va_OF "DockCall$Clause" "most" "I" (.int (cl_m.getD i 0)) (E (200 + i)) A U H) ∧
  va_Z "DockCall$Reader" "CLAUSES" "[LDockCall$Clause;" (.ref (E 300)) A U H ∧ va_T (.object "DockCall$Clause") (E 300) 8 (fun j => .ref (E (200 + j))) A U H ∧
  va_Z "DockCall$Clause" "RATE_OF_SKILL" "LDockCall$Clause;" (.ref (E 201)) A U H ∧ va_Z "DockCall$Clause" "FIRST_SHIPS" "LDockCall$Clause;" (.ref (E 207)) A U H ∧
  va_Z "java/lang/String" "COMPACT_STRINGS" "Z" (.int 1) A U H ∧ va_Zq "jdk/internal/util/Preconditions" "SIOOBE_FORMATTER" "Ljava/util/function/BiFunction;" A U H
def HX (E : Nat → Nat) (A : Nat → Prop) (U : State) (H : Heap) : Prop :=
  (∀ w ∈ xv_W, va_Nw w U) ∧ (∀ q ∈ xs_L, vk_R q.1 q.2.1 q.2.2.1 (E q.2.2.2) U) ∧ (∀ i j : Nat, i < 8 → j < 8 → E (200 + i) = E (200 + j) → i = j) ∧
  vx_Zq Bundle.tN "UNASSIGNED_STACK" Bundle.steD A U H ∧ vx_Zq Bundle.tN "SUPPRESSED_SENTINEL" Bundle.listD A U H ∧
  vk_S 11 lenJS bytJS E (fun k => E (100 + k)) A U H ∧ HC E A U H
theorem HC.moved {E : Nat → Nat} {A : Nat → Prop} {u U : State} {H : Heap} (hv : u.vm.Alike U.vm) (h : HC E A u H) : HC E A U H :=
  ⟨fun i hi => ⟨va_O.moved hv (h.1 i hi).1, va_OF.moved hv (h.1 i hi).2.1, va_OF.moved hv (h.1 i hi).2.2.1, va_OF.moved hv (h.1 i hi).2.2.2.1, va_OF.moved hv (h.1 i hi).2.2.2.2⟩, va_Z.moved hv h.2.1, va_T.moved hv h.2.2.1, va_Z.moved hv h.2.2.2.1, va_Z.moved hv h.2.2.2.2.1, va_Z.moved hv h.2.2.2.2.2.1, va_Zq.moved hv h.2.2.2.2.2.2⟩
theorem HC.kept {E : Nat → Nat} {A : Nat → Prop} {U : State} {H H1 : Heap} (h : HC E A U H) (hq : ∀ a : Nat, a < H.size → ¬ A a → H1[a]? = H[a]?) : HC E A U H1 :=
  ⟨fun i hi => ⟨(h.1 i hi).1.kept hq, (h.1 i hi).2.1.kept hq, (h.1 i hi).2.2.1.kept hq, (h.1 i hi).2.2.2.1.kept hq, (h.1 i hi).2.2.2.2.kept hq⟩, h.2.1.kept hq, h.2.2.1.kept hq, h.2.2.2.1.kept hq, h.2.2.2.2.1.kept hq, h.2.2.2.2.2.1.kept hq, h.2.2.2.2.2.2.kept hq⟩
theorem HC.narrow {E : Nat → Nat} {A B : Nat → Prop} {U : State} {H : Heap} (h : HC E A U H) (hAB : ∀ q, B q → A q) : HC E B U H :=
  ⟨fun i hi => ⟨(h.1 i hi).1.narrow hAB, (h.1 i hi).2.1.narrow hAB, (h.1 i hi).2.2.1.narrow hAB, (h.1 i hi).2.2.2.1.narrow hAB, (h.1 i hi).2.2.2.2.narrow hAB⟩, h.2.1.narrow hAB, h.2.2.1.narrow hAB, h.2.2.2.1.narrow hAB, h.2.2.2.2.1.narrow hAB, h.2.2.2.2.2.1.narrow hAB, h.2.2.2.2.2.2.narrow hAB⟩
/-- from a caller's start s (heap s.heap) to a callee's start U, whose heap is H now -/
theorem HX.to {E : Nat → Nat} {A B : Nat → Prop} {s U : State} {H : Heap} {locs : List Loc} (h : HX E A s s.heap) (hS : va_S A s.heap H locs) (hAB : ∀ q, B q → A q) (hU : U.heap = H) (hW : s.WarmedH U.vm) : HX E B U U.heap := by
  rw [hU]
  obtain ⟨h1, h2, h3, h4, h5, h6, h7⟩ := h
  exact ⟨fun w hw => xv_warm1 (xv_all w hw) hW (h1 w hw), fun q hq => vk_R.warm hW (h2 q hq), h3, vx_Zq.moved hW.alike ((h4.kept hS.2.1).narrow hAB), vx_Zq.moved hW.alike ((h5.kept hS.2.1).narrow hAB), vk_S.moved hW.alike ((h6.kept hS.2.1).narrow hAB), HC.moved hW.alike ((h7.kept hS.2.1).narrow hAB)⟩
theorem HX.same {E : Nat → Nat} {A : Nat → Prop} {u U : State} {H : Heap} (hv : u.vm = U.vm) (h : HX E A u H) : HX E A U H := by
  obtain ⟨h1, h2, h3, h4, h5, h6, h7⟩ := h
  have ha : u.vm.Alike U.vm := by rw [hv]; exact Vm.Alike.refl _
  exact ⟨fun w hw => xv_same1 (xv_all w hw) hv (h1 w hw), fun q hq => vk_R.same hv.symm (h2 q hq), h3, vx_Zq.moved ha h4, vx_Zq.moved ha h5, vk_S.moved ha h6, HC.moved ha h7⟩
def nPre (D : va_G) (y : Nat → ClassId) (E : Nat → Nat) (sz : Nat) (ws : va_W) (U : State) : Prop := mPre D y sz ws U ∧ HX E (va_A ws sz) U U.heap
theorem nPre.blind {D : va_G} {y E : Nat → Nat} {sz : Nat} {ws : va_W} {av : List Value} : FrameBlind (va_Pc av (nPre D y E sz ws)) := by
  intro a U g mk q
  obtain ⟨q0, q1, q2⟩ := q
  exact ⟨q0, (mPre.blind (av := av) a U g mk ⟨q0, q1⟩).2, HX.same (u := U) rfl q2⟩
theorem nPre.to {D : va_G} {y E : Nat → Nat} {ws : va_W} {av : List Value} {A : Nat → Prop} {s : State} {H : Heap} {locs : List Loc} (hP : va_P D vwCl ws H) (hK : va_K D vwCl (TY y) s) (hD : va_D A ws) (hE : EV s) (hH : HX E A s s.heap) (hS : va_S A s.heap H locs) (hF : ∀ q, va_A ws H.size q → A q) : ∀ U : State, U.heap = H → s.WarmedH U.vm → va_Pc av (nPre D y E H.size ws) av.toArray U :=
  fun U hU hW => ⟨rfl, (mPre.to (av := av) hP hK hD hE U hU hW).2, HX.to hH hS hF hU hW⟩
/-- the words of a throw: the good ones are the method's own, the others E's -/
theorem HX.words {E : Nat → Nat} {A : Nat → Prop} {s : State} {H : Heap} {args : Array Value} (h : HX E A s H) {L : List Cond} (hL : ∀ w ∈ L.filter (fun w => !goodWord w), w ∈ xv_W) (h1 : ∀ w ∈ L.filter goodWord, w.before args s = true) : ∀ w ∈ L, w.before args s = true :=
  vx_hat h1 hL (fun w hw => xv_use1 (xv_all w hw) (h.1 w hw))
/-- behind a throw: the world as it was -/
theorem xAt.to {D : va_G} {y : Nat → ClassId} {A : Nat → Prop} {S : Type} {w : S → va_W} {X : String → S → Prop} {u : S} {En : String} {s : State} {H : Heap} {locs : List Loc} (hP : va_P D vwCl (w u) H) (hK : va_K D vwCl (TY y) s) (hD : va_D A (w u)) (hS : va_S A s.heap H locs) (hX : X En u) :
    ∀ t : State, s.vm.Alike t.vm → H.size ≤ t.heap.size → (∀ q : Nat, q < H.size → t.heap[q]? = H[q]?) → vx_X (fun _ => True) (fun E9 (u9 : S) t9 => X E9 u9 ∧ mAt D y A w u9 t9) A En s t :=
  fun t hv hz hk => ⟨u, trivial, ⟨hX, hP.kept (fun k q hq => hk q.1 (hP k q hq).lt), va_K.moved hv hK, hD⟩, Nat.le_trans hS.1 hz, fun q h1 h2 => (hk q (Nat.lt_of_lt_of_le h1 hS.1)).trans (hS.2.1 q h1 h2)⟩
section
variable {p : Program} {l : Launch} {e : Env} {R : Room} {s : State} {m : MethodId} {args : Array Value} {below : List Frame} {meth : Method} {c : Code} {H : Heap} {locs : List Loc} {cells slots : Nat} {Q : State → Prop}
variable {cc : ByteArray} {pc : Nat} {ls : Array Slot} {rest : List Value} {A : Nat → Prop}
/-- a field of an old object, private in a nest mate -/
theorem my_getfN (hexec : p.tables.exec = Jvm.exec) (hb : c.code = cc) {o n d own ref host : String} {index q : Nat} {v : Value} (hE : va_OF o n d v q A s s.heap) (hS : va_S A s.heap H locs) (hown : s.vm.findClass own = some m.cls) (hlink : (Cond.fieldLinkNest own index ref n d host).before args s = true) (hsame : ∀ x, s.fieldFound? o n d = some x → s.fieldFound? ref n d = some x) (hdg : decode cc pc = .ok (.getfield index, 3))
    (kk : W p l e R s m args below meth c H locs cells slots Q (F0 m (pc + 3) ls (v :: rest))) : W p l e R s m args below meth c H locs cells slots Q (F0 m pc ls (.ref q :: rest)) := by
  obtain ⟨cf, k, fi, f, cell, h1, h2, h3, h4, h5, h6⟩ := hE.kept hS.2.1
  exact va_Wgetf hexec hb hown hlink (hsame _ h1) h2 h3 h4 (v := v) h5 rfl rfl hdg kk
end
theorem xk_M165 {E : Nat → Nat} {A : Nat → Prop} {s : State} {H : Heap} (h : HX E A s H) : vk_R RX9 165 "gang" (E 0) s := h.2.1 ("DockCallModel", 165, "gang", 0) xs_M165
theorem xk_M166 {E : Nat → Nat} {A : Nat → Prop} {s : State} {H : Heap} (h : HX E A s H) : vk_R RX9 166 "cranes" (E 1) s := h.2.1 ("DockCallModel", 166, "cranes", 1) xs_M166
theorem xk_M168 {E : Nat → Nat} {A : Nat → Prop} {s : State} {H : Heap} (h : HX E A s H) : vk_R RX9 168 "bar" (E 2) s := h.2.1 ("DockCallModel", 168, "bar", 2) xs_M168
theorem xk_M170 {E : Nat → Nat} {A : Nat → Prop} {s : State} {H : Heap} (h : HX E A s H) : vk_R RX9 170 "pay" (E 3) s := h.2.1 ("DockCallModel", 170, "pay", 3) xs_M170
theorem xk_M172 {E : Nat → Nat} {A : Nat → Prop} {s : State} {H : Heap} (h : HX E A s H) : vk_R RX9 172 "rain" (E 4) s := h.2.1 ("DockCallModel", 172, "rain", 4) xs_M172
theorem xk_M174 {E : Nat → Nat} {A : Nat → Prop} {s : State} {H : Heap} (h : HX E A s H) : vk_R RX9 174 "broken" (E 5) s := h.2.1 ("DockCallModel", 174, "broken", 5) xs_M174
theorem xk_M176 {E : Nat → Nat} {A : Nat → Prop} {s : State} {H : Heap} (h : HX E A s H) : vk_R RX9 176 "first" (E 6) s := h.2.1 ("DockCallModel", 176, "first", 6) xs_M176
theorem xk_M178 {E : Nat → Nat} {A : Nat → Prop} {s : State} {H : Heap} (h : HX E A s H) : vk_R RX9 178 "rate" (E 7) s := h.2.1 ("DockCallModel", 178, "rate", 7) xs_M178
theorem xk_M180 {E : Nat → Nat} {A : Nat → Prop} {s : State} {H : Heap} (h : HX E A s H) : vk_R RX9 180 "waiting" (E 8) s := h.2.1 ("DockCallModel", 180, "waiting", 8) xs_M180
theorem xk_M182 {E : Nat → Nat} {A : Nat → Prop} {s : State} {H : Heap} (h : HX E A s H) : vk_R RX9 182 "tons" (E 9) s := h.2.1 ("DockCallModel", 182, "tons", 9) xs_M182
theorem xk_M183 {E : Nat → Nat} {A : Nat → Prop} {s : State} {H : Heap} (h : HX E A s H) : vk_R RX9 183 "number" (E 10) s := h.2.1 ("DockCallModel", 183, "number", 10) xs_M183
theorem xk_R96 {E : Nat → Nat} {A : Nat → Prop} {s : State} {H : Heap} (h : HX E A s H) : vk_R RX4 96 "waiting" (E 8) s := h.2.1 ("DockCall$Reader", 96, "waiting", 8) xs_R96
theorem xk_R98 {E : Nat → Nat} {A : Nat → Prop} {s : State} {H : Heap} (h : HX E A s H) : vk_R RX4 98 "tons" (E 9) s := h.2.1 ("DockCall$Reader", 98, "tons", 9) xs_R98
theorem xk_R100 {E : Nat → Nat} {A : Nat → Prop} {s : State} {H : Heap} (h : HX E A s H) : vk_R RX4 100 "number" (E 10) s := h.2.1 ("DockCall$Reader", 100, "number", 10) xs_R100
theorem xk_D76 {E : Nat → Nat} {A : Nat → Prop} {s : State} {H : Heap} (h : HX E A s H) : vk_R RX8 76 "skills are 1 to 15" (E 11) s := h.2.1 ("DockCall", 76, "skills are 1 to 15", 11) xs_D76
theorem xk_D86 {E : Nat → Nat} {A : Nat → Prop} {s : State} {H : Heap} (h : HX E A s H) : vk_R RX8 86 "there are 24 men" (E 12) s := h.2.1 ("DockCall", 86, "there are 24 men", 12) xs_D86
theorem xk_D94 {E : Nat → Nat} {A : Nat → Prop} {s : State} {H : Heap} (h : HX E A s H) : vk_R RX8 94 "there are 10 ships" (E 13) s := h.2.1 ("DockCall", 94, "there are 10 ships", 13) xs_D94
theorem xk_D106 {E : Nat → Nat} {A : Nat → Prop} {s : State} {H : Heap} (h : HX E A s H) : vk_R RX8 106 "no such ship" (E 14) s := h.2.1 ("DockCall", 106, "no such ship", 14) xs_D106
theorem xk_D109 {E : Nat → Nat} {A : Nat → Prop} {s : State} {H : Heap} (h : HX E A s H) : vk_R RX8 109 "tons are 0 to 2000, a skill is 0 to 3" (E 15) s := h.2.1 ("DockCall", 109, "tons are 0 to 2000, a skill is 0 to 3", 15) xs_D109
theorem xk_D114 {E : Nat → Nat} {A : Nat → Prop} {s : State} {H : Heap} (h : HX E A s H) : vk_R RX8 114 "it has 4 hatches" (E 16) s := h.2.1 ("DockCall", 114, "it has 4 hatches", 16) xs_D114
theorem xk_D124 {E : Nat → Nat} {A : Nat → Prop} {s : State} {H : Heap} (h : HX E A s H) : vk_R RX8 124 "the text is wrong" (E 17) s := h.2.1 ("DockCall", 124, "the text is wrong", 17) xs_D124
theorem xk_D140 {E : Nat → Nat} {A : Nat → Prop} {s : State} {H : Heap} (h : HX E A s H) : vk_R RX8 140 "the agreement says 0 to 10" (E 18) s := h.2.1 ("DockCall", 140, "the agreement says 0 to 10", 18) xs_D140
theorem xk_D143 {E : Nat → Nat} {A : Nat → Prop} {s : State} {H : Heap} (h : HX E A s H) : vk_R RX8 143 "rain is 0 to 15" (E 19) s := h.2.1 ("DockCall", 143, "rain is 0 to 15", 19) xs_D143
theorem xk_D150 {E : Nat → Nat} {A : Nat → Prop} {s : State} {H : Heap} (h : HX E A s H) : vk_R RX8 150 "no such man" (E 20) s := h.2.1 ("DockCall", 150, "no such man", 20) xs_D150
theorem xk_D171 {E : Nat → Nat} {A : Nat → Prop} {s : State} {H : Heap} (h : HX E A s H) : vk_R RX8 171 "of a man there is 0 to 5" (E 21) s := h.2.1 ("DockCall", 171, "of a man there is 0 to 5", 21) xs_D171
theorem xk_D173 {E : Nat → Nat} {A : Nat → Prop} {s : State} {H : Heap} (h : HX E A s H) : vk_R RX8 173 "no such ship or hatch" (E 22) s := h.2.1 ("DockCall", 173, "no such ship or hatch", 22) xs_D173
theorem xk_D190 {E : Nat → Nat} {A : Nat → Prop} {s : State} {H : Heap} (h : HX E A s H) : vk_R RX8 190 "of a ship there is 0 to 3" (E 23) s := h.2.1 ("DockCall", 190, "of a ship there is 0 to 3", 23) xs_D190
theorem xk_D193 {E : Nat → Nat} {A : Nat → Prop} {s : State} {H : Heap} (h : HX E A s H) : vk_R RX8 193 "no such entry" (E 24) s := h.2.1 ("DockCall", 193, "no such entry", 24) xs_D193
theorem xk_D207 {E : Nat → Nat} {A : Nat → Prop} {s : State} {H : Heap} (h : HX E A s H) : vk_R RX8 207 "of an entry there is 0 to 3" (E 25) s := h.2.1 ("DockCall", 207, "of an entry there is 0 to 3", 25) xs_D207
theorem xk_D210 {E : Nat → Nat} {A : Nat → Prop} {s : State} {H : Heap} (h : HX E A s H) : vk_R RX8 210 "money is 0 to 100000" (E 26) s := h.2.1 ("DockCall", 210, "money is 0 to 100000", 26) xs_D210
theorem xk_D220 {E : Nat → Nat} {A : Nat → Prop} {s : State} {H : Heap} (h : HX E A s H) : vk_R RX8 220 "gangs are 0 to 8, at most 1 to 4 a call" (E 27) s := h.2.1 ("DockCall", 220, "gangs are 0 to 8, at most 1 to 4 a call", 27) xs_D220
theorem xk_D228 {E : Nat → Nat} {A : Nat → Prop} {s : State} {H : Heap} (h : HX E A s H) : vk_R RX8 228 "gangs a call are 1 to 8" (E 28) s := h.2.1 ("DockCall", 228, "gangs a call are 1 to 8", 28) xs_D228
theorem xa_IA_xv : ∀ w ∈ (xa_IA).filter (fun w => !goodWord w), w ∈ xv_W := by decide +kernel
theorem xa_UO_xv : ∀ w ∈ (xa_UO).filter (fun w => !goodWord w), w ∈ xv_W := by decide +kernel
theorem xa_IO_xv : ∀ w ∈ (xa_IO).filter (fun w => !goodWord w), w ∈ xv_W := by decide +kernel
theorem xa_NS_xv : ∀ w ∈ (xa_NS).filter (fun w => !goodWord w), w ∈ xv_W := by decide +kernel
