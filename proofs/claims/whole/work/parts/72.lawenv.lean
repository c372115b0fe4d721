/-! What the law's own methods need beside: which exception is caught by which row; calls that may throw, the world behind them; comparisons. -/
def x4 : List String := [xIA, xUO, xIO, xNS]
/-- each of the four is itself and none of the others -/
def HL (U : State) : Prop := (∀ E ∈ x4, va_Nw (.castable E E) U) ∧ (∀ E ∈ x4, ∀ F ∈ x4, E ≠ F → va_Nc E F U)
theorem HL.moved {s U : State} (hv : s.vm.Alike U.vm) (h : HL s) : HL U := ⟨fun E hE => xv_cast hv (h.1 E hE), fun E hE F hF n => va_Nc.moved hv (h.2 E hE F hF n)⟩
def oPre (D : va_G) (y : Nat → ClassId) (E : Nat → Nat) (sz : Nat) (ws : va_W) (U : State) : Prop := nPre D y E sz ws U ∧ HL U
theorem oPre.blind {D : va_G} {y E : Nat → Nat} {sz : Nat} {ws : va_W} {av : List Value} : FrameBlind (va_Pc av (oPre D y E sz ws)) := by
  intro a U g mk q
  obtain ⟨q0, q1, q2⟩ := q
  exact ⟨q0, (nPre.blind (av := av) a U g mk ⟨q0, q1⟩).2, HL.moved (s := U) (U := U.calling g mk a) (Vm.Alike.refl U.vm) q2⟩
theorem oPre.to {D : va_G} {y E : Nat → Nat} {ws : va_W} {av : List Value} {A : Nat → Prop} {s : State} {H : Heap} {locs : List Loc} (hP : va_P D vwCl ws H) (hK : va_K D vwCl (TY y) s) (hD : va_D A ws) (hE : EV s) (hH : HX E A s s.heap) (hL : HL s) (hS : va_S A s.heap H locs) (hF : ∀ q, va_A ws H.size q → A q) : ∀ U : State, U.heap = H → s.WarmedH U.vm → va_Pc av (oPre D y E H.size ws) av.toArray U :=
  fun U hU hW => ⟨rfl, (nPre.to (av := av) hP hK hD hE hH hS hF U hU hW).2, HL.moved hW.alike hL⟩
def inL (l : List String) (E : String) : Bool := l.any (fun a => decide (E = a))
theorem inL_1 {a E : String} (h : inL [a] E = true) : E = a := by simpa [inL] using h
theorem inL_2 {a b E : String} (h : inL [a, b] E = true) : E = a ∨ E = b := by simpa [inL] using h
theorem inL_3 {a b c E : String} (h : inL [a, b, c] E = true) : E = a ∨ E = b ∨ E = c := by simpa [inL] using h
theorem lgc_eq (x : Int64) : lg_cmp x x = 0 := by simp [lg_cmp]
theorem HL.cast {U : State} (h : HL U) {E : String} (hE : E ∈ x4) {A : Array Value} : (Cond.castable E E).before A U = true := xv_use1 rfl (h.1 E hE)
theorem HL.ne {U : State} (h : HL U) {E F : String} (hE : E ∈ x4) (hF : F ∈ x4) (n : E ≠ F) : va_Nc E F U := h.2 E hE F hF n
theorem x4_IA : xIA ∈ x4 := by decide
theorem x4_UO : xUO ∈ x4 := by decide
theorem x4_IO : xIO ∈ x4 := by decide
theorem x4_NS : xNS ∈ x4 := by decide
section
variable {p : Program} {l : Launch} {e : Env} {R : Room} {s : State} {m : MethodId} {args : Array Value} {below : List Frame} {meth : Method} {c : Code} {H : Heap} {locs : List Loc} {cells slots : Nat} {Q : State → Prop}
variable {pc : Nat} {ls : Array Slot} {rest st0 : List Value} {a : Array Value} {A : Nat → Prop} {H0 : Heap} {mc ms : Nat} {D : va_G} {y : Nat → ClassId} {ws wc wr : va_W}
/-- a call that makes cells and answers a number -/
theorem mk_i {S : Type} {post : Int32 → S → Prop} {w1 : S → va_W} (hP : va_P D vwCl ws H) (hD : va_D A ws) (hS : va_S A H0 H locs) (hA : ∀ q, H0.size ≤ q → A q) (isC isR perm : List Nat) (hC : isC.map (fun i => ws[i]?) = wc.map some) (hR : isR.map (fun i => ws[i]?) = wr.map some) (hn : va_nd isR = true) (hdis : ∀ i ∈ isR, i ∉ isC) (hpn : va_nd perm = true) (wn : S → va_W) (hperm : ∀ u, perm.map (fun i => (wr ++ w1 u)[i]?) = (wn u).map some)
    (hr : va_Run p l e R s m args below meth c H locs cells slots mc ms (F0 m pc ls st0) rest (va_Qi post (mAt D y (va_A wc H.size) w1) (va_A wc H.size) a) (va_A wc H.size))
    (kk : ∀ (r : Int32) (u : S) (H1 : Heap) (locs1 : List Loc), post r u → va_P D vwCl (wn u) H1 → va_D A (wn u) → va_S A H0 H1 locs1 → W p l e R s m args below meth c H1 locs1 (cells + mc) (slots + ms) Q (F0 m (pc + 3) ls (.int r :: rest))) : W p l e R s m args below meth c H locs cells slots Q (F0 m pc ls st0) := by
  have hF := va_free (wc := wc) hD hS hA isC hC
  refine va_calli hr hS (fun q _ h => hF q h) hF (fun r u t H1 locs1 ht hvm hw hB hz1 hk1 hS1 => ?_)
  obtain ⟨hP2, hD2⟩ := mx_back hP hD hS hA isC isR perm hC hR hn hdis hpn wn hperm ht hk1 hB
  exact kk r u H1 locs1 hw hP2 hD2 hS1
/-- a call that answers a number or throws: the world behind it, either way -/
theorem mxx_i {S : Type} {post : Int32 → S → Prop} {X : String → S → Prop} {w1 : S → va_W} (hP : va_P D vwCl ws H) (hD : va_D A ws) (hS : va_S A H0 H locs) (hA : ∀ q, H0.size ≤ q → A q) (isC isR perm : List Nat) (hC : isC.map (fun i => ws[i]?) = wc.map some) (hR : isR.map (fun i => ws[i]?) = wr.map some) (hn : va_nd isR = true) (hdis : ∀ i ∈ isR, i ∉ isC) (hpn : va_nd perm = true) (wn : S → va_W) (hperm : ∀ u, perm.map (fun i => (wr ++ w1 u)[i]?) = (wn u).map some)
    (hr : vx_Run p l e R s m args below meth c H locs cells slots mc ms (F0 m pc ls st0) rest (va_Qi post (mAt D y (va_A wc H.size) w1) (va_A wc H.size) a) (vx_X (fun _ => True) (fun E9 u9 t9 => X E9 u9 ∧ mAt D y (va_A wc H.size) w1 u9 t9) (va_A wc H.size)) (va_A wc H.size))
    (kx : ∀ (E : String) (ce : Cell) (q9 : Addr) (u : S) (H1 : Heap) (locs1 : List Loc), X E u → va_P D vwCl (wn u) H1 → va_D A (wn u) → va_S A H0 H1 locs1 → H1[q9]? = some ce → ce.vm = .none → s.vm.findClass E = some ce.cls → vx_W p l e R s m args below meth c H1 locs1 (cells + mc) (slots + ms) Q (F0 m pc ls rest) q9)
    (kk : ∀ (r : Int32) (u : S) (H1 : Heap) (locs1 : List Loc), post r u → va_P D vwCl (wn u) H1 → va_D A (wn u) → va_S A H0 H1 locs1 → W p l e R s m args below meth c H1 locs1 (cells + mc) (slots + ms) Q (F0 m (pc + 3) ls (.int r :: rest))) : W p l e R s m args below meth c H locs cells slots Q (F0 m pc ls st0) := by
  have hF := va_free (wc := wc) hD hS hA isC hC
  refine vx_calli hr hS (fun q _ h => hF q h) hF (fun q _ h => hF q h) (fun E ce q9 u t H1 locs1 ht hvm _ hB hz1 hk1 hS1 hce hcv hcl => ?_) (fun r u t H1 locs1 ht hvm hw hB hz1 hk1 hS1 => ?_)
  · obtain ⟨hP2, hD2⟩ := mx_back hP hD hS hA isC isR perm hC hR hn hdis hpn wn hperm ht hk1 hB.2
    exact kx E ce q9 u H1 locs1 hB.1 hP2 hD2 hS1 hce hcv hcl
  · obtain ⟨hP2, hD2⟩ := mx_back hP hD hS hA isC isR perm hC hR hn hdis hpn wn hperm ht hk1 hB
    exact kk r u H1 locs1 hw hP2 hD2 hS1
end
/-- a body with a table of its own that never lets an exception out -/
theorem mk_ofWH {l : Launch} {y : MethodName} {ws ws' : List Cond} {rm : Room} {Pc : Array Value → State → Prop} {Qc : Array Value → State → Outcome → State → Prop} {mc ms : Nat} {free : Addr → Prop} {cc : ByteArray} {maxL : Nat} {ret : Option FieldType} {hh : List (Nat × Nat × Nat × Nat)}
    (hy : plainName y.cls = true) (hw : ws = Cond.codeWith y cc maxL ret hh :: ws')
    (body : ∀ p e s m args below meth c s₁, BodyLoose p l y (headSpec ws rm) cc maxL ret e s m args below meth c s₁ → c.maxLocals = maxL → Pc args s →
      W p l e (headSpec ws rm).room s m args below meth c s.heap [] 0 0 (MQ below Qc args s mc ms free) (entryFrame m args maxL)) : Met l y ws rm Pc Qc mc ms free := by
  refine MetFree.of_bodyS (code := cc) (maxLocals := maxL) (ret := ret) hy ?_ ?_
  · intro args s m h hn
    obtain ⟨m9, meth, c, hn9, h1, h2, h3, h4, -, h5, h6, -⟩ := Cond.codeWith_spec (atoms_spec (ws := ws) h _ (by rw [hw]; exact List.mem_cons_self))
    cases hn.symm.trans hn9
    exact ⟨meth, c, h1, h2, h3, h4, h5, h6⟩
  · intro p e s m args below meth c s₁ B hml hP _
    have hh0 : s₁.heap = s.heap := by rw [B.state]; rfl
    obtain ⟨t, a1, o, b1, b2, b3⟩ := body p e s m args below meth c s₁ B hml hP s₁ hh0 (Stand.of_body B)
    exact ⟨t, o, a1, b1, b2, ⟨b3.1, b3.2⟩⟩
