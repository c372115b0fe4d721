/-! Rows for constructors: an array's class is the one of its type; a call that makes cells; Arrays.fill. -/
theorem my_same {D : va_G} {s : State} {cA cB : ClassId} {t1 t2 : List (ClassId × FieldType)} {i j : Nat} {ty : FieldType} (hp : ∀ C, ty ≠ .object C) (h1 : va_K D vwCl t1 s) (h2 : va_K D vwCl t2 s) (hi : t1[i]? = some (cA, ty)) (hj : t2[j]? = some (cB, ty)) : cA = cB := by
  have a := (h1.2 i _ hi).2
  have b := (h2.2 j _ hj).2
  cases ty with
  | object C => exact absurd rfl (hp C)
  | _ => exact Option.some.inj ((show s.vm.findClass _ = some cA from a).symm.trans (show s.vm.findClass _ = some cB from b))
section
variable {p : Program} {l : Launch} {e : Env} {R : Room} {s : State} {m : MethodId} {args : Array Value} {below : List Frame} {meth : Method} {c : Code} {H : Heap} {locs : List Loc} {cells slots : Nat} {Q : State → Prop}
variable {cc : ByteArray} {pc : Nat} {ls : Array Slot} {rest st0 : List Value} {a : Array Value} {A : Nat → Prop} {H0 : Heap} {mc ms : Nat} {D : va_G} {y : Nat → ClassId} {ws wc wr : va_W}
theorem my_newa (t : Nat) (hexec : p.tables.exec = Jvm.exec) (hb : c.code = cc) {atype : ArrayType} (harr : (Cond.arrayClass (newarray.typeOf atype)).before args s = true) {ty : FieldType} (hty : newarray.typeOf atype = ty) (ht : (TY y)[t]? = some (y t, ty)) (hK : va_K D vwCl (TY y) s) (hP : va_P D vwCl ws H) (hD : va_D A ws) (hS : va_S A H0 H locs) (hA : ∀ q, H0.size ≤ q → A q)
    {n : Int32} {N' : Nat} {a0 : vp_A} (ha : ∀ cA : ClassId, vp_cell cA a0 = arrV cA N' (fun _ => defaultValue ty)) (hn : ¬ n < 0) (hN : n.toNatClampNeg = N') (hbytes : N' * componentBytes ty ≤ 536870912) (hcells : cells + 1 ≤ R.cells) (hslots : slots + N' ≤ R.slots) (hdg : decode cc pc = .ok (.newarray atype, 2))
    (kk : ∀ (q : Nat) (H1 : Heap), va_P D vwCl (ws ++ [(q, .inl (y t, a0))]) H1 → va_D A (ws ++ [(q, .inl (y t, a0))]) → va_S A H0 H1 locs →
      W p l e R s m args below meth c H1 locs (cells + 1) (slots + N') Q (F0 m (pc + 2) ls (.ref q :: rest))) : W p l e R s m args below meth c H locs cells slots Q (F0 m pc ls (.int n :: rest)) := by
  refine va_newa hexec hb harr hty hK hP hD hS hA ha hn hN hbytes hcells hslots hdg (fun q cA H1 hK1 hP1 hD1 hS1 => ?_)
  have hl : (TY y ++ [(cA, ty)])[4]? = some (cA, ty) := rfl
  have e1 : cA = y t := my_same (by cases atype <;> (rw [← hty]; intro C h; cases h)) hK1 hK hl ht
  subst e1
  exact kk q H1 hP1 hD1 hS1
theorem mk_v {S : Type} {post : S → Prop} {w1 : S → va_W} (hP : va_P D vwCl ws H) (hD : va_D A ws) (hS : va_S A H0 H locs) (hA : ∀ q, H0.size ≤ q → A q) (isC isR perm : List Nat) (hC : isC.map (fun i => ws[i]?) = wc.map some) (hR : isR.map (fun i => ws[i]?) = wr.map some) (hn : va_nd isR = true) (hdis : ∀ i ∈ isR, i ∉ isC) (hpn : va_nd perm = true) (wn : S → va_W) (hperm : ∀ u, perm.map (fun i => (wr ++ w1 u)[i]?) = (wn u).map some)
    (hr : va_Run p l e R s m args below meth c H locs cells slots mc ms (F0 m pc ls st0) rest (va_Qv post (mAt D y (va_A wc H.size) w1) (va_A wc H.size) a) (va_A wc H.size))
    (kk : ∀ (u : S) (H1 : Heap) (locs1 : List Loc), post u → va_P D vwCl (wn u) H1 → va_D A (wn u) → va_S A H0 H1 locs1 → W p l e R s m args below meth c H1 locs1 (cells + mc) (slots + ms) Q (F0 m (pc + 3) ls rest)) : W p l e R s m args below meth c H locs cells slots Q (F0 m pc ls st0) := by
  have hF := va_free (wc := wc) hD hS hA isC hC
  refine va_callv hr hS (fun q _ h => hF q h) hF (fun u t H1 locs1 ht hvm hw hB hz1 hk1 hS1 => ?_)
  obtain ⟨hP2, hD2⟩ := mx_back hP hD hS hA isC isR perm hC hR hn hdis hpn wn hperm ht hk1 hB
  exact kk u H1 locs1 hw hP2 hD2 hS1
end
theorem s_fill_h {N : Nat} {v : Int32} {Q : (Nat → Int32) → Prop} (hN : N < 2 ^ 31) (f0 : Nat → Int32) (hQ : Q (fun k => if k < N then v else f0 k)) : ∀ (d i : Nat), i + d = N → wp_Arrays_fill_53178_h5 N v (nI N) Q (d + 1) (nI i) (fun k => if k < i then v else f0 k)
  | 0, i, h => by
    rw [wp_Arrays_fill_53178_h5]
    obtain rfl : i = N := by omega
    exact ⟨fun _ => hQ, fun c => absurd (nI_le (Nat.le_refl i) hN) c⟩
  | d + 1, i, h => by
    rw [wp_Arrays_fill_53178_h5]
    refine ⟨fun c => absurd c (nI_ge (by omega) hN), fun _ => ⟨vp_in_nI (by omega) hN, ?_⟩⟩
    rw [nI_1, nI_clamp (by omega), show upd (fun k => if k < i then v else f0 k) i v = (fun k => if k < i + 1 then v else f0 k) from ?_]
    · exact s_fill_h hN f0 hQ d (i + 1) (by omega)
    · funext k
      unfold upd
      by_cases h1 : k = i
      · subst h1; simp
      · by_cases h2 : k < i
        · simp [h1, h2, Nat.lt_succ_of_lt h2]
        · simp [h1, h2, show ¬ k < i + 1 by omega]
theorem s_fill {N : Nat} {v : Int32} {f0 : Nat → Int32} {Q : (Nat → Int32) → Prop} (hN : N < 2 ^ 31) (hQ : Q (fun k => if k < N then v else f0 k)) : wp_Arrays_fill_53178 N f0 v Q := by
  refine ⟨N + 1, ?_⟩
  have h := s_fill_h hN f0 hQ N 0 (by omega)
  rw [nI_0] at h
  simpa using h
