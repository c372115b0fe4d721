/-! The plan in the class: the search, and what is kept of it. -/
abbrev mxI : Int32 := 2147483647
theorem mxI_big {v : Nat} (hv : v < 2 ^ 30) : ¬ nI v = mxI := by
  intro e
  have := (pu_neq (a := v) (b := 2147483647) (by omega) (by omega)).mp e
  omega
theorem mxI_nle {v : Nat} (hv : v < 2 ^ 30) : ¬ mxI ≤ nI v := by
  intro e
  have := (pu_nle (a := 2147483647) (b := v) (by omega) (by omega)).mp e
  omega
theorem en_inj {a b c d a' b' c' d' : Nat} (ha : a ≤ 8) (hb : b ≤ 8) (hc : c ≤ 8) (hd : d ≤ 8) (ha' : a' ≤ 8) (hb' : b' ≤ 8) (hc' : c' ≤ 8) (hd' : d' ≤ 8) (h : en a b c d = en a' b' c' d') : a = a' ∧ b = b' ∧ c = c' ∧ d = d' := by
  unfold en at h
  omega
/-- what is known when all states above q are done -/
def WI (V : Nat → Nat → Nat → Nat → Nat) (n0 n1 n2 n3 : Nat) (w : Nat → Int32) (q : Nat) : Prop :=
  (∀ p, p ≤ en n0 n1 n2 n3 → w p = mxI ∨ ∃ v a b c d, p = en a b c d ∧ a ≤ n0 ∧ b ≤ n1 ∧ c ≤ n2 ∧ d ≤ n3 ∧ w p = nI v ∧ v ≤ 4 * (en n0 n1 n2 n3 - p) ∧ V n0 n1 n2 n3 ≤ v + V a b c d) ∧
  (∃ v a b c d, en a b c d ≤ q ∧ a ≤ n0 ∧ b ≤ n1 ∧ c ≤ n2 ∧ d ≤ n3 ∧ w (en a b c d) = nI v ∧ v ≤ 4 * (en n0 n1 n2 n3 - en a b c d) ∧ v + V a b c d = V n0 n1 n2 n3)
section
variable {t0 t1 t2 t3 K n0 n1 n2 n3 : Nat} {V : Nat → Nat → Nat → Nat → Nat} {takes : Nat → Int32}
theorem en_mono {a b c d : Nat} (ha : a ≤ n0) (hb : b ≤ n1) (hc : c ≤ n2) (hd : d ≤ n3) : en a b c d ≤ en n0 n1 n2 n3 := by unfold en; omega
theorem pl_h61 (hV : BE t0 t1 t2 t3 K n0 n1 n2 n3 V) (hK : K ≤ 8) (h0 : n0 ≤ 8) (h1 : n1 ≤ 8) (h2 : n2 ≤ 8) (h3 : n3 ≤ 8) (e0 : takes 0 = nI t0) (e1 : takes 1 = nI t1) (e2 : takes 2 = nI t2) (e3 : takes 3 = nI t3) (ht0 : t0 ≤ 4) (ht1 : t1 ≤ 4) (ht2 : t2 ≤ 4) (ht3 : t3 ≤ 4) {Q : Int32 → (Nat → Int32) → (Nat → Int32) → Prop} (hQ : ∀ room' w', Q (nI (V n0 n1 n2 n3)) room' w') :
    ∀ q room w, q ≤ en n0 n1 n2 n3 → WI V n0 n1 n2 n3 w q → wp_Planner_search_h61 (nI K) takes Q (q + 1) (nI q) room w
  | 0, room, w, hq, hw => by
    obtain ⟨-, v, a, b, c, d, hen, g0, g1, g2, g3, hv, hvb, hs⟩ := hw
    have z0 : a = 0 := by unfold en at hen; omega
    have z1 : b = 0 := by unfold en at hen; omega
    have z2 : c = 0 := by unfold en at hen; omega
    have z3 : d = 0 := by unfold en at hen; omega
    subst z0; subst z1; subst z2; subst z3
    rw [hV.1] at hs
    have e : en 0 0 0 0 = 0 := rfl
    rw [e, show v = V n0 n1 n2 n3 by omega] at hv
    rw [wp_Planner_search_h61, pu_c0, hv]
    exact ⟨fun _ => hQ _ _, fun h => absurd (show nI 0 ≤ 0 by decide) h⟩
  | q + 1, room, w, hq, hw => by
    have hbig : en n0 n1 n2 n3 < 6561 := by unfold en; omega
    have i1 : vp_in (nI (q + 1)) 6561 := pu_inI (by omega) (by omega)
    rw [wp_Planner_search_h61, nI_clamp (by omega), pu_dec]
    refine ⟨fun h => absurd h (nI_nle (by omega) (by omega)), fun _ => ⟨i1, fun hm => ?_, fun hm => ?_⟩⟩
    · refine pl_h61 hV hK h0 h1 h2 h3 e0 e1 e2 e3 ht0 ht1 ht2 ht3 hQ q room w (by omega) ⟨hw.1, ?_⟩
      obtain ⟨-, v, a, b, c, d, hen, g0, g1, g2, g3, hv, hvb, hs⟩ := hw
      refine ⟨v, a, b, c, d, ?_, g0, g1, g2, g3, hv, hvb, hs⟩
      rcases Nat.eq_or_lt_of_le hen with z | z
      · rw [z] at hv
        exact absurd (hv.symm.trans hm) (mxI_big (by omega))
      · omega
    · obtain ⟨hw1, hw2⟩ := hw
      rcases hw1 (q + 1) hq with z | ⟨v, a, b, c, d, hp, g0, g1, g2, g3, hv, hvb, hlow⟩
      · exact absurd z hm
      · rw [hp]
        have hpos : 0 < a + b + c + d := by
          rcases Nat.eq_zero_or_pos (a + b + c + d) with z | z
          · unfold en at hp; omega
          · exact z
        have hc4 := cnt4_le a b c d
        obtain ⟨hall, -⟩ := hV.2 a b c d g0 g1 g2 g3 hpos
        obtain ⟨y0, y1, y2, y3, hy, hysum, hyv⟩ := hV.full g0 g1 g2 g3 hpos
        have hgpos : 0 < min K (min t0 a + min t1 b + min t2 c + min t3 d) := by unfold Snd at hy; omega
        refine pl_send (T := fun p => ∃ x0 x1 x2 x3, x0 ≤ min t0 a ∧ x1 ≤ min t1 b ∧ x2 ≤ min t2 c ∧ x3 ≤ min t3 d ∧ x0 + x1 + x2 + x3 = min K (min t0 a + min t1 b + min t2 c + min t3 d) ∧ p = en (a - x0) (b - x1) (c - x2) (d - x3)) e0 e1 e2 e3 ht0 ht1 ht2 ht3 hK (by omega) (by omega) (by omega) (by omega) (by rw [← hp]; exact hv) (by omega) (fun x0 x1 x2 x3 z0 z1 z2 z3 z4 => ⟨x0, x1, x2, x3, z0, z1, z2, z3, z4, rfl⟩) (fun room' w' hrl hle => ?_)
        have hfirst : ∀ p, p ≤ en n0 n1 n2 n3 → w' p = mxI ∨ ∃ v a b c d, p = en a b c d ∧ a ≤ n0 ∧ b ≤ n1 ∧ c ≤ n2 ∧ d ≤ n3 ∧ w' p = nI v ∧ v ≤ 4 * (en n0 n1 n2 n3 - p) ∧ V n0 n1 n2 n3 ≤ v + V a b c d := by
          intro p hpp
          rcases hrl p with z | ⟨z1, z2, x0, x1, x2, x3, k0, k1, k2, k3, k4, k5⟩
          · rw [z]; exact hw1 p hpp
          · refine Or.inr ⟨v + cnt4 a b c d, a - x0, b - x1, c - x2, d - x3, k5, by omega, by omega, by omega, by omega, z1, ?_, ?_⟩
            · have : p < q + 1 := by rw [hp, k5]; unfold en; omega
              omega
            · have := hall x0 x1 x2 x3 (by unfold Snd; omega)
              omega
        rw [← hp]
        refine pl_h61 hV hK h0 h1 h2 h3 e0 e1 e2 e3 ht0 ht1 ht2 ht3 hQ q room' w' (by omega) ⟨hfirst, ?_⟩
        obtain ⟨v2, a2, b2, c2, d2, hen2, m0, m1, m2, m3, hv2, hvb2, hs2⟩ := hw2
        rcases Nat.eq_or_lt_of_le hen2 with z | z
        · obtain ⟨rfl, rfl, rfl, rfl⟩ := en_inj (by omega) (by omega) (by omega) (by omega) (by omega) (by omega) (by omega) (by omega) (z.trans hp)
          have hvv : v2 = v := by
            rw [hp] at hv
            exact (pu_neq (by omega) (by omega)).mp (hv2.symm.trans hv)
          subst hvv
          have hy2 := hy
          unfold Snd at hy2
          have hl := hle y0 y1 y2 y3 (by omega) (by omega) (by omega) (by omega) hysum
          have hlt : en (a2 - y0) (b2 - y1) (c2 - y2) (d2 - y3) < q + 1 := by rw [hp]; unfold en; omega
          rcases hfirst (en (a2 - y0) (b2 - y1) (c2 - y2) (d2 - y3)) (by omega) with k | ⟨v3, a3, b3, c3, d3, j0, j1, j2, j3, j4, j5, j6, j7⟩
          · rw [k] at hl
            exact absurd hl (mxI_nle (by omega))
          · obtain ⟨f0, f1, f2, f3⟩ := en_inj (by omega) (by omega) (by omega) (by omega) (by omega) (by omega) (by omega) (by omega) j0
            rw [j5] at hl
            have hl2 := (pu_nle (by omega) (by omega)).mp hl
            rw [← f0, ← f1, ← f2, ← f3] at j7
            exact ⟨v3, a2 - y0, b2 - y1, c2 - y2, d2 - y3, by omega, by omega, by omega, by omega, by omega, j5, j6, by omega⟩
        · refine ⟨v2, a2, b2, c2, d2, by omega, m0, m1, m2, m3, ?_, hvb2, hs2⟩
          rcases hrl (en a2 b2 c2 d2) with k | ⟨k1, k2, k3⟩
          · rw [k]; exact hv2
          · exfalso
            rw [hv2] at k2
            have k4 : ¬ v2 ≤ v + cnt4 a b c d := fun j => k2 ((pu_nle (by omega) (by omega)).mpr j)
            rcases hfirst (en a2 b2 c2 d2) (en_mono m0 m1 m2 m3) with j | ⟨v3, a3, b3, c3, d3, j0, j1, j2, j3, j4, j5, j6, j7⟩
            · rw [k1] at j
              exact mxI_big (by omega) j
            · obtain ⟨f0, f1, f2, f3⟩ := en_inj (by omega) (by omega) (by omega) (by omega) (by omega) (by omega) (by omega) (by omega) j0
              have : v3 = v + cnt4 a b c d := (pu_neq (by omega) (by omega)).mp (j5.symm.trans k1)
              rw [← f0, ← f1, ← f2, ← f3] at j7
              omega
end
theorem pl_fill_h10 {v : Int32} {hi : Nat} (hh : hi ≤ 6561) {Q : (Nat → Int32) → Prop} : ∀ k c f, c + k = hi → (∀ f', (∀ j, c ≤ j → j < hi → f' j = v) → (∀ j, (j < c ∨ hi ≤ j) → f' j = f j) → Q f') → wp_Arrays_fill_fda19_h10 6561 (nI hi) v Q (k + 1) (nI c) f
  | 0, c, f, e, hQ => by
    have e : c = hi := by omega
    subst e
    rw [wp_Arrays_fill_fda19_h10]
    exact ⟨fun _ => hQ f (fun j h1 h2 => by omega) (fun j _ => rfl), fun h => absurd (Int32.le_refl _) h⟩
  | k + 1, c, f, e, hQ => by
    rw [wp_Arrays_fill_fda19_h10]
    refine ⟨fun h => ?_, fun _ => ⟨pu_inI (by omega) (by omega), ?_⟩⟩
    · have := (pu_nle (by omega) (by omega)).mp h; omega
    · rw [nI_clamp (by omega), ← nI_succ]
      refine pl_fill_h10 hh k (c + 1) _ (by omega) (fun f' h1 h2 => hQ f' (fun j h3 h4 => ?_) (fun j h3 => ?_))
      · rcases Nat.eq_or_lt_of_le h3 with z | z
        · subst z; rw [h2 c (Or.inl (by omega)), pu_upd_same]
        · exact h1 j z h4
      · rw [h2 j (by omega), pu_upd_ne (by omega)]
theorem pl_fill_h5 {v : Int32} {N : Nat} (hh : N < 2 ^ 30) {Q : (Nat → Int32) → Prop} : ∀ k c f, c + k = N → (∀ f', (∀ j, c ≤ j → j < N → f' j = v) → (∀ j, (j < c ∨ N ≤ j) → f' j = f j) → Q f') → wp_Arrays_fill_53178_h5 N v (nI N) Q (k + 1) (nI c) f
  | 0, c, f, e, hQ => by
    have e : c = N := by omega
    subst e
    rw [wp_Arrays_fill_53178_h5]
    exact ⟨fun _ => hQ f (fun j h1 h2 => by omega) (fun j _ => rfl), fun h => absurd (Int32.le_refl _) h⟩
  | k + 1, c, f, e, hQ => by
    rw [wp_Arrays_fill_53178_h5]
    refine ⟨fun h => ?_, fun _ => ⟨pu_inI (by omega) (by omega), ?_⟩⟩
    · have := (pu_nle (by omega) (by omega)).mp h; omega
    · rw [nI_clamp (by omega), ← nI_succ]
      refine pl_fill_h5 hh k (c + 1) _ (by omega) (fun f' h1 h2 => hQ f' (fun j h3 h4 => ?_) (fun j h3 => ?_))
      · rcases Nat.eq_or_lt_of_le h3 with z | z
        · subst z; rw [h2 c (Or.inl (by omega)), pu_upd_same]
        · exact h1 j z h4
      · rw [h2 j (by omega), pu_upd_ne (by omega)]
theorem pl_fill {v : Int32} {N : Nat} {f : Nat → Int32} (hh : N < 2 ^ 30) {Q : (Nat → Int32) → Prop} (hQ : ∀ f', (∀ j, j < N → f' j = v) → (∀ j, N ≤ j → f' j = f j) → Q f') : wp_Arrays_fill_53178 N f v Q :=
  ⟨N + 1, pl_fill_h5 hh N 0 f (by omega) (fun f' h1 h2 => hQ f' (fun j hj => h1 j (by omega) hj) (fun j hj => h2 j (Or.inr hj)))⟩
theorem pl_search {t0 t1 t2 t3 K n0 n1 n2 n3 : Nat} {V : Nat → Nat → Nat → Nat → Nat} {need takes room w : Nat → Int32} (hV : BE t0 t1 t2 t3 K n0 n1 n2 n3 V) (hK : K ≤ 8) (h0 : n0 ≤ 8) (h1 : n1 ≤ 8) (h2 : n2 ≤ 8) (h3 : n3 ≤ 8) (e0 : takes 0 = nI t0) (e1 : takes 1 = nI t1) (e2 : takes 2 = nI t2) (e3 : takes 3 = nI t3) (ht0 : t0 ≤ 4) (ht1 : t1 ≤ 4) (ht2 : t2 ≤ 4) (ht3 : t3 ≤ 4)
    (f0 : need 0 = nI n0) (f1 : need 1 = nI n1) (f2 : need 2 = nI n2) (f3 : need 3 = nI n3) {Q : Int32 → (Nat → Int32) → (Nat → Int32) → Prop} (hQ : ∀ room' w', Q (nI (V n0 n1 n2 n3)) room' w') : wp_Planner_search need takes room w (nI K) Q := by
  have hbig : en n0 n1 n2 n3 < 6561 := by unfold en; omega
  have step : ∀ (n x m s : Nat), s < 4 → need s = nI m → wp_Planner_search_h4 (nI K) need takes room w Q n (nI (x * 9 + m)) (nI s + (-1)) → wp_Planner_search_h4 (nI K) need takes room w Q (n + 1) (nI x) (nI s) := by
    intro n x m s hs em hh
    rw [wp_Planner_search_h4]
    refine ⟨fun h => absurd h (nI_pos (by omega)), fun _ => ⟨pu_inI hs (by omega), ?_⟩⟩
    rw [nI_clamp (by omega), em]
    have : nI x * 9 + nI m = nI (x * 9 + m) := by
      rw [← nI_add, ← pk_mul]; rfl
    rw [this]; exact hh
  refine ⟨5, ?_⟩
  refine step 4 0 n3 3 (by omega) f3 ?_
  rw [pu_dec]
  refine step 3 _ n2 2 (by omega) f2 ?_
  rw [pu_dec]
  refine step 2 _ n1 1 (by omega) f1 ?_
  rw [pu_dec]
  refine step 1 _ n0 0 (by omega) f0 ?_
  have e : ((0 * 9 + n3) * 9 + n2) * 9 + n1 = n1 + 9 * n2 + 81 * n3 := by omega
  have ee : (((0 * 9 + n3) * 9 + n2) * 9 + n1) * 9 + n0 = en n0 n1 n2 n3 := by unfold en; omega
  rw [ee, wp_Planner_search_h4]
  refine ⟨fun _ => ⟨fun h => absurd h (nI_pos (by omega)), fun _ => ⟨fun _ => ?_, fun h => absurd ((pu_nlt (a := en n0 n1 n2 n3) (b := 6561) (by omega) (by omega)).mpr hbig) h⟩⟩, fun h => absurd (show nI 0 + (-1) < 0 by decide) h⟩
  unfold wp_Arrays_fill_fda19 wp_Arrays_rangeCheck_23922
  rw [← nI_succ]
  have r1 : (0 : Int32) ≤ nI (en n0 n1 n2 n3 + 1) := nI_pos' (by omega)
  have r2 : nI (en n0 n1 n2 n3 + 1) ≤ nI 6561 := (pu_nle (by omega) (by omega)).mpr (by omega)
  refine ⟨fun _ => ⟨fun _ => ⟨fun _ => ?_, fun h => h r2⟩, fun h => absurd (show (0 : Int32) ≤ 0 by decide) h⟩, fun h => h r1⟩
  refine ⟨en n0 n1 n2 n3 + 1 + 1, pl_fill_h10 (by omega) _ 0 w (by omega) (fun f' k1 k2 => ⟨pu_inI hbig (by omega), en n0 n1 n2 n3 + 1, ?_⟩)⟩
  rw [nI_clamp (by omega)]
  refine pl_h61 hV hK h0 h1 h2 h3 e0 e1 e2 e3 ht0 ht1 ht2 ht3 hQ (en n0 n1 n2 n3) room _ (Nat.le_refl _) ⟨fun p hp => ?_, ⟨0, n0, n1, n2, n3, Nat.le_refl _, Nat.le_refl _, Nat.le_refl _, Nat.le_refl _, Nat.le_refl _, pu_upd_same _ _ _, by omega, by omega⟩⟩
  rcases Nat.eq_or_lt_of_le hp with z | z
  · refine Or.inr ⟨0, n0, n1, n2, n3, z, Nat.le_refl _, Nat.le_refl _, Nat.le_refl _, Nat.le_refl _, ?_, by omega, by omega⟩
    rw [z, pu_upd_same]; rfl
  · rw [pu_upd_ne (by omega), k1 p (by omega) (by omega)]
    exact Or.inl rfl
