/-! The plan in the class: one way down over the states. -/
/-- the number of a state -/
def en (a b c d : Nat) : Nat := a + 9 * b + 81 * c + 729 * d
/-- lower values at some places, none else -/
def Rl (sm : Int32) (T : Nat → Prop) (w w' : Nat → Int32) : Prop := ∀ p, w' p = w p ∨ (w' p = sm ∧ ¬ w p ≤ sm ∧ T p)
theorem Rl.rfl' (sm : Int32) (T : Nat → Prop) (w : Nat → Int32) : Rl sm T w w := fun _ => Or.inl rfl
theorem Rl.trans {sm : Int32} {T : Nat → Prop} {w w1 w2 : Nat → Int32} (h : Rl sm T w w1) (h2 : Rl sm T w1 w2) : Rl sm T w w2 := by
  intro p
  rcases h2 p with e | ⟨e1, e2, e3⟩
  · rw [e]; exact h p
  · rcases h p with f | ⟨f1, f2, f3⟩
    · rw [f] at e2; exact Or.inr ⟨e1, e2, e3⟩
    · rw [f1] at e2; exact absurd (Int32.le_refl _) e2
theorem Rl.le {sm : Int32} {T : Nat → Prop} {w w' : Nat → Int32} (h : Rl sm T w w') {p : Nat} (hp : w p ≤ sm) : w' p ≤ sm := by
  rcases h p with e | ⟨e1, e2, e3⟩
  · rw [e]; exact hp
  · rw [e1]; exact Int32.le_refl _
theorem pl_reach {w : Nat → Int32} {t : Nat} {sm : Int32} {T : Nat → Prop} (ht : t < 6561) (hT : T t) {Q : (Nat → Int32) → Prop} (hQ : ∀ w', Rl sm T w w' → w' t ≤ sm → Q w') : wp_Planner_reach w (nI t) sm Q := by
  have i1 : vp_in (nI t) 6561 := pu_inI ht (by omega)
  unfold wp_Planner_reach
  rw [nI_clamp (by omega)]
  refine ⟨fun h => absurd h (nI_pos (by omega)), fun _ => ⟨fun h => ?_, fun _ => ⟨i1, fun h => hQ w (Rl.rfl' _ _ _) h, fun h => ⟨i1, hQ _ (fun p => ?_) (by rw [pu_upd_same]; exact Int32.le_refl _)⟩⟩⟩⟩
  · have := (pu_nle (a := 6561) (b := t) (by omega) (by omega)).mp h; omega
  · by_cases e : p = t
    · subst e; rw [pu_upd_same]; exact Or.inr ⟨rfl, h, hT⟩
    · rw [pu_upd_ne e]; exact Or.inl rfl
theorem pl_min {a b : Nat} (ha : a < 2 ^ 31) (hb : b < 2 ^ 31) : (if nI a < nI b then nI a else nI b) = nI (min a b) := by
  by_cases h : a < b
  · rw [if_pos ((pu_nlt ha hb).mpr h)]; congr 1; omega
  · rw [if_neg (fun q => h ((pu_nlt ha hb).mp q))]; congr 1; omega
theorem pl_max {a b : Nat} (ha : a < 2 ^ 30) (hb : b < 2 ^ 30) : (if (0 : Int32) < nI a - nI b then nI a - nI b else 0) = nI (a - b) := by
  have e := pk_sub_toInt ha hb
  have e0 : (0 : Int32).toInt = 0 := rfl
  by_cases h : b < a
  · rw [if_pos (by rw [pu_lt, e, e0]; omega), pk_sub (by omega)]
  · rw [if_neg (by rw [pu_lt, e, e0]; omega), show a - b = 0 by omega]; rfl
theorem pl_max2 {a b c : Nat} (ha : a < 2 ^ 30) (hb : b < 2 ^ 28) (hc : c < 2 ^ 28) : (if (0 : Int32) < nI a - nI b - nI c then nI a - nI b - nI c else 0) = nI (a - b - c) := by
  have e : nI a - nI b - nI c = nI a - nI (b + c) := by rw [← nI_add, Int32.sub_sub]
  rw [e, pl_max ha (by omega)]
  congr 1; omega
theorem pl_9 (y : Nat) : (9 : Int32) * nI y = nI (9 * y) := pk_mul 9 y
theorem pu_c2 : (2 : Int32).toNatClampNeg = 2 := rfl
theorem pu_c3 : (3 : Int32).toNatClampNeg = 3 := rfl
section
variable {q a b rem r0 r1 r2 r3 : Nat} {sm : Int32} {T : Nat → Prop} {room : Nat → Int32} {Q : (Nat → Int32) → Prop}
theorem pl_h102 (hq : q < 6561) (h2 : room 2 = nI r2) (h3 : room 3 = nI r3) (hr2 : r2 ≤ 8) (hr3 : r3 ≤ 8) (hrem : rem ≤ 8) (hrr : rem ≤ r2 + r3) (hT : ∀ c d, c ≤ r2 → d ≤ r3 → c + d = rem → en a b c d ≤ q ∧ T (q - en a b c d)) {K : Int32 → (Nat → Int32) → Prop} :
    ∀ k c w, c + k = min rem r2 + 1 → rem - r3 ≤ c → (∀ w', Rl sm T w w' → (∀ c', c ≤ c' → c' ≤ min rem r2 → w' (q - en a b c' (rem - c')) ≤ sm) → K (nI (b + 1)) w') → wp_Planner_spread_h102 (nI q) sm (nI a) (nI b) (nI rem) room K Q (k + 1) (nI c) w
  | 0, c, w, e, hc, hK => by
    rw [wp_Planner_spread_h102, pu_c2, h2, pl_min (by omega) (by omega)]
    refine ⟨fun _ => ?_, fun h => absurd ((pu_nlt (by omega) (by omega)).mpr (by omega)) h⟩
    rw [← nI_succ]
    exact hK w (Rl.rfl' _ _ _) (fun c' h1 h4 => by omega)
  | k + 1, c, w, e, hc, hK => by
    obtain ⟨hen, ht⟩ := hT c (rem - c) (by omega) (by omega) (by omega)
    rw [wp_Planner_spread_h102, pu_c2, h2, pl_min (by omega) (by omega)]
    refine ⟨fun h => ?_, fun _ => ?_⟩
    · have := (pu_nlt (by omega) (by omega)).mp h; omega
    · have e1 : (nI q - nI a) - (9 * (nI b + (9 * (nI c + (9 * (nI rem - nI c)))))) = nI (q - en a b c (rem - c)) := by
        unfold en at hen ⊢
        rw [pk_sub (show c ≤ rem by omega), pl_9, nI_add, pl_9, nI_add, pl_9, pk_sub (by omega), pk_sub (by omega)]
        congr 1; omega
      rw [e1]
      refine pl_reach (by omega) ht (fun w1 hw1 hv => ?_)
      rw [← nI_succ]
      refine pl_h102 hq h2 h3 hr2 hr3 hrem hrr hT k (c + 1) w1 (by omega) (by omega) (fun w' hw' hc' => hK w' (hw1.trans hw') (fun c' h4 h5 => ?_))
      rcases Nat.eq_or_lt_of_le h4 with e2 | e2
      · subst e2; exact hw'.le hv
      · exact hc' c' e2 h5
end
section
variable {q a g r0 r1 r2 r3 : Nat} {sm : Int32} {T : Nat → Prop} {room : Nat → Int32} {Q : (Nat → Int32) → Prop}
theorem pl_h64 (hq : q < 6561) (h1 : room 1 = nI r1) (h2 : room 2 = nI r2) (h3 : room 3 = nI r3) (hr1 : r1 ≤ 8) (hr2 : r2 ≤ 8) (hr3 : r3 ≤ 8) (hg : g ≤ 8) (hgg : g ≤ r1 + (r2 + r3)) (hT : ∀ b c d, b ≤ r1 → c ≤ r2 → d ≤ r3 → b + c + d = g → en a b c d ≤ q ∧ T (q - en a b c d)) {K : Int32 → (Nat → Int32) → Prop} :
    ∀ k b w, b + k = min g r1 + 1 → g - (r2 + r3) ≤ b → (∀ w', Rl sm T w w' → (∀ b' c' d', b ≤ b' → b' ≤ r1 → c' ≤ r2 → d' ≤ r3 → b' + c' + d' = g → w' (q - en a b' c' d') ≤ sm) → K (nI (a + 1)) w') → wp_Planner_spread_h64 (nI q) sm (nI a) (nI g) room K Q (k + 1) (nI b) w
  | 0, b, w, e, hc, hK => by
    rw [wp_Planner_spread_h64, pu_c1, h1, pl_min (by omega) (by omega)]
    refine ⟨fun _ => ?_, fun h => absurd ((pu_nlt (by omega) (by omega)).mpr (by omega)) h⟩
    rw [← nI_succ]
    exact hK w (Rl.rfl' _ _ _) (fun b' c' d' h4 h5 h6 h7 h8 => by omega)
  | k + 1, b, w, e, hc, hK => by
    rw [wp_Planner_spread_h64, pu_c1, h1, pl_min (by omega) (by omega)]
    refine ⟨fun h => ?_, fun _ => ?_⟩
    · have := (pu_nlt (by omega) (by omega)).mp h; omega
    · rw [pk_sub (show b ≤ g by omega), pu_c3, h3, pl_max (by omega) (by omega)]
      refine ⟨min (g - b) r2 + 1 - (g - b - r3) + 1, ?_⟩
      refine pl_h102 (r2 := r2) (r3 := r3) hq h2 h3 hr2 hr3 (by omega) (by omega) (fun c d z1 z2 z3 => hT b c d (by omega) z1 z2 (by omega)) _ (g - b - r3) w (by omega) (by omega) (fun w1 hw1 hv => ?_)
      refine pl_h64 hq h1 h2 h3 hr1 hr2 hr3 hg hgg hT k (b + 1) w1 (by omega) (by omega) (fun w' hw' hb' => hK w' (hw1.trans hw') (fun b' c' d' z4 z5 z6 z7 z8 => ?_))
      rcases Nat.eq_or_lt_of_le z4 with e2 | e2
      · subst e2
        have := hv c' (by omega) (by omega)
        rw [show g - b - c' = d' by omega] at this
        exact hw'.le this
      · exact hb' b' c' d' e2 z5 z6 z7 z8
theorem pl_h32 (hq : q < 6561) (h0 : room 0 = nI r0) (h1 : room 1 = nI r1) (h2 : room 2 = nI r2) (h3 : room 3 = nI r3) (hr0 : r0 ≤ 8) (hr1 : r1 ≤ 8) (hr2 : r2 ≤ 8) (hr3 : r3 ≤ 8) (hg : g ≤ 8) (hgg : g ≤ r0 + r1 + (r2 + r3)) (hT : ∀ a b c d, a ≤ r0 → b ≤ r1 → c ≤ r2 → d ≤ r3 → a + b + c + d = g → en a b c d ≤ q ∧ T (q - en a b c d)) :
    ∀ k a w, a + k = min g r0 + 1 → g - r1 - (r2 + r3) ≤ a → (∀ w', Rl sm T w w' → (∀ a' b' c' d', a ≤ a' → a' ≤ r0 → b' ≤ r1 → c' ≤ r2 → d' ≤ r3 → a' + b' + c' + d' = g → w' (q - en a' b' c' d') ≤ sm) → Q w') → wp_Planner_spread_h32 (nI q) (nI g) sm (nI (r2 + r3)) room Q (k + 1) (nI a) w
  | 0, a, w, e, hc, hK => by
    rw [wp_Planner_spread_h32, pu_c0, h0, pl_min (by omega) (by omega)]
    refine ⟨fun _ => ?_, fun h => absurd ((pu_nlt (by omega) (by omega)).mpr (by omega)) h⟩
    exact hK w (Rl.rfl' _ _ _) (fun a' b' c' d' h4 h5 h6 h7 h8 h9 => by omega)
  | k + 1, a, w, e, hc, hK => by
    rw [wp_Planner_spread_h32, pu_c0, h0, pl_min (by omega) (by omega)]
    refine ⟨fun h => ?_, fun _ => ?_⟩
    · have := (pu_nlt (by omega) (by omega)).mp h; omega
    · rw [pk_sub (show a ≤ g by omega), pl_max (by omega) (by omega)]
      refine ⟨min (g - a) r1 + 1 - (g - a - (r2 + r3)) + 1, ?_⟩
      refine pl_h64 (r1 := r1) (r2 := r2) (r3 := r3) hq h1 h2 h3 hr1 hr2 hr3 (by omega) (by omega) (fun b c d z1 z2 z3 z4 => hT a b c d (by omega) z1 z2 z3 (by omega)) _ (g - a - (r2 + r3)) w (by omega) (by omega) (fun w1 hw1 hv => ?_)
      refine pl_h32 hq h0 h1 h2 h3 hr0 hr1 hr2 hr3 hg hgg hT k (a + 1) w1 (by omega) (by omega) (fun w' hw' hb' => hK w' (hw1.trans hw') (fun a' b' c' d' z4 z5 z6 z7 z8 z9 => ?_))
      rcases Nat.eq_or_lt_of_le z4 with e2 | e2
      · subst e2
        exact hw'.le (hv b' c' d' (by omega) z6 z7 z8 (by omega))
      · exact hb' a' b' c' d' e2 z5 z6 z7 z8 z9
theorem pl_spread {w : Nat → Int32} (hq : q < 6561) (h0 : room 0 = nI r0) (h1 : room 1 = nI r1) (h2 : room 2 = nI r2) (h3 : room 3 = nI r3) (hr0 : r0 ≤ 8) (hr1 : r1 ≤ 8) (hr2 : r2 ≤ 8) (hr3 : r3 ≤ 8) (hg : g ≤ 8) (hgg : g ≤ r0 + r1 + (r2 + r3)) (hT : ∀ a b c d, a ≤ r0 → b ≤ r1 → c ≤ r2 → d ≤ r3 → a + b + c + d = g → en a b c d ≤ q ∧ T (q - en a b c d))
    (hQ : ∀ w', Rl sm T w w' → (∀ a b c d, a ≤ r0 → b ≤ r1 → c ≤ r2 → d ≤ r3 → a + b + c + d = g → w' (q - en a b c d) ≤ sm) → Q w') : wp_Planner_spread room w (nI q) (nI g) sm Q := by
  unfold wp_Planner_spread
  rw [pu_c1, pu_c2, pu_c3, h1, h2, h3, nI_add, pl_max2 (by omega) (by omega) (by omega)]
  exact ⟨min g r0 + 1 - (g - r1 - (r2 + r3)) + 1, pl_h32 hq h0 h1 h2 h3 hr0 hr1 hr2 hr3 hg hgg hT _ _ w (by omega) (by omega) (fun w' z1 z2 => hQ w' z1 (fun a b c d y1 y2 y3 y4 y5 => z2 a b c d (by omega) y1 y2 y3 y4 y5))⟩
end
/-- as far as the digits are read: ships that wait, gangs that can be taken -/
theorem pl_send {takes room w : Nat → Int32} {t0 t1 t2 t3 K a b c d v : Nat} {T : Nat → Prop} (e0 : takes 0 = nI t0) (e1 : takes 1 = nI t1) (e2 : takes 2 = nI t2) (e3 : takes 3 = nI t3) (ht0 : t0 ≤ 4) (ht1 : t1 ≤ 4) (ht2 : t2 ≤ 4) (ht3 : t3 ≤ 4) (hK : K ≤ 8) (ha : a ≤ 8) (hb : b ≤ 8) (hc : c ≤ 8) (hd : d ≤ 8) (hw : w (en a b c d) = nI v) (hv : v < 2 ^ 30)
    (hT : ∀ x0 x1 x2 x3, x0 ≤ min t0 a → x1 ≤ min t1 b → x2 ≤ min t2 c → x3 ≤ min t3 d → x0 + x1 + x2 + x3 = min K (min t0 a + min t1 b + min t2 c + min t3 d) → T (en (a - x0) (b - x1) (c - x2) (d - x3))) {Q : (Nat → Int32) → (Nat → Int32) → Prop}
    (hQ : ∀ room' w', Rl (nI (v + cnt4 a b c d)) T w w' → (∀ x0 x1 x2 x3, x0 ≤ min t0 a → x1 ≤ min t1 b → x2 ≤ min t2 c → x3 ≤ min t3 d → x0 + x1 + x2 + x3 = min K (min t0 a + min t1 b + min t2 c + min t3 d) → w' (en (a - x0) (b - x1) (c - x2) (d - x3)) ≤ nI (v + cnt4 a b c d)) → Q room' w') :
    wp_Planner_sendGangs takes room w (nI (en a b c d)) (nI K) Q := by
  have hq : en a b c d < 6561 := by unfold en; omega
  have step : ∀ (n : Nat) (sm all rest : Nat) (s : Nat) (room : Nat → Int32) (t : Nat), s < 4 → rest < 6561 → takes s = nI t → t ≤ 4 → wp_Planner_sendGangs_h16 (nI (en a b c d)) (nI K) takes w Q n (nI (sm + if 0 < rest % 9 then 1 else 0)) (nI (all + min (rest % 9) t)) (nI (rest / 9)) (nI (s + 1)) (upd room s (nI (min (rest % 9) t))) → wp_Planner_sendGangs_h16 (nI (en a b c d)) (nI K) takes w Q (n + 1) (nI sm) (nI all) (nI rest) (nI s) room := by
    intro n sm all rest s room t hs hr et ht hh
    have i1 : vp_in (nI s) 4 := pu_inI hs (by omega)
    have d1 : nI rest - nI rest / 9 * 9 = nI (rest % 9) := pk_rem (a := rest) (d := 9) (by omega) (by omega) (by omega)
    have d2 : nI rest / 9 = nI (rest / 9) := pk_div (a := rest) (d := 9) (by omega) (by omega) (by omega)
    rw [wp_Planner_sendGangs_h16]
    rw [d1, d2, nI_clamp (show s < 2 ^ 31 by omega), et, pl_min (show rest % 9 < 2 ^ 31 by omega) (by omega), pu_upd_same, nI_add, ← nI_succ, ← nI_succ]
    refine ⟨fun h => ?_, fun _ => ⟨fun h => ⟨i1, i1, i1, ?_⟩, fun h => ⟨i1, i1, i1, ?_⟩⟩⟩
    · have := (pu_nle (a := 4) (b := s) (by omega) (by omega)).mp h; omega
    · have h9 : rest % 9 ≤ 0 := (pu_nle (a := rest % 9) (b := 0) (by omega) (by omega)).mp h
      rw [if_neg (by omega)] at hh
      exact hh
    · have h9 : ¬ rest % 9 ≤ 0 := fun z => h ((pu_nle (a := rest % 9) (b := 0) (by omega) (by omega)).mpr z)
      rw [if_pos (by omega)] at hh
      exact hh
  refine ⟨pu_inI hq (by omega), 5, ?_⟩
  rw [nI_clamp (by omega), hw]
  have q0 : en a b c d % 9 = a := by unfold en; omega
  have q1 : en a b c d / 9 % 9 = b := by unfold en; omega
  have q2 : en a b c d / 9 / 9 % 9 = c := by unfold en; omega
  have q3 : en a b c d / 9 / 9 / 9 % 9 = d := by unfold en; omega
  refine step 4 v 0 (en a b c d) 0 room t0 (by omega) hq e0 ht0 ?_
  refine step 3 _ _ (en a b c d / 9) 1 _ t1 (by omega) (by omega) e1 ht1 ?_
  refine step 2 _ _ (en a b c d / 9 / 9) 2 _ t2 (by omega) (by omega) e2 ht2 ?_
  refine step 1 _ _ (en a b c d / 9 / 9 / 9) 3 _ t3 (by omega) (by omega) e3 ht3 ?_
  rw [q0, q1, q2, q3, wp_Planner_sendGangs_h16]
  refine ⟨fun _ => ?_, fun h => absurd (show (4 : Int32) ≤ nI (3 + 1) by decide) h⟩
  have hs : v + (if 0 < a then 1 else 0) + (if 0 < b then 1 else 0) + (if 0 < c then 1 else 0) + (if 0 < d then 1 else 0) = v + cnt4 a b c d := by unfold cnt4; omega
  rw [hs, pl_min (show 0 + min a t0 + min b t1 + min c t2 + min d t3 < 2 ^ 31 by omega) (by omega)]
  have hg : min (0 + min a t0 + min b t1 + min c t2 + min d t3) K = min K (min t0 a + min t1 b + min t2 c + min t3 d) := by omega
  rw [hg]
  refine pl_spread (r0 := min t0 a) (r1 := min t1 b) (r2 := min t2 c) (r3 := min t3 d) (T := T) hq ?_ ?_ ?_ ?_ (by omega) (by omega) (by omega) (by omega) (by omega) (by omega) (fun x0 x1 x2 x3 z0 z1 z2 z3 z4 => ?_) (fun w' hw' hl => hQ _ w' hw' (fun x0 x1 x2 x3 z0 z1 z2 z3 z4 => ?_))
  · rw [pu_upd_ne (by decide), pu_upd_ne (by decide), pu_upd_ne (by decide), pu_upd_same]; congr 1; omega
  · rw [pu_upd_ne (by decide), pu_upd_ne (by decide), pu_upd_same]; congr 1; omega
  · rw [pu_upd_ne (by decide), pu_upd_same]; congr 1; omega
  · rw [pu_upd_same]; congr 1; omega
  · have hx : en x0 x1 x2 x3 ≤ en a b c d := by unfold en; omega
    refine ⟨hx, ?_⟩
    have e5 : en a b c d - en x0 x1 x2 x3 = en (a - x0) (b - x1) (c - x2) (d - x3) := by unfold en; omega
    rw [e5]
    exact hT x0 x1 x2 x3 z0 z1 z2 z3 z4
  · have e5 : en a b c d - en x0 x1 x2 x3 = en (a - x0) (b - x1) (c - x2) (d - x3) := by unfold en; omega
    have := hl x0 x1 x2 x3 z0 z1 z2 z3 z4
    rw [e5] at this
    exact this
