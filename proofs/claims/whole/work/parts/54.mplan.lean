/-! The plan in the model, and both. -/
/-- the number of digits above 0 among the first k -/
def ctF (q : Nat) : Nat → Nat
  | 0 => 0
  | k + 1 => ctF q k + if 0 < q / 9 ^ k % 9 then 1 else 0
/-- no digit is more than was needed -/
def cnF (nd : Nat → Nat) (q : Nat) : Nat → Bool
  | 0 => true
  | k + 1 => cnF nd q k && decide (q / 9 ^ k % 9 ≤ nd k)
def cpF (W : Nat) (t : Nat → Nat) (q : Nat) (s : Nat) : Nat := if s < W then min (q / 9 ^ s % 9) (t s) else 0
def AF (A0 : Nat → Int32) (nd t : Nat → Nat) (W K : Nat) : Nat → Nat → Int32
  | 0 => upd A0 0 0
  | n + 1 => upd (AF A0 nd t W K n) (n + 1) (if cnF nd (n + 1) 4 then nI (ctF (n + 1) 4) + bF (AF A0 nd t W K n) (n + 1) (cpF W t (n + 1)) 4 K (n + 1) else 0)
theorem ctF_le (q : Nat) : ∀ k, ctF q k ≤ k
  | 0 => Nat.le_refl _
  | k + 1 => by
    have := ctF_le q k
    rw [ctF]
    split <;> omega
section
variable {need most A : Nat → Int32} {nd t : Nat → Nat} {W K q : Nat}
theorem pm_plan_h87 (hW : W ≤ 4) (hK : K ≤ 8) (hq : q < 6561) (hnW : ∀ s, W ≤ s → nd s = 0) (hn : ∀ s, s < W → need s = nI (nd s) ∧ nd s ≤ 8) (ht : ∀ s, s < W → most s = nI (t s) ∧ t s ≤ 4) {K73 : Int32 → (Nat → Int32) → Prop} {Q : Int32 → Int32 → (Nat → Int32) → Prop}
    (hQ : K73 (nI (q + 1)) (upd A q (if cnF nd q 4 then nI (ctF q 4) + bF A q (cpF W t q) 4 K q else 0))) : ∀ k c, c + k = 4 → wp_Model_plan_h87 (nI K) (nI q) (nI W) need most A K73 Q (k + 1) (nI (ctF q c)) (if cnF nd q c then 1 else 0) (nI c)
  | 0, c, e => by
    have e : c = 4 := by omega
    subst e
    have i1 : vp_in (nI q) 6561 := pu_inI hq (by omega)
    rw [wp_Model_plan_h87, nI_clamp (by omega), ← nI_succ]
    refine ⟨fun _ => ?_, fun h => absurd (show (4 : Int32) ≤ nI 4 by decide) h⟩
    cases hb : cnF nd q 4
    · rw [hb] at hQ
      exact ⟨fun _ => ⟨i1, hQ⟩, fun h => absurd rfl h⟩
    · rw [hb] at hQ
      refine ⟨fun h => absurd h (by decide), fun _ => ?_⟩
      refine pm_best4 (cap := cpF W t q) hW hq hq hK (by omega) (fun s hs => ?_) (fun s hs => ?_) ⟨i1, hQ⟩
      · rw [cpF, if_neg (by omega)]
      · obtain ⟨h1, h2⟩ := ht s hs
        exact ⟨t s, h2, h1, by rw [cpF, if_pos hs]⟩
  | k + 1, c, e => by
    have ih := pm_plan_h87 (Q := Q) hW hK hq hnW hn ht hQ k (c + 1) (by omega)
    rw [wp_Model_plan_h87]
    refine ⟨fun h => ?_, fun _ => pm_power (by omega) ⟨nI_ne0 (Nat.pos_of_ne_zero (by simp)) ?_, ?_⟩⟩
    · have := (pu_nle (a := 4) (b := c) (by omega) (by omega)).mp h; omega
    · have : (9 : Nat) ^ c ≤ 9 ^ 4 := Nat.pow_le_pow_right (by decide) (by omega)
      have : (9 : Nat) ^ 4 = 6561 := by decide
      omega
    · have hp0 : 0 < (9 : Nat) ^ c := Nat.pos_of_ne_zero (by simp)
      have hp1 : (9 : Nat) ^ c < 2 ^ 31 := by
        have : (9 : Nat) ^ c ≤ 9 ^ 4 := Nat.pow_le_pow_right (by decide) (by omega)
        have : (9 : Nat) ^ 4 = 6561 := by decide
        omega
      have hqd : q / 9 ^ c < 6561 := Nat.lt_of_le_of_lt (Nat.div_le_self _ _) hq
      have d1 : nI q / nI (9 ^ c) = nI (q / 9 ^ c) := pk_div (by omega) hp0 hp1
      have d2 : nI (q / 9 ^ c) - nI (q / 9 ^ c) / 9 * 9 = nI (q / 9 ^ c % 9) := pk_rem (d := 9) (by omega) (by omega) (by omega)
      rw [d1, d2, ← nI_succ, Int32.add_zero]
      rw [ctF, cnF] at ih
      have hrest : ∀ x : Int32, (¬ cnF nd q c = true → wp_Model_plan_h87 (nI K) (nI q) (nI W) need most A K73 Q (k + 1) x 0 (nI (c + 1))) → (cnF nd q c = true → ∀ z : Int32, z = (if decide (q / 9 ^ c % 9 ≤ nd c) then 1 else 0) → wp_Model_plan_h87 (nI K) (nI q) (nI W) need most A K73 Q (k + 1) x z (nI (c + 1))) →
          (((if cnF nd q c = true then (1 : Int32) else 0) = 0 → wp_Model_plan_h87 (nI K) (nI q) (nI W) need most A K73 Q (k + 1) x 0 (nI (c + 1))) ∧ (¬ (if cnF nd q c = true then (1 : Int32) else 0) = 0 → ((nI W ≤ nI c → ((0 < nI (q / 9 ^ c % 9) → wp_Model_plan_h87 (nI K) (nI q) (nI W) need most A K73 Q (k + 1) x 0 (nI (c + 1))) ∧ (¬ 0 < nI (q / 9 ^ c % 9) → wp_Model_plan_h87 (nI K) (nI q) (nI W) need most A K73 Q (k + 1) x 1 (nI (c + 1))))) ∧ (¬ nI W ≤ nI c → (vp_in (nI c) 4 ∧ ((need (nI c).toNatClampNeg < nI (q / 9 ^ c % 9) → wp_Model_plan_h87 (nI K) (nI q) (nI W) need most A K73 Q (k + 1) x 0 (nI (c + 1))) ∧ (¬ need (nI c).toNatClampNeg < nI (q / 9 ^ c % 9) → wp_Model_plan_h87 (nI K) (nI q) (nI W) need most A K73 Q (k + 1) x 1 (nI (c + 1))))))))) := by
        intro x k0 k1
        cases hb : cnF nd q c
        · exact ⟨fun _ => k0 (by rw [hb]; decide), fun h => absurd rfl h⟩
        · refine ⟨fun h => absurd h (by decide), fun _ => ⟨fun hw => ?_, fun hw => ⟨pu_inI (by omega) (by omega), ?_⟩⟩⟩
          · have hw' : W ≤ c := (pu_nle (by omega) (by omega)).mp hw
            rw [hnW c hw'] at k1
            refine ⟨fun h => k1 hb 0 ?_, fun h => k1 hb 1 ?_⟩
            · have := (pu_nlt (a := 0) (b := q / 9 ^ c % 9) (by omega) (by omega)).mp h
              rw [if_neg]; simp; omega
            · have : ¬ 0 < q / 9 ^ c % 9 := fun z => h ((pu_nlt (a := 0) (b := q / 9 ^ c % 9) (by omega) (by omega)).mpr z)
              rw [if_pos]; simp; omega
          · have hw' : c < W := by
              rcases Nat.lt_or_ge c W with z | z
              · exact z
              · exact absurd ((pu_nle (by omega) (by omega)).mpr z) hw
            obtain ⟨h1, h2⟩ := hn c hw'
            rw [nI_clamp (by omega), h1]
            refine ⟨fun h => k1 hb 0 ?_, fun h => k1 hb 1 ?_⟩
            · have := (pu_nlt (by omega) (by omega)).mp h
              rw [if_neg]; simp; omega
            · have : ¬ nd c < q / 9 ^ c % 9 := fun z => h ((pu_nlt (by omega) (by omega)).mpr z)
              rw [if_pos]; simp; omega
      refine ⟨fun h => hrest _ (fun hb => ?_) (fun hb z hz => ?_), fun h => hrest _ (fun hb => ?_) (fun hb z hz => ?_)⟩
      all_goals first | (have h9 : q / 9 ^ c % 9 ≤ 0 := (pu_nle (a := q / 9 ^ c % 9) (b := 0) (by omega) (by omega)).mp h) | (have h9 : ¬ q / 9 ^ c % 9 ≤ 0 := fun z => h ((pu_nle (a := q / 9 ^ c % 9) (b := 0) (by omega) (by omega)).mpr z))
      · rw [if_neg (by omega)] at ih
        simpa [hb] using ih
      · rw [if_neg (by omega), hb, Bool.true_and, ← hz] at ih
        exact ih
      · rw [if_pos (by omega), nI_succ] at ih
        simpa [hb] using ih
      · rw [if_pos (by omega), nI_succ, hb, Bool.true_and, ← hz] at ih
        exact ih
theorem pm_plan_h73 {A0 : Nat → Int32} {all : Nat} {th : Int32} (hW : W ≤ 4) (hK : K ≤ 8) (hall : all < 6561) (hnW : ∀ s, W ≤ s → nd s = 0) (hn : ∀ s, s < W → need s = nI (nd s) ∧ nd s ≤ 8) (ht : ∀ s, s < W → most s = nI (t s) ∧ t s ≤ 4) {Q : Int32 → Int32 → (Nat → Int32) → Prop}
    (hQ : Q (AF A0 nd t W K all all) th (AF A0 nd t W K all)) : ∀ k n, n + k = all → wp_Model_plan_h73 (nI K) (nI all) th (nI W) need most Q (k + 1) (nI (n + 1)) (AF A0 nd t W K n)
  | 0, n, e => by
    have e : n = all := by omega
    subst e
    rw [wp_Model_plan_h73, nI_clamp (by omega)]
    exact ⟨fun _ => ⟨pu_inI hall (by omega), hQ⟩, fun h => absurd ((pu_nlt (by omega) (by omega)).mpr (by omega)) h⟩
  | k + 1, n, e => by
    rw [wp_Model_plan_h73]
    refine ⟨fun h => ?_, fun _ => ⟨5, pm_plan_h87 (nd := nd) (t := t) hW hK (by omega) hnW hn ht (pm_plan_h73 hW hK hall hnW hn ht hQ k (n + 1) (by omega)) 4 0 (by omega)⟩⟩
    have := (pu_nlt (by omega) (by omega)).mp h; omega
/-- the state in which all is needed, by the first c ships -/
def alF (nd : Nat → Nat) : Nat → Nat
  | 0 => 0
  | c + 1 => alF nd c + nd c * 9 ^ c
theorem pm_plan_h36 {A0 : Nat → Int32} {th : Int32} (hW : W ≤ 4) (hn : ∀ s, s < W → need s = nI (nd s) ∧ nd s ≤ 8) {Q : Int32 → Int32 → (Nat → Int32) → Prop} (hQ : ∃ n', wp_Model_plan_h73 (nI K) (nI (alF nd W)) th (nI W) need most Q n' 1 (upd A0 0 0)) :
    ∀ k c, c + k = W → wp_Model_plan_h36 (nI K) th (nI W) need most A0 Q (k + 1) (nI (alF nd c)) (nI c)
  | 0, c, e => by
    have e : c = W := by omega
    subst e
    rw [wp_Model_plan_h36]
    exact ⟨fun _ => hQ, fun h => absurd (Int32.le_refl _) h⟩
  | k + 1, c, e => by
    have ih := pm_plan_h36 hW hn hQ k (c + 1) (by omega)
    rw [wp_Model_plan_h36]
    refine ⟨fun h => ?_, fun _ => ⟨pu_inI (by omega) (by omega), pm_power (by omega) ?_⟩⟩
    · have := (pu_nle (by omega) (by omega)).mp h; omega
    · rw [nI_clamp (by omega), (hn c (by omega)).1, pk_mul, nI_add, ← nI_succ]
      exact ih
end
theorem bF_low {A : Nat → Int32} {q K : Nat} {cap : Nat → Nat} {x0 x1 x2 x3 : Nat} (h0 : x0 ≤ cap 0) (h1 : x1 ≤ cap 1) (h2 : x2 ≤ cap 2) (h3 : x3 ≤ cap 3) (hs : x0 + x1 + x2 + x3 ≤ K) : bF A q cap 4 K q ≤ vl A q (q - x0 * 1 - x1 * 9 - x2 * 81 - x3 * 729) := by
  have a0 : bF A q cap 4 K q ≤ bF A q cap 3 (K - x0) (q - x0 * 1) := lp_le (fun k => bF A q cap 3 (K - k) (q - k * 1)) (min (cap 0) K + 1) x0 (by omega)
  have a1 : bF A q cap 3 (K - x0) (q - x0 * 1) ≤ bF A q cap 2 (K - x0 - x1) (q - x0 * 1 - x1 * 9) := lp_le (fun k => bF A q cap 2 (K - x0 - k) (q - x0 * 1 - k * 9)) (min (cap 1) (K - x0) + 1) x1 (by omega)
  have a2 : bF A q cap 2 (K - x0 - x1) (q - x0 * 1 - x1 * 9) ≤ bF A q cap 1 (K - x0 - x1 - x2) (q - x0 * 1 - x1 * 9 - x2 * 81) := lp_le (fun k => bF A q cap 1 (K - x0 - x1 - k) (q - x0 * 1 - x1 * 9 - k * 81)) (min (cap 2) (K - x0 - x1) + 1) x2 (by omega)
  have a3 : bF A q cap 1 (K - x0 - x1 - x2) (q - x0 * 1 - x1 * 9 - x2 * 81) ≤ vl A q (q - x0 * 1 - x1 * 9 - x2 * 81 - x3 * 729) := lp_le (fun k => vl A q (q - x0 * 1 - x1 * 9 - x2 * 81 - k * 729)) (min (cap 3) (K - x0 - x1 - x2) + 1) x3 (by omega)
  rw [pu_le] at *
  omega
theorem bF_att {A : Nat → Int32} {q K : Nat} {cap : Nat → Nat} : bF A q cap 4 K q = mxI ∨ ∃ x0 x1 x2 x3, x0 ≤ cap 0 ∧ x1 ≤ cap 1 ∧ x2 ≤ cap 2 ∧ x3 ≤ cap 3 ∧ x0 + x1 + x2 + x3 ≤ K ∧ bF A q cap 4 K q = vl A q (q - x0 * 1 - x1 * 9 - x2 * 81 - x3 * 729) := by
  rcases lp_ex (fun k => bF A q cap 3 (K - k) (q - k * 1)) (min (cap 0) K + 1) with h | ⟨x0, hx0, h⟩
  · exact Or.inl h
  have h : bF A q cap 4 K q = bF A q cap 3 (K - x0) (q - x0 * 1) := h
  rw [h]
  rcases lp_ex (fun k => bF A q cap 2 (K - x0 - k) (q - x0 * 1 - k * 9)) (min (cap 1) (K - x0) + 1) with g | ⟨x1, hx1, g⟩
  · exact Or.inl g
  have g : bF A q cap 3 (K - x0) (q - x0 * 1) = bF A q cap 2 (K - x0 - x1) (q - x0 * 1 - x1 * 9) := g
  rw [g]
  rcases lp_ex (fun k => bF A q cap 1 (K - x0 - x1 - k) (q - x0 * 1 - x1 * 9 - k * 81)) (min (cap 2) (K - x0 - x1) + 1) with f | ⟨x2, hx2, f⟩
  · exact Or.inl f
  have f : bF A q cap 2 (K - x0 - x1) (q - x0 * 1 - x1 * 9) = bF A q cap 1 (K - x0 - x1 - x2) (q - x0 * 1 - x1 * 9 - x2 * 81) := f
  rw [f]
  rcases lp_ex (fun k => vl A q (q - x0 * 1 - x1 * 9 - x2 * 81 - k * 729)) (min (cap 3) (K - x0 - x1 - x2) + 1) with e | ⟨x3, hx3, e⟩
  · exact Or.inl e
  exact Or.inr ⟨x0, x1, x2, x3, by omega, by omega, by omega, by omega, by omega, e⟩
section
variable {A0 : Nat → Int32} {nd t : Nat → Nat} {W K : Nat}
theorem AF_low : ∀ n p, p ≤ n → AF A0 nd t W K n p = AF A0 nd t W K p p
  | 0, p, h => by
    have : p = 0 := by omega
    subst this; rfl
  | n + 1, p, h => by
    rcases Nat.eq_or_lt_of_le h with e | e
    · subst e; rfl
    · rw [AF, pu_upd_ne (by omega)]
      exact AF_low n p (by omega)
theorem dg0 {a b c d : Nat} (ha : a ≤ 8) (hb : b ≤ 8) (hc : c ≤ 8) (hd : d ≤ 8) : en a b c d / 9 ^ 0 % 9 = a ∧ en a b c d / 9 ^ 1 % 9 = b ∧ en a b c d / 9 ^ 2 % 9 = c ∧ en a b c d / 9 ^ 3 % 9 = d := by
  have e0 : (9 : Nat) ^ 0 = 1 := rfl
  have e1 : (9 : Nat) ^ 1 = 9 := rfl
  have e2 : (9 : Nat) ^ 2 = 81 := rfl
  have e3 : (9 : Nat) ^ 3 = 729 := rfl
  rw [e0, e1, e2, e3]
  unfold en
  omega
theorem en_sub {a b c d x0 x1 x2 x3 : Nat} (h0 : x0 ≤ a) (h1 : x1 ≤ b) (h2 : x2 ≤ c) (h3 : x3 ≤ d) : en a b c d - x0 * 1 - x1 * 9 - x2 * 81 - x3 * 729 = en (a - x0) (b - x1) (c - x2) (d - x3) := by
  obtain ⟨a', rfl⟩ := Nat.exists_eq_add_of_le h0
  obtain ⟨b', rfl⟩ := Nat.exists_eq_add_of_le h1
  obtain ⟨c', rfl⟩ := Nat.exists_eq_add_of_le h2
  obtain ⟨d', rfl⟩ := Nat.exists_eq_add_of_le h3
  clear h0 h1 h2 h3
  rw [Nat.add_sub_cancel_left, Nat.add_sub_cancel_left, Nat.add_sub_cancel_left, Nat.add_sub_cancel_left, Nat.sub_sub, Nat.sub_sub, Nat.sub_sub]
  unfold en
  omega
theorem en_lt {a b c d x0 x1 x2 x3 : Nat} (h0 : x0 ≤ a) (h1 : x1 ≤ b) (h2 : x2 ≤ c) (h3 : x3 ≤ d) (hp : 0 < x0 + x1 + x2 + x3) : en (a - x0) (b - x1) (c - x2) (d - x3) < en a b c d := by
  obtain ⟨a', rfl⟩ := Nat.exists_eq_add_of_le h0
  obtain ⟨b', rfl⟩ := Nat.exists_eq_add_of_le h1
  obtain ⟨c', rfl⟩ := Nat.exists_eq_add_of_le h2
  obtain ⟨d', rfl⟩ := Nat.exists_eq_add_of_le h3
  clear h0 h1 h2 h3
  rw [Nat.add_sub_cancel_left, Nat.add_sub_cancel_left, Nat.add_sub_cancel_left, Nat.add_sub_cancel_left]
  unfold en
  omega
theorem AF_caps (hn8 : ∀ s, nd s ≤ 8) (hnW : ∀ s, W ≤ s → nd s = 0) {a b c d : Nat} (ha : a ≤ nd 0) (hb : b ≤ nd 1) (hc : c ≤ nd 2) (hd : d ≤ nd 3) :
    cpF W t (en a b c d) 0 = min a (t 0) ∧ cpF W t (en a b c d) 1 = min b (t 1) ∧ cpF W t (en a b c d) 2 = min c (t 2) ∧ cpF W t (en a b c d) 3 = min d (t 3) := by
  obtain ⟨g0, g1, g2, g3⟩ := dg0 (Nat.le_trans ha (hn8 0)) (Nat.le_trans hb (hn8 1)) (Nat.le_trans hc (hn8 2)) (Nat.le_trans hd (hn8 3))
  have hcap : ∀ s x, en a b c d / 9 ^ s % 9 = x → x ≤ nd s → cpF W t (en a b c d) s = min x (t s) := by
    intro s x hx hx2
    unfold cpF
    split
    · rw [hx]
    · rename_i hw
      have := hnW s (Nat.le_of_not_lt hw)
      rw [this] at hx2
      rw [Nat.le_zero.mp hx2, Nat.zero_min]
  exact ⟨hcap 0 a g0 ha, hcap 1 b g1 hb, hcap 2 c g2 hc, hcap 3 d g3 hd⟩
theorem AF_head (hn8 : ∀ s, nd s ≤ 8) {a b c d : Nat} (ha : a ≤ nd 0) (hb : b ≤ nd 1) (hc : c ≤ nd 2) (hd : d ≤ nd 3) (hp : 0 < a + b + c + d) :
    AF A0 nd t W K (en a b c d) (en a b c d) = nI (cnt4 a b c d) + bF (AF A0 nd t W K (en a b c d - 1)) (en a b c d) (cpF W t (en a b c d)) 4 K (en a b c d) := by
  obtain ⟨g0, g1, g2, g3⟩ := dg0 (Nat.le_trans ha (hn8 0)) (Nat.le_trans hb (hn8 1)) (Nat.le_trans hc (hn8 2)) (Nat.le_trans hd (hn8 3))
  have hcn : cnF nd (en a b c d) 4 = true := by
    simp only [cnF, g0, g1, g2, g3, decide_eq_true ha, decide_eq_true hb, decide_eq_true hc, decide_eq_true hd, Bool.and_self]
  have hct : ctF (en a b c d) 4 = cnt4 a b c d := by
    simp only [ctF, g0, g1, g2, g3, cnt4, Nat.zero_add]
  clear g0 g1 g2 g3
  have hq0 : en a b c d - 1 + 1 = en a b c d := by unfold en; omega
  have e : AF A0 nd t W K (en a b c d - 1 + 1) (en a b c d - 1 + 1) = nI (cnt4 a b c d) + bF (AF A0 nd t W K (en a b c d - 1)) (en a b c d) (cpF W t (en a b c d)) 4 K (en a b c d) := by
    rw [AF, pu_upd_same, hq0, hcn, hct]; rfl
  rw [hq0] at e
  exact e
theorem Snd_ex {t0 t1 t2 t3 a b c d : Nat} (hK1 : 1 ≤ K) (s0 : 0 < a → 1 ≤ t0) (s1 : 0 < b → 1 ≤ t1) (s2 : 0 < c → 1 ≤ t2) (s3 : 0 < d → 1 ≤ t3) (hp : 0 < a + b + c + d) : ∃ x0 x1 x2 x3, Snd t0 t1 t2 t3 K a b c d x0 x1 x2 x3 := by
  unfold Snd
  rcases Nat.eq_zero_or_pos a with z | z
  · rcases Nat.eq_zero_or_pos b with y | y
    · rcases Nat.eq_zero_or_pos c with x | x
      · exact ⟨0, 0, 0, 1, by omega⟩
      · exact ⟨0, 0, 1, 0, by omega⟩
    · exact ⟨0, 1, 0, 0, by omega⟩
  · exact ⟨1, 0, 0, 0, by omega⟩
theorem AF_step (hK1 : 1 ≤ K) (hn8 : ∀ s, nd s ≤ 8) (hnW : ∀ s, W ≤ s → nd s = 0) (ht1 : ∀ s, s < W → 1 ≤ t s) {a b c d : Nat} (ha : a ≤ nd 0) (hb : b ≤ nd 1) (hc : c ≤ nd 2) (hd : d ≤ nd 3) (hp : 0 < a + b + c + d) {U : Nat → Nat} (hU : ∀ p, p < en a b c d → U p ≤ 4 * p)
    (hA : ∀ a' b' c' d', a' ≤ a → b' ≤ b → c' ≤ c → d' ≤ d → en a' b' c' d' < en a b c d → AF A0 nd t W K (en a b c d - 1) (en a' b' c' d') = nI (U (en a' b' c' d'))) :
    ∃ v, AF A0 nd t W K (en a b c d) (en a b c d) = nI v ∧ v ≤ 4 * en a b c d ∧ (∀ x0 x1 x2 x3, Snd (t 0) (t 1) (t 2) (t 3) K a b c d x0 x1 x2 x3 → v ≤ cnt4 a b c d + U (en (a - x0) (b - x1) (c - x2) (d - x3))) ∧ (∃ x0 x1 x2 x3, Snd (t 0) (t 1) (t 2) (t 3) K a b c d x0 x1 x2 x3 ∧ v = cnt4 a b c d + U (en (a - x0) (b - x1) (c - x2) (d - x3))) := by
  have hbig : en a b c d < 6561 := by
    have n0 := hn8 0
    have n1 := hn8 1
    have n2 := hn8 2
    have n3 := hn8 3
    unfold en; omega
  obtain ⟨c0, c1, c2, c3⟩ := AF_caps (t := t) hn8 hnW ha hb hc hd
  have hval := AF_head (A0 := A0) (t := t) (W := W) (K := K) hn8 ha hb hc hd hp
  have htS : ∀ s, 0 < nd s → 1 ≤ t s := by
    intro s hs
    rcases Nat.lt_or_ge s W with z | z
    · exact ht1 s z
    · rw [hnW s z] at hs; omega
  obtain ⟨w0, w1, w2, w3, hw⟩ := Snd_ex (t0 := t 0) (t1 := t 1) (t2 := t 2) (t3 := t 3) hK1 (fun z => htS 0 (Nat.lt_of_lt_of_le z ha)) (fun z => htS 1 (Nat.lt_of_lt_of_le z hb)) (fun z => htS 2 (Nat.lt_of_lt_of_le z hc)) (fun z => htS 3 (Nat.lt_of_lt_of_le z hd)) hp
  clear htS ht1 hnW hn8 ha hb hc hd
  have htgt : ∀ x0 x1 x2 x3, Snd (t 0) (t 1) (t 2) (t 3) K a b c d x0 x1 x2 x3 → vl (AF A0 nd t W K (en a b c d - 1)) (en a b c d) (en a b c d - x0 * 1 - x1 * 9 - x2 * 81 - x3 * 729) = nI (U (en (a - x0) (b - x1) (c - x2) (d - x3))) ∧ en (a - x0) (b - x1) (c - x2) (d - x3) < en a b c d := by
    intro x0 x1 x2 x3 hx
    obtain ⟨⟨k0, -⟩, ⟨k1, -⟩, ⟨k2, -⟩, ⟨k3, -⟩, -, k5⟩ := hx
    have l := en_lt k0 k1 k2 k3 k5
    refine ⟨?_, l⟩
    rw [en_sub k0 k1 k2 k3, vl, if_neg (Nat.ne_of_lt l)]
    exact hA _ _ _ _ (Nat.sub_le _ _) (Nat.sub_le _ _) (Nat.sub_le _ _) (Nat.sub_le _ _) l
  generalize hB : bF (AF A0 nd t W K (en a b c d - 1)) (en a b c d) (cpF W t (en a b c d)) 4 K (en a b c d) = B at hval
  have hlow : ∀ x0 x1 x2 x3, Snd (t 0) (t 1) (t 2) (t 3) K a b c d x0 x1 x2 x3 → B ≤ nI (U (en (a - x0) (b - x1) (c - x2) (d - x3))) := by
    intro x0 x1 x2 x3 hx
    rw [← (htgt x0 x1 x2 x3 hx).1, ← hB]
    obtain ⟨⟨k0, m0⟩, ⟨k1, m1⟩, ⟨k2, m2⟩, ⟨k3, m3⟩, k4, -⟩ := hx
    exact bF_low (by rw [c0]; exact Nat.le_min.mpr ⟨k0, m0⟩) (by rw [c1]; exact Nat.le_min.mpr ⟨k1, m1⟩) (by rw [c2]; exact Nat.le_min.mpr ⟨k2, m2⟩) (by rw [c3]; exact Nat.le_min.mpr ⟨k3, m3⟩) k4
  have hwl := hlow w0 w1 w2 w3 hw
  have hwlt := (htgt w0 w1 w2 w3 hw).2
  have hwu := hU _ hwlt
  have c4 := cnt4_le a b c d
  have hWB : U (en (a - w0) (b - w1) (c - w2) (d - w3)) < 2 ^ 30 := by
    generalize en (a - w0) (b - w1) (c - w2) (d - w3) = z at hwu hwlt
    omega
  rcases bF_att (A := AF A0 nd t W K (en a b c d - 1)) (q := en a b c d) (K := K) (cap := cpF W t (en a b c d)) with z | ⟨x0, x1, x2, x3, k0, k1, k2, k3, k4, k5⟩
  · rw [hB] at z
    rw [z] at hwl
    exact absurd hwl (mxI_nle hWB)
  · rw [hB] at k5
    rw [c0] at k0; rw [c1] at k1; rw [c2] at k2; rw [c3] at k3
    rcases Nat.eq_zero_or_pos (x0 + x1 + x2 + x3) with y | y
    · have y0 : x0 = 0 := by omega
      have y1 : x1 = 0 := by omega
      have y2 : x2 = 0 := by omega
      have y3 : x3 = 0 := by omega
      rw [y0, y1, y2, y3, vl, if_pos (by omega)] at k5
      rw [k5] at hwl
      exact absurd hwl (mxI_nle hWB)
    · have hx : Snd (t 0) (t 1) (t 2) (t 3) K a b c d x0 x1 x2 x3 := ⟨Nat.le_min.mp k0, Nat.le_min.mp k1, Nat.le_min.mp k2, Nat.le_min.mp k3, k4, y⟩
      obtain ⟨e1, e2⟩ := htgt x0 x1 x2 x3 hx
      rw [e1] at k5
      have hu := hU _ e2
      refine ⟨cnt4 a b c d + U (en (a - x0) (b - x1) (c - x2) (d - x3)), by rw [hval, k5, nI_add], ?_, fun y0 y1 y2 y3 hy => ?_, ⟨x0, x1, x2, x3, hx, rfl⟩⟩
      · generalize en (a - x0) (b - x1) (c - x2) (d - x3) = z at hu e2
        omega
      · have hl := hlow y0 y1 y2 y3 hy
        have hl2 := (htgt y0 y1 y2 y3 hy).2
        have hu2 := hU _ hl2
        rw [k5] at hl
        generalize en (a - x0) (b - x1) (c - x2) (d - x3) = z at hu e2 hl
        generalize en (a - y0) (b - y1) (c - y2) (d - y3) = z2 at hu2 hl hl2
        have := (pu_nle (by omega) (by omega)).mp hl
        omega
theorem AF_val (hK1 : 1 ≤ K) (hn8 : ∀ s, nd s ≤ 8) (hnW : ∀ s, W ≤ s → nd s = 0) (ht1 : ∀ s, s < W → 1 ≤ t s) : ∀ n a b c d, en a b c d ≤ n → a ≤ nd 0 → b ≤ nd 1 → c ≤ nd 2 → d ≤ nd 3 → ∃ v, AF A0 nd t W K (en a b c d) (en a b c d) = nI v ∧ v ≤ 4 * en a b c d := by
  intro n
  induction n with
  | zero =>
    intro a b c d h h0 h1 h2 h3
    have z0 : a = 0 := by unfold en at h; omega
    have z1 : b = 0 := by unfold en at h; omega
    have z2 : c = 0 := by unfold en at h; omega
    have z3 : d = 0 := by unfold en at h; omega
    subst z0; subst z1; subst z2; subst z3
    exact ⟨0, by show upd A0 0 0 0 = nI 0; rw [pu_upd_same]; rfl, Nat.zero_le _⟩
  | succ n ih =>
    intro a b c d h h0 h1 h2 h3
    rcases Nat.eq_zero_or_pos (a + b + c + d) with z | z
    · exact ih a b c d (by unfold en; omega) h0 h1 h2 h3
    · have hbig : en a b c d < 6561 := by
        have n0 := hn8 0
        have n1 := hn8 1
        have n2 := hn8 2
        have n3 := hn8 3
        unfold en; omega
      obtain ⟨v, hv, hv2, -⟩ := AF_step (A0 := A0) hK1 hn8 hnW ht1 h0 h1 h2 h3 z (U := fun p => if (AF A0 nd t W K p p).toNatClampNeg ≤ 4 * p then (AF A0 nd t W K p p).toNatClampNeg else 0) (fun p hp => by
        show (if (AF A0 nd t W K p p).toNatClampNeg ≤ 4 * p then (AF A0 nd t W K p p).toNatClampNeg else 0) ≤ 4 * p
        split
        · assumption
        · exact Nat.zero_le _) (fun a' b' c' d' k0 k1 k2 k3 k4 => by
        obtain ⟨v, hv, hv2⟩ := ih a' b' c' d' (by omega) (by omega) (by omega) (by omega) (by omega)
        rw [AF_low (en a b c d - 1) (en a' b' c' d') (by omega)]
        show AF A0 nd t W K (en a' b' c' d') (en a' b' c' d') = nI (if (AF A0 nd t W K (en a' b' c' d') (en a' b' c' d')).toNatClampNeg ≤ 4 * en a' b' c' d' then (AF A0 nd t W K (en a' b' c' d') (en a' b' c' d')).toNatClampNeg else 0)
        rw [hv, nI_clamp (by omega), if_pos hv2])
      exact ⟨v, hv, hv2⟩
theorem AF_BE (hK1 : 1 ≤ K) (hn8 : ∀ s, nd s ≤ 8) (hnW : ∀ s, W ≤ s → nd s = 0) (ht1 : ∀ s, s < W → 1 ≤ t s) : BE (t 0) (t 1) (t 2) (t 3) K (nd 0) (nd 1) (nd 2) (nd 3) (fun a b c d => (AF A0 nd t W K (en a b c d) (en a b c d)).toNatClampNeg) := by
  refine ⟨?_, fun a b c d h0 h1 h2 h3 hp => ?_⟩
  · show (upd A0 0 0 0).toNatClampNeg = 0
    rw [pu_upd_same]; rfl
  · have hbig : en a b c d < 6561 := by
      have n0 := hn8 0
      have n1 := hn8 1
      have n2 := hn8 2
      have n3 := hn8 3
      unfold en; omega
    obtain ⟨v, hv, hv2, hle, hex⟩ := AF_step (A0 := A0) hK1 hn8 hnW ht1 h0 h1 h2 h3 hp (U := fun p => if (AF A0 nd t W K p p).toNatClampNeg ≤ 4 * p then (AF A0 nd t W K p p).toNatClampNeg else 0) (fun p hp => by
        show (if (AF A0 nd t W K p p).toNatClampNeg ≤ 4 * p then (AF A0 nd t W K p p).toNatClampNeg else 0) ≤ 4 * p
        split
        · assumption
        · exact Nat.zero_le _) (fun a' b' c' d' k0 k1 k2 k3 k4 => by
        obtain ⟨v, hv, hv2⟩ := AF_val (A0 := A0) hK1 hn8 hnW ht1 (en a b c d) a' b' c' d' (by omega) (by omega) (by omega) (by omega) (by omega)
        rw [AF_low (en a b c d - 1) (en a' b' c' d') (by omega)]
        show AF A0 nd t W K (en a' b' c' d') (en a' b' c' d') = nI (if (AF A0 nd t W K (en a' b' c' d') (en a' b' c' d')).toNatClampNeg ≤ 4 * en a' b' c' d' then (AF A0 nd t W K (en a' b' c' d') (en a' b' c' d')).toNatClampNeg else 0)
        rw [hv, nI_clamp (by omega), if_pos hv2])
    have hUv : ∀ x0 x1 x2 x3, Snd (t 0) (t 1) (t 2) (t 3) K a b c d x0 x1 x2 x3 → (if (AF A0 nd t W K (en (a - x0) (b - x1) (c - x2) (d - x3)) (en (a - x0) (b - x1) (c - x2) (d - x3))).toNatClampNeg ≤ 4 * en (a - x0) (b - x1) (c - x2) (d - x3) then (AF A0 nd t W K (en (a - x0) (b - x1) (c - x2) (d - x3)) (en (a - x0) (b - x1) (c - x2) (d - x3))).toNatClampNeg else 0) = (AF A0 nd t W K (en (a - x0) (b - x1) (c - x2) (d - x3)) (en (a - x0) (b - x1) (c - x2) (d - x3))).toNatClampNeg := by
      intro x0 x1 x2 x3 hx
      obtain ⟨⟨k0, -⟩, ⟨k1, -⟩, ⟨k2, -⟩, ⟨k3, -⟩, -, k5⟩ := hx
      have hlt := en_lt k0 k1 k2 k3 k5
      obtain ⟨v, hv, hv2⟩ := AF_val (A0 := A0) hK1 hn8 hnW ht1 (en a b c d) (a - x0) (b - x1) (c - x2) (d - x3) (Nat.le_of_lt hlt) (Nat.le_trans (Nat.sub_le _ _) h0) (Nat.le_trans (Nat.sub_le _ _) h1) (Nat.le_trans (Nat.sub_le _ _) h2) (Nat.le_trans (Nat.sub_le _ _) h3)
      have hvb : v < 2 ^ 31 := by
        generalize en (a - x0) (b - x1) (c - x2) (d - x3) = z at hv2 hlt
        omega
      rw [hv, nI_clamp hvb, if_pos hv2]
    refine ⟨fun x0 x1 x2 x3 hx => ?_, ?_⟩
    · show (AF A0 nd t W K (en a b c d) (en a b c d)).toNatClampNeg ≤ _
      rw [hv, nI_clamp (by omega)]
      have := hle x0 x1 x2 x3 hx
      rw [hUv x0 x1 x2 x3 hx] at this
      exact this
    · obtain ⟨x0, x1, x2, x3, hx, e⟩ := hex
      refine ⟨x0, x1, x2, x3, hx, ?_⟩
      show (AF A0 nd t W K (en a b c d) (en a b c d)).toNatClampNeg = _
      rw [hv, nI_clamp (by omega)]
      rw [hUv x0 x1 x2 x3 hx] at e
      exact e
end
theorem alF_en {nd : Nat → Nat} {W : Nat} (hW : W ≤ 4) (hnW : ∀ s, W ≤ s → nd s = 0) : alF nd W = en (nd 0) (nd 1) (nd 2) (nd 3) := by
  have e0 : (9 : Nat) ^ 0 = 1 := rfl
  have e1 : (9 : Nat) ^ 1 = 9 := rfl
  have e2 : (9 : Nat) ^ 2 = 81 := rfl
  have e3 : (9 : Nat) ^ 3 = 729 := rfl
  have h4 : alF nd 4 = en (nd 0) (nd 1) (nd 2) (nd 3) := by
    simp only [alF, e0, e1, e2, e3]; unfold en; omega
  rw [← h4]
  have h : ∀ k c, W ≤ c → c + k = 4 → alF nd c = alF nd 4 := by
    intro k
    induction k with
    | zero => intro c _ e; rw [show c = 4 by omega]
    | succ k ih =>
      intro c h1 h2
      have := ih (c + 1) (by omega) (by omega)
      rw [← this, alF, hnW c h1]
      omega
  exact h (4 - W) W (Nat.le_refl _) (by omega)
theorem pm_plan {need most least : Nat → Int32} {nd t : Nat → Nat} {W K : Nat} (hW : W ≤ 4) (hK1 : 1 ≤ K) (hK : K ≤ 8) (hn8 : ∀ s, nd s ≤ 8) (hnW : ∀ s, W ≤ s → nd s = 0) (hn : ∀ s, s < W → need s = nI (nd s)) (ht : ∀ s, s < W → most s = nI (t s) ∧ 1 ≤ t s ∧ t s ≤ 4) :
    ∃ V, BE (t 0) (t 1) (t 2) (t 3) K (nd 0) (nd 1) (nd 2) (nd 3) V ∧ ∀ Q : Int32 → Int32 → (Nat → Int32) → Prop, (∀ least', Q (nI (V (nd 0) (nd 1) (nd 2) (nd 3))) 0 least') → wp_Model_plan (nI W) need most least (nI K) Q := by
  refine ⟨_, AF_BE (A0 := least) hK1 hn8 hnW (fun s hs => (ht s hs).2.1), fun Q hQ => ?_⟩
  have n0 := hn8 0
  have n1 := hn8 1
  have n2 := hn8 2
  have n3 := hn8 3
  have hbig : en (nd 0) (nd 1) (nd 2) (nd 3) < 6561 := by unfold en; omega
  unfold wp_Model_plan
  rw [pm_in (nI K) 1 8 (A := 1) (B := 8) rfl rfl]
  have k1 : ¬ nI K < 1 := fun h => by have := (pu_nlt (a := K) (b := 1) (by omega) (by omega)).mp h; omega
  have k2 : nI K ≤ 8 := (pu_nle (a := K) (b := 8) (by omega) (by omega)).mpr hK
  simp only [k1, k2, pm_th0, p10, not_true, not_false_iff, false_implies, true_implies, true_and, and_true, if_true, if_false]
  refine ⟨W + 1, pm_plan_h36 (nd := nd) hW (fun s hs => ⟨hn s hs, hn8 s⟩) ?_ W 0 (by omega)⟩
  rw [alF_en hW hnW]
  refine ⟨en (nd 0) (nd 1) (nd 2) (nd 3) + 1, pm_plan_h73 (A0 := least) (nd := nd) (t := t) hW hK hbig hnW (fun s hs => ⟨hn s hs, hn8 s⟩) (fun s hs => ⟨(ht s hs).1, (ht s hs).2.2⟩) ?_ _ 0 (by omega)⟩
  obtain ⟨v, hv, hv2⟩ := AF_val (A0 := least) (t := t) hK1 hn8 hnW (fun s hs => (ht s hs).2.1) (en (nd 0) (nd 1) (nd 2) (nd 3)) (nd 0) (nd 1) (nd 2) (nd 3) (Nat.le_refl _) (Nat.le_refl _) (Nat.le_refl _) (Nat.le_refl _) (Nat.le_refl _)
  have := hQ (AF least nd t W K (en (nd 0) (nd 1) (nd 2) (nd 3)))
  rw [hv, nI_clamp (by omega)] at this
  rw [hv]
  exact this
