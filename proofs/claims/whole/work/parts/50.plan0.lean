/-! The plan: the least waiting, by what one call's sending leaves. -/
def cnt4 (a b c d : Nat) : Nat := (if 0 < a then 1 else 0) + (if 0 < b then 1 else 0) + (if 0 < c then 1 else 0) + (if 0 < d then 1 else 0)
/-- gangs sent at one call -/
def Snd (t0 t1 t2 t3 K a b c d x0 x1 x2 x3 : Nat) : Prop := (x0 ≤ a ∧ x0 ≤ t0) ∧ (x1 ≤ b ∧ x1 ≤ t1) ∧ (x2 ≤ c ∧ x2 ≤ t2) ∧ (x3 ≤ d ∧ x3 ≤ t3) ∧ x0 + x1 + x2 + x3 ≤ K ∧ 0 < x0 + x1 + x2 + x3
/-- V is the least waiting of what is needed yet -/
def BE (t0 t1 t2 t3 K n0 n1 n2 n3 : Nat) (V : Nat → Nat → Nat → Nat → Nat) : Prop := V 0 0 0 0 = 0 ∧ ∀ a b c d, a ≤ n0 → b ≤ n1 → c ≤ n2 → d ≤ n3 → 0 < a + b + c + d →
  (∀ x0 x1 x2 x3, Snd t0 t1 t2 t3 K a b c d x0 x1 x2 x3 → V a b c d ≤ cnt4 a b c d + V (a - x0) (b - x1) (c - x2) (d - x3)) ∧ (∃ x0 x1 x2 x3, Snd t0 t1 t2 t3 K a b c d x0 x1 x2 x3 ∧ V a b c d = cnt4 a b c d + V (a - x0) (b - x1) (c - x2) (d - x3))
theorem cnt4_le (a b c d : Nat) : cnt4 a b c d ≤ 4 := by
  unfold cnt4
  repeat' split
  all_goals omega
theorem cnt4_mono {a b c d a' b' c' d' : Nat} (h0 : a' ≤ a) (h1 : b' ≤ b) (h2 : c' ≤ c) (h3 : d' ≤ d) : cnt4 a' b' c' d' ≤ cnt4 a b c d := by
  have e : ∀ x y : Nat, x ≤ y → (if 0 < x then 1 else 0 : Nat) ≤ (if 0 < y then 1 else 0) := by
    intro x y h
    split <;> split <;> omega
  unfold cnt4
  have := e _ _ h0
  have := e _ _ h1
  have := e _ _ h2
  have := e _ _ h3
  omega
section
variable {t0 t1 t2 t3 K n0 n1 n2 n3 : Nat} {V V' : Nat → Nat → Nat → Nat → Nat}
theorem BE.bound (h : BE t0 t1 t2 t3 K n0 n1 n2 n3 V) : ∀ n a b c d, a + b + c + d ≤ n → a ≤ n0 → b ≤ n1 → c ≤ n2 → d ≤ n3 → V a b c d ≤ 4 * (a + b + c + d)
  | 0, a, b, c, d, hn, _, _, _, _ => by
    have e0 : a = 0 := by omega
    have e1 : b = 0 := by omega
    have e2 : c = 0 := by omega
    have e3 : d = 0 := by omega
    subst e0; subst e1; subst e2; subst e3
    rw [h.1]; omega
  | n + 1, a, b, c, d, hn, g0, g1, g2, g3 => by
    rcases Nat.eq_zero_or_pos (a + b + c + d) with z | z
    · exact BE.bound h n a b c d (by omega) g0 g1 g2 g3
    · obtain ⟨-, x0, x1, x2, x3, hx, hv⟩ := h.2 a b c d g0 g1 g2 g3 z
      unfold Snd at hx
      have := BE.bound h n (a - x0) (b - x1) (c - x2) (d - x3) (by omega) (by omega) (by omega) (by omega) (by omega)
      have := cnt4_le a b c d
      omega
theorem BE.mono (h : BE t0 t1 t2 t3 K n0 n1 n2 n3 V) : ∀ n a b c d a' b' c' d', a + b + c + d ≤ n → a ≤ n0 → b ≤ n1 → c ≤ n2 → d ≤ n3 → a' ≤ a → b' ≤ b → c' ≤ c → d' ≤ d → V a' b' c' d' ≤ V a b c d
  | 0, a, b, c, d, a', b', c', d', hn, _, _, _, _, h0, h1, h2, h3 => by
    have e0 : a = a' := by omega
    have e1 : b = b' := by omega
    have e2 : c = c' := by omega
    have e3 : d = d' := by omega
    subst e0; subst e1; subst e2; subst e3
    exact Nat.le_refl _
  | n + 1, a, b, c, d, a', b', c', d', hn, g0, g1, g2, g3, h0, h1, h2, h3 => by
    rcases Nat.eq_zero_or_pos (a' + b' + c' + d') with z | z
    · have e0 : a' = 0 := by omega
      have e1 : b' = 0 := by omega
      have e2 : c' = 0 := by omega
      have e3 : d' = 0 := by omega
      subst e0; subst e1; subst e2; subst e3
      rw [h.1]; exact Nat.zero_le _
    · obtain ⟨-, x0, x1, x2, x3, hx, hv⟩ := h.2 a b c d g0 g1 g2 g3 (by omega)
      unfold Snd at hx
      rw [hv]
      rcases Nat.eq_zero_or_pos (min x0 a' + min x1 b' + min x2 c' + min x3 d') with y | y
      · have := BE.mono h n (a - x0) (b - x1) (c - x2) (d - x3) a' b' c' d' (by omega) (by omega) (by omega) (by omega) (by omega) (by omega) (by omega) (by omega) (by omega)
        omega
      · have h5 := (h.2 a' b' c' d' (by omega) (by omega) (by omega) (by omega) z).1 (min x0 a') (min x1 b') (min x2 c') (min x3 d') (by unfold Snd; omega)
        have h6 := BE.mono h n (a - x0) (b - x1) (c - x2) (d - x3) (a' - min x0 a') (b' - min x1 b') (c' - min x2 c') (d' - min x3 d') (by omega) (by omega) (by omega) (by omega) (by omega) (by omega) (by omega) (by omega) (by omega)
        have h7 := cnt4_mono h0 h1 h2 h3
        omega
/-- a sending of as many as can be sent is among the best -/
theorem BE.full (h : BE t0 t1 t2 t3 K n0 n1 n2 n3 V) {a b c d : Nat} (g0 : a ≤ n0) (g1 : b ≤ n1) (g2 : c ≤ n2) (g3 : d ≤ n3) (hp : 0 < a + b + c + d) : ∃ y0 y1 y2 y3, Snd t0 t1 t2 t3 K a b c d y0 y1 y2 y3 ∧ y0 + y1 + y2 + y3 = min K (min t0 a + min t1 b + min t2 c + min t3 d) ∧ V a b c d = cnt4 a b c d + V (a - y0) (b - y1) (c - y2) (d - y3) := by
  obtain ⟨hle, x0, x1, x2, x3, hx, hv⟩ := h.2 a b c d g0 g1 g2 g3 hp
  unfold Snd at hx
  have key : ∃ y0 y1 y2 y3, x0 ≤ y0 ∧ x1 ≤ y1 ∧ x2 ≤ y2 ∧ x3 ≤ y3 ∧ y0 ≤ min t0 a ∧ y1 ≤ min t1 b ∧ y2 ≤ min t2 c ∧ y3 ≤ min t3 d ∧ y0 + y1 + y2 + y3 = min K (min t0 a + min t1 b + min t2 c + min t3 d) := by
    generalize hr : min K (min t0 a + min t1 b + min t2 c + min t3 d) - (x0 + x1 + x2 + x3) = R
    refine ⟨x0 + min (min t0 a - x0) R, x1 + min (min t1 b - x1) (R - (min t0 a - x0)), x2 + min (min t2 c - x2) (R - (min t0 a - x0) - (min t1 b - x1)), x3 + min (min t3 d - x3) (R - (min t0 a - x0) - (min t1 b - x1) - (min t2 c - x2)), by omega, by omega, by omega, by omega, by omega, by omega, by omega, by omega, by omega⟩
  obtain ⟨y0, y1, y2, y3, k0, k1, k2, k3, m0, m1, m2, m3, hs⟩ := key
  have hsy : Snd t0 t1 t2 t3 K a b c d y0 y1 y2 y3 := by unfold Snd; omega
  refine ⟨y0, y1, y2, y3, hsy, hs, ?_⟩
  have h1 := hle y0 y1 y2 y3 hsy
  have h2 := h.mono (a + b + c + d) (a - x0) (b - x1) (c - x2) (d - x3) (a - y0) (b - y1) (c - y2) (d - y3) (by omega) (by omega) (by omega) (by omega) (by omega) (by omega) (by omega) (by omega) (by omega)
  omega
theorem BE.uniq (h : BE t0 t1 t2 t3 K n0 n1 n2 n3 V) (h' : BE t0 t1 t2 t3 K n0 n1 n2 n3 V') : ∀ n a b c d, a + b + c + d ≤ n → a ≤ n0 → b ≤ n1 → c ≤ n2 → d ≤ n3 → V a b c d = V' a b c d
  | 0, a, b, c, d, hn, _, _, _, _ => by
    have e0 : a = 0 := by omega
    have e1 : b = 0 := by omega
    have e2 : c = 0 := by omega
    have e3 : d = 0 := by omega
    subst e0; subst e1; subst e2; subst e3
    rw [h.1, h'.1]
  | n + 1, a, b, c, d, hn, g0, g1, g2, g3 => by
    rcases Nat.eq_zero_or_pos (a + b + c + d) with z | z
    · exact BE.uniq h h' n a b c d (by omega) g0 g1 g2 g3
    · obtain ⟨l1, x0, x1, x2, x3, hx, hv⟩ := h.2 a b c d g0 g1 g2 g3 z
      obtain ⟨l2, y0, y1, y2, y3, hy, hv2⟩ := h'.2 a b c d g0 g1 g2 g3 z
      have k1 := l1 y0 y1 y2 y3 hy
      have k2 := l2 x0 x1 x2 x3 hx
      unfold Snd at hx hy
      have u1 := BE.uniq h h' n (a - x0) (b - x1) (c - x2) (d - x3) (by omega) (by omega) (by omega) (by omega) (by omega)
      have u2 := BE.uniq h h' n (a - y0) (b - y1) (c - y2) (d - y3) (by omega) (by omega) (by omega) (by omega) (by omega)
      omega
end
