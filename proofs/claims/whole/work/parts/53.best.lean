/-! The plan in the model: the best of all sendings, ship by ship. -/
/-- what a sending leaves: its least waiting; none where nothing was sent -/
def vl (A : Nat → Int32) (q m : Nat) : Int32 := if m = q then mxI else A m
/-- the least of the first n -/
def lp (f : Nat → Int32) : Nat → Int32
  | 0 => mxI
  | n + 1 => if f n < lp f n then f n else lp f n
def bF (A : Nat → Int32) (q : Nat) (cap : Nat → Nat) : Nat → Nat → Nat → Int32
  | 0, _, m => vl A q m
  | j + 1, r, m => lp (fun k => bF A q cap j (r - k) (m - k * 9 ^ (3 - j))) (min (cap (3 - j)) r + 1)
theorem lp_le (f : Nat → Int32) : ∀ n k, k < n → lp f n ≤ f k
  | 0, k, h => absurd h (Nat.not_lt_zero k)
  | n + 1, k, h => by
    rw [lp]
    rcases Nat.eq_or_lt_of_le (Nat.le_of_lt_succ h) with e | e
    · subst e
      split
      · exact Int32.le_refl _
      · rename_i h1
        rw [pu_lt] at h1; rw [pu_le]; omega
    · have := lp_le f n k e
      split
      · rename_i h1
        rw [pu_lt] at h1; rw [pu_le] at this ⊢; omega
      · exact this
theorem lp_ex (f : Nat → Int32) : ∀ n, lp f n = mxI ∨ ∃ k, k < n ∧ lp f n = f k
  | 0 => Or.inl rfl
  | n + 1 => by
    rw [lp]
    split
    · exact Or.inr ⟨n, by omega, rfl⟩
    · rcases lp_ex f n with h | ⟨k, hk, h⟩
      · exact Or.inl h
      · exact Or.inr ⟨k, by omega, h⟩
theorem pm_power {s : Nat} (hs : s < 4) {Q : Int32 → Prop} (hQ : Q (nI (9 ^ s))) : wp_Model_power (nI s) Q := by
  unfold wp_Model_power
  rcases Nat.eq_or_lt_of_le (show s ≤ 3 by omega) with e | e
  · subst e
    exact ⟨fun h => absurd h (by decide), fun _ => ⟨fun h => absurd h (by decide), fun _ => ⟨fun h => absurd h (by decide), fun _ => hQ⟩⟩⟩
  rcases Nat.eq_or_lt_of_le (show s ≤ 2 by omega) with e | e
  · subst e
    exact ⟨fun h => absurd h (by decide), fun _ => ⟨fun h => absurd h (by decide), fun _ => ⟨fun _ => hQ, fun h => absurd (show nI 2 = 2 by decide) h⟩⟩⟩
  rcases Nat.eq_or_lt_of_le (show s ≤ 1 by omega) with e | e
  · subst e
    exact ⟨fun h => absurd h (by decide), fun _ => ⟨fun _ => hQ, fun h => absurd (show nI 1 = 1 by decide) h⟩⟩
  have e : s = 0 := by omega
  subst e
  exact ⟨fun _ => hQ, fun h => absurd (show nI 0 = 0 by decide) h⟩
theorem pm_best0 {A most : Nat → Int32} {W q m : Nat} {p2 : Int32} (hm : m < 6561) (hq : q < 6561) {Q : Int32 → Prop} (hQ : Q (vl A q m)) : wp_Model_best0 (nI W) most A (nI q) (nI 4) p2 (nI m) Q := by
  unfold wp_Model_best0
  refine ⟨fun _ => ⟨fun h => ?_, fun h => ⟨pu_inI hm (by omega), ?_⟩⟩, fun h => absurd (show nI 4 = 4 by decide) h⟩
  · have e := (pu_neq (by omega) (by omega)).mp h
    rw [vl, if_pos e] at hQ
    exact hQ
  · rw [vl, if_neg (fun e => h (by rw [e]))] at hQ
    rw [nI_clamp (by omega)]
    exact hQ
theorem pm_best1_h56 {A most : Nat → Int32} {W q r m : Nat} {v5 : Int32} {cap : Nat → Nat} (hW : W ≤ 4) (hq : q < 6561) (hm : m < 6561) (hr : r ≤ 8) (hlow : q / 729 * 729 ≤ m) (hc8 : cap 3 ≤ q / 729 % 9)
    (hcap : ∀ k, k ≤ 9 → ((W ≤ 3 → ((v5 < nI k ∨ 0 < k) ↔ cap 3 < k)) ∧ (3 < W → ((v5 < nI k ∨ most 3 < nI k) ↔ cap 3 < k))))
    (hin : ∀ k (Q : Int32 → Prop), k ≤ cap 3 → k ≤ r → Q (bF A q cap 0 (r - k) (m - k * 729)) → wp_Model_best0 (nI W) most A (nI q) (nI (3 + 1)) (nI (r - k)) (nI (m - k * 729)) Q) {Q : Int32 → Prop} (hQ : Q (bF A q cap 1 r m)) :
    ∀ k c, c + k = min (cap 3) r + 1 → wp_Model_best1_h56 (nI q) (nI 3) (nI r) (nI m) v5 (nI W) most A Q (k + 1) (lp (fun k => bF A q cap 0 (r - k) (m - k * 729)) c) (nI c)
  | 0, c, e => by
    have hQ' : Q (lp (fun k => bF A q cap 0 (r - k) (m - k * 729)) c) := by rw [show c = min (cap 3) r + 1 by omega]; exact hQ
    obtain ⟨hc1, hc2⟩ := hcap c (by omega)
    rw [wp_Model_best1_h56]
    refine ⟨fun _ => hQ', fun h1 => ⟨fun _ => hQ', fun h2 => ?_⟩⟩
    have hrc : ¬ r < c := fun z => h2 ((pu_nlt (by omega) (by omega)).mpr z)
    have hcc : cap 3 < c := by omega
    refine ⟨fun hw => ?_, fun hw => ?_⟩
    · have hw' : W ≤ 3 := (pu_nle (by omega) (by omega)).mp hw
      refine ⟨fun _ => hQ', fun h3 => ?_⟩
      rcases (hc1 hw').mpr hcc with z | z
      · exact absurd z h1
      · exact absurd ((pu_nlt (a := 0) (b := c) (by omega) (by omega)).mpr z) h3
    · have hw' : 3 < W := by
        rcases Nat.lt_or_ge 3 W with z | z
        · exact z
        · exact absurd ((pu_nle (by omega) (by omega)).mpr z) hw
      refine ⟨pu_inI (by omega) (by omega), fun _ => hQ', fun h3 => ?_⟩
      rw [nI_clamp (by omega)] at h3
      rcases (hc2 hw').mpr hcc with z | z
      · exact absurd z h1
      · exact absurd z h3
  | k + 1, c, e => by
    have ih := pm_best1_h56 hW hq hm hr hlow hc8 hcap hin hQ k (c + 1) (by omega)
    have hcm : c * 729 ≤ m := by
      have h9 : c ≤ q / 729 := by omega
      exact Nat.le_trans (Nat.mul_le_mul_right 729 h9) hlow
    obtain ⟨hc1, hc2⟩ := hcap c (by omega)
    have hncc : ¬ cap 3 < c := by omega
    have go : wp_Model_power (nI 3) (fun r_1 => wp_Model_best0 (nI W) most A (nI q) (nI 3 + 1) (nI r - nI c) (nI m - (nI c * r_1)) (fun r_2 => wp_Model_best1_h56 (nI q) (nI 3) (nI r) (nI m) v5 (nI W) most A Q (k + 1) (if r_2 < lp (fun k => bF A q cap 0 (r - k) (m - k * 729)) c then r_2 else lp (fun k => bF A q cap 0 (r - k) (m - k * 729)) c) (nI c + 1))) := by
      refine pm_power (by omega) ?_
      show wp_Model_best0 (nI W) most A (nI q) (nI 3 + 1) (nI r - nI c) (nI m - (nI c * nI 729)) _
      rw [pk_mul, pk_sub (show c ≤ r by omega), pk_sub hcm, ← nI_succ, ← nI_succ]
      refine hin c _ (by omega) (by omega) ?_
      rw [lp] at ih
      exact ih
    rw [wp_Model_best1_h56]
    refine ⟨fun h1 => ?_, fun h1 => ⟨fun h2 => ?_, fun h2 => ⟨fun hw => ?_, fun hw => ?_⟩⟩⟩
    · exfalso
      rcases Nat.lt_or_ge 3 W with z | z
      · exact hncc ((hc2 z).mp (Or.inl h1))
      · exact hncc ((hc1 z).mp (Or.inl h1))
    · have := (pu_nlt (by omega) (by omega)).mp h2; omega
    · have hw' : W ≤ 3 := (pu_nle (by omega) (by omega)).mp hw
      refine ⟨fun h3 => ?_, fun _ => go⟩
      exact absurd ((hc1 hw').mp (Or.inr ((pu_nlt (a := 0) (b := c) (by omega) (by omega)).mp h3))) hncc
    · have hw' : 3 < W := by
        rcases Nat.lt_or_ge 3 W with z | z
        · exact z
        · exact absurd ((pu_nle (by omega) (by omega)).mpr z) hw
      refine ⟨pu_inI (by omega) (by omega), fun h3 => ?_, fun _ => go⟩
      rw [nI_clamp (by omega)] at h3
      exact absurd ((hc2 hw').mp (Or.inr h3)) hncc
theorem pm_best1 {A most : Nat → Int32} {W q r m : Nat} {cap : Nat → Nat} (hW : W ≤ 4) (hq : q < 6561) (hm : m < 6561) (hr : r ≤ 8) (hlow : q / 729 * 729 ≤ m) (hcW : ∀ s, W ≤ s → cap s = 0) (hcM : ∀ s, s < W → ∃ t, t ≤ 4 ∧ most s = nI t ∧ cap s = min (q / 9 ^ s % 9) t) {Q : Int32 → Prop} (hQ : Q (bF A q cap 1 r m)) : wp_Model_best1 (nI W) most A (nI q) (nI 3) (nI r) (nI m) Q := by
  have hc8 : cap 3 ≤ q / 729 % 9 := by
    rcases Nat.lt_or_ge 3 W with z | z
    · obtain ⟨t, ht, -, ec⟩ := hcM 3 z
      have : (9 : Nat) ^ 3 = 729 := by decide
      rw [this] at ec
      omega
    · rw [hcW 3 z]; omega
  have hin : ∀ k (Q : Int32 → Prop), k ≤ cap 3 → k ≤ r → Q (bF A q cap 0 (r - k) (m - k * 729)) → wp_Model_best0 (nI W) most A (nI q) (nI (3 + 1)) (nI (r - k)) (nI (m - k * 729)) Q := by
    intro k Q hk hkr hQ
    refine pm_best0 (by omega) hq ?_
    exact hQ
  unfold wp_Model_best1
  refine ⟨fun h => absurd h (by decide), fun _ => ⟨fun hw => ?_, fun hw => ?_⟩⟩
  · have hw' : W ≤ 3 := (pu_nle (by omega) (by omega)).mp hw
    refine ⟨min (cap 3) r + 1 + 1, pm_best1_h56 hW hq hm hr hlow hc8 (fun k hk => ⟨fun _ => ?_, fun z => by omega⟩) hin hQ _ 0 (by omega)⟩
    have z0 : (0 : Int32) < nI k ↔ 0 < k := pu_nlt (a := 0) (b := k) (by omega) (by omega)
    rw [hcW 3 hw', z0]
    omega
  · have hw' : 3 < W := by
      rcases Nat.lt_or_ge 3 W with z | z
      · exact z
      · exact absurd ((pu_nle (by omega) (by omega)).mpr z) hw
    refine pm_power (by omega) ⟨nI_ne0 (by decide) (by decide), min (cap 3) r + 1 + 1, ?_⟩
    show wp_Model_best1_h56 (nI q) (nI 3) (nI r) (nI m) ((nI q / nI 729) - (nI q / nI 729) / 9 * 9) (nI W) most A Q _ mxI 0
    have d1 : nI q / nI 729 = nI (q / 729) := pk_div (by omega) (by omega) (by omega)
    have d2 : nI (q / 729) - nI (q / 729) / 9 * 9 = nI (q / 729 % 9) := pk_rem (d := 9) (by omega) (by omega) (by omega)
    rw [d1, d2]
    refine pm_best1_h56 hW hq hm hr hlow hc8 (fun k hk => ⟨fun z => by omega, fun _ => ?_⟩) hin hQ _ 0 (by omega)
    obtain ⟨t, ht, et, ec⟩ := hcM 3 hw'
    have e9 : (9 : Nat) ^ 3 = 729 := by decide
    rw [e9] at ec
    rw [et, ec, pu_nlt (by omega) (by omega), pu_nlt (by omega) (by omega)]
    omega
theorem pm_best2_h56 {A most : Nat → Int32} {W q r m : Nat} {v5 : Int32} {cap : Nat → Nat} (hW : W ≤ 4) (hq : q < 6561) (hm : m < 6561) (hr : r ≤ 8) (hlow : q / 81 * 81 ≤ m) (hc8 : cap 2 ≤ q / 81 % 9)
    (hcap : ∀ k, k ≤ 9 → ((W ≤ 2 → ((v5 < nI k ∨ 0 < k) ↔ cap 2 < k)) ∧ (2 < W → ((v5 < nI k ∨ most 2 < nI k) ↔ cap 2 < k))))
    (hin : ∀ k (Q : Int32 → Prop), k ≤ cap 2 → k ≤ r → Q (bF A q cap 1 (r - k) (m - k * 81)) → wp_Model_best1 (nI W) most A (nI q) (nI (2 + 1)) (nI (r - k)) (nI (m - k * 81)) Q) {Q : Int32 → Prop} (hQ : Q (bF A q cap 2 r m)) :
    ∀ k c, c + k = min (cap 2) r + 1 → wp_Model_best2_h56 (nI q) (nI 2) (nI r) (nI m) v5 (nI W) most A Q (k + 1) (lp (fun k => bF A q cap 1 (r - k) (m - k * 81)) c) (nI c)
  | 0, c, e => by
    have hQ' : Q (lp (fun k => bF A q cap 1 (r - k) (m - k * 81)) c) := by rw [show c = min (cap 2) r + 1 by omega]; exact hQ
    obtain ⟨hc1, hc2⟩ := hcap c (by omega)
    rw [wp_Model_best2_h56]
    refine ⟨fun _ => hQ', fun h1 => ⟨fun _ => hQ', fun h2 => ?_⟩⟩
    have hrc : ¬ r < c := fun z => h2 ((pu_nlt (by omega) (by omega)).mpr z)
    have hcc : cap 2 < c := by omega
    refine ⟨fun hw => ?_, fun hw => ?_⟩
    · have hw' : W ≤ 2 := (pu_nle (by omega) (by omega)).mp hw
      refine ⟨fun _ => hQ', fun h3 => ?_⟩
      rcases (hc1 hw').mpr hcc with z | z
      · exact absurd z h1
      · exact absurd ((pu_nlt (a := 0) (b := c) (by omega) (by omega)).mpr z) h3
    · have hw' : 2 < W := by
        rcases Nat.lt_or_ge 2 W with z | z
        · exact z
        · exact absurd ((pu_nle (by omega) (by omega)).mpr z) hw
      refine ⟨pu_inI (by omega) (by omega), fun _ => hQ', fun h3 => ?_⟩
      rw [nI_clamp (by omega)] at h3
      rcases (hc2 hw').mpr hcc with z | z
      · exact absurd z h1
      · exact absurd z h3
  | k + 1, c, e => by
    have ih := pm_best2_h56 hW hq hm hr hlow hc8 hcap hin hQ k (c + 1) (by omega)
    have hcm : c * 81 ≤ m := by
      have h9 : c ≤ q / 81 := by omega
      exact Nat.le_trans (Nat.mul_le_mul_right 81 h9) hlow
    obtain ⟨hc1, hc2⟩ := hcap c (by omega)
    have hncc : ¬ cap 2 < c := by omega
    have go : wp_Model_power (nI 2) (fun r_1 => wp_Model_best1 (nI W) most A (nI q) (nI 2 + 1) (nI r - nI c) (nI m - (nI c * r_1)) (fun r_2 => wp_Model_best2_h56 (nI q) (nI 2) (nI r) (nI m) v5 (nI W) most A Q (k + 1) (if r_2 < lp (fun k => bF A q cap 1 (r - k) (m - k * 81)) c then r_2 else lp (fun k => bF A q cap 1 (r - k) (m - k * 81)) c) (nI c + 1))) := by
      refine pm_power (by omega) ?_
      show wp_Model_best1 (nI W) most A (nI q) (nI 2 + 1) (nI r - nI c) (nI m - (nI c * nI 81)) _
      rw [pk_mul, pk_sub (show c ≤ r by omega), pk_sub hcm, ← nI_succ, ← nI_succ]
      refine hin c _ (by omega) (by omega) ?_
      rw [lp] at ih
      exact ih
    rw [wp_Model_best2_h56]
    refine ⟨fun h1 => ?_, fun h1 => ⟨fun h2 => ?_, fun h2 => ⟨fun hw => ?_, fun hw => ?_⟩⟩⟩
    · exfalso
      rcases Nat.lt_or_ge 2 W with z | z
      · exact hncc ((hc2 z).mp (Or.inl h1))
      · exact hncc ((hc1 z).mp (Or.inl h1))
    · have := (pu_nlt (by omega) (by omega)).mp h2; omega
    · have hw' : W ≤ 2 := (pu_nle (by omega) (by omega)).mp hw
      refine ⟨fun h3 => ?_, fun _ => go⟩
      exact absurd ((hc1 hw').mp (Or.inr ((pu_nlt (a := 0) (b := c) (by omega) (by omega)).mp h3))) hncc
    · have hw' : 2 < W := by
        rcases Nat.lt_or_ge 2 W with z | z
        · exact z
        · exact absurd ((pu_nle (by omega) (by omega)).mpr z) hw
      refine ⟨pu_inI (by omega) (by omega), fun h3 => ?_, fun _ => go⟩
      rw [nI_clamp (by omega)] at h3
      exact absurd ((hc2 hw').mp (Or.inr h3)) hncc
theorem pm_best2 {A most : Nat → Int32} {W q r m : Nat} {cap : Nat → Nat} (hW : W ≤ 4) (hq : q < 6561) (hm : m < 6561) (hr : r ≤ 8) (hlow : q / 81 * 81 ≤ m) (hcW : ∀ s, W ≤ s → cap s = 0) (hcM : ∀ s, s < W → ∃ t, t ≤ 4 ∧ most s = nI t ∧ cap s = min (q / 9 ^ s % 9) t) {Q : Int32 → Prop} (hQ : Q (bF A q cap 2 r m)) : wp_Model_best2 (nI W) most A (nI q) (nI 2) (nI r) (nI m) Q := by
  have hc8 : cap 2 ≤ q / 81 % 9 := by
    rcases Nat.lt_or_ge 2 W with z | z
    · obtain ⟨t, ht, -, ec⟩ := hcM 2 z
      have : (9 : Nat) ^ 2 = 81 := by decide
      rw [this] at ec
      omega
    · rw [hcW 2 z]; omega
  have hin : ∀ k (Q : Int32 → Prop), k ≤ cap 2 → k ≤ r → Q (bF A q cap 1 (r - k) (m - k * 81)) → wp_Model_best1 (nI W) most A (nI q) (nI (2 + 1)) (nI (r - k)) (nI (m - k * 81)) Q := by
    intro k Q hk hkr hQ
    refine pm_best1 hW hq (by omega) (by omega) ?_ hcW hcM hQ
    have h1 : k ≤ q / 81 % 9 := by omega
    have h2 : k * 81 + q / 729 * 729 ≤ q / 81 * 81 := by omega
    omega
  unfold wp_Model_best2
  refine ⟨fun h => absurd h (by decide), fun _ => ⟨fun hw => ?_, fun hw => ?_⟩⟩
  · have hw' : W ≤ 2 := (pu_nle (by omega) (by omega)).mp hw
    refine ⟨min (cap 2) r + 1 + 1, pm_best2_h56 hW hq hm hr hlow hc8 (fun k hk => ⟨fun _ => ?_, fun z => by omega⟩) hin hQ _ 0 (by omega)⟩
    have z0 : (0 : Int32) < nI k ↔ 0 < k := pu_nlt (a := 0) (b := k) (by omega) (by omega)
    rw [hcW 2 hw', z0]
    omega
  · have hw' : 2 < W := by
      rcases Nat.lt_or_ge 2 W with z | z
      · exact z
      · exact absurd ((pu_nle (by omega) (by omega)).mpr z) hw
    refine pm_power (by omega) ⟨nI_ne0 (by decide) (by decide), min (cap 2) r + 1 + 1, ?_⟩
    show wp_Model_best2_h56 (nI q) (nI 2) (nI r) (nI m) ((nI q / nI 81) - (nI q / nI 81) / 9 * 9) (nI W) most A Q _ mxI 0
    have d1 : nI q / nI 81 = nI (q / 81) := pk_div (by omega) (by omega) (by omega)
    have d2 : nI (q / 81) - nI (q / 81) / 9 * 9 = nI (q / 81 % 9) := pk_rem (d := 9) (by omega) (by omega) (by omega)
    rw [d1, d2]
    refine pm_best2_h56 hW hq hm hr hlow hc8 (fun k hk => ⟨fun z => by omega, fun _ => ?_⟩) hin hQ _ 0 (by omega)
    obtain ⟨t, ht, et, ec⟩ := hcM 2 hw'
    have e9 : (9 : Nat) ^ 2 = 81 := by decide
    rw [e9] at ec
    rw [et, ec, pu_nlt (by omega) (by omega), pu_nlt (by omega) (by omega)]
    omega
theorem pm_best3_h56 {A most : Nat → Int32} {W q r m : Nat} {v5 : Int32} {cap : Nat → Nat} (hW : W ≤ 4) (hq : q < 6561) (hm : m < 6561) (hr : r ≤ 8) (hlow : q / 9 * 9 ≤ m) (hc8 : cap 1 ≤ q / 9 % 9)
    (hcap : ∀ k, k ≤ 9 → ((W ≤ 1 → ((v5 < nI k ∨ 0 < k) ↔ cap 1 < k)) ∧ (1 < W → ((v5 < nI k ∨ most 1 < nI k) ↔ cap 1 < k))))
    (hin : ∀ k (Q : Int32 → Prop), k ≤ cap 1 → k ≤ r → Q (bF A q cap 2 (r - k) (m - k * 9)) → wp_Model_best2 (nI W) most A (nI q) (nI (1 + 1)) (nI (r - k)) (nI (m - k * 9)) Q) {Q : Int32 → Prop} (hQ : Q (bF A q cap 3 r m)) :
    ∀ k c, c + k = min (cap 1) r + 1 → wp_Model_best3_h56 (nI q) (nI 1) (nI r) (nI m) v5 (nI W) most A Q (k + 1) (lp (fun k => bF A q cap 2 (r - k) (m - k * 9)) c) (nI c)
  | 0, c, e => by
    have hQ' : Q (lp (fun k => bF A q cap 2 (r - k) (m - k * 9)) c) := by rw [show c = min (cap 1) r + 1 by omega]; exact hQ
    obtain ⟨hc1, hc2⟩ := hcap c (by omega)
    rw [wp_Model_best3_h56]
    refine ⟨fun _ => hQ', fun h1 => ⟨fun _ => hQ', fun h2 => ?_⟩⟩
    have hrc : ¬ r < c := fun z => h2 ((pu_nlt (by omega) (by omega)).mpr z)
    have hcc : cap 1 < c := by omega
    refine ⟨fun hw => ?_, fun hw => ?_⟩
    · have hw' : W ≤ 1 := (pu_nle (by omega) (by omega)).mp hw
      refine ⟨fun _ => hQ', fun h3 => ?_⟩
      rcases (hc1 hw').mpr hcc with z | z
      · exact absurd z h1
      · exact absurd ((pu_nlt (a := 0) (b := c) (by omega) (by omega)).mpr z) h3
    · have hw' : 1 < W := by
        rcases Nat.lt_or_ge 1 W with z | z
        · exact z
        · exact absurd ((pu_nle (by omega) (by omega)).mpr z) hw
      refine ⟨pu_inI (by omega) (by omega), fun _ => hQ', fun h3 => ?_⟩
      rw [nI_clamp (by omega)] at h3
      rcases (hc2 hw').mpr hcc with z | z
      · exact absurd z h1
      · exact absurd z h3
  | k + 1, c, e => by
    have ih := pm_best3_h56 hW hq hm hr hlow hc8 hcap hin hQ k (c + 1) (by omega)
    have hcm : c * 9 ≤ m := by
      have h9 : c ≤ q / 9 := by omega
      exact Nat.le_trans (Nat.mul_le_mul_right 9 h9) hlow
    obtain ⟨hc1, hc2⟩ := hcap c (by omega)
    have hncc : ¬ cap 1 < c := by omega
    have go : wp_Model_power (nI 1) (fun r_1 => wp_Model_best2 (nI W) most A (nI q) (nI 1 + 1) (nI r - nI c) (nI m - (nI c * r_1)) (fun r_2 => wp_Model_best3_h56 (nI q) (nI 1) (nI r) (nI m) v5 (nI W) most A Q (k + 1) (if r_2 < lp (fun k => bF A q cap 2 (r - k) (m - k * 9)) c then r_2 else lp (fun k => bF A q cap 2 (r - k) (m - k * 9)) c) (nI c + 1))) := by
      refine pm_power (by omega) ?_
      show wp_Model_best2 (nI W) most A (nI q) (nI 1 + 1) (nI r - nI c) (nI m - (nI c * nI 9)) _
      rw [pk_mul, pk_sub (show c ≤ r by omega), pk_sub hcm, ← nI_succ, ← nI_succ]
      refine hin c _ (by omega) (by omega) ?_
      rw [lp] at ih
      exact ih
    rw [wp_Model_best3_h56]
    refine ⟨fun h1 => ?_, fun h1 => ⟨fun h2 => ?_, fun h2 => ⟨fun hw => ?_, fun hw => ?_⟩⟩⟩
    · exfalso
      rcases Nat.lt_or_ge 1 W with z | z
      · exact hncc ((hc2 z).mp (Or.inl h1))
      · exact hncc ((hc1 z).mp (Or.inl h1))
    · have := (pu_nlt (by omega) (by omega)).mp h2; omega
    · have hw' : W ≤ 1 := (pu_nle (by omega) (by omega)).mp hw
      refine ⟨fun h3 => ?_, fun _ => go⟩
      exact absurd ((hc1 hw').mp (Or.inr ((pu_nlt (a := 0) (b := c) (by omega) (by omega)).mp h3))) hncc
    · have hw' : 1 < W := by
        rcases Nat.lt_or_ge 1 W with z | z
        · exact z
        · exact absurd ((pu_nle (by omega) (by omega)).mpr z) hw
      refine ⟨pu_inI (by omega) (by omega), fun h3 => ?_, fun _ => go⟩
      rw [nI_clamp (by omega)] at h3
      exact absurd ((hc2 hw').mp (Or.inr h3)) hncc
theorem pm_best3 {A most : Nat → Int32} {W q r m : Nat} {cap : Nat → Nat} (hW : W ≤ 4) (hq : q < 6561) (hm : m < 6561) (hr : r ≤ 8) (hlow : q / 9 * 9 ≤ m) (hcW : ∀ s, W ≤ s → cap s = 0) (hcM : ∀ s, s < W → ∃ t, t ≤ 4 ∧ most s = nI t ∧ cap s = min (q / 9 ^ s % 9) t) {Q : Int32 → Prop} (hQ : Q (bF A q cap 3 r m)) : wp_Model_best3 (nI W) most A (nI q) (nI 1) (nI r) (nI m) Q := by
  have hc8 : cap 1 ≤ q / 9 % 9 := by
    rcases Nat.lt_or_ge 1 W with z | z
    · obtain ⟨t, ht, -, ec⟩ := hcM 1 z
      have : (9 : Nat) ^ 1 = 9 := by decide
      rw [this] at ec
      omega
    · rw [hcW 1 z]; omega
  have hin : ∀ k (Q : Int32 → Prop), k ≤ cap 1 → k ≤ r → Q (bF A q cap 2 (r - k) (m - k * 9)) → wp_Model_best2 (nI W) most A (nI q) (nI (1 + 1)) (nI (r - k)) (nI (m - k * 9)) Q := by
    intro k Q hk hkr hQ
    refine pm_best2 hW hq (by omega) (by omega) ?_ hcW hcM hQ
    have h1 : k ≤ q / 9 % 9 := by omega
    have h2 : k * 9 + q / 81 * 81 ≤ q / 9 * 9 := by omega
    omega
  unfold wp_Model_best3
  refine ⟨fun h => absurd h (by decide), fun _ => ⟨fun hw => ?_, fun hw => ?_⟩⟩
  · have hw' : W ≤ 1 := (pu_nle (by omega) (by omega)).mp hw
    refine ⟨min (cap 1) r + 1 + 1, pm_best3_h56 hW hq hm hr hlow hc8 (fun k hk => ⟨fun _ => ?_, fun z => by omega⟩) hin hQ _ 0 (by omega)⟩
    have z0 : (0 : Int32) < nI k ↔ 0 < k := pu_nlt (a := 0) (b := k) (by omega) (by omega)
    rw [hcW 1 hw', z0]
    omega
  · have hw' : 1 < W := by
      rcases Nat.lt_or_ge 1 W with z | z
      · exact z
      · exact absurd ((pu_nle (by omega) (by omega)).mpr z) hw
    refine pm_power (by omega) ⟨nI_ne0 (by decide) (by decide), min (cap 1) r + 1 + 1, ?_⟩
    show wp_Model_best3_h56 (nI q) (nI 1) (nI r) (nI m) ((nI q / nI 9) - (nI q / nI 9) / 9 * 9) (nI W) most A Q _ mxI 0
    have d1 : nI q / nI 9 = nI (q / 9) := pk_div (by omega) (by omega) (by omega)
    have d2 : nI (q / 9) - nI (q / 9) / 9 * 9 = nI (q / 9 % 9) := pk_rem (d := 9) (by omega) (by omega) (by omega)
    rw [d1, d2]
    refine pm_best3_h56 hW hq hm hr hlow hc8 (fun k hk => ⟨fun z => by omega, fun _ => ?_⟩) hin hQ _ 0 (by omega)
    obtain ⟨t, ht, et, ec⟩ := hcM 1 hw'
    have e9 : (9 : Nat) ^ 1 = 9 := by decide
    rw [e9] at ec
    rw [et, ec, pu_nlt (by omega) (by omega), pu_nlt (by omega) (by omega)]
    omega
theorem pm_best4_h56 {A most : Nat → Int32} {W q r m : Nat} {v5 : Int32} {cap : Nat → Nat} (hW : W ≤ 4) (hq : q < 6561) (hm : m < 6561) (hr : r ≤ 8) (hlow : q / 1 * 1 ≤ m) (hc8 : cap 0 ≤ q / 1 % 9)
    (hcap : ∀ k, k ≤ 9 → ((W ≤ 0 → ((v5 < nI k ∨ 0 < k) ↔ cap 0 < k)) ∧ (0 < W → ((v5 < nI k ∨ most 0 < nI k) ↔ cap 0 < k))))
    (hin : ∀ k (Q : Int32 → Prop), k ≤ cap 0 → k ≤ r → Q (bF A q cap 3 (r - k) (m - k * 1)) → wp_Model_best3 (nI W) most A (nI q) (nI (0 + 1)) (nI (r - k)) (nI (m - k * 1)) Q) {Q : Int32 → Prop} (hQ : Q (bF A q cap 4 r m)) :
    ∀ k c, c + k = min (cap 0) r + 1 → wp_Model_best4_h56 (nI q) (nI 0) (nI r) (nI m) v5 (nI W) most A Q (k + 1) (lp (fun k => bF A q cap 3 (r - k) (m - k * 1)) c) (nI c)
  | 0, c, e => by
    have hQ' : Q (lp (fun k => bF A q cap 3 (r - k) (m - k * 1)) c) := by rw [show c = min (cap 0) r + 1 by omega]; exact hQ
    obtain ⟨hc1, hc2⟩ := hcap c (by omega)
    rw [wp_Model_best4_h56]
    refine ⟨fun _ => hQ', fun h1 => ⟨fun _ => hQ', fun h2 => ?_⟩⟩
    have hrc : ¬ r < c := fun z => h2 ((pu_nlt (by omega) (by omega)).mpr z)
    have hcc : cap 0 < c := by omega
    refine ⟨fun hw => ?_, fun hw => ?_⟩
    · have hw' : W ≤ 0 := (pu_nle (by omega) (by omega)).mp hw
      refine ⟨fun _ => hQ', fun h3 => ?_⟩
      rcases (hc1 hw').mpr hcc with z | z
      · exact absurd z h1
      · exact absurd ((pu_nlt (a := 0) (b := c) (by omega) (by omega)).mpr z) h3
    · have hw' : 0 < W := by
        rcases Nat.lt_or_ge 0 W with z | z
        · exact z
        · exact absurd ((pu_nle (by omega) (by omega)).mpr z) hw
      refine ⟨pu_inI (by omega) (by omega), fun _ => hQ', fun h3 => ?_⟩
      rw [nI_clamp (by omega)] at h3
      rcases (hc2 hw').mpr hcc with z | z
      · exact absurd z h1
      · exact absurd z h3
  | k + 1, c, e => by
    have ih := pm_best4_h56 hW hq hm hr hlow hc8 hcap hin hQ k (c + 1) (by omega)
    have hcm : c * 1 ≤ m := by
      have h9 : c ≤ q / 1 := by omega
      exact Nat.le_trans (Nat.mul_le_mul_right 1 h9) hlow
    obtain ⟨hc1, hc2⟩ := hcap c (by omega)
    have hncc : ¬ cap 0 < c := by omega
    have go : wp_Model_power (nI 0) (fun r_1 => wp_Model_best3 (nI W) most A (nI q) (nI 0 + 1) (nI r - nI c) (nI m - (nI c * r_1)) (fun r_2 => wp_Model_best4_h56 (nI q) (nI 0) (nI r) (nI m) v5 (nI W) most A Q (k + 1) (if r_2 < lp (fun k => bF A q cap 3 (r - k) (m - k * 1)) c then r_2 else lp (fun k => bF A q cap 3 (r - k) (m - k * 1)) c) (nI c + 1))) := by
      refine pm_power (by omega) ?_
      show wp_Model_best3 (nI W) most A (nI q) (nI 0 + 1) (nI r - nI c) (nI m - (nI c * nI 1)) _
      rw [pk_mul, pk_sub (show c ≤ r by omega), pk_sub hcm, ← nI_succ, ← nI_succ]
      refine hin c _ (by omega) (by omega) ?_
      rw [lp] at ih
      exact ih
    rw [wp_Model_best4_h56]
    refine ⟨fun h1 => ?_, fun h1 => ⟨fun h2 => ?_, fun h2 => ⟨fun hw => ?_, fun hw => ?_⟩⟩⟩
    · exfalso
      rcases Nat.lt_or_ge 0 W with z | z
      · exact hncc ((hc2 z).mp (Or.inl h1))
      · exact hncc ((hc1 z).mp (Or.inl h1))
    · have := (pu_nlt (by omega) (by omega)).mp h2; omega
    · have hw' : W ≤ 0 := (pu_nle (by omega) (by omega)).mp hw
      refine ⟨fun h3 => ?_, fun _ => go⟩
      exact absurd ((hc1 hw').mp (Or.inr ((pu_nlt (a := 0) (b := c) (by omega) (by omega)).mp h3))) hncc
    · have hw' : 0 < W := by
        rcases Nat.lt_or_ge 0 W with z | z
        · exact z
        · exact absurd ((pu_nle (by omega) (by omega)).mpr z) hw
      refine ⟨pu_inI (by omega) (by omega), fun h3 => ?_, fun _ => go⟩
      rw [nI_clamp (by omega)] at h3
      exact absurd ((hc2 hw').mp (Or.inr h3)) hncc
theorem pm_best4 {A most : Nat → Int32} {W q r m : Nat} {cap : Nat → Nat} (hW : W ≤ 4) (hq : q < 6561) (hm : m < 6561) (hr : r ≤ 8) (hlow : q / 1 * 1 ≤ m) (hcW : ∀ s, W ≤ s → cap s = 0) (hcM : ∀ s, s < W → ∃ t, t ≤ 4 ∧ most s = nI t ∧ cap s = min (q / 9 ^ s % 9) t) {Q : Int32 → Prop} (hQ : Q (bF A q cap 4 r m)) : wp_Model_best4 (nI W) most A (nI q) (nI 0) (nI r) (nI m) Q := by
  have hc8 : cap 0 ≤ q / 1 % 9 := by
    rcases Nat.lt_or_ge 0 W with z | z
    · obtain ⟨t, ht, -, ec⟩ := hcM 0 z
      have : (9 : Nat) ^ 0 = 1 := by decide
      rw [this] at ec
      omega
    · rw [hcW 0 z]; omega
  have hin : ∀ k (Q : Int32 → Prop), k ≤ cap 0 → k ≤ r → Q (bF A q cap 3 (r - k) (m - k * 1)) → wp_Model_best3 (nI W) most A (nI q) (nI (0 + 1)) (nI (r - k)) (nI (m - k * 1)) Q := by
    intro k Q hk hkr hQ
    refine pm_best3 hW hq (by omega) (by omega) ?_ hcW hcM hQ
    have h1 : k ≤ q / 1 % 9 := by omega
    have h2 : k * 1 + q / 9 * 9 ≤ q / 1 * 1 := by omega
    omega
  unfold wp_Model_best4
  refine ⟨fun h => absurd h (by decide), fun _ => ⟨fun hw => ?_, fun hw => ?_⟩⟩
  · have hw' : W ≤ 0 := (pu_nle (by omega) (by omega)).mp hw
    refine ⟨min (cap 0) r + 1 + 1, pm_best4_h56 hW hq hm hr hlow hc8 (fun k hk => ⟨fun _ => ?_, fun z => by omega⟩) hin hQ _ 0 (by omega)⟩
    have z0 : (0 : Int32) < nI k ↔ 0 < k := pu_nlt (a := 0) (b := k) (by omega) (by omega)
    rw [hcW 0 hw', z0]
    omega
  · have hw' : 0 < W := by
      rcases Nat.lt_or_ge 0 W with z | z
      · exact z
      · exact absurd ((pu_nle (by omega) (by omega)).mpr z) hw
    refine pm_power (by omega) ⟨nI_ne0 (by decide) (by decide), min (cap 0) r + 1 + 1, ?_⟩
    show wp_Model_best4_h56 (nI q) (nI 0) (nI r) (nI m) ((nI q / nI 1) - (nI q / nI 1) / 9 * 9) (nI W) most A Q _ mxI 0
    have d1 : nI q / nI 1 = nI (q / 1) := pk_div (by omega) (by omega) (by omega)
    have d2 : nI (q / 1) - nI (q / 1) / 9 * 9 = nI (q / 1 % 9) := pk_rem (d := 9) (by omega) (by omega) (by omega)
    rw [d1, d2]
    refine pm_best4_h56 hW hq hm hr hlow hc8 (fun k hk => ⟨fun z => by omega, fun _ => ?_⟩) hin hQ _ 0 (by omega)
    obtain ⟨t, ht, et, ec⟩ := hcM 0 hw'
    have e9 : (9 : Nat) ^ 0 = 1 := by decide
    rw [e9] at ec
    rw [et, ec, pu_nlt (by omega) (by omega), pu_nlt (by omega) (by omega)]
    omega
