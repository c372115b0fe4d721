/-! The ledger: what is known of an entry, what a man has earned. -/
/-- the last ruling of an entry among the first n, or -1 -/
def lastOf (rE : Nat → Int32) (e : Int32) : Nat → Int32
  | 0 => -1
  | n + 1 => if rE n = e then nI n else lastOf rE e n
/-- the money of an entry, by the first n rulings that were known -/
def km (rE rC rM : Nat → Int32) (base e known : Int32) : Nat → Int32
  | 0 => base
  | n + 1 => if rE n = e ∧ ¬ known < rC n then rM n else km rE rC rM base e known n
def I_G (g_size g_rulings : Int32) (madeAt latest before rE : Nat → Int32) (o_number : Int32) (B : Nat) : Prop :=
  ∃ E R N : Nat, E ≤ 800 ∧ R ≤ 100 ∧ N ≤ B ∧ g_size = nI E ∧ g_rulings = nI R ∧ o_number = nI N ∧
    (∀ k, k < E → ∃ c, c ≤ N ∧ madeAt k = nI c) ∧ (∀ j k, j < k → k < E → madeAt j ≤ madeAt k) ∧
    (∀ k, k < R → ∃ e, e < E ∧ rE k = nI e) ∧ (∀ e, e < E → latest e = lastOf rE (nI e) R) ∧ (∀ k, k < R → before k = lastOf rE (rE k) k)
theorem lastOf_cases (rE rC rM : Nat → Int32) (base e known : Int32) : ∀ n, (lastOf rE e n = -1 ∧ km rE rC rM base e known n = base) ∨ ∃ j, j < n ∧ lastOf rE e n = nI j ∧ rE j = e ∧ km rE rC rM base e known n = if known < rC j then km rE rC rM base e known j else rM j
  | 0 => Or.inl ⟨rfl, rfl⟩
  | n + 1 => by
    by_cases h : rE n = e
    · refine Or.inr ⟨n, by omega, by simp [lastOf, h], h, ?_⟩
      by_cases h2 : known < rC n <;> simp only [km, h, h2, not_true, not_false_iff, true_and, if_true, if_false]
    · have e1 : lastOf rE e (n + 1) = lastOf rE e n := by simp [lastOf, h]
      have e2 : km rE rC rM base e known (n + 1) = km rE rC rM base e known n := by simp [km, h]
      rw [e1, e2]
      rcases lastOf_cases rE rC rM base e known n with h1 | ⟨j, hj, h1⟩
      · exact Or.inl h1
      · exact Or.inr ⟨j, by omega, h1⟩
theorem pc_known_h10 {rE rC rM money before : Nat → Int32} {known : Int32} {e R : Nat} (he : e < 800) (hR : R ≤ 100) (hb : ∀ k, k < R → before k = lastOf rE (rE k) k) {Q : Int32 → Prop} : ∀ f n st, n < f → n + st ≤ R → Q (km rE rC rM (money e) (nI e) known n) → wp_Ledger_knownMoney_h10 (nI e) known (nI R) money rC rM before Q f (lastOf rE (nI e) n) (nI st)
  | 0, n, st, hf, _, _ => absurd hf (Nat.not_lt_zero n)
  | f + 1, n, st, hf, hn, hQ => by
    have i1 : vp_in (nI e) 800 := pu_inI he (by omega)
    rw [wp_Ledger_knownMoney_h10]
    simp only [i1, true_and, nI_clamp (show e < 2 ^ 31 by omega)]
    rcases lastOf_cases rE rC rM (money e) (nI e) known n with ⟨h1, h2⟩ | ⟨j, hj, h1, h2, h3⟩
    · rw [h2] at hQ
      exact ⟨fun _ => hQ, fun _ => ⟨fun _ => hQ, fun h => absurd (show lastOf rE (nI e) n < 0 by rw [h1]; decide) h⟩⟩
    · rw [h1]
      refine ⟨fun h => ?_, fun _ => ⟨fun h => absurd h (nI_pos (by omega)), fun _ => ⟨fun h => ?_, fun _ => ?_⟩⟩⟩
      · have := (pu_nle (by omega) (by omega)).mp h; omega
      · have := (pu_nle (by omega) (by omega)).mp h; omega
      · refine ⟨pu_inI (by omega) (by omega), ?_⟩
        rw [nI_clamp (by omega)]
        by_cases hc : known < rC j
        · rw [h3, if_pos hc] at hQ
          refine ⟨fun _ => ⟨pu_inI (by omega) (by omega), ?_⟩, fun h => absurd hc h⟩
          rw [hb j (by omega), h2, ← nI_succ]
          exact pc_known_h10 he hR hb f j (st + 1) (by omega) (by omega) hQ
        · rw [h3, if_neg hc] at hQ
          exact ⟨fun h => absurd h hc, fun _ => ⟨pu_inI (by omega) (by omega), hQ⟩⟩
theorem pc_known {rE rC rM money latest before : Nat → Int32} {known : Int32} {e R : Nat} (he : e < 800) (hR : R ≤ 100) (hl : latest e = lastOf rE (nI e) R) (hb : ∀ k, k < R → before k = lastOf rE (rE k) k) {Q : Int32 → Prop} (hQ : Q (km rE rC rM (money e) (nI e) known R)) : wp_Ledger_knownMoney (nI R) money latest rC rM before (nI e) known Q := by
  refine ⟨pu_inI he (by omega), R + 1, ?_⟩
  rw [nI_clamp (by omega), hl]
  exact pc_known_h10 he hR hb (R + 1) R 0 (by omega) (by omega) hQ
theorem pm_money_h10 {rE rC rM : Nat → Int32} {base known : Int32} {e R : Nat} (hR : R ≤ 100) {Q : Int32 → Prop} (hQ : Q (km rE rC rM base (nI e) known R)) : ∀ k n, n + k = R → wp_Model_moneyOf_h10 (nI e) known (nI R) rE rC rM Q (k + 1) (km rE rC rM base (nI e) known n) (nI n)
  | 0, n, h => by
    have h : n = R := by omega
    subst h
    rw [wp_Model_moneyOf_h10]
    exact ⟨fun _ => hQ, fun h => absurd ((pu_nle (by omega) (by omega)).mpr (Nat.le_refl _)) h⟩
  | k + 1, n, h => by
    have ih := pm_money_h10 hR hQ k (n + 1) (by omega)
    rw [wp_Model_moneyOf_h10]
    refine ⟨fun h0 => ?_, fun _ => ⟨pu_inI (by omega) (by omega), ?_⟩⟩
    · have := (pu_nle (by omega) (by omega)).mp h0; omega
    · rw [nI_clamp (by omega), ← nI_succ]
      refine ⟨fun h1 => ⟨pu_inI (by omega) (by omega), fun h2 => ?_, fun h2 => ⟨pu_inI (by omega) (by omega), ?_⟩⟩, fun h1 => ?_⟩
      · simpa only [km, h1, h2, not_true, and_false, if_false] using ih
      · simpa only [km, h1, h2, not_false_iff, and_self, if_true] using ih
      · simpa only [km, h1, false_and, if_false] using ih
theorem pm_money {rE rC rM money : Nat → Int32} {known : Int32} {e R : Nat} (he : e < 800) (hR : R ≤ 100) {Q : Int32 → Prop} (hQ : Q (km rE rC rM (money e) (nI e) known R)) : wp_Model_moneyOf (nI R) money rE rC rM (nI e) known Q := by
  refine ⟨pu_inI he (by omega), R + 1, ?_⟩
  rw [nI_clamp (by omega)]
  exact pm_money_h10 hR hQ R 0 (by omega)
theorem q_entry {g_size g_rulings o_number : Int32} {B : Nat} {madeAt card money latest rC rM before rE : Nat → Int32} (hG : I_G g_size g_rulings madeAt latest before rE o_number B) (p0 p1 : Int32) :
    wp_Dock_entry g_size g_rulings madeAt card money latest rC rM before o_number p0 p1
      (fun r => wp_Model_entry g_size g_rulings o_number madeAt card money rE rC rM p0 p1 (fun b th => th = 0 ∧ r = b))
      (fun X => wp_Model_entry g_size g_rulings o_number madeAt card money rE rC rM p0 p1 (fun b th => th = ecode [xIO, xNS] X)) := by
  obtain ⟨E, R, N, hE, hR, hN, rfl, rfl, rfl, -, -, -, hl, hb⟩ := hG
  unfold wp_Dock_entry wp_Model_entry
  simp only [pm_no (n := E) (by omega), pc_ledgerHas]
  by_cases h1 : p0 < 0
  · simp only [h1, pm_th0, pm_th1, p10, not_true, not_false_iff, false_implies, true_implies, true_and, and_true, if_true, if_false, and_self]
    rfl
  by_cases h2 : nI E ≤ p0
  · simp only [h1, h2, pm_th0, pm_th1, p10, not_true, not_false_iff, false_implies, true_implies, true_and, and_true, if_true, if_false, and_self]
    rfl
  obtain ⟨s, hs, rfl⟩ := pu_exb (by omega) h1 h2
  have i1 : vp_in (nI s) 800 := pu_inI (by omega) (by omega)
  simp only [h1, h2, i1, pm_th0, pm_th1, p10, not_true, not_false_iff, false_implies, true_implies, true_and, and_true, if_true, if_false, and_self]
  by_cases c0 : p1 = 0
  · subst c0
    simp only [not_true, not_false_iff, false_implies, true_implies, true_and, and_true, and_self]
  by_cases c1 : p1 = 1
  · subst c1
    simp only [c0, not_true, not_false_iff, false_implies, true_implies, true_and, and_true, and_self]
  by_cases c2 : p1 = 2
  · subst c2
    simp only [c0, c1, not_true, not_false_iff, false_implies, true_implies, true_and, and_true, and_self]
  by_cases c3 : p1 = 3
  · subst c3
    simp only [c0, c1, c2, not_true, not_false_iff, false_implies, true_implies, true_and, and_true, and_self]
    exact pc_known (rE := rE) (by omega) hR (hl s hs) hb (pm_money (by omega) hR rfl)
  simp only [c0, c1, c2, c3, not_true, not_false_iff, false_implies, true_implies, true_and, and_true, and_self]
  rfl
theorem lastOf_upd (rE : Nat → Int32) (R : Nat) (x e : Int32) : ∀ n, n ≤ R → lastOf (upd rE R x) e n = lastOf rE e n
  | 0, _ => rfl
  | n + 1, h => by
    rw [lastOf, lastOf, pu_upd_ne (by omega), lastOf_upd rE R x e n (by omega)]
theorem q_rule {g_size g_rulings o_number : Int32} {B : Nat} {madeAt latest rC rM before rE : Nat → Int32} (hG : I_G g_size g_rulings madeAt latest before rE o_number B) (p0 p1 : Int32) :
    wp_Dock_rule g_size g_rulings latest rC rM before o_number p0 p1
      (fun r a1 a2 a3 a4 a5 => wp_Model_rule g_size g_rulings o_number rE rC rM p0 p1 (fun b th b1 b2 b3 b4 => th = 0 ∧ r = b ∧ (r = 0 ∨ r = 1) ∧ (b1 = a1 ∧ b3 = a3 ∧ b4 = a4) ∧ I_G g_size a1 madeAt a2 a5 b2 o_number B))
      (fun X a1 a2 a3 a4 a5 => wp_Model_rule g_size g_rulings o_number rE rC rM p0 p1 (fun b th b1 b2 b3 b4 => th = ecode [xIO, xIA] X ∧ (b1 = a1 ∧ b3 = a3 ∧ b4 = a4) ∧ I_G g_size a1 madeAt a2 a5 b2 o_number B)) := by
  have hG' := hG
  obtain ⟨E, R, N, hE, hR, hN, rfl, rfl, rfl, hm, hm2, he, hl, hb⟩ := hG
  unfold wp_Dock_rule wp_Ledger_addRuling wp_Model_rule
  simp only [pm_no (n := E) (by omega), pc_ledgerHas]
  by_cases h1 : p0 < 0
  · simp only [h1, pm_th0, pm_th1, p10, not_true, not_false_iff, false_implies, true_implies, true_and, and_true, if_true, if_false, and_self]
    exact ⟨by rfl, hG'⟩
  by_cases h2 : nI E ≤ p0
  · simp only [h1, h2, pm_th0, pm_th1, p10, not_true, not_false_iff, false_implies, true_implies, true_and, and_true, if_true, if_false, and_self]
    exact ⟨by rfl, hG'⟩
  obtain ⟨s, hs, rfl⟩ := pu_exb (by omega) h1 h2
  have i1 : vp_in (nI s) 800 := pu_inI (by omega) (by omega)
  simp only [h1, h2, i1, pm_in p1 0 100000 (A := 0) (B := 100000) rfl rfl, pm_th0, pm_th1, p10, not_true, not_false_iff, false_implies, true_implies, true_and, and_true, if_true, if_false, and_self]
  by_cases h3 : p1 < 0
  · simp only [h3, pm_th0, pm_th1, p10, not_true, not_false_iff, false_implies, true_implies, true_and, and_true, if_true, if_false, and_self]
    exact ⟨by rfl, hG'⟩
  by_cases h4 : p1 ≤ 100000
  rotate_left
  · simp only [h3, h4, pm_th0, pm_th1, p10, not_true, not_false_iff, false_implies, true_implies, true_and, and_true, if_true, if_false, and_self]
    exact ⟨by rfl, hG'⟩
  have n0 : (narrow .boolean (.int 0) = .int 0) = True := eq_true rfl
  have n1 : (narrow .boolean (.int 1) = .int 1) = True := eq_true rfl
  by_cases h5 : nI R < 100
  · have h6 : R < 100 := (pu_nlt (a := R) (b := 100) (by omega) (by omega)).mp h5
    have h7 : (nI R = 100) = False := eq_false (fun e => by have := (pu_neq (a := R) (b := 100) (by omega) (by omega)).mp e; omega)
    have i2 : vp_in (nI R) 100 := pu_inI h6 (by omega)
    simp only [h3, h4, h5, h7, i2, n1, pm_th0, pm_th1, p10, nI_clamp (show s < 2 ^ 31 by omega), nI_clamp (show R < 2 ^ 31 by omega), not_true, not_false_iff, false_implies, true_implies, true_and, and_true, if_true, if_false, and_self, or_true]
    refine ⟨E, R + 1, N, hE, by omega, hN, rfl, (nI_succ R).symm, rfl, hm, hm2, ?_, ?_, ?_⟩
    · intro k hk
      by_cases e : k = R
      · subst e; rw [pu_upd_same]; exact ⟨s, hs, rfl⟩
      · rw [pu_upd_ne e]; exact he k (by omega)
    · intro e h0
      rw [lastOf, pu_upd_same, lastOf_upd _ _ _ _ _ (Nat.le_refl R)]
      by_cases e1 : e = s
      · subst e1; rw [pu_upd_same, if_pos rfl]
      · rw [pu_upd_ne e1, if_neg (fun q => e1 ((pu_neq (by omega) (by omega)).mp q).symm), hl e h0]
    · intro k hk
      by_cases e : k = R
      · subst e; rw [pu_upd_same, pu_upd_same, lastOf_upd _ _ _ _ _ (Nat.le_refl _), hl s hs]
      · rw [pu_upd_ne e, pu_upd_ne e, lastOf_upd _ _ _ _ _ (by omega), hb k (by omega)]
  · have h6 : R = 100 := by
      have := mt (pu_nlt (a := R) (b := 100) (by omega) (by omega)).mpr h5
      omega
    have h7 : (nI R = 100) = True := by rw [h6]; exact eq_true rfl
    simp only [h3, h4, h5, h7, n0, pm_th0, pm_th1, p10, not_true, not_false_iff, false_implies, true_implies, true_and, and_true, true_or, if_true, if_false, and_self]
    exact hG'
/-- the sum of a man's entries among the first k -/
def sme (madeAt card money rE rC rM : Nat → Int32) (R : Nat) (man upTo known : Int32) : Nat → Int32
  | 0 => 0
  | k + 1 => if card k = man ∧ ¬ upTo < madeAt k ∧ ¬ known ≤ madeAt k then sme madeAt card money rE rC rM R man upTo known k + km rE rC rM (money k) (nI k) known R else sme madeAt card money rE rC rM R man upTo known k
theorem sme_end {madeAt card money rE rC rM : Nat → Int32} {R E : Nat} {man upTo known : Int32} (hm2 : ∀ j k, j < k → k < E → madeAt j ≤ madeAt k) {k : Nat} (h : upTo < madeAt k ∨ known ≤ madeAt k) : ∀ j, k + j ≤ E → sme madeAt card money rE rC rM R man upTo known (k + j) = sme madeAt card money rE rC rM R man upTo known k
  | 0, _ => rfl
  | j + 1, hj => by
    have ih := sme_end (card := card) (money := money) (rE := rE) (rC := rC) (rM := rM) (R := R) (man := man) hm2 h j (by omega)
    have hx : ¬ (card (k + j) = man ∧ ¬ upTo < madeAt (k + j) ∧ ¬ known ≤ madeAt (k + j)) := by
      rintro ⟨-, h1, h2⟩
      have h3 : madeAt k ≤ madeAt (k + j) := by
        rcases Nat.eq_zero_or_pos j with e | e
        · subst e; exact Int32.le_refl _
        · exact hm2 k (k + j) (by omega) (by omega)
      rw [pu_lt] at h1; rw [pu_le] at h2 h3
      rw [pu_lt, pu_le] at h
      omega
    show sme madeAt card money rE rC rM R man upTo known (k + j + 1) = _
    rw [sme, if_neg hx, ih]
theorem pc_sumOf_h6 {madeAt card money latest rE rC rM before : Nat → Int32} {R E : Nat} {man upTo known : Int32} (hE : E ≤ 800) (hR : R ≤ 100) (hm2 : ∀ j k, j < k → k < E → madeAt j ≤ madeAt k) (hl : ∀ e, e < E → latest e = lastOf rE (nI e) R) (hb : ∀ k, k < R → before k = lastOf rE (rE k) k) {Q : Int32 → Prop} (hQ : Q (sme madeAt card money rE rC rM R man upTo known E)) : ∀ k n, n + k = E → wp_Ledger_sumOf_h6 man upTo known (nI E) (nI R) madeAt card money latest rC rM before Q (k + 1) (sme madeAt card money rE rC rM R man upTo known n) (nI n)
  | 0, n, h => by
    have h : n = E := by omega
    subst h
    rw [wp_Ledger_sumOf_h6]
    exact ⟨fun _ => hQ, fun h => absurd ((pu_nle (by omega) (by omega)).mpr (Nat.le_refl _)) h⟩
  | k + 1, n, h => by
    have ih := pc_sumOf_h6 hE hR hm2 hl hb hQ k (n + 1) (by omega)
    have i1 : vp_in (nI n) 800 := pu_inI (by omega) (by omega)
    rw [wp_Ledger_sumOf_h6]
    simp only [i1, true_and, nI_clamp (show n < 2 ^ 31 by omega), ← nI_succ]
    refine ⟨fun h0 => ?_, fun _ => ⟨fun h1 => ?_, fun h1 => ⟨fun h2 => ?_, fun h2 => ⟨fun h3 => ?_, fun h3 => ?_⟩⟩⟩⟩
    · have := (pu_nle (by omega) (by omega)).mp h0; omega
    · have := sme_end (card := card) (money := money) (rE := rE) (rC := rC) (rM := rM) (R := R) (man := man) (known := known) hm2 (Or.inl h1) (k + 1) (by omega)
      rw [h] at this; rw [← this]; exact hQ
    · have := sme_end (card := card) (money := money) (rE := rE) (rC := rC) (rM := rM) (R := R) (man := man) (upTo := upTo) hm2 (Or.inr h2) (k + 1) (by omega)
      rw [h] at this; rw [← this]; exact hQ
    · refine pc_known (rE := rE) (by omega) hR (hl n (by omega)) hb ?_
      rw [sme, if_pos ⟨h3, h1, h2⟩] at ih
      exact ih
    · rw [sme, if_neg (fun q => h3 q.1)] at ih
      exact ih
theorem pm_earned_h26 {madeAt card money rE rC rM : Nat → Int32} {R E : Nat} {man upTo known t : Int32} (hE : E ≤ 800) (hR : R ≤ 100) {Q : Int32 → Int32 → Prop} (hQ : Q (sme madeAt card money rE rC rM R man upTo known E) t) : ∀ k n, n + k = E → wp_Model_earned_h26 man upTo known t (nI E) (nI R) madeAt card money rE rC rM Q (k + 1) (sme madeAt card money rE rC rM R man upTo known n) (nI n)
  | 0, n, h => by
    have h : n = E := by omega
    subst h
    rw [wp_Model_earned_h26]
    exact ⟨fun _ => hQ, fun h => absurd ((pu_nle (by omega) (by omega)).mpr (Nat.le_refl _)) h⟩
  | k + 1, n, h => by
    have ih := pm_earned_h26 hE hR hQ k (n + 1) (by omega)
    have i1 : vp_in (nI n) 800 := pu_inI (by omega) (by omega)
    rw [wp_Model_earned_h26]
    simp only [i1, true_and, nI_clamp (show n < 2 ^ 31 by omega), ← nI_succ]
    refine ⟨fun h0 => ?_, fun _ => ⟨fun h3 => ⟨fun h1 => ?_, fun h1 => ⟨fun h2 => ?_, fun h2 => ?_⟩⟩, fun h3 => ?_⟩⟩
    · have := (pu_nle (by omega) (by omega)).mp h0; omega
    · rw [sme, if_neg (fun q => q.2.1 h1)] at ih; exact ih
    · rw [sme, if_neg (fun q => q.2.2 h2)] at ih; exact ih
    · refine pm_money (by omega) hR ?_
      rw [sme, if_pos ⟨h3, h1, h2⟩] at ih
      exact ih
    · rw [sme, if_neg (fun q => h3 q.1)] at ih
      exact ih
theorem q_earned {m_size g_size g_rulings o_number : Int32} {B : Nat} {madeAt card money latest rC rM before rE : Nat → Int32} (hM : I_M m_size) (hG : I_G g_size g_rulings madeAt latest before rE o_number B) (p0 p1 p2 : Int32) :
    wp_Dock_earned m_size g_size g_rulings madeAt card money latest rC rM before p0 p1 p2
      (fun r => wp_Model_earned m_size g_size g_rulings madeAt card money rE rC rM p0 p1 p2 (fun b th => th = 0 ∧ r = b))
      (fun X => wp_Model_earned m_size g_size g_rulings madeAt card money rE rC rM p0 p1 p2 (fun b th => th = ecode [xIO] X)) := by
  obtain ⟨M, hM, rfl⟩ := hM
  obtain ⟨E, R, N, hE, hR, hN, rfl, rfl, rfl, hm, hm2, he, hl, hb⟩ := hG
  unfold wp_Dock_earned wp_Model_earned
  simp only [pm_noMan (n := M) (by omega), pc_menHas]
  by_cases h1 : p0 < 0
  · simp only [h1, pm_th0, pm_th1, p10, not_true, not_false_iff, false_implies, true_implies, true_and, and_true, if_true, if_false, and_self]
    rfl
  by_cases h2 : nI M ≤ p0
  · simp only [h1, h2, pm_th0, pm_th1, p10, not_true, not_false_iff, false_implies, true_implies, true_and, and_true, if_true, if_false, and_self]
    rfl
  simp only [h1, h2, pm_th0, pm_th1, p10, not_true, not_false_iff, false_implies, true_implies, true_and, and_true, if_true, if_false, and_self]
  refine ⟨E + 1, pc_sumOf_h6 (rE := rE) hE hR hm2 hl hb ?_ E 0 (by omega)⟩
  exact ⟨E + 1, pm_earned_h26 hE hR ⟨rfl, rfl⟩ E 0 (by omega)⟩
