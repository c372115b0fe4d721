/-! Ships, their tons; the calls on them; what is only read. -/
theorem pu_mul4 (a h : Nat) : nI a * 4 + nI h = nI (4 * a + h) := by
  show Int32.ofNat a * Int32.ofNat 4 + Int32.ofNat h = Int32.ofNat (4 * a + h)
  rw [← Int32.ofNat_mul, ← Int32.ofNat_add, Nat.mul_comm]
theorem pu_4mul (a h : Nat) : 4 * nI a + nI h = nI (4 * a + h) := by
  show Int32.ofNat 4 * Int32.ofNat a + Int32.ofNat h = Int32.ofNat (4 * a + h)
  rw [← Int32.ofNat_mul, ← Int32.ofNat_add]
/-- the tons of the first h hatches of a ship -/
def tn (left : Nat → Int32) (s : Nat) : Nat → Int32
  | 0 => 0
  | h + 1 => tn left s h + left (4 * s + h)
/-- the tons of a ship -/
def tns (hatches left : Nat → Int32) (s : Nat) : Int32 := tn left s (hatches s).toNatClampNeg
theorem tn_nat {left : Nat → Int32} (hL : ∀ k, ∃ t, t ≤ 2000 ∧ left k = nI t) (s : Nat) : ∀ h, ∃ t, t ≤ 2000 * h ∧ tn left s h = nI t
  | 0 => ⟨0, by omega, rfl⟩
  | h + 1 => by
    obtain ⟨t, ht, e⟩ := tn_nat hL s h
    obtain ⟨u, hu, e2⟩ := hL (4 * s + h)
    exact ⟨t + u, by omega, by rw [tn, e, e2, nI_add]⟩
theorem tns_nat {hatches left : Nat → Int32} (hH : ∀ k, ∃ h, h ≤ 4 ∧ hatches k = nI h) (hL : ∀ k, ∃ t, t ≤ 2000 ∧ left k = nI t) (s : Nat) : ∃ t, t ≤ 8000 ∧ tns hatches left s = nI t := by
  obtain ⟨h, hh, e⟩ := hH s
  obtain ⟨t, ht, e2⟩ := tn_nat hL s h
  refine ⟨t, by omega, ?_⟩
  rw [tns, e, nI_clamp (by omega), e2]
theorem pc_tonsOf_h4 {hatches left : Nat → Int32} {s H : Nat} (hs : s < 10) (hH : hatches s = nI H) (h4 : H ≤ 4) {Q : Int32 → Prop} (hQ : Q (tn left s H)) : ∀ k h, h + k = H → wp_Ships_tonsOf_h4 (nI s) hatches left Q (k + 1) (tn left s h) (nI h)
  | 0, h, e => by
    have e : h = H := by omega
    subst e
    rw [wp_Ships_tonsOf_h4, nI_clamp (by omega), hH]
    exact ⟨pu_inI hs (by omega), fun _ => hQ, fun h => absurd ((pu_nle (by omega) (by omega)).mpr (Nat.le_refl _)) h⟩
  | k + 1, h, e => by
    have ih := pc_tonsOf_h4 hs hH h4 hQ k (h + 1) (by omega)
    rw [wp_Ships_tonsOf_h4, nI_clamp (by omega), hH]
    refine ⟨pu_inI hs (by omega), fun h0 => ?_, fun _ => ?_⟩
    · have := (pu_nle (by omega) (by omega)).mp h0; omega
    · rw [wp_Ships_place, pu_mul4]
      refine ⟨pu_inI (by omega) (by omega), ?_⟩
      rw [nI_clamp (by omega), ← nI_succ]
      exact ih
theorem pc_tonsOf {hatches left : Nat → Int32} {s : Nat} (hs : s < 10) (hH : ∀ k, ∃ h, h ≤ 4 ∧ hatches k = nI h) {Q : Int32 → Prop} (hQ : Q (tns hatches left s)) : wp_Ships_tonsOf hatches left (nI s) Q := by
  obtain ⟨H, h4, e⟩ := hH s
  rw [tns, e, nI_clamp (by omega)] at hQ
  exact ⟨H + 1, pc_tonsOf_h4 hs e h4 hQ H 0 (by omega)⟩
theorem pm_tonsOf_h4 {hatches left : Nat → Int32} {s H : Nat} (hs : s < 10) (hH : hatches s = nI H) (h4 : H ≤ 4) {Q : Int32 → Prop} (hQ : Q (tn left s H)) : ∀ k h, h + k = H → wp_Model_tonsOf_h4 (nI s) hatches left Q (k + 1) (tn left s h) (nI h)
  | 0, h, e => by
    have e : h = H := by omega
    subst e
    rw [wp_Model_tonsOf_h4, nI_clamp (by omega), hH]
    exact ⟨pu_inI hs (by omega), fun _ => hQ, fun h => absurd ((pu_nle (by omega) (by omega)).mpr (Nat.le_refl _)) h⟩
  | k + 1, h, e => by
    have ih := pm_tonsOf_h4 hs hH h4 hQ k (h + 1) (by omega)
    rw [wp_Model_tonsOf_h4, nI_clamp (by omega), hH]
    refine ⟨pu_inI hs (by omega), fun h0 => ?_, fun _ => ?_⟩
    · have := (pu_nle (by omega) (by omega)).mp h0; omega
    · rw [pu_4mul]
      refine ⟨pu_inI (by omega) (by omega), ?_⟩
      rw [nI_clamp (by omega), ← nI_succ]
      exact ih
theorem pm_tonsOf {hatches left : Nat → Int32} {s : Nat} (hs : s < 10) (hH : ∀ k, ∃ h, h ≤ 4 ∧ hatches k = nI h) {Q : Int32 → Prop} (hQ : Q (tns hatches left s)) : wp_Model_tonsOf hatches left (nI s) Q := by
  obtain ⟨H, h4, e⟩ := hH s
  rw [tns, e, nI_clamp (by omega)] at hQ
  exact ⟨H + 1, pm_tonsOf_h4 hs e h4 hQ H 0 (by omega)⟩
/-- the tons of the first k ships -/
def tl (hatches left : Nat → Int32) : Nat → Int32
  | 0 => 0
  | k + 1 => tl hatches left k + tns hatches left k
theorem pc_tonsLeft_h4 {hatches left : Nat → Int32} {S : Nat} (hS : S ≤ 10) (hH : ∀ k, ∃ h, h ≤ 4 ∧ hatches k = nI h) {Q : Int32 → Prop} (hQ : Q (tl hatches left S)) : ∀ k s, s + k = S → wp_Ships_tonsLeft_h4 (nI S) hatches left Q (k + 1) (tl hatches left s) (nI s)
  | 0, s, e => by
    have e : s = S := by omega
    subst e
    rw [wp_Ships_tonsLeft_h4]
    exact ⟨fun _ => hQ, fun h => absurd ((pu_nle (by omega) (by omega)).mpr (Nat.le_refl _)) h⟩
  | k + 1, s, e => by
    have ih := pc_tonsLeft_h4 hS hH hQ k (s + 1) (by omega)
    rw [wp_Ships_tonsLeft_h4]
    refine ⟨fun h0 => ?_, fun _ => ?_⟩
    · have := (pu_nle (by omega) (by omega)).mp h0; omega
    · refine pc_tonsOf (by omega) hH ?_
      rw [← nI_succ]
      exact ih
theorem pm_count_h84 {hatches left : Nat → Int32} {S : Nat} (hS : S ≤ 10) (hH : ∀ k, ∃ h, h ≤ 4 ∧ hatches k = nI h) {t : Int32} {Q : Int32 → Int32 → Prop} (hQ : Q (tl hatches left S) t) : ∀ k s, s + k = S → wp_Model_count_h84 t (nI S) hatches left Q (k + 1) (tl hatches left s) (nI s)
  | 0, s, e => by
    have e : s = S := by omega
    subst e
    rw [wp_Model_count_h84]
    exact ⟨fun _ => hQ, fun h => absurd ((pu_nle (by omega) (by omega)).mpr (Nat.le_refl _)) h⟩
  | k + 1, s, e => by
    have ih := pm_count_h84 hS hH hQ k (s + 1) (by omega)
    rw [wp_Model_count_h84]
    refine ⟨fun h0 => ?_, fun _ => ?_⟩
    · have := (pu_nle (by omega) (by omega)).mp h0; omega
    · refine pm_tonsOf (by omega) hH ?_
      rw [← nI_succ]
      exact ih
theorem q_ship {s_size o_number : Int32} {s_came s_hatches s_left s_skill : Nat → Int32} (hS : I_S s_size s_hatches s_left s_skill) :
    wp_Dock_ship s_size s_came o_number
      (fun r a1 a2 => wp_Model_ship s_size o_number s_came (fun b th b1 b2 => th = 0 ∧ r = b ∧ (b1 = a1 ∧ b2 = a2) ∧ I_S a1 s_hatches s_left s_skill))
      (fun E a1 a2 => wp_Model_ship s_size o_number s_came (fun b th b1 b2 => th = ecode [xUO] E ∧ (b1 = a1 ∧ b2 = a2) ∧ I_S a1 s_hatches s_left s_skill)) := by
  have hS' := hS
  obtain ⟨⟨S, hS, rfl⟩, hH⟩ := hS
  unfold wp_Dock_ship wp_Ships_add wp_Model_ship
  by_cases h3 : nI S < 10
  · have h5 : S < 10 := (pu_nlt (a := S) (b := 10) (by omega) (by omega)).mp h3
    have h4 : (nI S = 10) = False := eq_false (fun e => by have := (pu_neq (a := S) (b := 10) (by omega) (by omega)).mp e; omega)
    have h6 : vp_in (nI S) 10 := pu_inI h5 (by omega)
    simp only [h3, h4, h6, pm_th0, p10, not_true, not_false_iff, false_implies, true_implies, true_and, and_true, if_true, if_false, and_self]
    refine ⟨?_, ⟨S + 1, by omega, (nI_succ S).symm⟩, hH⟩
    have := nI_pred S
    rw [nI_succ] at this
    exact this.symm
  · have h5 : S = 10 := by
      have := mt (pu_nlt (a := S) (b := 10) (by omega) (by omega)).mpr h3
      omega
    have h4 : (nI S = 10) = True := by rw [h5]; exact eq_true rfl
    simp only [h3, h4, pm_th0, pm_th1, p10, not_true, not_false_iff, false_implies, true_implies, true_and, and_true, if_true, if_false, and_self]
    exact ⟨by rfl, hS'⟩
theorem pu_updS {f : Nat → Int32} {n : Nat} (h : ∀ k, ∃ t, t ≤ n ∧ f k = nI t) (j : Nat) {x : Int32} (hx : ∃ t, t ≤ n ∧ x = nI t) : ∀ k, ∃ t, t ≤ n ∧ upd f j x k = nI t := by
  intro k
  by_cases e : k = j
  · subst e; rw [pu_upd_same]; exact hx
  · rw [pu_upd_ne e]; exact h k
theorem pu_le_ex {p : Int32} {n : Nat} (hn : n < 2 ^ 31) (h : ¬ p < 0) (h2 : p ≤ nI n) : ∃ k, k ≤ n ∧ p = nI k := by
  obtain ⟨k, hk, rfl⟩ := pu_ex h
  exact ⟨k, (pu_nle hk hn).mp h2, rfl⟩
theorem q_hatch {s_size : Int32} {s_hatches s_left s_skill s_dry : Nat → Int32} (hS : I_S s_size s_hatches s_left s_skill) (p0 p1 p2 p3 : Int32) :
    wp_Dock_hatch s_size s_hatches s_left s_skill s_dry p0 p1 p2 p3
      (fun r a1 a2 a3 a4 => wp_Model_hatch s_size s_hatches s_left s_skill s_dry p0 p1 p2 p3 (fun b th b1 b2 b3 b4 => th = 0 ∧ r = b ∧ (b1 = a1 ∧ b2 = a2 ∧ b3 = a3 ∧ b4 = a4) ∧ I_S s_size a1 a2 a3))
      (fun E a1 a2 a3 a4 => wp_Model_hatch s_size s_hatches s_left s_skill s_dry p0 p1 p2 p3 (fun b th b1 b2 b3 b4 => th = ecode [xIO, xIA, xUO] E ∧ (b1 = a1 ∧ b2 = a2 ∧ b3 = a3 ∧ b4 = a4) ∧ I_S s_size a1 a2 a3)) := by
  have hS' := hS
  obtain ⟨⟨S, hS, rfl⟩, hH, hL, hK⟩ := hS
  unfold wp_Dock_hatch wp_Ships_addHatch wp_Ships_place wp_Model_hatch
  simp only [pm_noShip (n := S) (by omega), pc_shipsHas]
  by_cases h1 : p0 < 0
  · simp only [h1, pm_th1, p10, not_true, not_false_iff, false_implies, true_implies, true_and, and_true, if_true, if_false, and_self]
    exact ⟨by rfl, hS'⟩
  by_cases h2 : nI S ≤ p0
  · simp only [h1, h2, pm_th1, p10, not_true, not_false_iff, false_implies, true_implies, true_and, and_true, if_true, if_false, and_self]
    exact ⟨by rfl, hS'⟩
  obtain ⟨s, hs, rfl⟩ := pu_exb (by omega) h1 h2
  simp only [h1, h2, pm_in p1 0 2000 (A := 0) (B := 2000) rfl rfl, pm_in p2 0 3 (A := 0) (B := 3) rfl rfl, pm_th0, pm_th1, p10, not_true, not_false_iff, false_implies, true_implies, true_and, and_true, if_true, if_false, and_self]
  by_cases h3 : p1 < 0
  · simp only [h3, pm_th0, pm_th1, p10, not_true, not_false_iff, false_implies, true_implies, true_and, and_true, if_true, if_false, and_self]
    exact ⟨by rfl, hS'⟩
  by_cases h4 : p1 ≤ 2000
  rotate_left
  · have h4' : 2000 < p1 := (pu_nlt_le _ _).mpr h4
    simp only [h3, h4, h4', pm_th0, pm_th1, p10, not_true, not_false_iff, false_implies, true_implies, true_and, and_true, if_true, if_false, and_self]
    exact ⟨by rfl, hS'⟩
  have h4' : ¬ 2000 < p1 := fun h => (pu_nlt_le _ _).mp h h4
  by_cases h5 : p2 < 0
  · simp only [h3, h4, h4', h5, pm_th0, pm_th1, p10, not_true, not_false_iff, false_implies, true_implies, true_and, and_true, if_true, if_false, and_self]
    exact ⟨by rfl, hS'⟩
  by_cases h6 : p2 ≤ 3
  rotate_left
  · simp only [h3, h4, h4', h5, h6, pm_th0, pm_th1, p10, not_true, not_false_iff, false_implies, true_implies, true_and, and_true, if_true, if_false, and_self]
    exact ⟨by rfl, hS'⟩
  have i1 : vp_in (nI s) 10 := pu_inI (by omega) (by omega)
  obtain ⟨h, hh, eh⟩ := hH s
  simp only [h3, h4, h4', h5, h6, i1, nI_clamp (show s < 2 ^ 31 by omega), eh, pm_th0, pm_th1, p10, not_true, not_false_iff, false_implies, true_implies, true_and, and_true, if_true, if_false, and_self]
  by_cases h7 : nI h < 4
  · have h8 : h < 4 := (pu_nlt (a := h) (b := 4) (by omega) (by omega)).mp h7
    have h9 : (nI h = 4) = False := eq_false (fun e => by have := (pu_neq (a := h) (b := 4) (by omega) (by omega)).mp e; omega)
    have i2 : vp_in (nI (4 * s + h)) 40 := pu_inI (by omega) (by omega)
    simp only [h7, h9, pu_mul4, pu_4mul, i2, pm_th0, pm_th1, p10, pu_upd_same, not_true, not_false_iff, false_implies, true_implies, true_and, and_true, if_true, if_false, and_self]
    refine ⟨?_, ⟨S, hS, rfl⟩, pu_updS hH _ ⟨h + 1, by omega, (nI_succ h).symm⟩, pu_updS hL _ (pu_le_ex (by omega) h3 h4), pu_updS hK _ (pu_le_ex (by omega) h5 h6)⟩
    have := nI_pred h
    rw [nI_succ] at this
    exact this.symm
  · have h8 : h = 4 := by
      have := mt (pu_nlt (a := h) (b := 4) (by omega) (by omega)).mpr h7
      omega
    have h9 : (nI h = 4) = True := by rw [h8]; exact eq_true rfl
    simp only [h7, h9, pm_th0, pm_th1, p10, not_true, not_false_iff, false_implies, true_implies, true_and, and_true, if_true, if_false, and_self]
    exact ⟨by rfl, hS'⟩
theorem q_end {t_length : Int32} {t_bytes : Nat → Int32} (hT : I_T t_length t_bytes) (p0 : Int32) :
    wp_Dock_end t_length p0 (fun r a1 => wp_Model_end t_length p0 (fun b th b1 => th = 0 ∧ r = b ∧ b1 = a1 ∧ I_T a1 t_bytes)) := by
  have hT' := hT
  obtain ⟨⟨n, hn, rfl⟩, hB⟩ := hT
  unfold wp_Dock_end wp_Model_end
  by_cases h1 : p0 < 0
  · simp only [h1, not_true, not_false_iff, false_implies, true_implies, true_and, and_true, and_self]
    exact hT'
  · by_cases h2 : p0 ≤ nI n
    · simp only [h1, h2, not_true, not_false_iff, false_implies, true_implies, true_and, and_true, and_self]
      obtain ⟨k, hk, rfl⟩ := pu_le_ex (by omega) h1 h2
      exact ⟨⟨k, by omega, rfl⟩, hB⟩
    · simp only [h1, h2, not_true, not_false_iff, false_implies, true_implies, true_and, and_true, and_self]
      exact hT'
theorem q_says (ag : Nat → Int32) (p0 : Int32) :
    wp_Dock_says ag p0 (fun r => wp_Model_says ag p0 (fun b th => th = 0 ∧ r = b)) (fun E => wp_Model_says ag p0 (fun b th => th = ecode [xNS] E)) := by
  unfold wp_Dock_says wp_Model_says
  simp only [pm_in p0 0 10 (A := 0) (B := 10) rfl rfl]
  by_cases h1 : p0 < 0
  · simp only [h1, pm_th0, pm_th1, p10, not_true, not_false_iff, false_implies, true_implies, true_and, and_true, if_true, if_false, and_self]
    rfl
  · by_cases h2 : p0 < 11
    · have h3 : p0 ≤ 10 := by
        rw [pu_lt] at h2; rw [pu_le]
        have e1 : (11 : Int32).toInt = 11 := rfl
        have e2 : (10 : Int32).toInt = 10 := rfl
        omega
      obtain ⟨k, hk, rfl⟩ := pu_exb (n := 11) (by omega) h1 (fun h => (pu_nlt_le _ _).mp h2 h)
      have i1 : vp_in (nI k) 11 := pu_inI hk (by omega)
      simp only [h1, h2, h3, i1, pm_th0, pm_th1, p10, not_true, not_false_iff, false_implies, true_implies, true_and, and_true, if_true, if_false, and_self]
    · have h3 : ¬ p0 ≤ 10 := by
        rw [pu_lt] at h2; rw [pu_le]
        have e1 : (11 : Int32).toInt = 11 := rfl
        have e2 : (10 : Int32).toInt = 10 := rfl
        omega
      simp only [h1, h2, h3, pm_th0, pm_th1, p10, not_true, not_false_iff, false_implies, true_implies, true_and, and_true, if_true, if_false, and_self]
      rfl
theorem q_look {m_size o_number : Int32} {m_skills m_turns m_barredUpTo m_refusals m_gangShip m_gangHatch : Nat → Int32} (hM : I_M m_size) (p0 p1 : Int32) :
    wp_Dock_look m_size m_skills m_turns m_barredUpTo m_refusals m_gangShip m_gangHatch o_number p0 p1
      (fun r => wp_Model_look m_size o_number m_skills m_turns m_barredUpTo m_refusals m_gangShip m_gangHatch p0 p1 (fun b th => th = 0 ∧ r = b))
      (fun E => wp_Model_look m_size o_number m_skills m_turns m_barredUpTo m_refusals m_gangShip m_gangHatch p0 p1 (fun b th => th = ecode [xIO, xNS] E)) := by
  obtain ⟨M, hM, rfl⟩ := hM
  unfold wp_Dock_look wp_Men_isBarred wp_Model_look
  simp only [pm_noMan (n := M) (by omega), pc_menHas]
  by_cases h1 : p0 < 0
  · simp only [h1, pm_th0, pm_th1, p10, not_true, not_false_iff, false_implies, true_implies, true_and, and_true, if_true, if_false, and_self]
    rfl
  by_cases h2 : nI M ≤ p0
  · simp only [h1, h2, pm_th0, pm_th1, p10, not_true, not_false_iff, false_implies, true_implies, true_and, and_true, if_true, if_false, and_self]
    rfl
  obtain ⟨s, hs, rfl⟩ := pu_exb (by omega) h1 h2
  have i1 : vp_in (nI s) 24 := pu_inI (by omega) (by omega)
  simp only [h1, h2, i1, pm_th0, pm_th1, p10, not_true, not_false_iff, false_implies, true_implies, true_and, and_true, if_true, if_false, and_self]
  by_cases c0 : p1 = 0
  · subst c0
    simp only [not_true, not_false_iff, false_implies, true_implies, true_and, and_true, and_self]
  by_cases c1 : p1 = 1
  · subst c1
    simp only [c0, not_true, not_false_iff, false_implies, true_implies, true_and, and_true, and_self]
  by_cases c2 : p1 = 2
  · subst c2
    simp only [c0, c1, not_true, not_false_iff, false_implies, true_implies, true_and, and_true, and_self]
    by_cases hb : m_barredUpTo (nI s).toNatClampNeg < o_number
    · simp only [hb, p10, not_true, not_false_iff, false_implies, true_implies, true_and, and_true, and_self]
    · simp only [hb, p10, not_true, not_false_iff, false_implies, true_implies, true_and, and_true, and_self]
  by_cases c3 : p1 = 3
  · subst c3
    simp only [c0, c1, c2, not_true, not_false_iff, false_implies, true_implies, true_and, and_true, and_self]
  by_cases c4 : p1 = 4
  · subst c4
    simp only [c0, c1, c2, c3, not_true, not_false_iff, false_implies, true_implies, true_and, and_true, and_self]
  by_cases c5 : p1 = 5
  · subst c5
    simp only [c0, c1, c2, c3, c4, not_true, not_false_iff, false_implies, true_implies, true_and, and_true, and_self]
  simp only [c0, c1, c2, c3, c4, c5, not_true, not_false_iff, false_implies, true_implies, true_and, and_true, and_self]
  rfl
theorem q_tons {s_size : Int32} {s_hatches s_left s_skill : Nat → Int32} (hS : I_S s_size s_hatches s_left s_skill) (p0 p1 : Int32) :
    wp_Dock_tons s_size s_hatches s_left p0 p1
      (fun r => wp_Model_tons s_size s_hatches s_left p0 p1 (fun b th => th = 0 ∧ r = b))
      (fun E => wp_Model_tons s_size s_hatches s_left p0 p1 (fun b th => th = ecode [xIO] E)) := by
  obtain ⟨⟨S, hS, rfl⟩, hH, hL, hK⟩ := hS
  unfold wp_Dock_tons wp_Ships_place wp_Model_tons
  simp only [pm_noShip (n := S) (by omega), pc_shipsHas]
  by_cases h1 : p0 < 0
  · simp only [h1, pm_th0, pm_th1, p10, not_true, not_false_iff, false_implies, true_implies, true_and, and_true, if_true, if_false, and_self]
    rfl
  by_cases h2 : nI S ≤ p0
  · simp only [h1, h2, pm_th0, pm_th1, p10, not_true, not_false_iff, false_implies, true_implies, true_and, and_true, if_true, if_false, and_self]
    rfl
  obtain ⟨s, hs, rfl⟩ := pu_exb (by omega) h1 h2
  have i1 : vp_in (nI s) 10 := pu_inI (by omega) (by omega)
  obtain ⟨h, hh, eh⟩ := hH s
  simp only [h1, h2, i1, nI_clamp (show s < 2 ^ 31 by omega), eh, pm_no (n := h) (by omega), pm_th0, pm_th1, p10, not_true, not_false_iff, false_implies, true_implies, true_and, and_true, if_true, if_false, and_self]
  by_cases h3 : p1 < 0
  · simp only [h3, pm_th0, pm_th1, p10, not_true, not_false_iff, false_implies, true_implies, true_and, and_true, if_true, if_false, and_self]
    rfl
  by_cases h4 : nI h ≤ p1
  · have h5 : ¬ p1 < nI h := fun q => (pu_nlt_le _ _).mp q h4
    simp only [h3, h4, h5, pm_th0, pm_th1, p10, not_true, not_false_iff, false_implies, true_implies, true_and, and_true, if_true, if_false, and_self]
    rfl
  · have h5 : p1 < nI h := (pu_nlt_le _ _).mpr h4
    obtain ⟨j, hj, rfl⟩ := pu_exb (by omega) h3 h4
    have i2 : vp_in (nI (4 * s + j)) 40 := pu_inI (by omega) (by omega)
    simp only [h3, h4, h5, pu_mul4, pu_4mul, i2, pm_th0, pm_th1, p10, not_true, not_false_iff, false_implies, true_implies, true_and, and_true, if_true, if_false, and_self]
theorem q_state {s_size : Int32} {s_came s_hatches s_waited s_left s_skill : Nat → Int32} (hS : I_S s_size s_hatches s_left s_skill) (p0 p1 : Int32) :
    wp_Dock_state s_size s_came s_hatches s_waited s_left p0 p1
      (fun r => wp_Model_state s_size s_came s_hatches s_waited s_left p0 p1 (fun b th => th = 0 ∧ r = b))
      (fun E => wp_Model_state s_size s_came s_hatches s_waited s_left p0 p1 (fun b th => th = ecode [xIO, xNS] E)) := by
  obtain ⟨⟨S, hS, rfl⟩, hH, hL, hK⟩ := hS
  unfold wp_Dock_state wp_Ships_isDone wp_Model_state
  simp only [pm_noShip (n := S) (by omega), pc_shipsHas]
  by_cases h1 : p0 < 0
  · simp only [h1, pm_th0, pm_th1, p10, not_true, not_false_iff, false_implies, true_implies, true_and, and_true, if_true, if_false, and_self]
    rfl
  by_cases h2 : nI S ≤ p0
  · simp only [h1, h2, pm_th0, pm_th1, p10, not_true, not_false_iff, false_implies, true_implies, true_and, and_true, if_true, if_false, and_self]
    rfl
  obtain ⟨s, hs, rfl⟩ := pu_exb (by omega) h1 h2
  have i1 : vp_in (nI s) 10 := pu_inI (by omega) (by omega)
  simp only [h1, h2, i1, pm_th0, pm_th1, p10, not_true, not_false_iff, false_implies, true_implies, true_and, and_true, if_true, if_false, and_self]
  by_cases c0 : p1 = 0
  · subst c0
    simp only [not_true, not_false_iff, false_implies, true_implies, true_and, and_true, and_self]
  by_cases c1 : p1 = 1
  · subst c1
    simp only [c0, not_true, not_false_iff, false_implies, true_implies, true_and, and_true, and_self]
  by_cases c2 : p1 = 2
  · subst c2
    simp only [c0, c1, not_true, not_false_iff, false_implies, true_implies, true_and, and_true, and_self]
    refine pc_tonsOf (by omega) hH ?_
    by_cases hz : tns s_hatches s_left s = 0
    · simp only [hz, p10, not_true, not_false_iff, false_implies, true_implies, true_and, and_true, and_self]
      refine pm_tonsOf (by omega) hH ?_
      simp only [hz, p10, not_true, not_false_iff, false_implies, true_implies, true_and, and_true, and_self]
    · simp only [hz, p10, not_true, not_false_iff, false_implies, true_implies, true_and, and_true, and_self]
      refine pm_tonsOf (by omega) hH ?_
      simp only [hz, p10, not_true, not_false_iff, false_implies, true_implies, true_and, and_true, and_self]
  by_cases c3 : p1 = 3
  · subst c3
    simp only [c0, c1, c2, not_true, not_false_iff, false_implies, true_implies, true_and, and_true, and_self]
  simp only [c0, c1, c2, c3, not_true, not_false_iff, false_implies, true_implies, true_and, and_true, and_self]
  rfl
theorem q_count {m_size s_size g_size g_rulings g_paid o_number o_gangsInAll o_tonsMoved o_idle : Int32} {x_moved x_paid : Int64} {s_hatches s_left s_skill : Nat → Int32} (hS : I_S s_size s_hatches s_left s_skill) (hm : x_moved.toInt32 = o_tonsMoved) (hp : x_paid.toInt32 = g_paid) (p0 : Int32) :
    wp_Dock_count m_size s_size s_hatches s_left g_size g_rulings g_paid o_number o_gangsInAll o_tonsMoved o_idle p0
      (fun r => wp_Model_count m_size s_size g_size g_rulings o_number o_gangsInAll o_idle x_moved x_paid s_hatches s_left p0 (fun b th => th = 0 ∧ r = b)) := by
  obtain ⟨⟨S, hS, rfl⟩, hH, hL, hK⟩ := hS
  subst hm; subst hp
  unfold wp_Dock_count wp_Model_count
  by_cases c0 : p0 = 0
  · subst c0
    simp only [not_true, not_false_iff, false_implies, true_implies, true_and, and_true, and_self]
  by_cases c1 : p0 = 1
  · subst c1
    simp only [c0, not_true, not_false_iff, false_implies, true_implies, true_and, and_true, and_self]
  by_cases c2 : p0 = 2
  · subst c2
    simp only [c0, c1, not_true, not_false_iff, false_implies, true_implies, true_and, and_true, and_self]
  by_cases c3 : p0 = 3
  · subst c3
    simp only [c0, c1, c2, not_true, not_false_iff, false_implies, true_implies, true_and, and_true, and_self]
  by_cases c4 : p0 = 4
  · subst c4
    simp only [c0, c1, c2, c3, not_true, not_false_iff, false_implies, true_implies, true_and, and_true, and_self]
    exact ⟨S + 1, pc_tonsLeft_h4 hS hH (Q := fun r => ∃ n', wp_Model_count_h84 0 (nI S) s_hatches s_left (fun b th => th = 0 ∧ r = b) n' 0 0) ⟨S + 1, pm_count_h84 hS hH ⟨rfl, rfl⟩ S 0 (by omega)⟩ S 0 (by omega)⟩
  by_cases c5 : p0 = 5
  · subst c5
    simp only [c0, c1, c2, c3, c4, not_true, not_false_iff, false_implies, true_implies, true_and, and_true, and_self]
  by_cases c6 : p0 = 6
  · subst c6
    simp only [c0, c1, c2, c3, c4, c5, not_true, not_false_iff, false_implies, true_implies, true_and, and_true, and_self]
  by_cases c7 : p0 = 7
  · subst c7
    simp only [c0, c1, c2, c3, c4, c5, c6, not_true, not_false_iff, false_implies, true_implies, true_and, and_true, and_self]
  by_cases c8 : p0 = 8
  · subst c8
    simp only [c0, c1, c2, c3, c4, c5, c6, c7, not_true, not_false_iff, false_implies, true_implies, true_and, and_true, and_self]
  by_cases c9 : p0 = 9
  · subst c9
    simp only [c0, c1, c2, c3, c4, c5, c6, c7, c8, not_true, not_false_iff, false_implies, true_implies, true_and, and_true, and_self]
  simp only [c0, c1, c2, c3, c4, c5, c6, c7, c8, c9, not_true, not_false_iff, false_implies, true_implies, true_and, and_true, and_self]
