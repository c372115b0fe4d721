/-! The plan's ships, the plan: class and model. -/
def I_P (p_size : Int32) (p_need p_takes p_answers x_need x_most : Nat → Int32) : Prop := ∃ (W : Nat) (n t : Nat → Nat), W ≤ 4 ∧ p_size = nI W ∧ (∀ s, n s ≤ 8) ∧ (∀ s, t s ≤ 4) ∧ (∀ s, s < 4 → p_need s = nI (n s) ∧ p_takes s = nI (t s)) ∧ (∀ s, s < W → x_need s = nI (n s) ∧ x_most s = nI (t s) ∧ 1 ≤ t s) ∧ (∀ s, W ≤ s → n s = 0) ∧
  (∀ g, 1 ≤ g → g ≤ 8 → p_answers g = -1 ∨ ∃ V, BE (t 0) (t 1) (t 2) (t 3) g (n 0) (n 1) (n 2) (n 3) V ∧ p_answers g = nI (V (n 0) (n 1) (n 2) (n 3)))
theorem q_unwant {p_size : Int32} {p_need p_takes p_answers x_need x_most : Nat → Int32} (hP : I_P p_size p_need p_takes p_answers x_need x_most) :
    wp_Dock_unwant p_size p_need p_answers (fun r a1 a2 a3 => wp_Model_unwant p_size (fun b th b1 => th = 0 ∧ r = b ∧ b1 = a1 ∧ I_P a1 a2 p_takes a3 x_need x_most)) := by
  obtain ⟨W, n, t, hW, rfl, hn8, ht4, hnt, hx, hnW, ha⟩ := hP
  unfold wp_Dock_unwant wp_Planner_clear wp_Model_unwant
  refine pl_fill (by omega) (fun f' h1 h2 => pl_fill (by omega) (fun g' k1 k2 => ⟨rfl, rfl, rfl, 0, fun _ => 0, t, by omega, rfl, fun _ => Nat.zero_le _, ht4, fun s hs => ⟨h1 s hs, (hnt s hs).2⟩, fun s hs => absurd hs (Nat.not_lt_zero s), fun _ _ => rfl, fun g g1 g2 => Or.inl (k1 g (by omega))⟩))
theorem q_want {p_size : Int32} {p_need p_takes p_answers x_need x_most : Nat → Int32} (hP : I_P p_size p_need p_takes p_answers x_need x_most) (p0 p1 : Int32) :
    wp_Dock_want p_size p_need p_takes p_answers p0 p1
      (fun r a1 a2 a3 a4 => wp_Model_want p_size x_need x_most p0 p1 (fun b th b1 b2 b3 => th = 0 ∧ r = b ∧ b1 = a1 ∧ I_P a1 a2 a3 a4 b2 b3))
      (fun E a1 a2 a3 a4 => wp_Model_want p_size x_need x_most p0 p1 (fun b th b1 b2 b3 => th = ecode [xIA] E ∧ b1 = a1 ∧ I_P a1 a2 a3 a4 b2 b3)) := by
  have hP' := hP
  obtain ⟨W, n, t, hW, rfl, hn8, ht4, hnt, hx, hnW, ha⟩ := hP
  unfold wp_Dock_want wp_Planner_add wp_Model_want
  simp only [pm_in p0 0 8 (A := 0) (B := 8) rfl rfl, pm_in p1 1 4 (A := 1) (B := 4) rfl rfl]
  by_cases h1 : p0 < 0
  · simp only [h1, pm_th0, pm_th1, p10, not_true, not_false_iff, false_implies, true_implies, true_and, and_true, if_true, if_false, and_self]
    exact ⟨by rfl, hP'⟩
  by_cases h2 : p0 ≤ 8
  rotate_left
  · have h2' : 8 < p0 := (pu_nlt_le _ _).mpr h2
    simp only [h1, h2, h2', pm_th0, pm_th1, p10, not_true, not_false_iff, false_implies, true_implies, true_and, and_true, if_true, if_false, and_self]
    exact ⟨by rfl, hP'⟩
  have h2' : ¬ 8 < p0 := fun h => (pu_nlt_le _ _).mp h h2
  by_cases h3 : p1 < 1
  · simp only [h1, h2, h2', h3, pm_th0, pm_th1, p10, not_true, not_false_iff, false_implies, true_implies, true_and, and_true, if_true, if_false, and_self]
    exact ⟨by rfl, hP'⟩
  by_cases h4 : p1 ≤ 4
  rotate_left
  · simp only [h1, h2, h2', h3, h4, pm_th0, pm_th1, p10, not_true, not_false_iff, false_implies, true_implies, true_and, and_true, if_true, if_false, and_self]
    exact ⟨by rfl, hP'⟩
  by_cases h5 : nI W < 4
  · have h6 : W < 4 := (pu_nlt (a := W) (b := 4) (by omega) (by omega)).mp h5
    have h7 : (nI W = 4) = False := eq_false (fun e => by have := (pu_neq (a := W) (b := 4) (by omega) (by omega)).mp e; omega)
    have i1 : vp_in (nI W) 4 := pu_inI h6 (by omega)
    simp only [h1, h2, h2', h3, h4, h5, h7, i1, pm_th0, pm_th1, p10, nI_clamp (show W < 2 ^ 31 by omega), not_true, not_false_iff, false_implies, true_implies, true_and, and_true, if_true, if_false, and_self]
    obtain ⟨x, hx8, rfl⟩ := pu_le_ex (n := 8) (by omega) h1 h2
    have hp1 : ¬ p1 < 0 := by
      intro z
      rw [pu_lt] at z h3
      have e0 : (0 : Int32).toInt = 0 := rfl
      have e1 : (1 : Int32).toInt = 1 := rfl
      omega
    obtain ⟨y, hy4, rfl⟩ := pu_le_ex (n := 4) (by omega) hp1 h4
    have hy1 : 1 ≤ y := by
      rcases Nat.eq_zero_or_pos y with z | z
      · subst z; exact absurd (show nI 0 < 1 by decide) h3
      · exact z
    refine pl_fill (by omega) (fun g' k1 k2 => ?_)
    refine ⟨W + 1, fun s => if s = W then x else n s, fun s => if s = W then y else t s, by omega, (nI_succ W).symm, fun s => ?_, fun s => ?_, fun s hs => ?_, fun s hs => ?_, fun s hs => ?_, fun g g1 g2 => Or.inl (k1 g (by omega))⟩
    · show (if s = W then x else n s) ≤ 8
      split
      · exact hx8
      · exact hn8 s
    · show (if s = W then y else t s) ≤ 4
      split
      · exact hy4
      · exact ht4 s
    · by_cases e : s = W
      · subst e; rw [pu_upd_same, pu_upd_same]; simp
      · rw [pu_upd_ne e, pu_upd_ne e]; simpa [e] using hnt s hs
    · by_cases e : s = W
      · subst e; rw [pu_upd_same, pu_upd_same]; simpa using hy1
      · rw [pu_upd_ne e, pu_upd_ne e]; simpa [e] using hx s (by omega)
    · show (if s = W then x else n s) = 0
      rw [if_neg (by omega)]
      exact hnW s (by omega)
  · have h6 : W = 4 := by
      have := mt (pu_nlt (a := W) (b := 4) (by omega) (by omega)).mpr h5
      omega
    have h7 : (nI W = 4) = True := by rw [h6]; exact eq_true rfl
    simp only [h1, h2, h2', h3, h4, h5, h7, pm_th0, pm_th1, p10, not_true, not_false_iff, false_implies, true_implies, true_and, and_true, if_true, if_false, and_self]
    exact hP'
theorem q_plan {p_size : Int32} {p_need p_takes p_room p_waiting p_answers x_need x_most x_least : Nat → Int32} (hP : I_P p_size p_need p_takes p_answers x_need x_most) (p0 : Int32) :
    wp_Dock_plan p_need p_takes p_room p_waiting p_answers p0
      (fun r _ _ a3 => wp_Model_plan p_size x_need x_most x_least p0 (fun b th _ => th = 0 ∧ r = b ∧ I_P p_size p_need p_takes a3 x_need x_most))
      (fun E _ _ a3 => wp_Model_plan p_size x_need x_most x_least p0 (fun b th _ => th = ecode [xIA] E ∧ I_P p_size p_need p_takes a3 x_need x_most)) := by
  have hP' := hP
  obtain ⟨W, n, t, hW, rfl, hn8, ht4, hnt, hx, hnW, ha⟩ := hP
  have hbad : ∀ E : String, E = xIA → (p0 < 1 ∨ ¬ p0 ≤ 8) → wp_Model_plan (nI W) x_need x_most x_least p0 (fun b th _ => th = ecode [xIA] E ∧ I_P (nI W) p_need p_takes p_answers x_need x_most) := by
    intro E hE h
    subst hE
    unfold wp_Model_plan
    simp only [pm_in p0 1 8 (A := 1) (B := 8) rfl rfl]
    have e : (if p0 < 1 then (0 : Int32) else if p0 ≤ 8 then 1 else 0) = 0 := by
      by_cases c : p0 < 1
      · rw [if_pos c]
      · rw [if_neg c, if_neg (by rcases h with z | z; exact absurd z c; exact z)]
    simp only [e, pm_th0, pm_th1, p10, not_true, not_false_iff, false_implies, true_implies, true_and, and_true, if_true, if_false, and_self]
    exact ⟨by rfl, hP'⟩
  unfold wp_Dock_plan
  refine ⟨fun h => hbad _ rfl (Or.inl h), fun h1 => ⟨fun h2 => ?_, fun h2 => hbad _ rfl (Or.inr h2)⟩⟩
  have hp1 : ¬ p0 < 0 := by
    intro z
    rw [pu_lt] at z h1
    have e0 : (0 : Int32).toInt = 0 := rfl
    have e1 : (1 : Int32).toInt = 1 := rfl
    omega
  obtain ⟨K, hK, rfl⟩ := pu_le_ex (n := 8) (by omega) hp1 h2
  have hK1 : 1 ≤ K := by
    rcases Nat.eq_zero_or_pos K with z | z
    · subst z; exact absurd (show nI 0 < 1 by decide) h1
    · exact z
  obtain ⟨V, hV, hm⟩ := pm_plan (least := x_least) hW hK1 hK hn8 hnW (fun s hs => (hx s hs).1) (fun s hs => ⟨(hx s hs).2.1, (hx s hs).2.2, ht4 s⟩)
  have i1 : vp_in (nI K) 9 := pu_inI (by omega) (by omega)
  unfold wp_Planner_leastWaiting
  rw [nI_clamp (by omega)]
  refine ⟨i1, fun hz => ?_, fun hz => ⟨i1, ?_⟩⟩
  · refine pl_search hV hK (hn8 0) (hn8 1) (hn8 2) (hn8 3) (hnt 0 (by omega)).2 (hnt 1 (by omega)).2 (hnt 2 (by omega)).2 (hnt 3 (by omega)).2 (ht4 0) (ht4 1) (ht4 2) (ht4 3) (hnt 0 (by omega)).1 (hnt 1 (by omega)).1 (hnt 2 (by omega)).1 (hnt 3 (by omega)).1 (fun room' w' => ⟨i1, i1, hm _ (fun least' => ⟨rfl, by rw [pu_upd_same], W, n, t, hW, rfl, hn8, ht4, hnt, hx, hnW, fun g g1 g2 => ?_⟩)⟩)
    by_cases e : g = K
    · subst e; rw [pu_upd_same]; exact Or.inr ⟨V, hV, rfl⟩
    · rw [pu_upd_ne e]; exact ha g g1 g2
  · refine hm _ (fun least' => ⟨rfl, ?_, hP'⟩)
    rcases ha K hK1 hK with z | ⟨V', hV', z⟩
    · exact absurd z hz
    · rw [z, hV'.uniq hV _ (n 0) (n 1) (n 2) (n 3) (Nat.le_refl _) (Nat.le_refl _) (Nat.le_refl _) (Nat.le_refl _) (Nat.le_refl _)]
