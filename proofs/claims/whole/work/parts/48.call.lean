/-! The call: class and model. -/
/-- the agreement: gang, cranes, rates -/
def I_AG (ag : Nat → Int32) : Prop := (∃ g, 1 ≤ g ∧ g ≤ 8 ∧ ag 0 = nI g) ∧ (∃ c, c ≤ 12 ∧ ag 1 = nI c) ∧ (∀ q, q ≤ 3 → ∃ r, r ≤ 500 ∧ ag (7 + q) = nI r)
def IV (N R : Nat) (rE : Nat → Int32) (e : Nat) (le ma la : Nat → Int32) : Prop := e ≤ 800 ∧ (∀ k, ∃ t, t ≤ 2000 ∧ le k = nI t) ∧ (∀ k, k < e → ∃ c, c ≤ N ∧ ma k = nI c) ∧ (∀ j k, j < k → k < e → ma j ≤ ma k) ∧ (∀ k, k < R → ∃ x, x < e ∧ rE k = nI x) ∧ (∀ x, x < e → la x = lastOf rE (nI x) R)
def IVs (N R : Nat) (rE : Nat → Int32) : ST → Prop
  | (_, _, _, _, _, le, e, _, ma, _, _, la, _, _) => IV N R rE e le ma la
theorem lastOf_none {rE : Nat → Int32} {x : Int32} : ∀ n, (∀ k, k < n → ¬ rE k = x) → lastOf rE x n = -1
  | 0, _ => rfl
  | n + 1, h => by
    rw [lastOf, if_neg (h n (by omega))]
    exact lastOf_none n (fun k hk => h k (by omega))
theorem IV.add {N R : Nat} {rE : Nat → Int32} {e : Nat} {le ma la : Nat → Int32} (hN : N < 2 ^ 31) (h : IV N R rE e le ma la) (he : e < 800) : IV N R rE (e + 1) le (upd ma e (nI N)) (upd la e (-1)) := by
  obtain ⟨h1, h2, h3, h4, h5, h6⟩ := h
  refine ⟨by omega, h2, fun k hk => ?_, fun j k hj hk => ?_, fun k hk => ?_, fun x hx => ?_⟩
  · by_cases ek : k = e
    · subst ek; rw [pu_upd_same]; exact ⟨N, Nat.le_refl _, rfl⟩
    · rw [pu_upd_ne ek]; exact h3 k (by omega)
  · rw [pu_upd_ne (show j ≠ e by omega)]
    by_cases ek : k = e
    · subst ek; rw [pu_upd_same]
      obtain ⟨c, hc, ec⟩ := h3 j (by omega)
      rw [ec]; exact (pu_nle (by omega) hN).mpr hc
    · rw [pu_upd_ne ek]; exact h4 j k hj (by omega)
  · obtain ⟨x, hx, ex⟩ := h5 k hk
    exact ⟨x, by omega, ex⟩
  · by_cases ex : x = e
    · subst ex; rw [pu_upd_same]
      refine (lastOf_none R (fun k hk q => ?_)).symm
      obtain ⟨z, hz, ez⟩ := h5 k hk
      rw [ez] at q
      have := (pu_neq (by omega) (by omega)).mp q
      omega
    · rw [pu_upd_ne ex]; exact h6 x (by omega)
theorem py_inv {N R : Nat} {rE le : Nat → Int32} {pay sh ha : Int32} {g : Nat → Int32} (hN : N < 2 ^ 31) : ∀ k i tu gs gh e pa ma ca mo la tu' gs' gh' e' pa' ma' ca' mo' la', IV N R rE e le ma la → py (nI N) pay sh ha g k i tu gs gh e pa ma ca mo la = (tu', gs', gh', e', pa', ma', ca', mo', la') → IV N R rE e' le ma' la'
  | 0, i, tu, gs, gh, e, pa, ma, ca, mo, la, tu', gs', gh', e', pa', ma', ca', mo', la', he, h => by
    rw [py] at h
    simp only [Prod.mk.injEq] at h
    obtain ⟨-, -, -, rfl, -, rfl, -, -, rfl⟩ := h
    exact he
  | k + 1, i, tu, gs, gh, e, pa, ma, ca, mo, la, tu', gs', gh', e', pa', ma', ca', mo', la', he, h => by
    rw [py] at h
    split at h
    · rename_i h1
      exact py_inv hN k (i + 1) _ _ _ _ _ _ _ _ _ tu' gs' gh' e' pa' ma' ca' mo' la' (he.add hN h1) h
    · exact py_inv hN k (i + 1) _ _ _ _ _ _ _ _ _ tu' gs' gh' e' pa' ma' ca' mo' la' he h
theorem hst_inv {ag skills skill dry rE : Nat → Int32} {N R : Nat} {rain unw : Int32} {M full : Nat} {G : Nat → Nat} {s h : Nat} (hN : N < 2 ^ 31) (hk : ∀ k, ∃ q, q ≤ 3 ∧ skill k = nI q) (hr : ∀ q, q ≤ 3 → ∃ r, r ≤ 500 ∧ ag (7 + q) = nI r) {st : ST} (hi : IVs N R rE st) : IVs N R rE (hst ag skills skill dry (nI N) rain unw M full G s h st).2 := by
  obtain ⟨tu, ba, re, gs, gh, le, e, pa, ma, ca, mo, la, mv, id⟩ := st
  by_cases h0 : le (4 * s + h) = 0
  · rw [hst_0 h0]; exact hi
  · rcases h1 : mu skills gs (skill (4 * s + h)) (nI N) (nI N + ag (2 : Int32).toNatClampNeg) unw full G M 0 0 ba re (fun _ => 0) with ⟨b, ba', re', g'⟩
    cases b
    · rw [hst_f h0 h1]; exact hi
    · rcases h2 : wk (ag (7 + skill (4 * s + h)).toNatClampNeg) (dry (4 * s + h)) rain 4 0 (le (4 * s + h)) mv 0 0 with ⟨t', mv', wo', ra'⟩
      rcases h3 : py (nI N) (payx ag wo' ra') (nI s) (nI h) g' full 0 tu gs gh e pa ma ca mo la with ⟨tu', gs', gh', e', pa', ma', ca', mo', la'⟩
      rw [hst_t h0 h1 h2 h3]
      have hz : IV N R rE e' le ma' la' := py_inv hN _ _ _ _ _ _ _ _ _ _ _ _ _ _ _ _ _ _ _ _ hi h3
      refine ⟨hz.1, ?_, hz.2.2⟩
      obtain ⟨q, hq, eq⟩ := hk (4 * s + h)
      obtain ⟨r, hr5, er⟩ := hr q hq
      obtain ⟨a, ha, ea⟩ := hz.2.1 (4 * s + h)
      rw [ea, eq, pu_7, nI_clamp (by omega)] at h2
      obtain ⟨b, hb, eb⟩ := wk_t hr5 er _ _ _ _ _ _ _ _ _ _ ha h2
      exact pu_updS hz.2.1 _ ⟨b, by omega, eb⟩
theorem sv_inv {ag skills skill dry rE : Nat → Int32} {N R : Nat} {rain unw : Int32} {M full cr : Nat} {G : Nat → Nat} {s : Nat} (hN : N < 2 ^ 31) (hk : ∀ k, ∃ q, q ≤ 3 ∧ skill k = nI q) (hr : ∀ q, q ≤ 3 → ∃ r, r ≤ 500 ∧ ag (7 + q) = nI r) : ∀ k h n st, IVs N R rE st → IVs N R rE (sv ag skills skill dry (nI N) rain unw M full cr G s k h n st).2
  | 0, h, n, st, hi => hi
  | k + 1, h, n, st, hi => by
    by_cases hc : cr ≤ n
    · rw [sv, if_pos hc]; exact hi
    · rw [sv, if_neg hc]
      exact sv_inv hN hk hr k (h + 1) _ _ (hst_inv hN hk hr hi)
theorem hd_inv {ag skills skill dry hatches rE : Nat → Int32} {N R : Nat} {rain unw : Int32} {M full cr : Nat} {G GS : Nat → Nat} (hN : N < 2 ^ 31) (hk : ∀ k, ∃ q, q ≤ 3 ∧ skill k = nI q) (hr : ∀ q, q ≤ 3 → ∃ r, r ≤ 500 ∧ ag (7 + q) = nI r) : ∀ k i n st, IVs N R rE st → IVs N R rE (hd ag skills skill dry hatches (nI N) rain unw M full cr G GS k i n st).2
  | 0, i, n, st, hi => hi
  | k + 1, i, n, st, hi => by
    rw [hd]
    exact hd_inv hN hk hr k (i + 1) _ _ (sv_inv hN hk hr _ _ _ _ hi)
theorem pm_reset_h83 {came hatches waited le skill dry says ec em eo isIn wa xg ahead tu ba re gs gh skills : Nat → Int32} {rain unw th men en number gia : Int32} {xm xp : Int64} {S : Nat} (hS : S ≤ 10) (hH : ∀ k, ∃ h, h ≤ 4 ∧ hatches k = nI h)
    {Q : Int32 → Int32 → Int32 → Int32 → Int32 → Int32 → Int64 → Int64 → (Nat → Int32) → (Nat → Int32) → (Nat → Int32) → (Nat → Int32) → (Nat → Int32) → (Nat → Int32) → (Nat → Int32) → (Nat → Int32) → (Nat → Int32) → (Nat → Int32) → (Nat → Int32) → (Nat → Int32) → (Nat → Int32) → (Nat → Int32) → (Nat → Int32) → (Nat → Int32) → Prop}
    (hQ : ∀ ht start, (∀ s, s < S → ht s = 0) → (∀ s, s < S → start s = tns hatches le s) → wp_Model_nextShip (nI S) came says ht start (fun r => ∃ n', wp_Model_call_h128 rain unw th men (nI S) number gia skills came hatches waited skill dry says start ahead Q n' 0 r en 0 xm xp tu ba re gs gh le ec em eo ht isIn wa xg)) :
    ∀ k c ht start, c + k = S → (∀ s, s < c → ht s = 0) → (∀ s, s < c → start s = tns hatches le s) → wp_Model_call_h83 rain unw th men (nI S) en number gia xm xp skills tu ba re gs gh came hatches waited le skill dry says ec em eo isIn wa xg ahead Q (k + 1) (nI c) ht start
  | 0, c, ht, start, e, h1, h2 => by
    have e : c = S := by omega
    subst e
    rw [wp_Model_call_h83]
    exact ⟨fun _ => hQ ht start h1 h2, fun h => absurd (Int32.le_refl _) h⟩
  | k + 1, c, ht, start, e, h1, h2 => by
    have i1 : vp_in (nI c) 10 := pu_inI (by omega) (by omega)
    rw [wp_Model_call_h83]
    refine ⟨fun h0 => ?_, fun _ => ⟨i1, pm_tonsOf (by omega) hH ⟨i1, ?_⟩⟩⟩
    · have := (pu_nle (by omega) (by omega)).mp h0; omega
    · rw [← nI_succ, nI_clamp (by omega)]
      refine pm_reset_h83 hS hH hQ k (c + 1) _ _ (by omega) (fun s hs => ?_) (fun s hs => ?_)
      · by_cases es : s = c
        · subst es; rw [pu_upd_same]; rfl
        · rw [pu_upd_ne es]; exact h1 s (by omega)
      · by_cases es : s = c
        · subst es; rw [pu_upd_same]
        · rw [pu_upd_ne es]; exact h2 s (by omega)
theorem pm_reset_h34 {came hatches waited le skill dry says ec em eo wa xg tu ba re gs gh skills ht start : Nat → Int32} {rain unw th ships en number gia : Int32} {xm xp : Int64} {M : Nat} (hM : M ≤ 24)
    {Q : Int32 → Int32 → Int32 → Int32 → Int32 → Int32 → Int64 → Int64 → (Nat → Int32) → (Nat → Int32) → (Nat → Int32) → (Nat → Int32) → (Nat → Int32) → (Nat → Int32) → (Nat → Int32) → (Nat → Int32) → (Nat → Int32) → (Nat → Int32) → (Nat → Int32) → (Nat → Int32) → (Nat → Int32) → (Nat → Int32) → (Nat → Int32) → (Nat → Int32) → Prop}
    (hQ : ∀ isIn ahead, (∀ m, m < M → isIn m = 0) → (∀ m, m < M → ahead m = tu m) → ∃ n', wp_Model_call_h83 rain unw th (nI M) ships en number gia xm xp skills tu ba re (rs gs M) (rs gh M) came hatches waited le skill dry says ec em eo isIn wa xg ahead Q n' 0 ht start) :
    ∀ k c isIn ahead, c + k = M → (∀ m, m < c → isIn m = 0) → (∀ m, m < c → ahead m = tu m) → wp_Model_call_h34 rain unw th (nI M) ships en number gia xm xp skills tu ba re came hatches waited le skill dry says ec em eo ht start wa xg Q (k + 1) (nI c) (rs gs c) (rs gh c) isIn ahead
  | 0, c, isIn, ahead, e, h1, h2 => by
    have e : c = M := by omega
    subst e
    rw [wp_Model_call_h34]
    exact ⟨fun _ => hQ isIn ahead h1 h2, fun h => absurd (Int32.le_refl _) h⟩
  | k + 1, c, isIn, ahead, e, h1, h2 => by
    have i1 : vp_in (nI c) 24 := pu_inI (by omega) (by omega)
    rw [wp_Model_call_h34]
    refine ⟨fun h0 => ?_, fun _ => ⟨i1, i1, i1, i1, i1, ?_⟩⟩
    · have := (pu_nle (by omega) (by omega)).mp h0; omega
    · rw [← nI_succ, nI_clamp (by omega), rs_succ, rs_succ]
      refine pm_reset_h34 hM hQ k (c + 1) _ _ (by omega) (fun m hm => ?_) (fun m hm => ?_)
      · by_cases es : m = c
        · subst es; rw [pu_upd_same]; rfl
        · rw [pu_upd_ne es]; exact h1 m (by omega)
      · by_cases es : m = c
        · subst es; rw [pu_upd_same]
        · rw [pu_upd_ne es]; exact h2 m (by omega)
theorem pm_reset0 {came hatches waited le skill dry says ec em eo wa xg tu ba re gs gh skills ht start isIn0 ahead0 : Nat → Int32} {rain unw th ships en number gia : Int32} {xm xp : Int64} {M : Nat} (hM : M ≤ 24)
    {Q : Int32 → Int32 → Int32 → Int32 → Int32 → Int32 → Int64 → Int64 → (Nat → Int32) → (Nat → Int32) → (Nat → Int32) → (Nat → Int32) → (Nat → Int32) → (Nat → Int32) → (Nat → Int32) → (Nat → Int32) → (Nat → Int32) → (Nat → Int32) → (Nat → Int32) → (Nat → Int32) → (Nat → Int32) → (Nat → Int32) → (Nat → Int32) → (Nat → Int32) → Prop}
    (hQ : ∀ isIn ahead, (∀ m, m < M → isIn m = 0) → (∀ m, m < M → ahead m = tu m) → ∃ n', wp_Model_call_h83 rain unw th (nI M) ships en number gia xm xp skills tu ba re (rs gs M) (rs gh M) came hatches waited le skill dry says ec em eo isIn wa xg ahead Q n' 0 ht start) :
    ∃ n', wp_Model_call_h34 rain unw th (nI M) ships en number gia xm xp skills tu ba re came hatches waited le skill dry says ec em eo ht start wa xg Q n' 0 gs gh isIn0 ahead0 := by
  have h := pm_reset_h34 hM hQ M 0 isIn0 ahead0 (by omega) (fun m hm => absurd hm (Nat.not_lt_zero m)) (fun m hm => absurd hm (Nat.not_lt_zero m))
  rw [rs_0, rs_0] at h
  exact ⟨M + 1, h⟩
theorem pm_wait0 {hatches le start waited tu ba re gs gh ec em eo ht isIn wa xg ahead : Nat → Int32} {v3 th en number gia id : Int32} {xm xp : Int64} {S : Nat} (hS : S ≤ 10) (hH : ∀ k, ∃ h, h ≤ 4 ∧ hatches k = nI h) (hL : ∀ k, ∃ t, t ≤ 2000 ∧ le k = nI t)
    {Q : Int32 → Int32 → Int32 → Int32 → Int32 → Int32 → Int64 → Int64 → (Nat → Int32) → (Nat → Int32) → (Nat → Int32) → (Nat → Int32) → (Nat → Int32) → (Nat → Int32) → (Nat → Int32) → (Nat → Int32) → (Nat → Int32) → (Nat → Int32) → (Nat → Int32) → (Nat → Int32) → (Nat → Int32) → (Nat → Int32) → (Nat → Int32) → (Nat → Int32) → Prop}
    (hQ : Q v3 th en (number + 1) gia id xm xp tu ba re gs gh (wt hatches le waited S) le ec em eo ht start isIn wa xg ahead) : ∃ n', wp_Model_call_h257 v3 th (nI S) en number gia id xm xp tu ba re gs gh hatches le ec em eo ht start isIn wa xg ahead Q n' 0 waited := by
  have h := pm_wait_h257 hS hH hL hQ S 0 (by omega)
  rw [wt_0] at h
  exact ⟨S + 1, h⟩
theorem pc_leaveGangs {gs gh : Nat → Int32} {M : Nat} (hM : M ≤ 24) {Q : (Nat → Int32) → (Nat → Int32) → Prop} (hQ : Q (rs gs M) (rs gh M)) : wp_Men_leaveGangs (nI M) gs gh Q := by
  have h := pc_leaveGangs_h2 hM hQ M 0 (by omega)
  rw [rs_0, rs_0] at h
  exact ⟨M + 1, h⟩
theorem I_G.mono {g_size g_rulings : Int32} {madeAt latest before rE : Nat → Int32} {o_number : Int32} {B C : Nat} (h : I_G g_size g_rulings madeAt latest before rE o_number B) (hBC : B ≤ C) : I_G g_size g_rulings madeAt latest before rE o_number C := by
  obtain ⟨E, R, N, h1, h2, h3, h4⟩ := h
  exact ⟨E, R, N, h1, h2, by omega, h4⟩
theorem q_call {ag m_skills m_turns m_barredUpTo m_refusals m_gangShip m_gangHatch m_line s_came s_hatches s_waited s_left s_skill s_dry s_line s_rank g_madeAt g_card g_money g_latestRuling g_rulingBefore o_gang rE x_hadTurn x_start x_isIn x_wasAsked x_gang x_ahead : Nat → Int32} {m_size s_inLine s_size g_size g_rulings g_paid o_number o_gangsInAll o_tonsMoved o_idle o_worked o_rained : Int32} {x_moved x_paid : Int64} {B : Nat}
    (hM : I_M m_size) (hS : I_S s_size s_hatches s_left s_skill) (hA : I_AG ag) (hG : I_G g_size g_rulings g_madeAt g_latestRuling g_rulingBefore rE o_number B) (hB : B < 2 ^ 30) (hm : x_moved.toInt32 = o_tonsMoved) (hp : x_paid.toInt32 = g_paid) (p0 p1 : Int32) :
    wp_Dock_call ag m_size m_skills m_turns m_barredUpTo m_refusals m_gangShip m_gangHatch m_line s_inLine s_size s_came s_hatches s_waited s_left s_skill s_dry s_line s_rank g_size g_paid g_madeAt g_card g_money g_latestRuling o_number o_gangsInAll o_tonsMoved o_idle o_worked o_rained o_gang p0 p1
      (fun r tu ba re gs gh _ _ wa le _ _ gz gp ma ca mo la nu gi tm id _ _ _ => wp_Model_call m_size s_size g_size o_number o_gangsInAll o_idle x_moved x_paid m_skills m_turns m_barredUpTo m_refusals m_gangShip m_gangHatch s_came s_hatches s_waited s_left s_skill s_dry ag g_madeAt g_card g_money x_hadTurn x_start x_isIn x_wasAsked x_gang x_ahead p0 p1
        (fun b th en cs ga bi bm bp tu' ba' re' gs' gh' wa' le' ma' ca' mo' _ _ _ _ _ _ => th = 0 ∧ r = b ∧ (en = gz ∧ cs = nu ∧ ga = gi ∧ bi = id ∧ tu' = tu ∧ ba' = ba ∧ re' = re ∧ gs' = gs ∧ gh' = gh ∧ wa' = wa ∧ le' = le ∧ ma' = ma ∧ ca' = ca ∧ mo' = mo) ∧ bm.toInt32 = tm ∧ bp.toInt32 = gp ∧ I_S s_size s_hatches le s_skill ∧ I_G gz g_rulings ma la g_rulingBefore rE nu (B + 1)))
      (fun E tu ba re gs gh _ _ wa le _ _ gz gp ma ca mo la nu gi tm id _ _ _ => wp_Model_call m_size s_size g_size o_number o_gangsInAll o_idle x_moved x_paid m_skills m_turns m_barredUpTo m_refusals m_gangShip m_gangHatch s_came s_hatches s_waited s_left s_skill s_dry ag g_madeAt g_card g_money x_hadTurn x_start x_isIn x_wasAsked x_gang x_ahead p0 p1
        (fun b th en cs ga bi bm bp tu' ba' re' gs' gh' wa' le' ma' ca' mo' _ _ _ _ _ _ => th = ecode [xIA] E ∧ (en = gz ∧ cs = nu ∧ ga = gi ∧ bi = id ∧ tu' = tu ∧ ba' = ba ∧ re' = re ∧ gs' = gs ∧ gh' = gh ∧ wa' = wa ∧ le' = le ∧ ma' = ma ∧ ca' = ca ∧ mo' = mo) ∧ bm.toInt32 = tm ∧ bp.toInt32 = gp ∧ I_S s_size s_hatches le s_skill ∧ I_G gz g_rulings ma la g_rulingBefore rE nu (B + 1))) := by
  have hS' := hS
  have hG' := hG.mono (show B ≤ B + 1 by omega)
  unfold wp_Dock_call wp_Model_call
  simp only [pm_in p0 0 15 (A := 0) (B := 15) rfl rfl]
  by_cases h1 : p0 < 0
  · simp only [h1, pm_th0, pm_th1, p10, not_true, not_false_iff, false_implies, true_implies, true_and, and_true, if_true, if_false, and_self]
    exact ⟨by rfl, hm, hp, hS', hG'⟩
  by_cases h2 : p0 ≤ 15
  rotate_left
  · simp only [h1, h2, pm_th0, pm_th1, p10, not_true, not_false_iff, false_implies, true_implies, true_and, and_true, if_true, if_false, and_self]
    exact ⟨by rfl, hm, hp, hS', hG'⟩
  simp only [h1, h2, pm_th0, pm_th1, p10, not_true, not_false_iff, false_implies, true_implies, true_and, and_true, if_true, if_false]
  obtain ⟨M, hM, rfl⟩ := hM
  obtain ⟨⟨S, hS, rfl⟩, hH, hL, hK⟩ := hS
  obtain ⟨⟨full, hf1, hf8, hag⟩, ⟨cr, hcr, hag1⟩, hrate⟩ := hA
  obtain ⟨E, R, N, hE, hR, hN, rfl, rfl, rfl, hG1, hG2, hG3, hG4, hG5⟩ := hG
  have hIV : IV N R rE E s_left g_madeAt g_latestRuling := ⟨hE, hL, hG1, hG2, hG3, hG4⟩
  unfold wp_Round_hold
  refine pc_leaveGangs hM ?_
  refine pc_menLineUp hM (fun line G hGm => ?_)
  refine pc_shipsLineUp hS hH (fun L sline srank GS hGS => ?_)
  refine ⟨L + 1, ?_⟩
  refine pc_hold_h38 (G := G) (GS := GS) hM hS hf8 hag hcr hag1 hH hK (fun i hi => ⟨(hGm.2.1 i hi).1, (hGm.2.1 i hi).2.1⟩) hGS.1 (fun i hi => ⟨(hGS.2.1 i hi).1, (hGS.2.1 i hi).2.1⟩) L 0 0 m_turns m_barredUpTo m_refusals _ _ s_left E g_paid g_madeAt g_card g_money g_latestRuling o_tonsMoved 0 o_worked o_rained o_gang (by omega) (by omega) hE (fun n' tu' ba' re' gs' gh' le' e' pa' ma' ca' mo' la' mv' id' hhd wo' ra' og' => ?_)
  have hiv := hd_inv (ag := ag) (skills := m_skills) (skill := s_skill) (dry := s_dry) (hatches := s_hatches) (rE := rE) (N := N) (R := R) (rain := p0) (unw := p1) (M := M) (full := full) (cr := cr) (G := G) (GS := GS) (by omega) hK hrate L 0 0 (m_turns, m_barredUpTo, m_refusals, rs m_gangShip M, rs m_gangHatch M, s_left, E, g_paid, g_madeAt, g_card, g_money, g_latestRuling, o_tonsMoved, 0) hIV
  rw [hhd] at hiv
  have hiv : IV N R rE e' le' ma' la' := hiv
  refine pm_reset0 hM (fun isIn ahead hi0 ha0 => ?_)
  refine ⟨S + 1, pm_reset_h83 hS hH (fun ht start ht0 hst => ?_) S 0 x_hadTurn x_start (by omega) (fun m hm => absurd hm (Nat.not_lt_zero m)) (fun m hm => absurd hm (Nat.not_lt_zero m))⟩
  have hin : ∀ m, m < M → (isIn m = 0 ↔ rs m_gangShip M m = -1) := fun m hm => by
    rw [hi0 m hm]
    simp [rs, hm]
  refine pm_nextShip hS hst hH hL hGS (i := 0) (by omega) (fun p hp => absurd hp (Nat.not_lt_zero p)) (fun p _ hp => ht0 _ (hGS.2.1 p hp).2.1)
    (fun q => ⟨L + 1, pm_hold_h128 hM hS hf8 hag hcr hag1 hH hK hGm ha0 hst hL hGS L 0 0 _ m_turns m_barredUpTo m_refusals (rs m_gangShip M) (rs m_gangHatch M) s_left E g_paid g_madeAt g_card g_money g_latestRuling o_tonsMoved 0 x_moved x_paid ht isIn x_wasAsked x_gang (by omega) (fun _ => rfl) (fun z => by omega) (fun p hp => absurd hp (Nat.not_lt_zero p)) (fun p _ hp => ht0 _ (hGS.2.1 p hp).2.1) (by omega) hE hm hp hin ?_⟩)
    (fun q => ⟨L + 1, pm_hold_h128 hM hS hf8 hag hcr hag1 hH hK hGm ha0 hst hL hGS L 0 0 _ m_turns m_barredUpTo m_refusals (rs m_gangShip M) (rs m_gangHatch M) s_left E g_paid g_madeAt g_card g_money g_latestRuling o_tonsMoved 0 x_moved x_paid ht isIn x_wasAsked x_gang (by omega) (fun z => by omega) (fun _ => rfl) (fun p hp => absurd hp (Nat.not_lt_zero p)) (fun p _ hp => ht0 _ (hGS.2.1 p hp).2.1) (by omega) hE hm hp hin ?_⟩)
  all_goals
    intro n2 tu2 ba2 re2 gs2 gh2 le2 e2 pa2 ma2 ca2 mo2 la2 mv2 id2 hd2 xm2 xp2 ht2 isIn2 wa2 xg2 hxm2 hxp2
    have heq := hhd.symm.trans hd2
    simp only [Prod.mk.injEq] at heq
    obtain ⟨rfl, rfl, rfl, rfl, rfl, rfl, rfl, rfl, rfl, rfl, rfl, rfl, rfl, rfl, rfl⟩ := heq
    refine pm_wait0 hS hH hiv.2.1 ?_
    refine ⟨rfl, rfl, ⟨rfl, rfl, rfl, rfl, rfl, rfl, rfl, rfl, rfl, rfl, rfl, rfl, rfl, rfl⟩, hxm2, hxp2, ⟨⟨S, hS, rfl⟩, hH, hiv.2.1, hK⟩, ?_⟩
    obtain ⟨z1, z2, z3, z4, z5, z6⟩ := hiv
    exact ⟨_, R, N + 1, z1, hR, by omega, rfl, rfl, (nI_succ N).symm, fun k hk => (z3 k hk).elim fun c hc => ⟨c, by omega, hc.2⟩, z4, z5, z6, hG5⟩
