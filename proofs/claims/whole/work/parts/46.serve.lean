/-! The hatches of a ship, the ships of a call: the class. -/
/-- what a call changes: turns, barred, refusals, ship and hatch of each man, tons left, entries, all pay, the entries' columns, the latest rulings, tons moved, idle hatches -/
abbrev ST := (Nat → Int32) × (Nat → Int32) × (Nat → Int32) × (Nat → Int32) × (Nat → Int32) × (Nat → Int32) × Nat × Int32 × (Nat → Int32) × (Nat → Int32) × (Nat → Int32) × (Nat → Int32) × Int32 × Int32
/-- one hatch: did a gang come, and what is then -/
def hst (ag skills skill dry : Nat → Int32) (number rain unw : Int32) (M full : Nat) (G : Nat → Nat) (s h : Nat) : ST → Bool × ST
  | (tu, ba, re, gs, gh, le, e, pa, ma, ca, mo, la, mv, id) =>
    if le (4 * s + h) = 0 then (false, (tu, ba, re, gs, gh, le, e, pa, ma, ca, mo, la, mv, id)) else
    match mu skills gs (skill (4 * s + h)) number (number + ag (2 : Int32).toNatClampNeg) unw full G M 0 0 ba re (fun _ => 0) with
    | (false, ba', re', _) => (false, (tu, ba', re', gs, gh, le, e, pa, ma, ca, mo, la, mv, id + 1))
    | (true, ba', re', g') =>
      match wk (ag (7 + skill (4 * s + h)).toNatClampNeg) (dry (4 * s + h)) rain 4 0 (le (4 * s + h)) mv 0 0 with
      | (t', mv', wo', ra') =>
        match py number (payx ag wo' ra') (nI s) (nI h) g' full 0 tu gs gh e pa ma ca mo la with
        | (tu', gs', gh', e', pa', ma', ca', mo', la') => (true, (tu', ba', re', gs', gh', upd le (4 * s + h) t', e', pa', ma', ca', mo', la', mv', id))
/-- the hatches of a ship from h on, n gangs being there -/
def sv (ag skills skill dry : Nat → Int32) (number rain unw : Int32) (M full cr : Nat) (G : Nat → Nat) (s : Nat) : Nat → Nat → Nat → ST → Nat × ST
  | 0, _, n, st => (n, st)
  | k + 1, h, n, st => if cr ≤ n then (n, st) else sv ag skills skill dry number rain unw M full cr G s k (h + 1) (if (hst ag skills skill dry number rain unw M full G s h st).1 then n + 1 else n) (hst ag skills skill dry number rain unw M full G s h st).2
/-- the ships of the line from i on -/
def hd (ag skills skill dry hatches : Nat → Int32) (number rain unw : Int32) (M full cr : Nat) (G GS : Nat → Nat) : Nat → Nat → Nat → ST → Nat × ST
  | 0, _, n, st => (n, st)
  | k + 1, i, n, st => hd ag skills skill dry hatches number rain unw M full cr G GS k (i + 1) (sv ag skills skill dry number rain unw M full cr G (GS i) (hatches (GS i)).toNatClampNeg 0 n st).1 (sv ag skills skill dry number rain unw M full cr G (GS i) (hatches (GS i)).toNatClampNeg 0 n st).2
section
variable {ag skills skill dry hatches line : Nat → Int32} {number rain unw : Int32} {M full cr : Nat} {G : Nat → Nat} {s h : Nat}
variable {tu ba re gs gh le ma ca mo la : Nat → Int32} {e : Nat} {pa mv id : Int32}
theorem hst_0 (h0 : le (4 * s + h) = 0) : hst ag skills skill dry number rain unw M full G s h (tu, ba, re, gs, gh, le, e, pa, ma, ca, mo, la, mv, id) = (false, (tu, ba, re, gs, gh, le, e, pa, ma, ca, mo, la, mv, id)) := by
  simp only [hst, h0, if_true]
theorem hst_f (h0 : ¬ le (4 * s + h) = 0) {ba' re' g' : Nat → Int32} (h1 : mu skills gs (skill (4 * s + h)) number (number + ag (2 : Int32).toNatClampNeg) unw full G M 0 0 ba re (fun _ => 0) = (false, ba', re', g')) : hst ag skills skill dry number rain unw M full G s h (tu, ba, re, gs, gh, le, e, pa, ma, ca, mo, la, mv, id) = (false, (tu, ba', re', gs, gh, le, e, pa, ma, ca, mo, la, mv, id + 1)) := by
  simp only [hst, h0, if_false, h1]
theorem hst_t (h0 : ¬ le (4 * s + h) = 0) {ba' re' g' : Nat → Int32} (h1 : mu skills gs (skill (4 * s + h)) number (number + ag (2 : Int32).toNatClampNeg) unw full G M 0 0 ba re (fun _ => 0) = (true, ba', re', g'))
    {t' mv' wo' ra' : Int32} (h2 : wk (ag (7 + skill (4 * s + h)).toNatClampNeg) (dry (4 * s + h)) rain 4 0 (le (4 * s + h)) mv 0 0 = (t', mv', wo', ra'))
    {tu' gs' gh' ma' ca' mo' la' : Nat → Int32} {e' : Nat} {pa' : Int32} (h3 : py number (payx ag wo' ra') (nI s) (nI h) g' full 0 tu gs gh e pa ma ca mo la = (tu', gs', gh', e', pa', ma', ca', mo', la')) :
    hst ag skills skill dry number rain unw M full G s h (tu, ba, re, gs, gh, le, e, pa, ma, ca, mo, la, mv, id) = (true, (tu', ba', re', gs', gh', upd le (4 * s + h) t', e', pa', ma', ca', mo', la', mv', id)) := by
  simp only [hst, h0, if_false, h1, h2, h3]
end
theorem hst_e {ag skills skill dry : Nat → Int32} {number rain unw : Int32} {M full : Nat} {G : Nat → Nat} {s h : Nat} {st : ST} (he : st.2.2.2.2.2.2.1 ≤ 800) : (hst ag skills skill dry number rain unw M full G s h st).2.2.2.2.2.2.2.1 ≤ 800 := by
  obtain ⟨tu, ba, re, gs, gh, le, e, pa, ma, ca, mo, la, mv, id⟩ := st
  by_cases h0 : le (4 * s + h) = 0
  · rw [hst_0 h0]; exact he
  · rcases h1 : mu skills gs (skill (4 * s + h)) number (number + ag (2 : Int32).toNatClampNeg) unw full G M 0 0 ba re (fun _ => 0) with ⟨b, ba', re', g'⟩
    cases b
    · rw [hst_f h0 h1]; exact he
    · rcases h2 : wk (ag (7 + skill (4 * s + h)).toNatClampNeg) (dry (4 * s + h)) rain 4 0 (le (4 * s + h)) mv 0 0 with ⟨t', mv', wo', ra'⟩
      rcases h3 : py number (payx ag wo' ra') (nI s) (nI h) g' full 0 tu gs gh e pa ma ca mo la with ⟨tu', gs', gh', e', pa', ma', ca', mo', la'⟩
      rw [hst_t h0 h1 h2 h3]
      exact py_e _ _ _ _ _ _ _ _ _ _ _ _ _ _ _ _ _ _ _ _ he h3
theorem sv_n {ag skills skill dry : Nat → Int32} {number rain unw : Int32} {M full cr : Nat} {G : Nat → Nat} {s : Nat} : ∀ k h n st, n ≤ cr → st.2.2.2.2.2.2.1 ≤ 800 → n ≤ (sv ag skills skill dry number rain unw M full cr G s k h n st).1 ∧ (sv ag skills skill dry number rain unw M full cr G s k h n st).1 ≤ cr ∧ (sv ag skills skill dry number rain unw M full cr G s k h n st).2.2.2.2.2.2.2.1 ≤ 800
  | 0, h, n, st, hn, he => ⟨Nat.le_refl _, hn, he⟩
  | k + 1, h, n, st, hn, he => by
    by_cases hc : cr ≤ n
    · rw [sv, if_pos hc]; exact ⟨Nat.le_refl _, hn, he⟩
    · rw [sv, if_neg hc]
      have h1 := sv_n (cr := cr) (ag := ag) (skills := skills) (skill := skill) (dry := dry) (number := number) (rain := rain) (unw := unw) (M := M) (full := full) (G := G) (s := s) k (h + 1) (if (hst ag skills skill dry number rain unw M full G s h st).1 then n + 1 else n) (hst ag skills skill dry number rain unw M full G s h st).2 (by split <;> omega) (hst_e he)
      refine ⟨?_, h1.2⟩
      have h2 : n ≤ (if (hst ag skills skill dry number rain unw M full G s h st).1 then n + 1 else n) := by split <;> omega
      exact Nat.le_trans h2 h1.1
theorem pc_serve_h6 {ag skills skill dry hatches line : Nat → Int32} {number rain unw : Int32} {M full cr n0 : Nat} {G : Nat → Nat} {s H : Nat} (hM : M ≤ 24) (hf : full ≤ 8) (hag : ag 0 = nI full) (hcr : cr ≤ 12) (hs : s < 10) (hH : hatches s = nI H) (h4 : H ≤ 4) (hk : ∀ k, ∃ q, q ≤ 3 ∧ skill k = nI q) (hG : ∀ i, i < M → line i = nI (G i) ∧ G i < M)
    {Q : Int32 → (Nat → Int32) → (Nat → Int32) → (Nat → Int32) → (Nat → Int32) → (Nat → Int32) → (Nat → Int32) → Int32 → Int32 → (Nat → Int32) → (Nat → Int32) → (Nat → Int32) → (Nat → Int32) → Int32 → Int32 → Int32 → Int32 → (Nat → Int32) → Prop} :
    ∀ k h n tu ba re gs gh le e pa ma ca mo la mv id wo ra og, h + k = H → n0 ≤ n → n ≤ cr → e ≤ 800 →
      (∀ n' tu' ba' re' gs' gh' le' e' pa' ma' ca' mo' la' mv' id', sv ag skills skill dry number rain unw M full cr G s k h n (tu, ba, re, gs, gh, le, e, pa, ma, ca, mo, la, mv, id) = (n', (tu', ba', re', gs', gh', le', e', pa', ma', ca', mo', la', mv', id')) → ∀ wo' ra' og', Q (nI (n' - n0)) tu' ba' re' gs' gh' le' (nI e') pa' ma' ca' mo' la' mv' id' wo' ra' og') →
      wp_Round_serveShip_h6 (nI s) (nI (cr - n0)) rain unw ag (nI M) skills line hatches skill dry number Q (k + 1) (nI (n - n0)) (nI h) tu ba re gs gh le (nI e) pa ma ca mo la mv id wo ra og
  | 0, h, n, tu, ba, re, gs, gh, le, e, pa, ma, ca, mo, la, mv, id, wo, ra, og, eh, hn, hn2, he, hQ => by
    have eh : h = H := by omega
    subst eh
    rw [wp_Round_serveShip_h6, nI_clamp (by omega), hH]
    exact ⟨pu_inI hs (by omega), fun _ => hQ _ _ _ _ _ _ _ _ _ _ _ _ _ _ _ rfl wo ra og, fun h => absurd (Int32.le_refl _) h⟩
  | k + 1, h, n, tu, ba, re, gs, gh, le, e, pa, ma, ca, mo, la, mv, id, wo, ra, og, eh, hn, hn2, he, hQ => by
    have i1 : vp_in (nI (4 * s + h)) 40 := pu_inI (by omega) (by omega)
    rw [wp_Round_serveShip_h6, nI_clamp (by omega), hH]
    refine ⟨pu_inI hs (by omega), fun q => ?_, fun _ => ⟨fun q => ?_, fun q => ?_⟩⟩
    · have := (pu_nle (by omega) (by omega)).mp q; omega
    · have h1 : cr ≤ n := by have := (pu_nle (by omega) (by omega)).mp q; omega
      exact hQ _ _ _ _ _ _ _ _ _ _ _ _ _ _ _ (by rw [sv, if_pos h1]) wo ra og
    · have h1 : ¬ cr ≤ n := fun q2 => q ((pu_nle (by omega) (by omega)).mpr (by omega))
      rw [wp_Ships_place, pu_mul4]
      refine ⟨i1, ?_⟩
      rw [nI_clamp (by omega), ← nI_succ]
      refine ⟨fun hz => ?_, fun hz => ⟨i1, ?_⟩⟩
      · refine pc_serve_h6 hM hf hag hcr hs hH h4 hk hG k (h + 1) n tu ba re gs gh le e pa ma ca mo la mv id wo ra og (by omega) hn hn2 he (fun n' tu' ba' re' gs' gh' le' e' pa' ma' ca' mo' la' mv' id' hsv => hQ n' tu' ba' re' gs' gh' le' e' pa' ma' ca' mo' la' mv' id' ?_)
        rw [sv, if_neg h1, hst_0 hz]
        exact hsv
      · refine pc_muster (G := G) hM hf hag hG (fun b ba' re' g' hb og' hog => ?_)
        cases b
        · refine ⟨fun _ => ?_, fun q2 => absurd rfl q2⟩
          refine pc_serve_h6 hM hf hag hcr hs hH h4 hk hG k (h + 1) n tu ba' re' gs gh le e pa ma ca mo la mv (id + 1) wo ra og' (by omega) hn hn2 he (fun n' tu' ba' re' gs' gh' le' e' pa' ma' ca' mo' la' mv' id' hsv => hQ n' tu' ba' re' gs' gh' le' e' pa' ma' ca' mo' la' mv' id' ?_)
          rw [sv, if_neg h1, hst_f hz hb]
          exact hsv
        · have hc1 := mu_gang (fun i hi => (hG i hi).2) M 0 0 ba re (fun _ => 0) true ba' re' g' (by omega) (by omega) (fun j hj => absurd hj (Nat.not_lt_zero j)) hb rfl
          have hc : ∀ j, j < full → og' j = g' j ∧ ∃ c, c < 24 ∧ g' j = nI c := fun j hj => ⟨hog rfl j hj, by
            obtain ⟨c, hc, ec⟩ := hc1 j hj
            exact ⟨c, by omega, ec⟩⟩
          refine ⟨fun q2 => absurd q2 (by decide), fun _ => pc_work (by omega) hk (fun t' mv' wo' ra' hw => ?_)⟩
          refine ⟨full + 1, pc_pay_h8 hf hag hc full 0 _ _ _ _ _ _ _ _ _ (by omega) he (fun tu' gs' gh' e' pa' ma' ca' mo' la' hp => ?_)⟩
          have he' := py_e _ _ _ _ _ _ _ _ _ _ _ _ _ _ _ _ _ _ _ _ he hp
          rw [← nI_succ, show n - n0 + 1 = n + 1 - n0 by omega]
          refine pc_serve_h6 hM hf hag hcr hs hH h4 hk hG k (h + 1) (n + 1) tu' ba' re' gs' gh' _ e' pa' ma' ca' mo' la' mv' id wo' ra' og' (by omega) (by omega) (by omega) he' (fun n2 tu2 ba2 re2 gs2 gh2 le2 e2 pa2 ma2 ca2 mo2 la2 mv2 id2 hsv => hQ n2 tu2 ba2 re2 gs2 gh2 le2 e2 pa2 ma2 ca2 mo2 la2 mv2 id2 ?_)
          rw [sv, if_neg h1, hst_t hz hb hw hp]
          exact hsv
/-- who waits one call more -/
def wt (hatches left waited : Nat → Int32) (c : Nat) : Nat → Int32 := fun s => if s < c ∧ ¬ tns hatches left s = 0 then waited s + 1 else waited s
theorem wt_0 (hatches left waited : Nat → Int32) : wt hatches left waited 0 = waited := by
  funext s
  simp [wt]
theorem wt_succ (hatches left waited : Nat → Int32) (c : Nat) : wt hatches left waited (c + 1) = if tns hatches left c = 0 then wt hatches left waited c else upd (wt hatches left waited c) c (wt hatches left waited c c + 1) := by
  funext s
  by_cases e : s = c
  · subst e
    by_cases h : tns hatches left s = 0
    · simp [wt, h]
    · simp [wt, h, upd]
  · by_cases h : tns hatches left c = 0
    · rw [if_pos h]
      have : s < c + 1 ↔ s < c := by omega
      simp only [wt, this]
    · rw [if_neg h, pu_upd_ne e]
      have : s < c + 1 ↔ s < c := by omega
      simp only [wt, this]
theorem pc_waiting_h2 {hatches left waited : Nat → Int32} {S : Nat} (hS : S ≤ 10) (hH : ∀ k, ∃ h, h ≤ 4 ∧ hatches k = nI h) {Q : (Nat → Int32) → Prop} (hQ : Q (wt hatches left waited S)) : ∀ k c, c + k = S → wp_Ships_countWaiting_h2 (nI S) hatches left Q (k + 1) (nI c) (wt hatches left waited c)
  | 0, c, e => by
    have e : c = S := by omega
    subst e
    rw [wp_Ships_countWaiting_h2]
    exact ⟨fun _ => hQ, fun h => absurd (Int32.le_refl _) h⟩
  | k + 1, c, e => by
    have ih := pc_waiting_h2 hS hH hQ k (c + 1) (by omega)
    rw [wp_Ships_countWaiting_h2]
    refine ⟨fun h0 => ?_, fun _ => pc_tonsOf (by omega) hH ⟨fun hz => ?_, fun hz => ?_⟩⟩
    · have := (pu_nle (by omega) (by omega)).mp h0; omega
    · refine ⟨fun q => absurd q (by decide), fun _ => ?_⟩
      rw [wt_succ, if_pos hz] at ih
      rw [← nI_succ]
      exact ih
    · refine ⟨fun _ => ⟨pu_inI (by omega) (by omega), pu_inI (by omega) (by omega), ?_⟩, fun q => absurd rfl q⟩
      rw [wt_succ, if_neg hz] at ih
      rw [← nI_succ, nI_clamp (by omega)]
      exact ih
theorem pc_hold_h38 {ag skills skill dry hatches line waited sline srank : Nat → Int32} {number gia rain unw : Int32} {M S L full cr : Nat} {G GS : Nat → Nat} (hM : M ≤ 24) (hS : S ≤ 10) (hf : full ≤ 8) (hag : ag 0 = nI full) (hcr : cr ≤ 12) (hag1 : ag 1 = nI cr) (hH : ∀ k, ∃ h, h ≤ 4 ∧ hatches k = nI h) (hk : ∀ k, ∃ q, q ≤ 3 ∧ skill k = nI q) (hG : ∀ i, i < M → line i = nI (G i) ∧ G i < M) (hL : L ≤ S) (hGS : ∀ i, i < L → sline i = nI (GS i) ∧ GS i < S)
    {Q : Int32 → (Nat → Int32) → (Nat → Int32) → (Nat → Int32) → (Nat → Int32) → (Nat → Int32) → (Nat → Int32) → Int32 → (Nat → Int32) → (Nat → Int32) → (Nat → Int32) → (Nat → Int32) → Int32 → Int32 → (Nat → Int32) → (Nat → Int32) → (Nat → Int32) → (Nat → Int32) → Int32 → Int32 → Int32 → Int32 → Int32 → Int32 → (Nat → Int32) → Prop} :
    ∀ k i n tu ba re gs gh le e pa ma ca mo la mv id wo ra og, i + k = L → n ≤ cr → e ≤ 800 →
      (∀ n' tu' ba' re' gs' gh' le' e' pa' ma' ca' mo' la' mv' id', hd ag skills skill dry hatches number rain unw M full cr G GS k i n (tu, ba, re, gs, gh, le, e, pa, ma, ca, mo, la, mv, id) = (n', (tu', ba', re', gs', gh', le', e', pa', ma', ca', mo', la', mv', id')) → ∀ wo' ra' og', Q (nI n') tu' ba' re' gs' gh' line (nI L) (wt hatches le' waited S) le' sline srank (nI e') pa' ma' ca' mo' la' (number + 1) (gia + nI n') mv' id' wo' ra' og') →
      wp_Round_hold_h38 rain unw ag (nI M) skills line (nI L) (nI S) hatches waited skill dry sline srank number gia Q (k + 1) (nI n) (nI i) tu ba re gs gh le (nI e) pa ma ca mo la mv id wo ra og
  | 0, i, n, tu, ba, re, gs, gh, le, e, pa, ma, ca, mo, la, mv, id, wo, ra, og, ei, hn, he, hQ => by
    have ei : i = L := by omega
    subst ei
    rw [wp_Round_hold_h38]
    refine ⟨fun _ => ⟨S + 1, ?_⟩, fun h => absurd (Int32.le_refl _) h⟩
    have := pc_waiting_h2 (left := le) (waited := waited) hS hH (Q := fun w => Q (nI n) tu ba re gs gh line (nI i) w le sline srank (nI e) pa ma ca mo la (number + 1) (gia + nI n) mv id wo ra og) (hQ _ _ _ _ _ _ _ _ _ _ _ _ _ _ _ rfl wo ra og) S 0 (by omega)
    rw [wt_0] at this
    exact this
  | k + 1, i, n, tu, ba, re, gs, gh, le, e, pa, ma, ca, mo, la, mv, id, wo, ra, og, ei, hn, he, hQ => by
    obtain ⟨hl, hGi⟩ := hGS i (by omega)
    obtain ⟨H, h4, hHs⟩ := hH (GS i)
    rw [wp_Round_hold_h38]
    refine ⟨fun q => ?_, fun _ => ⟨pu_inI (by omega) (by omega), ?_⟩⟩
    · have := (pu_nle (by omega) (by omega)).mp q; omega
    · rw [nI_clamp (by omega), hl, pu_c1, hag1]
      have e1 : nI cr - nI n = nI (cr - n) := by
        have : nI cr = nI (cr - n) + nI n := by rw [nI_add]; congr 1; omega
        rw [this, Int32.add_sub_cancel]
      rw [e1]
      have e0 : nI (n - n) = 0 := by rw [Nat.sub_self]; rfl
      refine ⟨H + 1, ?_⟩
      have hserve := pc_serve_h6 (skills := skills) (dry := dry) (n0 := n) (line := line) (rain := rain) (unw := unw) (number := number) (Q := fun r_8 m_turns_9 m_barredUpTo_10 m_refusals_11 m_gangShip_12 m_gangHatch_13 s_left_14 g_size_15 g_paid_16 g_madeAt_17 g_card_18 g_money_19 g_latestRuling_20 o_tonsMoved_21 o_idle_22 o_worked_23 o_rained_24 o_gang_25 => wp_Round_hold_h38 rain unw ag (nI M) skills line (nI L) (nI S) hatches waited skill dry sline srank number gia Q (k + 1) (nI n + r_8) (nI i + 1) m_turns_9 m_barredUpTo_10 m_refusals_11 m_gangShip_12 m_gangHatch_13 s_left_14 g_size_15 g_paid_16 g_madeAt_17 g_card_18 g_money_19 g_latestRuling_20 o_tonsMoved_21 o_idle_22 o_worked_23 o_rained_24 o_gang_25) hM hf hag hcr (show GS i < 10 by omega) hHs h4 hk hG H 0 n tu ba re gs gh le e pa ma ca mo la mv id wo ra og (by omega) (Nat.le_refl _) hn he (fun n' tu' ba' re' gs' gh' le' e' pa' ma' ca' mo' la' mv' id' hsv wo' ra' og' => ?_)
      · rw [e0] at hserve
        exact hserve
      · have hb := sv_n (cr := cr) (ag := ag) (skills := skills) (skill := skill) (dry := dry) (number := number) (rain := rain) (unw := unw) (M := M) (full := full) (G := G) (s := GS i) H 0 n (tu, ba, re, gs, gh, le, e, pa, ma, ca, mo, la, mv, id) hn he
        rw [hsv] at hb
        show wp_Round_hold_h38 rain unw ag (nI M) skills line (nI L) (nI S) hatches waited skill dry sline srank number gia Q (k + 1) (nI n + nI (n' - n)) (nI i + 1) tu' ba' re' gs' gh' le' (nI e') pa' ma' ca' mo' la' mv' id' wo' ra' og'
        rw [nI_add, show n + (n' - n) = n' by have := hb.1; simp only at this; omega, ← nI_succ]
        refine pc_hold_h38 hM hS hf hag hcr hag1 hH hk hG hL hGS k (i + 1) n' tu' ba' re' gs' gh' le' e' pa' ma' ca' mo' la' mv' id' wo' ra' og' (by omega) hb.2.1 hb.2.2 (fun n2 tu2 ba2 re2 gs2 gh2 le2 e2 pa2 ma2 ca2 mo2 la2 mv2 id2 hd2 => hQ n2 tu2 ba2 re2 gs2 gh2 le2 e2 pa2 ma2 ca2 mo2 la2 mv2 id2 ?_)
        rw [hd, hHs, nI_clamp (by omega), hsv]
        exact hd2
/-- none of the first c men is in a gang -/
def rs (f : Nat → Int32) (c : Nat) : Nat → Int32 := fun k => if k < c then -1 else f k
theorem rs_0 (f : Nat → Int32) : rs f 0 = f := by
  funext k
  simp [rs]
theorem rs_succ (f : Nat → Int32) (c : Nat) : upd (rs f c) c (-1) = rs f (c + 1) := by
  funext k
  by_cases e : k = c
  · subst e; simp [rs, upd]
  · have : k < c + 1 ↔ k < c := by omega
    simp only [rs, upd, e, if_false, this]
theorem pc_leaveGangs_h2 {gs gh : Nat → Int32} {M : Nat} (hM : M ≤ 24) {Q : (Nat → Int32) → (Nat → Int32) → Prop} (hQ : Q (rs gs M) (rs gh M)) : ∀ k c, c + k = M → wp_Men_leaveGangs_h2 (nI M) Q (k + 1) (nI c) (rs gs c) (rs gh c)
  | 0, c, e => by
    have e : c = M := by omega
    subst e
    rw [wp_Men_leaveGangs_h2]
    exact ⟨fun _ => hQ, fun h => absurd (Int32.le_refl _) h⟩
  | k + 1, c, e => by
    have ih := pc_leaveGangs_h2 hM hQ k (c + 1) (by omega)
    rw [wp_Men_leaveGangs_h2]
    refine ⟨fun h0 => ?_, fun _ => ⟨pu_inI (by omega) (by omega), pu_inI (by omega) (by omega), ?_⟩⟩
    · have := (pu_nle (by omega) (by omega)).mp h0; omega
    · rw [nI_clamp (by omega), rs_succ, rs_succ, ← nI_succ]
      exact ih
