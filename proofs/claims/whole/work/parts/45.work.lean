/-! A gang's work and pay. -/
/-- the hours of a hatch: tons left, tons moved, hours worked, hours rained -/
def wk (rate dry rain : Int32) : Nat → Nat → Int32 → Int32 → Int32 → Int32 → Int32 × Int32 × Int32 × Int32
  | 0, _, t, mv, wo, ra => (t, mv, wo, ra)
  | k + 1, hr, t, mv, wo, ra => if t ≤ 0 then (t, mv, wo, ra) else if ¬ dry = 0 ∧ (rain >>> (nI hr &&& 31)) &&& 1 = 1 then wk rate dry rain k (hr + 1) t mv wo (ra + 1) else wk rate dry rain k (hr + 1) (t - (if t < rate then t else rate)) (mv + (if t < rate then t else rate)) (wo + 1) ra
theorem wk_t {rate dry rain : Int32} {r : Nat} (hr : r ≤ 500) (er : rate = nI r) : ∀ k h a mv wo ra t' mv' wo' ra', a ≤ 2000 → wk rate dry rain k h (nI a) mv wo ra = (t', mv', wo', ra') → ∃ b, b ≤ a ∧ t' = nI b
  | 0, h, a, mv, wo, ra, t', mv', wo', ra', ha, e => by
    rw [wk] at e
    exact ⟨a, Nat.le_refl _, (Prod.mk.inj e).1.symm⟩
  | k + 1, h, a, mv, wo, ra, t', mv', wo', ra', ha, e => by
    rw [wk] at e
    split at e
    · exact ⟨a, Nat.le_refl _, (Prod.mk.inj e).1.symm⟩
    · split at e
      · exact wk_t hr er k (h + 1) a _ _ _ t' mv' wo' ra' ha e
      · have h2 : nI a - (if nI a < rate then nI a else rate) = nI (a - min a r) := by
          subst er
          have h1 : (if nI a < nI r then nI a else nI r) = nI (min a r) := by
            by_cases c : a < r
            · rw [if_pos ((pu_nlt (by omega) (by omega)).mpr c)]; congr 1; omega
            · rw [if_neg (fun q => c ((pu_nlt (by omega) (by omega)).mp q))]; congr 1; omega
          rw [h1]
          have h3 : nI a = nI (a - min a r) + nI (min a r) := by rw [nI_add]; congr 1; omega
          rw [h3, Int32.add_sub_cancel]
        rw [h2] at e
        obtain ⟨b, hb, eb⟩ := wk_t hr er k (h + 1) (a - min a r) _ _ _ t' mv' wo' ra' (by omega) e
        exact ⟨b, by omega, eb⟩
theorem pc_work_h31 {dry : Nat → Int32} {rain rate : Int32} {pl : Nat} (hp : pl < 40) {Q : (Nat → Int32) → Int32 → Int32 → Int32 → Prop} :
    ∀ k hr left mv wo ra, hr + k = 4 → (∀ t' mv' wo' ra', wk rate (dry pl) rain k hr (left pl) mv wo ra = (t', mv', wo', ra') → Q (upd left pl t') mv' wo' ra') → wp_Round_workHatch_h31 (nI pl) rain rate dry Q (k + 1) (nI hr) left mv wo ra
  | 0, hr, left, mv, wo, ra, e, hQ => by
    have e : hr = 4 := by omega
    subst e
    have hz := hQ _ _ _ _ rfl
    rw [pu_upd_id] at hz
    rw [wp_Round_workHatch_h31]
    exact ⟨fun _ => hz, fun h => absurd (show (4 : Int32) ≤ nI 4 by decide) h⟩
  | k + 1, hr, left, mv, wo, ra, e, hQ => by
    have i1 : vp_in (nI pl) 40 := pu_inI hp (by omega)
    rw [wp_Round_workHatch_h31]
    simp only [i1, true_and, nI_clamp (show pl < 2 ^ 31 by omega), ← nI_succ]
    have mv1 : ¬ left pl ≤ 0 → ¬ (¬ dry pl = 0 ∧ (rain >>> (nI hr &&& 31)) &&& 1 = 1) → wp_Round_workHatch_h31 (nI pl) rain rate dry Q (k + 1) (nI (hr + 1)) (upd left pl (left pl - (if left pl < rate then left pl else rate))) (mv + (if left pl < rate then left pl else rate)) (wo + 1) ra := by
      intro h1 h2
      refine pc_work_h31 hp k (hr + 1) _ _ _ _ (by omega) (fun t' mv' wo' ra' hw => ?_)
      rw [pu_upd_upd]
      refine hQ t' mv' wo' ra' ?_
      rw [wk, if_neg h1, if_neg h2]
      rw [pu_upd_same] at hw
      exact hw
    refine ⟨fun h => ?_, fun _ => ⟨fun h1 => ?_, fun h1 => ⟨fun h2 => mv1 h1 (fun q => q.1 h2), fun h2 => ⟨fun h3 => ?_, fun h3 => mv1 h1 (fun q => h3 q.2)⟩⟩⟩⟩
    · have := (pu_nle (a := 4) (b := hr) (by omega) (by omega)).mp h; omega
    · have hz := hQ (left pl) mv wo ra (by rw [wk, if_pos h1])
      rw [pu_upd_id] at hz
      exact hz
    · refine pc_work_h31 hp k (hr + 1) _ _ _ _ (by omega) (fun t' mv' wo' ra' hw => hQ t' mv' wo' ra' ?_)
      rw [wk, if_neg h1, if_pos ⟨h2, h3⟩]
      exact hw
theorem pu_7 (q : Nat) : (7 : Int32) + nI q = nI (7 + q) := nI_add 7 q
theorem pc_work {ag left skill dry : Nat → Int32} {mv rain : Int32} {pl : Nat} (hp : pl < 40) (hk : ∀ k, ∃ q, q ≤ 3 ∧ skill k = nI q) {Q : (Nat → Int32) → Int32 → Int32 → Int32 → Prop}
    (hQ : ∀ t' mv' wo' ra', wk (ag (7 + skill pl).toNatClampNeg) (dry pl) rain 4 0 (left pl) mv 0 0 = (t', mv', wo', ra') → Q (upd left pl t') mv' wo' ra') : wp_Round_workHatch ag left skill dry mv (nI pl) rain Q := by
  obtain ⟨q, hq, eq⟩ := hk pl
  refine ⟨pu_inI hp (by omega), ?_⟩
  rw [nI_clamp (by omega)]
  refine ⟨by rw [eq, pu_7]; exact pu_inI (by omega) (by omega), 5, ?_⟩
  exact pc_work_h31 hp 4 0 left mv 0 0 (by omega) hQ
theorem pu_add32 (x : Int64) (v : Int32) : (x + v.toInt64).toInt32 = x.toInt32 + v := by
  rw [Int64.toInt32_add, Int32.toInt32_toInt64]
/-- a man's pay -/
def payx (ag : Nat → Int32) (wo ra : Int32) : Int32 := (((ag (3 : Int32).toNatClampNeg) * wo) + ((((ag (3 : Int32).toNatClampNeg) * ra) * (ag (4 : Int32).toNatClampNeg)) / 100)) + ((ag (3 : Int32).toNatClampNeg) * (if (0 : Int32) < (((ag (5 : Int32).toNatClampNeg) - wo) - ra) then (((ag (5 : Int32).toNatClampNeg) - wo) - ra) else 0))
theorem pm_work_h16 {says skill dry : Nat → Int32} {rain sh ha en calls : Int32} {pa : Int64} {tu gs gh ec em eo isIn gang : Nat → Int32} {pl : Nat} (hp : pl < 40) (hk : ∀ k, ∃ q, q ≤ 3 ∧ skill k = nI q) {Q : Int32 → Int64 → Int64 → (Nat → Int32) → (Nat → Int32) → (Nat → Int32) → (Nat → Int32) → (Nat → Int32) → (Nat → Int32) → (Nat → Int32) → (Nat → Int32) → Prop} :
    ∀ k hr left mv wo ra (xm : Int64), hr + k = 4 → xm.toInt32 = mv → (∀ t' mv' wo' ra', wk (says (7 + skill pl).toNatClampNeg) (dry pl) rain k hr (left pl) mv wo ra = (t', mv', wo', ra') → ∀ xm' : Int64, xm'.toInt32 = mv' → ∃ n', wp_Model_works_h176 sh ha (payx says wo' ra') calls xm' (upd left pl t') says gang Q n' 0 en pa tu gs gh ec em eo isIn) →
      wp_Model_works_h16 sh ha rain (nI pl) en calls pa tu gs gh skill dry says ec em eo isIn gang Q (k + 1) wo ra (nI hr) xm left
  | 0, hr, left, mv, wo, ra, xm, e, hx, hQ => by
    have e : hr = 4 := by omega
    subst e
    have hz := hQ _ _ _ _ rfl xm hx
    rw [pu_upd_id] at hz
    rw [wp_Model_works_h16]
    exact ⟨fun _ => hz, fun h => absurd (show (4 : Int32) ≤ nI 4 by decide) h⟩
  | k + 1, hr, left, mv, wo, ra, xm, e, hx, hQ => by
    have i1 : vp_in (nI pl) 40 := pu_inI hp (by omega)
    obtain ⟨q, hq, eq⟩ := hk pl
    have i2 : vp_in (7 + skill pl) 11 := by rw [eq, pu_7]; exact pu_inI (by omega) (by omega)
    rw [wp_Model_works_h16]
    simp only [i1, i2, true_and, nI_clamp (show pl < 2 ^ 31 by omega), ← nI_succ]
    have mv1 : ¬ left pl ≤ 0 → ¬ (¬ dry pl = 0 ∧ (rain >>> (nI hr &&& 31)) &&& 1 = 1) → wp_Model_works_h16 sh ha rain (nI pl) en calls pa tu gs gh skill dry says ec em eo isIn gang Q (k + 1) (wo + 1) ra (nI (hr + 1)) (xm + (if left pl < says (7 + skill pl).toNatClampNeg then left pl else says (7 + skill pl).toNatClampNeg).toInt64) (upd left pl (left pl - (if left pl < says (7 + skill pl).toNatClampNeg then left pl else says (7 + skill pl).toNatClampNeg))) := by
      intro h1 h2
      refine pm_work_h16 hp hk k (hr + 1) _ (mv + (if left pl < says (7 + skill pl).toNatClampNeg then left pl else says (7 + skill pl).toNatClampNeg)) _ _ _ (by omega) (by rw [pu_add32, hx]) (fun t' mv' wo' ra' hw => ?_)
      rw [pu_upd_upd]
      refine hQ t' mv' wo' ra' ?_
      rw [wk, if_neg h1, if_neg h2]
      rw [pu_upd_same] at hw
      exact hw
    refine ⟨fun h => ?_, fun _ => ⟨fun h1 => ?_, fun h1 => ⟨fun h2 => mv1 h1 (fun q => q.1 h2), fun h2 => ⟨fun h3 => ?_, fun h3 => mv1 h1 (fun q => h3 q.2)⟩⟩⟩⟩
    · have := (pu_nle (a := 4) (b := hr) (by omega) (by omega)).mp h; omega
    · have hz := hQ (left pl) mv wo ra (by rw [wk, if_pos h1]) xm hx
      rw [pu_upd_id] at hz
      exact hz
    · refine pm_work_h16 hp hk k (hr + 1) _ mv _ _ _ (by omega) hx (fun t' mv' wo' ra' hw => hQ t' mv' wo' ra' ?_)
      rw [wk, if_neg h1, if_pos ⟨h2, h3⟩]
      exact hw
abbrev PT := (Nat → Int32) × (Nat → Int32) × (Nat → Int32) × Nat × Int32 × (Nat → Int32) × (Nat → Int32) × (Nat → Int32) × (Nat → Int32)
/-- a gang's pay: turns, ship and hatch of each man, entries, all pay, the entries' columns -/
def py (number pay sh ha : Int32) (g : Nat → Int32) : Nat → Nat → (Nat → Int32) → (Nat → Int32) → (Nat → Int32) → Nat → Int32 → (Nat → Int32) → (Nat → Int32) → (Nat → Int32) → (Nat → Int32) → PT
  | 0, _, tu, gs, gh, e, pa, ma, ca, mo, la => (tu, gs, gh, e, pa, ma, ca, mo, la)
  | k + 1, i, tu, gs, gh, e, pa, ma, ca, mo, la => if e < 800 then py number pay sh ha g k (i + 1) (upd tu (g i).toNatClampNeg (tu (g i).toNatClampNeg + 1)) (upd gs (g i).toNatClampNeg sh) (upd gh (g i).toNatClampNeg ha) (e + 1) (pa + pay) (upd ma e number) (upd ca e (g i)) (upd mo e pay) (upd la e (-1)) else py number pay sh ha g k (i + 1) (upd tu (g i).toNatClampNeg (tu (g i).toNatClampNeg + 1)) (upd gs (g i).toNatClampNeg sh) (upd gh (g i).toNatClampNeg ha) e (pa + pay) ma ca mo la
theorem py_e {number pay sh ha : Int32} {g : Nat → Int32} : ∀ k i tu gs gh e pa ma ca mo la tu' gs' gh' e' pa' ma' ca' mo' la', e ≤ 800 → py number pay sh ha g k i tu gs gh e pa ma ca mo la = (tu', gs', gh', e', pa', ma', ca', mo', la') → e' ≤ 800
  | 0, i, tu, gs, gh, e, pa, ma, ca, mo, la, tu', gs', gh', e', pa', ma', ca', mo', la', he, h => by
    rw [py] at h
    simp only [Prod.mk.injEq] at h
    omega
  | k + 1, i, tu, gs, gh, e, pa, ma, ca, mo, la, tu', gs', gh', e', pa', ma', ca', mo', la', he, h => by
    rw [py] at h
    split at h
    · exact py_e k (i + 1) _ _ _ _ _ _ _ _ _ tu' gs' gh' e' pa' ma' ca' mo' la' (by omega) h
    · exact py_e k (i + 1) _ _ _ _ _ _ _ _ _ tu' gs' gh' e' pa' ma' ca' mo' la' he h
theorem pc_pay_h8 {ag og g : Nat → Int32} {number pay sh ha : Int32} {full : Nat} (hf : full ≤ 8) (hag : ag 0 = nI full) (hg : ∀ j, j < full → og j = g j ∧ ∃ c, c < 24 ∧ g j = nI c) {Q : (Nat → Int32) → (Nat → Int32) → (Nat → Int32) → Int32 → Int32 → (Nat → Int32) → (Nat → Int32) → (Nat → Int32) → (Nat → Int32) → Prop} :
    ∀ k i tu gs gh e pa ma ca mo la, i + k = full → e ≤ 800 → (∀ tu' gs' gh' e' pa' ma' ca' mo' la', py number pay sh ha g k i tu gs gh e pa ma ca mo la = (tu', gs', gh', e', pa', ma', ca', mo', la') → Q tu' gs' gh' (nI e') pa' ma' ca' mo' la') →
      wp_Round_payGang_h8 sh ha pay ag number og Q (k + 1) (nI i) tu gs gh (nI e) pa ma ca mo la
  | 0, i, tu, gs, gh, e, pa, ma, ca, mo, la, ei, he, hQ => by
    have ei : i = full := by omega
    subst ei
    rw [wp_Round_payGang_h8, pu_c0, hag]
    exact ⟨fun _ => hQ _ _ _ _ _ _ _ _ _ rfl, fun h => absurd (Int32.le_refl _) h⟩
  | k + 1, i, tu, gs, gh, e, pa, ma, ca, mo, la, ei, he, hQ => by
    obtain ⟨eg, c, hc, ec⟩ := hg i (by omega)
    have i1 : vp_in (nI i) 8 := pu_inI (by omega) (by omega)
    have i2 : vp_in (nI c) 24 := pu_inI (by omega) (by omega)
    rw [wp_Round_payGang_h8, pu_c0, hag]
    simp only [i1, i2, true_and, nI_clamp (show i < 2 ^ 31 by omega), eg, ec, wp_Men_joinGang, wp_Ledger_add, nI_clamp (show c < 2 ^ 31 by omega), nI_clamp (show e < 2 ^ 31 by omega), ← nI_succ]
    refine ⟨fun h => ?_, fun _ => ⟨fun h => ?_, fun _ => ⟨fun h => ?_, fun h => ?_⟩⟩⟩
    · have := (pu_nle (by omega) (by omega)).mp h; omega
    · have := (pu_nle (a := 8) (b := i) (by omega) (by omega)).mp h; omega
    · have h1 : e < 800 := (pu_nlt (a := e) (b := 800) (by omega) (by omega)).mp h
      have i3 : vp_in (nI e) 800 := pu_inI h1 (by omega)
      refine ⟨i3, i3, i3, i3, ?_⟩
      refine pc_pay_h8 hf hag hg k (i + 1) _ _ _ _ _ _ _ _ _ (by omega) (by omega) (fun tu' gs' gh' e' pa' ma' ca' mo' la' hp => hQ tu' gs' gh' e' pa' ma' ca' mo' la' ?_)
      rw [py, if_pos h1, ec, nI_clamp (by omega)]
      exact hp
    · have h1 : ¬ e < 800 := fun q => h ((pu_nlt (a := e) (b := 800) (by omega) (by omega)).mpr q)
      refine pc_pay_h8 hf hag hg k (i + 1) _ _ _ _ _ _ _ _ _ (by omega) (by omega) (fun tu' gs' gh' e' pa' ma' ca' mo' la' hp => hQ tu' gs' gh' e' pa' ma' ca' mo' la' ?_)
      rw [py, if_neg h1, ec, nI_clamp (by omega)]
      exact hp
theorem pm_pay_h176 {says xg g le : Nat → Int32} {number pay sh ha : Int32} {xm : Int64} {full M : Nat} (hsh : ¬ sh = -1) (hf : full ≤ 8) (hag : says 0 = nI full) (hg : ∀ j, j < full → xg j = g j ∧ ∃ c, c < 24 ∧ g j = nI c) {Q : Int32 → Int64 → Int64 → (Nat → Int32) → (Nat → Int32) → (Nat → Int32) → (Nat → Int32) → (Nat → Int32) → (Nat → Int32) → (Nat → Int32) → (Nat → Int32) → Prop} :
    ∀ k i tu gs gh e pa ma ca mo la (xp : Int64) isIn, i + k = full → e ≤ 800 → xp.toInt32 = pa → (∀ m, m < M → (isIn m = 0 ↔ gs m = -1)) →
      (∀ tu' gs' gh' e' pa' ma' ca' mo' la', py number pay sh ha g k i tu gs gh e pa ma ca mo la = (tu', gs', gh', e', pa', ma', ca', mo', la') → ∀ (xp' : Int64) isIn', xp'.toInt32 = pa' → (∀ m, m < M → (isIn' m = 0 ↔ gs' m = -1)) → Q (nI e') xm xp' tu' gs' gh' le ma' ca' mo' isIn') →
      wp_Model_works_h176 sh ha pay number xm le says xg Q (k + 1) (nI i) (nI e) xp tu gs gh ma ca mo isIn
  | 0, i, tu, gs, gh, e, pa, ma, ca, mo, la, xp, isIn, ei, he, hx, hin, hQ => by
    have ei : i = full := by omega
    subst ei
    rw [wp_Model_works_h176, pu_c0, hag]
    exact ⟨fun _ => hQ _ _ _ _ _ _ _ _ _ rfl xp isIn hx hin, fun h => absurd (Int32.le_refl _) h⟩
  | k + 1, i, tu, gs, gh, e, pa, ma, ca, mo, la, xp, isIn, ei, he, hx, hin, hQ => by
    obtain ⟨eg, c, hc, ec⟩ := hg i (by omega)
    have i1 : vp_in (nI i) 8 := pu_inI (by omega) (by omega)
    have i2 : vp_in (nI c) 24 := pu_inI (by omega) (by omega)
    have hin' : ∀ m, m < M → (upd isIn c (vp_nar .boolean 1) m = 0 ↔ upd gs c sh m = -1) := by
      intro m hm
      by_cases em : m = c
      · subst em
        rw [pu_upd_same, pu_upd_same]
        exact ⟨fun q => absurd q (by decide), fun q => absurd q hsh⟩
      · rw [pu_upd_ne em, pu_upd_ne em]; exact hin m hm
    rw [wp_Model_works_h176, pu_c0, hag]
    simp only [i1, i2, true_and, nI_clamp (show i < 2 ^ 31 by omega), eg, ec, wp_Model_writes, nI_clamp (show c < 2 ^ 31 by omega), nI_clamp (show e < 2 ^ 31 by omega), ← nI_succ]
    refine ⟨fun h => ?_, fun _ => ⟨fun h => ?_, fun h => ?_⟩⟩
    · have := (pu_nle (by omega) (by omega)).mp h; omega
    · have h0 := (pu_neq (a := e) (b := 800) (by omega) (by omega)).mp h
      have h1 : ¬ e < 800 := by omega
      refine pm_pay_h176 hsh hf hag hg k (i + 1) _ _ _ _ (pa + pay) _ _ _ la _ _ (by omega) (by omega) (by rw [pu_add32, hx]) hin' (fun tu' gs' gh' e' pa' ma' ca' mo' la' hp => hQ tu' gs' gh' e' pa' ma' ca' mo' la' ?_)
      rw [py, if_neg h1, ec, nI_clamp (by omega)]
      exact hp
    · have h1 : e < 800 := by
        rcases Nat.lt_or_ge e 800 with q | q
        · exact q
        · exact absurd (by rw [show e = 800 by omega]; rfl) h
      have i3 : vp_in (nI e) 800 := pu_inI h1 (by omega)
      refine ⟨i3, i3, i3, ?_⟩
      refine pm_pay_h176 hsh hf hag hg k (i + 1) _ _ _ _ (pa + pay) _ _ _ (upd la e (-1)) _ _ (by omega) (by omega) (by rw [pu_add32, hx]) hin' (fun tu' gs' gh' e' pa' ma' ca' mo' la' hp => hQ tu' gs' gh' e' pa' ma' ca' mo' la' ?_)
      rw [py, if_pos h1, ec, nI_clamp (by omega)]
      exact hp
theorem mu_gang {skills gs : Nat → Int32} {sk number bar unw : Int32} {full M : Nat} {G : Nat → Nat} (hG : ∀ i, i < M → G i < M) : ∀ k i th ba re g b ba' re' g', i + k = M → th ≤ full → (∀ j, j < th → ∃ c, c < M ∧ g j = nI c) → mu skills gs sk number bar unw full G k i th ba re g = (b, ba', re', g') → b = true → ∀ j, j < full → ∃ c, c < M ∧ g' j = nI c
  | 0, i, th, ba, re, g, b, ba', re', g', e, ht, hg, h, hb => by
    rw [mu] at h
    simp only [Prod.mk.injEq] at h
    obtain ⟨h1, -, -, h4⟩ := h
    subst h4
    rw [hb] at h1
    have := of_decide_eq_true h1
    subst this
    exact hg
  | k + 1, i, th, ba, re, g, b, ba', re', g', e, ht, hg, h, hb => by
    rw [mu] at h
    split at h
    · simp only [Prod.mk.injEq] at h
      obtain ⟨h1, -, -, h4⟩ := h
      subst h4
      intro j hj
      exact hg j (by omega)
    · split at h
      · split at h
        · exact mu_gang hG k (i + 1) th _ _ _ b ba' re' g' (by omega) ht hg h hb
        · refine mu_gang hG k (i + 1) (th + 1) _ _ _ b ba' re' g' (by omega) (by omega) (fun j hj => ?_) h hb
          by_cases ej : j = th
          · subst ej; rw [pu_upd_same]; exact ⟨G i, hG i (by omega), rfl⟩
          · rw [pu_upd_ne ej]; exact hg j (by omega)
      · exact mu_gang hG k (i + 1) th _ _ _ b ba' re' g' (by omega) ht hg h hb
