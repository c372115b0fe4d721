/-! A gang: who is asked, in the class's line and by the model's choice. -/
theorem pu_and1 (x : Int32) : x &&& 1 = 0 ↔ ¬ x &&& 1 = 1 := by
  have h : x &&& 1 = 0 ∨ x &&& 1 = 1 := by
    have e : (x &&& 1).toBitVec = x.toBitVec &&& 1#32 := rfl
    have h2 : x.toBitVec &&& 1#32 = 0#32 ∨ x.toBitVec &&& 1#32 = 1#32 := by
      cases hb : x.toBitVec.getLsbD 0
      · left
        apply BitVec.eq_of_getLsbD_eq
        intro i hi
        rcases Nat.eq_zero_or_pos i with e0 | e0
        · subst e0; simpa using hb
        · have : ¬ i = 0 := by omega
          simp [BitVec.getLsbD_and, BitVec.getLsbD_one, this]
      · right
        apply BitVec.eq_of_getLsbD_eq
        intro i hi
        rcases Nat.eq_zero_or_pos i with e0 | e0
        · subst e0; simp [hb]
        · have : ¬ i = 0 := by omega
          simp [BitVec.getLsbD_and, BitVec.getLsbD_one, this]
    rcases h2 with h2 | h2
    · left; apply Int32.toBitVec_inj.1; rw [e, h2]; rfl
    · right; apply Int32.toBitVec_inj.1; rw [e, h2]; rfl
  constructor
  · intro h1 h2
    rw [h1] at h2
    exact absurd h2 (by decide)
  · intro h1
    rcases h with h | h
    · exact h
    · exact absurd h h1
/-- may this man be asked -/
abbrev elig (skills ba gs : Nat → Int32) (sk number : Int32) (m : Nat) : Prop := ((skills m) >>> (sk &&& 31)) &&& 1 = 1 ∧ ba m < number ∧ gs m = -1
/-- men asked in their order till so many are there: are they, who is barred, how often each refused, the gang -/
def mu (skills gs : Nat → Int32) (sk number bar unw : Int32) (full : Nat) (G : Nat → Nat) : Nat → Nat → Nat → (Nat → Int32) → (Nat → Int32) → (Nat → Int32) → Bool × (Nat → Int32) × (Nat → Int32) × (Nat → Int32)
  | 0, _, th, ba, re, g => (decide (th = full), ba, re, g)
  | k + 1, i, th, ba, re, g => if full ≤ th then (true, ba, re, g) else if elig skills ba gs sk number (G i) then (if (unw >>> (nI (G i) &&& 31)) &&& 1 = 1 then mu skills gs sk number bar unw full G k (i + 1) th (upd ba (G i) bar) (upd re (G i) (re (G i) + 1)) g else mu skills gs sk number bar unw full G k (i + 1) (th + 1) ba re (upd g th (nI (G i)))) else mu skills gs sk number bar unw full G k (i + 1) th ba re g
theorem pc_mayBe {skills ba gs : Nat → Int32} {sk number : Int32} {m : Nat} (hm : m < 24) {Q : Int32 → Prop} (h1 : elig skills ba gs sk number m → Q 1) (h0 : ¬ elig skills ba gs sk number m → Q 0) : wp_Men_mayBeAsked skills ba gs (nI m) sk number Q := by
  have i1 : vp_in (nI m) 24 := pu_inI hm (by omega)
  unfold wp_Men_mayBeAsked wp_Men_isBarred
  simp only [i1, true_and, nI_clamp (show m < 2 ^ 31 by omega), p10, not_true, not_false_iff, false_implies, true_implies, and_true]
  refine ⟨fun a => ⟨fun b => ⟨fun c => h1 ⟨a, b, c⟩, fun c => h0 (fun q => c q.2.2)⟩, fun b => h0 (fun q => b q.2.1)⟩, fun a => h0 (fun q => a q.1)⟩
theorem pc_muster_h18 {ag skills gs line : Nat → Int32} {sk number unw : Int32} {M full : Nat} {G : Nat → Nat} (hM : M ≤ 24) (hf : full ≤ 8) (hG : ∀ i, i < M → line i = nI (G i) ∧ G i < M) {Q : Int32 → (Nat → Int32) → (Nat → Int32) → (Nat → Int32) → Prop} :
    ∀ k i th ba re g og, i + k = M → th ≤ full → (∀ j, j < th → og j = g j) →
      (∀ b ba' re' g', mu skills gs sk number (number + ag (2 : Int32).toNatClampNeg) unw full G k i th ba re g = (b, ba', re', g') → ∀ og', (b = true → ∀ j, j < full → og' j = g' j) → Q (if b then 1 else 0) ba' re' og') →
      wp_Round_musterGang_h18 sk unw (nI full) ag (nI M) skills gs line number Q (k + 1) (nI th) (nI i) ba re og
  | 0, i, th, ba, re, g, og, e, ht, hg, hQ => by
    have e : i = M := by omega
    subst e
    have hz := hQ _ _ _ _ rfl og (fun h j hj => hg j (by have := of_decide_eq_true h; omega))
    rw [wp_Round_musterGang_h18]
    refine ⟨fun _ => ⟨fun h => ?_, fun h => ?_⟩, fun h => absurd ((pu_nle (by omega) (by omega)).mpr (Nat.le_refl _)) h⟩
    · have := (pu_neq (by omega) (by omega)).mp h
      simpa [this] using hz
    · have : ¬ th = full := fun q => h (by rw [q])
      simpa [this] using hz
  | k + 1, i, th, ba, re, g, og, e, ht, hg, hQ => by
    obtain ⟨hl, hGi⟩ := hG i (by omega)
    rw [wp_Round_musterGang_h18]
    refine ⟨fun h => ?_, fun _ => ⟨fun h => ?_, fun h => ?_⟩⟩
    · have := (pu_nle (by omega) (by omega)).mp h; omega
    · have h1 := (pu_nle (by omega) (by omega)).mp h
      have h2 : th = full := by omega
      have hz := hQ true ba re g (by rw [mu, if_pos h1]) og (fun _ j hj => hg j (by omega))
      exact ⟨fun _ => hz, fun q => absurd (by rw [h2]) q⟩
    · have h1 : ¬ full ≤ th := fun q => h ((pu_nle (by omega) (by omega)).mpr q)
      refine ⟨pu_inI (by omega) (by omega), ?_⟩
      rw [nI_clamp (by omega), hl]
      refine pc_mayBe (by omega) (fun he => ⟨fun q => absurd q (by decide), fun _ => ⟨fun hu => ?_, fun hu => ⟨pu_inI (by omega) (by omega), ?_⟩⟩⟩) (fun he => ⟨fun _ => ?_, fun q => absurd rfl q⟩)
      · unfold wp_Men_refuse
        have i1 : vp_in (nI (G i)) 24 := pu_inI (by omega) (by omega)
        refine ⟨i1, i1, i1, ?_⟩
        rw [nI_clamp (by omega), ← nI_succ]
        refine pc_muster_h18 hM hf hG k (i + 1) th _ _ g og (by omega) ht hg (fun b ba' re' g' hb => hQ b ba' re' g' ?_)
        rw [mu, if_neg h1, if_pos he, if_pos hu]
        exact hb
      · rw [nI_clamp (by omega), ← nI_succ, ← nI_succ]
        refine pc_muster_h18 hM hf hG k (i + 1) (th + 1) _ _ (upd g th (nI (G i))) _ (by omega) (by omega) (fun j hj => ?_) (fun b ba' re' g' hb => hQ b ba' re' g' ?_)
        · by_cases ej : j = th
          · subst ej; rw [pu_upd_same, pu_upd_same]
          · rw [pu_upd_ne ej, pu_upd_ne ej]; exact hg j (by omega)
        · rw [mu, if_neg h1, if_pos he, if_neg hu]
          exact hb
      · rw [← nI_succ]
        refine pc_muster_h18 hM hf hG k (i + 1) th _ _ g og (by omega) ht hg (fun b ba' re' g' hb => hQ b ba' re' g' ?_)
        rw [mu, if_neg h1, if_neg he]
        exact hb
theorem pu_c0 : (0 : Int32).toNatClampNeg = 0 := rfl
theorem pu_c1 : (1 : Int32).toNatClampNeg = 1 := rfl
theorem pc_muster {ag skills gs line ba re og : Nat → Int32} {sk number unw : Int32} {M full : Nat} {G : Nat → Nat} (hM : M ≤ 24) (hf : full ≤ 8) (hag : ag 0 = nI full) (hG : ∀ i, i < M → line i = nI (G i) ∧ G i < M) {Q : Int32 → (Nat → Int32) → (Nat → Int32) → (Nat → Int32) → Prop}
    (hQ : ∀ b ba' re' g', mu skills gs sk number (number + ag (2 : Int32).toNatClampNeg) unw full G M 0 0 ba re (fun _ => 0) = (b, ba', re', g') → ∀ og', (b = true → ∀ j, j < full → og' j = g' j) → Q (if b then 1 else 0) ba' re' og') : wp_Round_musterGang ag (nI M) skills ba re gs line number og sk unw Q := by
  refine ⟨M + 1, ?_⟩
  have e : (if 8 < ag (0 : Int32).toNatClampNeg then 8 else ag (0 : Int32).toNatClampNeg) = nI full := by
    rw [pu_c0, hag, if_neg]
    intro h
    have := (pu_nlt (a := 8) (b := full) (by omega) (by omega)).mp h
    omega
  rw [e]
  exact pc_muster_h18 hM hf hG M 0 0 ba re (fun _ => 0) og (by omega) (by omega) (fun j hj => absurd hj (Nat.not_lt_zero j)) hQ
/-- whom the model's search finds -/
theorem pm_nextMan_h4 {skills ba isIn wa ahead : Nat → Int32} {sk number : Int32} {M : Nat} (hM : M ≤ 24) {C : Nat → Prop} (hC : ∀ m, C m ↔ (((skills m) >>> (sk &&& 31)) &&& 1 = 1 ∧ ba m < number ∧ isIn m = 0 ∧ wa m = 0)) {Q : Int32 → Prop}
    (hQ : ∀ best, ((best = -1 ∧ ∀ m, m < M → ¬ C m) ∨ ∃ b, b < M ∧ best = nI b ∧ C b ∧ ∀ m, m < M → C m → m ≠ b → bf ahead b m) → Q best) :
    ∀ k j best, j + k = M → ((best = -1 ∧ ∀ m, m < j → ¬ C m) ∨ ∃ b, b < j ∧ best = nI b ∧ C b ∧ ∀ m, m < j → C m → m ≠ b → bf ahead b m) → wp_Model_nextMan_h4 sk (nI M) number skills ba isIn wa ahead Q (k + 1) best (nI j)
  | 0, j, best, e, h => by
    have e : j = M := by omega
    subst e
    rw [wp_Model_nextMan_h4]
    exact ⟨fun _ => hQ best h, fun h => absurd ((pu_nle (by omega) (by omega)).mpr (Nat.le_refl _)) h⟩
  | k + 1, j, best, e, h => by
    have i1 : vp_in (nI j) 24 := pu_inI (by omega) (by omega)
    have skip : ¬ C j → ((best = -1 ∧ ∀ m, m < j + 1 → ¬ C m) ∨ ∃ b, b < j + 1 ∧ best = nI b ∧ C b ∧ ∀ m, m < j + 1 → C m → m ≠ b → bf ahead b m) := by
      intro hc
      rcases h with ⟨h1, h2⟩ | ⟨b, hb, h1, h2, h3⟩
      · refine Or.inl ⟨h1, fun m hm => ?_⟩
        rcases Nat.lt_or_ge m j with h4 | h4
        · exact h2 m h4
        · have : m = j := by omega
          subst this; exact hc
      · refine Or.inr ⟨b, by omega, h1, h2, fun m hm hm2 hm3 => ?_⟩
        rcases Nat.lt_or_ge m j with h4 | h4
        · exact h3 m h4 hm2 hm3
        · have : m = j := by omega
          subst this; exact absurd hm2 hc
    have next := fun best' h' => pm_nextMan_h4 hM hC hQ k (j + 1) best' (by omega) h'
    rw [wp_Model_nextMan_h4]
    simp only [i1, true_and, nI_clamp (show j < 2 ^ 31 by omega), ← nI_succ, pu_and1]
    refine ⟨fun h0 => ?_, fun _ => ⟨fun a => next best (skip (fun q => a ((hC j).mp q).1)), fun a => ⟨fun b => next best (skip (fun q => ?_)), fun b => ⟨fun c => ⟨fun d => ?_, fun d => next best (skip (fun q => d ((hC j).mp q).2.2.2))⟩, fun c => next best (skip (fun q => c ((hC j).mp q).2.2.1))⟩⟩⟩⟩
    · have := (pu_nle (by omega) (by omega)).mp h0; omega
    · have := ((hC j).mp q).2.1
      exact (pu_nlt_le _ _).mp this b
    · have a' : ((skills j) >>> (sk &&& 31)) &&& 1 = 1 := Decidable.of_not_not a
      have hcj : C j := (hC j).mpr ⟨a', (pu_nlt_le _ _).mpr b, c, d⟩
      rcases h with ⟨h1, h2⟩ | ⟨b0, hb, h1, h2, h3⟩
      · subst h1
        refine ⟨fun _ => next _ (Or.inr ⟨j, by omega, rfl, hcj, fun m hm hm2 hm3 => absurd hm2 (h2 m (by omega))⟩), fun q => absurd (show (-1 : Int32) < 0 by decide) q⟩
      · subst h1
        refine ⟨fun q => absurd q (nI_pos (by omega)), fun _ => ⟨pu_inI (by omega) (by omega), ?_⟩⟩
        rw [nI_clamp (by omega)]
        refine ⟨fun q => next _ (Or.inr ⟨b0, by omega, rfl, h2, fun m hm hm2 hm3 => ?_⟩), fun q => next _ (Or.inr ⟨j, by omega, rfl, hcj, fun m hm hm2 hm3 => ?_⟩)⟩
        · rcases Nat.lt_or_ge m j with h4 | h4
          · exact h3 m h4 hm2 hm3
          · have : m = j := by omega
            subst this
            unfold bf
            rw [pu_le] at q
            rw [pu_lt, pu_eq]
            omega
        · have h5 : m < j := by omega
          unfold bf
          by_cases e1 : m = b0
          · subst e1
            rw [pu_le] at q
            rw [pu_lt, pu_eq]
            omega
          · have := h3 m h5 hm2 e1
            unfold bf at this
            rw [pu_le] at q
            rw [pu_lt, pu_eq] at this ⊢
            omega
theorem pm_nextMan {skills ba isIn wa ahead : Nat → Int32} {sk number : Int32} {M : Nat} (hM : M ≤ 24) {C : Nat → Prop} (hC : ∀ m, C m ↔ (((skills m) >>> (sk &&& 31)) &&& 1 = 1 ∧ ba m < number ∧ isIn m = 0 ∧ wa m = 0)) {Q : Int32 → Prop}
    (hQ : ∀ best, ((best = -1 ∧ ∀ m, m < M → ¬ C m) ∨ ∃ b, b < M ∧ best = nI b ∧ C b ∧ ∀ m, m < M → C m → m ≠ b → bf ahead b m) → Q best) : wp_Model_nextMan (nI M) number skills ba isIn wa ahead sk Q :=
  ⟨M + 1, pm_nextMan_h4 hM hC hQ M 0 (-1) (by omega) (Or.inl ⟨rfl, fun m hm => absurd hm (Nat.not_lt_zero m)⟩)⟩
theorem pm_gathers_h25 {says skills gs isIn key ahead : Nat → Int32} {sk number unw : Int32} {M full : Nat} {G : Nat → Nat} (hM : M ≤ 24) (hf : full ≤ 8) (hag : says 0 = nI full) {line : Nat → Int32} (hG : SL key (fun _ => True) line M M G) (hah : ∀ m, m < M → ahead m = key m) (hin : ∀ m, m < M → (isIn m = 0 ↔ gs m = -1)) {Q : Int32 → (Nat → Int32) → (Nat → Int32) → (Nat → Int32) → (Nat → Int32) → Prop} :
    ∀ k i th ba re g wa xg, i + k = M → th ≤ full → (∀ j, j < th → xg j = g j) →
      (∀ p, p < i → ¬ (elig skills ba gs sk number (G p) ∧ wa (G p) = 0)) → (∀ p, i ≤ p → p < M → wa (G p) = 0) →
      (∀ b ba' re' g', mu skills gs sk number (number + says (2 : Int32).toNatClampNeg) unw full G k i th ba re g = (b, ba', re', g') → ∀ wa' xg', (b = true → ∀ j, j < full → xg' j = g' j) → Q (if b then 1 else 0) ba' re' wa' xg') →
      ∃ n, wp_Model_gathers_h25 sk unw (nI M) number skills says isIn ahead Q n (nI th) ba re wa xg := by
  intro k
  induction k with
  | zero =>
    intro i th ba re g wa xg e ht hg hj1 hj2 hQ
    have e : i = M := by omega
    subst e
    have hz := hQ _ _ _ _ rfl wa xg (fun h j hj => hg j (by have := of_decide_eq_true h; omega))
    refine ⟨1, ?_⟩
    rw [wp_Model_gathers_h25, pu_c0, hag]
    refine ⟨fun h => ?_, fun h => ?_⟩
    · have h1 := (pu_nle (by omega) (by omega)).mp h
      have h2 : th = full := by omega
      simpa [h2] using hz
    · have h1 : ¬ th = full := fun q => h (by rw [q]; exact Int32.le_refl _)
      refine pm_nextMan (C := fun m => ((skills m) >>> (sk &&& 31)) &&& 1 = 1 ∧ ba m < number ∧ isIn m = 0 ∧ wa m = 0) hM (fun m => Iff.rfl) (fun best hb => ?_)
      rcases hb with ⟨h3, h4⟩ | ⟨b, hb, h3, h4, h5⟩
      · subst h3
        refine ⟨fun q => absurd q (by decide), fun _ => ?_⟩
        simpa [h1] using hz
      · obtain ⟨p, hp, ep⟩ := hG.2.2.2 b hb trivial
        subst ep
        exact absurd ⟨⟨h4.1, h4.2.1, (hin _ hb).mp h4.2.2.1⟩, h4.2.2.2⟩ (hj1 p hp)
  | succ k ih =>
    intro i th ba re g wa xg e ht hg hj1 hj2 hQ
    have hGi := (hG.2.1 i (by omega)).2.1
    by_cases h1 : full ≤ th
    · have h2 : th = full := by omega
      have hz := hQ true ba re g (by rw [mu, if_pos h1]) wa xg (fun _ j hj => hg j (by omega))
      refine ⟨1, ?_⟩
      rw [wp_Model_gathers_h25, pu_c0, hag]
      exact ⟨fun _ => hz, fun h => absurd (by rw [h2]; exact Int32.le_refl _) h⟩
    · by_cases he : elig skills ba gs sk number (G i)
      · have hcG : ((skills (G i)) >>> (sk &&& 31)) &&& 1 = 1 ∧ ba (G i) < number ∧ isIn (G i) = 0 ∧ wa (G i) = 0 := ⟨he.1, he.2.1, (hin _ hGi).mpr he.2.2, hj2 i (Nat.le_refl _) (by omega)⟩
        have hwa1 : ∀ (x : Int32) p, p < i + 1 → ∀ ba1 : Nat → Int32, (∀ q, q < i → ba1 (G q) = ba (G q)) → ¬ x = 0 → ¬ (elig skills ba1 gs sk number (G p) ∧ upd wa (G i) x (G p) = 0) := by
          intro x p hp ba1 hba1 hx hq
          by_cases ep : p = i
          · subst ep
            rw [pu_upd_same] at hq
            exact hx hq.2
          · have hne : G p ≠ G i := bf_ne (hG.2.2.1 p i (by omega) (by omega))
            rw [pu_upd_ne hne] at hq
            refine hj1 p (by omega) ⟨⟨hq.1.1, ?_, hq.1.2.2⟩, hq.2⟩
            rw [← hba1 p (by omega)]; exact hq.1.2.1
        have hwa2 : ∀ (x : Int32) p, i + 1 ≤ p → p < M → upd wa (G i) x (G p) = 0 := by
          intro x p hp hp2
          have hne : G p ≠ G i := fun q => bf_ne (hG.2.2.1 i p (by omega) (by omega)) q.symm
          rw [pu_upd_ne hne]
          exact hj2 p (by omega) hp2
        have n1 : ¬ vp_nar .boolean 1 = 0 := by decide
        have key : ∀ {n}, ((unw >>> (nI (G i) &&& 31)) &&& 1 = 1 → wp_Model_gathers_h25 sk unw (nI M) number skills says isIn ahead Q n (nI th) (upd ba (G i) (number + says (2 : Int32).toNatClampNeg)) (upd re (G i) (re (G i) + 1)) (upd wa (G i) (vp_nar .boolean 1)) xg) → (¬ (unw >>> (nI (G i) &&& 31)) &&& 1 = 1 → wp_Model_gathers_h25 sk unw (nI M) number skills says isIn ahead Q n (nI (th + 1)) ba re (upd wa (G i) (vp_nar .boolean 1)) (upd xg th (nI (G i)))) → wp_Model_gathers_h25 sk unw (nI M) number skills says isIn ahead Q (n + 1) (nI th) ba re wa xg := by
          intro n k1 k2
          rw [wp_Model_gathers_h25, pu_c0, hag]
          refine ⟨fun h => absurd ((pu_nle (by omega) (by omega)).mp h) h1, fun _ => ?_⟩
          refine pm_nextMan (C := fun m => ((skills m) >>> (sk &&& 31)) &&& 1 = 1 ∧ ba m < number ∧ isIn m = 0 ∧ wa m = 0) hM (fun m => Iff.rfl) (fun best hb => ?_)
          rcases hb with ⟨h3, h4⟩ | ⟨b, hb, h3, h4, h5⟩
          · exact absurd hcG (h4 _ hGi)
          · have hbe : b = G i := by
              obtain ⟨p, hp, ep⟩ := hG.2.2.2 b hb trivial
              subst ep
              rcases Nat.lt_trichotomy p i with c1 | c1 | c1
              · exact absurd ⟨⟨h4.1, h4.2.1, (hin _ hb).mp h4.2.2.1⟩, h4.2.2.2⟩ (hj1 p c1)
              · rw [c1]
              · have s1 := hG.2.2.1 i p c1 (by omega)
                have s2 := h5 (G i) hGi hcG (bf_ne s1)
                exfalso
                unfold bf at s1 s2
                rw [hah _ hb, hah _ hGi] at s2
                rw [pu_lt, pu_eq] at s1 s2
                omega
            subst hbe
            subst h3
            have i1 : vp_in (nI (G i)) 24 := pu_inI (by omega) (by omega)
            refine ⟨fun _ => ⟨i1, fun hu => ⟨i1, i1, i1, ?_⟩, fun hu => ⟨pu_inI (by omega) (by omega), ?_⟩⟩, fun q => absurd (nI_pos' (by omega)) q⟩
            · rw [nI_clamp (by omega)]
              exact k1 hu
            · rw [nI_clamp (by omega), nI_clamp (by omega), ← nI_succ]
              exact k2 hu
        by_cases hu : (unw >>> (nI (G i) &&& 31)) &&& 1 = 1
        · obtain ⟨n, hn⟩ := ih (i + 1) th (upd ba (G i) (number + says (2 : Int32).toNatClampNeg)) (upd re (G i) (re (G i) + 1)) g (upd wa (G i) (vp_nar .boolean 1)) xg (by omega) ht hg
            (fun p hp => hwa1 _ p hp _ (fun q hq => pu_upd_ne (bf_ne (hG.2.2.1 q i hq (by omega)))) n1) (hwa2 _) (fun b ba' re' g' hb => hQ b ba' re' g' (by rw [mu, if_neg h1, if_pos he, if_pos hu]; exact hb))
          exact ⟨n + 1, key (fun _ => hn) (fun q => absurd hu q)⟩
        · obtain ⟨n, hn⟩ := ih (i + 1) (th + 1) ba re (upd g th (nI (G i))) (upd wa (G i) (vp_nar .boolean 1)) (upd xg th (nI (G i))) (by omega) (by omega)
            (fun j hj => by
              by_cases ej : j = th
              · subst ej; rw [pu_upd_same, pu_upd_same]
              · rw [pu_upd_ne ej, pu_upd_ne ej]; exact hg j (by omega))
            (fun p hp => hwa1 _ p hp _ (fun q hq => rfl) n1) (hwa2 _) (fun b ba' re' g' hb => hQ b ba' re' g' (by rw [mu, if_neg h1, if_pos he, if_neg hu]; exact hb))
          exact ⟨n + 1, key (fun q => absurd q hu) (fun _ => hn)⟩
      · refine ih (i + 1) th ba re g wa xg (by omega) ht hg (fun p hp hq => ?_) (fun p hp hp2 => hj2 p (by omega) hp2) (fun b ba' re' g' hb => hQ b ba' re' g' (by rw [mu, if_neg h1, if_neg he]; exact hb))
        by_cases ep : p = i
        · subst ep; exact he hq.1
        · exact hj1 p (by omega) hq
theorem pm_gathers_h2 {says skills gs isIn key ahead ba re xg : Nat → Int32} {sk number unw : Int32} {M full : Nat} {G : Nat → Nat} (hM : M ≤ 24) {Q : Int32 → (Nat → Int32) → (Nat → Int32) → (Nat → Int32) → (Nat → Int32) → Prop}
    (hQ : ∀ wa, (∀ m, m < M → wa m = 0) → ∃ n, wp_Model_gathers_h25 sk unw (nI M) number skills says isIn ahead Q n 0 ba re wa xg) :
    ∀ k c wa, c + k = M → (∀ m, m < c → wa m = 0) → wp_Model_gathers_h2 sk unw (nI M) number skills ba re says isIn xg ahead Q (k + 1) (nI c) wa
  | 0, c, wa, e, h => by
    have e : c = M := by omega
    subst e
    rw [wp_Model_gathers_h2]
    exact ⟨fun _ => hQ wa h, fun h => absurd ((pu_nle (by omega) (by omega)).mpr (Nat.le_refl _)) h⟩
  | k + 1, c, wa, e, h => by
    rw [wp_Model_gathers_h2]
    refine ⟨fun h0 => ?_, fun _ => ⟨pu_inI (by omega) (by omega), ?_⟩⟩
    · have := (pu_nle (by omega) (by omega)).mp h0; omega
    · rw [nI_clamp (by omega), ← nI_succ]
      refine pm_gathers_h2 (gs := gs) (key := key) (full := full) (G := G) hM hQ k (c + 1) _ (by omega) (fun m hm => ?_)
      by_cases e1 : m = c
      · subst e1; rw [pu_upd_same]; rfl
      · rw [pu_upd_ne e1]; exact h m (by omega)
theorem pm_gathers {says skills gs isIn key ahead ba re wa xg : Nat → Int32} {sk number unw : Int32} {M full : Nat} {G : Nat → Nat} (hM : M ≤ 24) (hf : full ≤ 8) (hag : says 0 = nI full) {line : Nat → Int32} (hG : SL key (fun _ => True) line M M G) (hah : ∀ m, m < M → ahead m = key m) (hin : ∀ m, m < M → (isIn m = 0 ↔ gs m = -1)) {Q : Int32 → (Nat → Int32) → (Nat → Int32) → (Nat → Int32) → (Nat → Int32) → Prop}
    (hQ : ∀ b ba' re' g', mu skills gs sk number (number + says (2 : Int32).toNatClampNeg) unw full G M 0 0 ba re (fun _ => 0) = (b, ba', re', g') → ∀ wa' xg', (b = true → ∀ j, j < full → xg' j = g' j) → Q (if b then 1 else 0) ba' re' wa' xg') : wp_Model_gathers (nI M) number skills ba re says isIn wa xg ahead sk unw Q := by
  refine ⟨M + 1, pm_gathers_h2 (gs := gs) (key := key) (full := full) (G := G) hM (fun wa1 h1 => ?_) M 0 wa (by omega) (fun m hm => absurd hm (Nat.not_lt_zero m))⟩
  exact pm_gathers_h25 hM hf hag hG hah hin M 0 0 ba re (fun _ => 0) wa1 xg (by omega) (by omega) (fun j hj => absurd hj (Nat.not_lt_zero j)) (fun p hp => absurd hp (Nat.not_lt_zero p)) (fun p _ hp => h1 _ (hG.2.1 p hp).2.1) hQ
