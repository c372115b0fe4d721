/-! The call in the model. -/
theorem p01 : ((0 : Int32) = 1) = False := by decide
theorem pu_neg {a : Nat} (ha : a < 2 ^ 31) : (-(nI a)).toInt = -(a : Int) := by
  rw [Int32.toInt_neg, nI_toInt ha]
  apply Int.bmod_eq_of_le <;> omega
theorem pu_z {a : Nat} (ha : a < 2 ^ 31) : nI a ≤ 0 ↔ nI a = 0 := by
  have h1 := pu_nle (a := a) (b := 0) ha (by omega)
  have h2 := pu_neq (a := a) (b := 0) ha (by omega)
  have e : nI 0 = 0 := rfl
  rw [e] at h1 h2
  rw [h1, h2]
  omega
theorem pm_isAhead {came says start hatches left : Nat → Int32} {s t : Nat} (hs : s < 10) (ht : t < 10) (h1 : start s = tns hatches left s) (h2 : start t = tns hatches left t) (hH : ∀ k, ∃ h, h ≤ 4 ∧ hatches k = nI h) (hL : ∀ k, ∃ t, t ≤ 2000 ∧ left k = nI t) {Q : Int32 → Prop}
    (hQ1 : bf (rk (says (6 : Int32).toNatClampNeg) came hatches left) s t → Q 1) (hQ0 : ¬ bf (rk (says (6 : Int32).toNatClampNeg) came hatches left) s t → Q 0) : wp_Model_isAhead came says start (nI s) (nI t) Q := by
  have i1 : vp_in (nI s) 10 := pu_inI hs (by omega)
  have i2 : vp_in (nI t) 10 := pu_inI ht (by omega)
  obtain ⟨a, ha, ea⟩ := tns_nat hH hL s
  obtain ⟨b, hb, eb⟩ := tns_nat hH hL t
  unfold wp_Model_isAhead
  generalize says (6 : Int32).toNatClampNeg = first at hQ1 hQ0 ⊢
  simp only [i1, i2, true_and, nI_clamp (show s < 2 ^ 31 by omega), nI_clamp (show t < 2 ^ 31 by omega), h1, h2, ea, eb]
  have hst : (nI t ≤ nI s) ↔ t ≤ s := pu_nle (by omega) (by omega)
  by_cases f0 : first = 0
  · subst f0
    have r1 : ∀ m, rk 0 came hatches left m = came m := fun m => by simp [rk]
    unfold bf at hQ1 hQ0
    rw [r1, r1] at hQ1 hQ0
    refine ⟨fun _ => ⟨fun c => ⟨fun q => absurd q (by decide), fun _ => ⟨fun q => ?_, fun q => ?_⟩⟩, fun c => ⟨fun q => ?_, fun q => ?_⟩⟩, fun q => absurd rfl q⟩
    · refine hQ0 (fun z => ?_)
      have := hst.mp q
      rw [pu_eq] at c
      rw [pu_lt] at z
      omega
    · have hq : ¬ t ≤ s := fun z => q (hst.mpr z)
      exact hQ1 (Or.inr ⟨c, by omega⟩)
    · refine hQ0 (fun z => ?_)
      rw [pu_le] at q
      rw [pu_lt, pu_eq] at z
      rw [pu_eq] at c
      omega
    · exact hQ1 (Or.inl ((pu_nlt_le _ _).mpr q))
  · by_cases f1 : first = 1
    · subst f1
      have r1 : ∀ m, rk 1 came hatches left m = -(tns hatches left m) := fun m => by
        unfold rk
        rw [if_neg f0, if_pos rfl]
      have hab : (nI a = nI b) ↔ a = b := pu_neq (by omega) (by omega)
      have hab2 : (nI a ≤ nI b) ↔ a ≤ b := pu_nle (by omega) (by omega)
      have hbf : bf (rk 1 came hatches left) s t ↔ (b < a ∨ (a = b ∧ s < t)) := by
        unfold bf
        rw [r1, r1, ea, eb, pu_lt, pu_eq, pu_neg (by omega), pu_neg (by omega)]
        omega
      rw [hbf] at hQ1 hQ0
      refine ⟨fun q => absurd q f0, fun _ => ⟨fun _ => ⟨fun c => ⟨fun q => hQ0 ?_, fun q => hQ1 ?_⟩, fun c => ⟨fun q => hQ0 ?_, fun q => hQ1 ?_⟩⟩, fun q => absurd rfl q⟩⟩
      · have := hst.mp q; have := hab.mp c; omega
      · have : ¬ t ≤ s := fun z => q (hst.mpr z)
        have := hab.mp c; omega
      · have := hab2.mp q
        have : ¬ a = b := fun z => c (hab.mpr z)
        omega
      · have : ¬ a ≤ b := fun z => q (hab2.mpr z)
        omega
    · have r1 : ∀ m, rk first came hatches left m = nI m := fun m => by
        unfold rk
        rw [if_neg f0, if_neg f1]
      have hbf : bf (rk first came hatches left) s t ↔ s < t := by
        unfold bf
        rw [r1, r1, pu_nlt (by omega) (by omega), pu_neq (by omega) (by omega)]
        omega
      rw [hbf] at hQ1 hQ0
      refine ⟨fun q => absurd q f0, fun _ => ⟨fun q => absurd q f1, fun _ => ⟨fun q => hQ0 ?_, fun q => hQ1 ?_⟩⟩⟩
      · have := hst.mp q; omega
      · have : ¬ t ≤ s := fun z => q (hst.mpr z)
        omega
theorem pm_nextShip_h4 {came says start hatches left ht : Nat → Int32} {S : Nat} (hS : S ≤ 10) (hst : ∀ s, s < S → start s = tns hatches left s) (hH : ∀ k, ∃ h, h ≤ 4 ∧ hatches k = nI h) (hL : ∀ k, ∃ t, t ≤ 2000 ∧ left k = nI t) {C : Nat → Prop} (hC : ∀ m, C m ↔ (ht m = 0 ∧ ¬ start m ≤ 0)) {Q : Int32 → Prop}
    (hQ : ∀ best, ((best = -1 ∧ ∀ m, m < S → ¬ C m) ∨ ∃ b, b < S ∧ best = nI b ∧ C b ∧ ∀ m, m < S → C m → m ≠ b → bf (rk (says (6 : Int32).toNatClampNeg) came hatches left) b m) → Q best) :
    ∀ k j best, j + k = S → ((best = -1 ∧ ∀ m, m < j → ¬ C m) ∨ ∃ b, b < j ∧ best = nI b ∧ C b ∧ ∀ m, m < j → C m → m ≠ b → bf (rk (says (6 : Int32).toNatClampNeg) came hatches left) b m) → wp_Model_nextShip_h4 (nI S) came says ht start Q (k + 1) best (nI j)
  | 0, j, best, e, h => by
    have e : j = S := by omega
    subst e
    rw [wp_Model_nextShip_h4]
    exact ⟨fun _ => hQ best h, fun h => absurd (Int32.le_refl _) h⟩
  | k + 1, j, best, e, h => by
    have i1 : vp_in (nI j) 10 := pu_inI (by omega) (by omega)
    have skip : ¬ C j → ((best = -1 ∧ ∀ m, m < j + 1 → ¬ C m) ∨ ∃ b, b < j + 1 ∧ best = nI b ∧ C b ∧ ∀ m, m < j + 1 → C m → m ≠ b → bf (rk (says (6 : Int32).toNatClampNeg) came hatches left) b m) := by
      intro hc
      rcases h with ⟨h1, h2⟩ | ⟨b, hb, h1, h2, h3⟩
      · refine Or.inl ⟨h1, fun m hm => ?_⟩
        rcases Nat.lt_or_ge m j with h4 | h4
        · exact h2 m h4
        · have : m = j := by omega
          subst this; exact hc
      · refine Or.inr ⟨b, by omega, h1, h2, fun m hm hm2 hm3 => ?_⟩
        rcases Nat.lt_or_ge m j with h4 | h4
        · exact h3 m h4 hm2 hm3
        · have : m = j := by omega
          subst this; exact absurd hm2 hc
    have next := fun best' h' => pm_nextShip_h4 hS hst hH hL hC hQ k (j + 1) best' (by omega) h'
    rw [wp_Model_nextShip_h4]
    simp only [i1, true_and, nI_clamp (show j < 2 ^ 31 by omega), ← nI_succ]
    refine ⟨fun h0 => ?_, fun _ => ⟨fun a => ⟨fun b => next best (skip (fun q => ((hC j).mp q).2 b)), fun b => ?_⟩, fun a => next best (skip (fun q => a ((hC j).mp q).1))⟩⟩
    · have := (pu_nle (by omega) (by omega)).mp h0; omega
    · have hcj : C j := (hC j).mpr ⟨a, b⟩
      rcases h with ⟨h1, h2⟩ | ⟨b0, hb, h1, h2, h3⟩
      · subst h1
        refine ⟨fun _ => next _ (Or.inr ⟨j, by omega, rfl, hcj, fun m hm hm2 hm3 => absurd hm2 (h2 m (by omega))⟩), fun q => absurd (show (-1 : Int32) < 0 by decide) q⟩
      · subst h1
        refine ⟨fun q => absurd q (nI_pos (by omega)), fun _ => pm_isAhead (by omega) (by omega) (hst j (by omega)) (hst b0 (by omega)) hH hL (fun q => ⟨fun z => absurd z (by decide), fun _ => next _ (Or.inr ⟨j, by omega, rfl, hcj, fun m hm hm2 hm3 => ?_⟩)⟩) (fun q => ⟨fun _ => next _ (Or.inr ⟨b0, by omega, rfl, h2, fun m hm hm2 hm3 => ?_⟩), fun z => absurd rfl z⟩)⟩
        · have h5 : m < j := by omega
          by_cases e1 : m = b0
          · subst e1; exact q
          · have := h3 m h5 hm2 e1
            unfold bf at this q ⊢
            rw [pu_lt, pu_eq] at this q ⊢
            omega
        · rcases Nat.lt_or_ge m j with h4 | h4
          · exact h3 m h4 hm2 hm3
          · have : m = j := by omega
            subst this
            unfold bf at q ⊢
            rw [pu_lt, pu_eq] at q ⊢
            omega
theorem pm_nextShip {came says start hatches left ht line : Nat → Int32} {S L : Nat} {GS : Nat → Nat} (hS : S ≤ 10) (hst : ∀ s, s < S → start s = tns hatches left s) (hH : ∀ k, ∃ h, h ≤ 4 ∧ hatches k = nI h) (hL : ∀ k, ∃ t, t ≤ 2000 ∧ left k = nI t)
    (hG : SL (rk (says (6 : Int32).toNatClampNeg) came hatches left) (fun s => ¬ tns hatches left s = 0) line L S GS) {i : Nat} (hi : i ≤ L) (h1 : ∀ p, p < i → ¬ ht (GS p) = 0) (h2 : ∀ p, i ≤ p → p < L → ht (GS p) = 0) {Q : Int32 → Prop} (hQ1 : i < L → Q (nI (GS i))) (hQ0 : i = L → Q (-1)) : wp_Model_nextShip (nI S) came says ht start Q := by
  refine ⟨S + 1, pm_nextShip_h4 hS hst hH hL (C := fun m => ht m = 0 ∧ ¬ start m ≤ 0) (fun m => Iff.rfl) (fun best hb => ?_) S 0 (-1) (by omega) (Or.inl ⟨rfl, fun m hm => absurd hm (Nat.not_lt_zero m)⟩)⟩
  have hpos : ∀ m, m < S → (¬ start m ≤ 0 ↔ ¬ tns hatches left m = 0) := by
    intro m hm
    obtain ⟨a, ha, ea⟩ := tns_nat hH hL m
    rw [hst m hm, ea, pu_z (by omega)]
  rcases hb with ⟨h3, h4⟩ | ⟨b, hb, h3, h4, h5⟩
  · subst h3
    rcases Nat.lt_or_ge i L with c | c
    · have hg := hG.2.1 i c
      exact absurd ⟨h2 i (Nat.le_refl _) c, (hpos _ hg.2.1).mpr hg.2.2⟩ (h4 (GS i) hg.2.1)
    · exact hQ0 (by omega)
  · subst h3
    obtain ⟨p, hp, ep⟩ := hG.2.2.2 b hb ((hpos b hb).mp h4.2)
    subst ep
    have hip : ¬ p < i := fun q => h1 p q h4.1
    rcases Nat.eq_or_lt_of_le (show i ≤ p by omega) with c | c
    · rw [← c]; exact hQ1 (by omega)
    · exfalso
      have s1 := hG.2.2.1 i p c hp
      have hg := hG.2.1 i (by omega)
      exact bf_asymm s1 (h5 (GS i) hg.2.1 ⟨h2 i (Nat.le_refl _) (by omega), (hpos _ hg.2.1).mpr hg.2.2⟩ (bf_ne s1))
theorem pm_serve_h144 {ag skills skill dry hatches came start ahead key ht line : Nat → Int32} {number rain unw : Int32} {M S full cr : Nat} {G : Nat → Nat} {s H : Nat} (hM : M ≤ 24) (hf : full ≤ 8) (hag : ag 0 = nI full) (hcr : cr ≤ 12) (hag1 : ag 1 = nI cr) (hs : s < 10) (hH : hatches s = nI H) (h4 : H ≤ 4) (hk : ∀ k, ∃ q, q ≤ 3 ∧ skill k = nI q) (hG : SL key (fun _ => True) line M M G) (hah : ∀ m, m < M → ahead m = key m)
    {K : Int32 → Int32 → Int32 → Int32 → Int64 → Int64 → (Nat → Int32) → (Nat → Int32) → (Nat → Int32) → (Nat → Int32) → (Nat → Int32) → (Nat → Int32) → (Nat → Int32) → (Nat → Int32) → (Nat → Int32) → (Nat → Int32) → (Nat → Int32) → (Nat → Int32) → (Nat → Int32) → Prop}
    {Q : Int32 → Int32 → Int32 → Int32 → Int32 → Int32 → Int64 → Int64 → (Nat → Int32) → (Nat → Int32) → (Nat → Int32) → (Nat → Int32) → (Nat → Int32) → (Nat → Int32) → (Nat → Int32) → (Nat → Int32) → (Nat → Int32) → (Nat → Int32) → (Nat → Int32) → (Nat → Int32) → (Nat → Int32) → (Nat → Int32) → (Nat → Int32) → (Nat → Int32) → Prop} :
    ∀ k h n tu ba re gs gh le e pa ma ca mo la mv id (xm xp : Int64) isIn wa xg, h + k = H → n ≤ cr → e ≤ 800 → xm.toInt32 = mv → xp.toInt32 = pa → (∀ m, m < M → (isIn m = 0 ↔ gs m = -1)) →
      (∀ n' tu' ba' re' gs' gh' le' e' pa' ma' ca' mo' la' mv' id', sv ag skills skill dry number rain unw M full cr G s k h n (tu, ba, re, gs, gh, le, e, pa, ma, ca, mo, la, mv, id) = (n', (tu', ba', re', gs', gh', le', e', pa', ma', ca', mo', la', mv', id')) →
        ∀ (xm' xp' : Int64) isIn' wa' xg', xm'.toInt32 = mv' → xp'.toInt32 = pa' → (∀ m, m < M → (isIn' m = 0 ↔ gs' m = -1)) → wp_Model_nextShip (nI S) came ag ht start (fun r => K (nI n') r (nI e') id' xm' xp' tu' ba' re' gs' gh' le' ma' ca' mo' ht isIn' wa' xg')) →
      wp_Model_call_h144 rain unw (nI s) (nI M) (nI S) number skills came hatches skill dry ag ht start ahead K Q (k + 1) (nI n) (nI h) (nI e) id xm xp tu ba re gs gh le ma ca mo isIn wa xg
  | 0, h, n, tu, ba, re, gs, gh, le, e, pa, ma, ca, mo, la, mv, id, xm, xp, isIn, wa, xg, eh, hn, he, hxm, hxp, hin, hQ => by
    have eh : h = H := by omega
    subst eh
    rw [wp_Model_call_h144, nI_clamp (by omega), hH]
    exact ⟨pu_inI hs (by omega), fun _ => hQ _ _ _ _ _ _ _ _ _ _ _ _ la _ _ rfl xm xp isIn wa xg hxm hxp hin, fun h => absurd (Int32.le_refl _) h⟩
  | k + 1, h, n, tu, ba, re, gs, gh, le, e, pa, ma, ca, mo, la, mv, id, xm, xp, isIn, wa, xg, eh, hn, he, hxm, hxp, hin, hQ => by
    have i1 : vp_in (nI (4 * s + h)) 40 := pu_inI (by omega) (by omega)
    rw [wp_Model_call_h144, nI_clamp (by omega), hH, pu_c1, hag1]
    refine ⟨pu_inI hs (by omega), fun q => ?_, fun _ => ⟨fun q => ?_, fun q => ?_⟩⟩
    · have := (pu_nle (by omega) (by omega)).mp q; omega
    · have h1 : cr ≤ n := (pu_nle (by omega) (by omega)).mp q
      exact hQ _ _ _ _ _ _ _ _ _ _ _ _ la _ _ (by rw [sv, if_pos h1]) xm xp isIn wa xg hxm hxp hin
    · have h1 : ¬ cr ≤ n := fun q2 => q ((pu_nle (by omega) (by omega)).mpr q2)
      rw [pu_4mul]
      refine ⟨i1, ?_⟩
      rw [nI_clamp (by omega), ← nI_succ]
      refine ⟨fun hz => ?_, fun hz => ⟨i1, ?_⟩⟩
      · refine pm_serve_h144 hM hf hag hcr hag1 hs hH h4 hk hG hah k (h + 1) n tu ba re gs gh le e pa ma ca mo la mv id xm xp isIn wa xg (by omega) hn he hxm hxp hin (fun n' tu' ba' re' gs' gh' le' e' pa' ma' ca' mo' la' mv' id' hsv => hQ n' tu' ba' re' gs' gh' le' e' pa' ma' ca' mo' la' mv' id' ?_)
        rw [sv, if_neg h1, hst_0 hz]
        exact hsv
      · refine pm_gathers (gs := gs) (key := key) (G := G) hM hf hag hG hah hin (fun b ba' re' g' hb wa' xg' hog => ?_)
        cases b
        · refine ⟨fun _ => ?_, fun q2 => absurd rfl q2⟩
          refine pm_serve_h144 hM hf hag hcr hag1 hs hH h4 hk hG hah k (h + 1) n tu ba' re' gs gh le e pa ma ca mo la mv (id + 1) xm xp isIn wa' xg' (by omega) hn he hxm hxp hin (fun n' tu' ba' re' gs' gh' le' e' pa' ma' ca' mo' la' mv' id' hsv => hQ n' tu' ba' re' gs' gh' le' e' pa' ma' ca' mo' la' mv' id' ?_)
          rw [sv, if_neg h1, hst_f hz hb]
          exact hsv
        · have hc1 := mu_gang (fun i hi => (hG.2.1 i hi).2.1) M 0 0 ba re (fun _ => 0) true ba' re' g' (by omega) (by omega) (fun j hj => absurd hj (Nat.not_lt_zero j)) hb rfl
          have hc : ∀ j, j < full → xg' j = g' j ∧ ∃ c, c < 24 ∧ g' j = nI c := fun j hj => ⟨hog rfl j hj, by
            obtain ⟨c, hc, ec⟩ := hc1 j hj
            exact ⟨c, by omega, ec⟩⟩
          refine ⟨fun q2 => absurd q2 (by decide), fun _ => ?_⟩
          unfold wp_Model_works
          rw [pu_4mul]
          refine ⟨5, pm_work_h16 (by omega) hk 4 0 le mv 0 0 xm (by omega) hxm (fun t' mv' wo' ra' hw xm' hxm' => ?_)⟩
          have hsh : ¬ nI s = -1 := by
            intro q2
            have : nI s < 0 := by rw [q2]; decide
            exact nI_pos (by omega) this
          refine ⟨full + 1, pm_pay_h176 (M := M) hsh hf hag hc full 0 tu gs gh e pa ma ca mo la xp isIn (by omega) he hxp hin (fun tu' gs' gh' e' pa' ma' ca' mo' la' hp xp' isIn' hxp' hin' => ?_)⟩
          have he' := py_e _ _ _ _ _ _ _ _ _ _ _ _ _ _ _ _ _ _ _ _ he hp
          rw [← nI_succ]
          refine pm_serve_h144 hM hf hag hcr hag1 hs hH h4 hk hG hah k (h + 1) (n + 1) tu' ba' re' gs' gh' _ e' pa' ma' ca' mo' la' mv' id xm' xp' isIn' wa' xg' (by omega) (by omega) he' hxm' hxp' hin' (fun n2 tu2 ba2 re2 gs2 gh2 le2 e2 pa2 ma2 ca2 mo2 la2 mv2 id2 hsv => hQ n2 tu2 ba2 re2 gs2 gh2 le2 e2 pa2 ma2 ca2 mo2 la2 mv2 id2 ?_)
          rw [sv, if_neg h1, hst_t hz hb hw hp]
          exact hsv
theorem pm_hold_h128 {ag skills skill dry hatches came start ahead key line le0 sline waited : Nat → Int32} {number rain unw gia th : Int32} {M S L full cr : Nat} {G GS : Nat → Nat} (hM : M ≤ 24) (hS : S ≤ 10) (hf : full ≤ 8) (hag : ag 0 = nI full) (hcr : cr ≤ 12) (hag1 : ag 1 = nI cr) (hH : ∀ k, ∃ h, h ≤ 4 ∧ hatches k = nI h) (hk : ∀ k, ∃ q, q ≤ 3 ∧ skill k = nI q) (hG : SL key (fun _ => True) line M M G) (hah : ∀ m, m < M → ahead m = key m)
    (hst : ∀ s, s < S → start s = tns hatches le0 s) (hL0 : ∀ k, ∃ t, t ≤ 2000 ∧ le0 k = nI t) (hGS : SL (rk (ag (6 : Int32).toNatClampNeg) came hatches le0) (fun s => ¬ tns hatches le0 s = 0) sline L S GS)
    {Q : Int32 → Int32 → Int32 → Int32 → Int32 → Int32 → Int64 → Int64 → (Nat → Int32) → (Nat → Int32) → (Nat → Int32) → (Nat → Int32) → (Nat → Int32) → (Nat → Int32) → (Nat → Int32) → (Nat → Int32) → (Nat → Int32) → (Nat → Int32) → (Nat → Int32) → (Nat → Int32) → (Nat → Int32) → (Nat → Int32) → (Nat → Int32) → (Nat → Int32) → Prop} :
    ∀ k i n v4 tu ba re gs gh le e pa ma ca mo la mv id (xm xp : Int64) ht isIn wa xg, i + k = L → (i < L → v4 = nI (GS i)) → (i = L → v4 = -1) → (∀ p, p < i → ¬ ht (GS p) = 0) → (∀ p, i ≤ p → p < L → ht (GS p) = 0) → n ≤ cr → e ≤ 800 → xm.toInt32 = mv → xp.toInt32 = pa → (∀ m, m < M → (isIn m = 0 ↔ gs m = -1)) →
      (∀ n' tu' ba' re' gs' gh' le' e' pa' ma' ca' mo' la' mv' id', hd ag skills skill dry hatches number rain unw M full cr G GS k i n (tu, ba, re, gs, gh, le, e, pa, ma, ca, mo, la, mv, id) = (n', (tu', ba', re', gs', gh', le', e', pa', ma', ca', mo', la', mv', id')) →
        ∀ (xm' xp' : Int64) ht' isIn' wa' xg', xm'.toInt32 = mv' → xp'.toInt32 = pa' → ∃ f, wp_Model_call_h257 (nI n') th (nI S) (nI e') number (gia + nI n') id' xm' xp' tu' ba' re' gs' gh' hatches le' ma' ca' mo' ht' start isIn' wa' xg' ahead Q f 0 waited) →
      wp_Model_call_h128 rain unw th (nI M) (nI S) number gia skills came hatches waited skill dry ag start ahead Q (k + 1) (nI n) v4 (nI e) id xm xp tu ba re gs gh le ma ca mo ht isIn wa xg
  | 0, i, n, v4, tu, ba, re, gs, gh, le, e, pa, ma, ca, mo, la, mv, id, xm, xp, ht, isIn, wa, xg, ei, hv, hv2, ht1, ht2, hn, he, hxm, hxp, hin, hQ => by
    have hv4 := hv2 (by omega)
    subst hv4
    rw [wp_Model_call_h128]
    exact ⟨fun _ => hQ _ _ _ _ _ _ _ _ _ _ _ _ la _ _ rfl xm xp ht isIn wa xg hxm hxp, fun h => absurd (show (-1 : Int32) < 0 by decide) h⟩
  | k + 1, i, n, v4, tu, ba, re, gs, gh, le, e, pa, ma, ca, mo, la, mv, id, xm, xp, ht, isIn, wa, xg, ei, hv, hv2, ht1, ht2, hn, he, hxm, hxp, hin, hQ => by
    have hv4 := hv (by omega)
    subst hv4
    have hGi := (hGS.2.1 i (by omega)).2.1
    obtain ⟨H, h4, hHs⟩ := hH (GS i)
    rw [wp_Model_call_h128]
    refine ⟨fun q => absurd q (nI_pos (by omega)), fun _ => ⟨pu_inI (by omega) (by omega), H + 1, ?_⟩⟩
    rw [nI_clamp (by omega)]
    refine pm_serve_h144 hM hf hag hcr hag1 (show GS i < 10 by omega) hHs h4 hk hG hah H 0 n tu ba re gs gh le e pa ma ca mo la mv id xm xp isIn wa xg (by omega) hn he hxm hxp hin (fun n' tu' ba' re' gs' gh' le' e' pa' ma' ca' mo' la' mv' id' hsv xm' xp' isIn' wa' xg' hxm' hxp' hin' => ?_)
    have hb := sv_n (cr := cr) (ag := ag) (skills := skills) (skill := skill) (dry := dry) (number := number) (rain := rain) (unw := unw) (M := M) (full := full) (G := G) (s := GS i) H 0 n (tu, ba, re, gs, gh, le, e, pa, ma, ca, mo, la, mv, id) hn he
    rw [hsv] at hb
    have ht1' : ∀ p, p < i + 1 → ¬ upd ht (GS i) (vp_nar .boolean 1) (GS p) = 0 := by
      intro p hp
      by_cases ep : p = i
      · subst ep; rw [pu_upd_same]; decide
      · rw [pu_upd_ne (bf_ne (hGS.2.2.1 p i (by omega) (by omega)))]; exact ht1 p (by omega)
    have ht2' : ∀ p, i + 1 ≤ p → p < L → upd ht (GS i) (vp_nar .boolean 1) (GS p) = 0 := by
      intro p hp hp2
      rw [pu_upd_ne (fun q => bf_ne (hGS.2.2.1 i p (by omega) hp2) q.symm)]; exact ht2 p (by omega) hp2
    have hnext := fun v4' hv' hv2' => pm_hold_h128 (Q := Q) (waited := waited) (th := th) (gia := gia) (number := number) (rain := rain) (unw := unw) (skills := skills) (dry := dry) hM hS hf hag hcr hag1 hH hk hG hah hst hL0 hGS k (i + 1) n' v4' tu' ba' re' gs' gh' le' e' pa' ma' ca' mo' la' mv' id' xm' xp' (upd ht (GS i) (vp_nar .boolean 1)) isIn' wa' xg' (by omega) hv' hv2' ht1' ht2' hb.2.1 hb.2.2 hxm' hxp' hin' (fun n2 tu2 ba2 re2 gs2 gh2 le2 e2 pa2 ma2 ca2 mo2 la2 mv2 id2 hd2 => hQ n2 tu2 ba2 re2 gs2 gh2 le2 e2 pa2 ma2 ca2 mo2 la2 mv2 id2 (by rw [hd, hHs, nI_clamp (by omega), hsv]; exact hd2))
    refine pm_nextShip hS hst hH hL0 hGS (i := i + 1) (by omega) ht1' ht2' (fun q => hnext _ (fun _ => rfl) (fun z => by omega)) (fun q => hnext _ (fun z => by omega) (fun _ => rfl))
theorem pm_wait_h257 {hatches le start waited tu ba re gs gh ec em eo ht isIn wa xg ahead : Nat → Int32} {v3 th en number gia id : Int32} {xm xp : Int64} {S : Nat} (hS : S ≤ 10) (hH : ∀ k, ∃ h, h ≤ 4 ∧ hatches k = nI h) (hL : ∀ k, ∃ t, t ≤ 2000 ∧ le k = nI t)
    {Q : Int32 → Int32 → Int32 → Int32 → Int32 → Int32 → Int64 → Int64 → (Nat → Int32) → (Nat → Int32) → (Nat → Int32) → (Nat → Int32) → (Nat → Int32) → (Nat → Int32) → (Nat → Int32) → (Nat → Int32) → (Nat → Int32) → (Nat → Int32) → (Nat → Int32) → (Nat → Int32) → (Nat → Int32) → (Nat → Int32) → (Nat → Int32) → (Nat → Int32) → Prop}
    (hQ : Q v3 th en (number + 1) gia id xm xp tu ba re gs gh (wt hatches le waited S) le ec em eo ht start isIn wa xg ahead) : ∀ k c, c + k = S → wp_Model_call_h257 v3 th (nI S) en number gia id xm xp tu ba re gs gh hatches le ec em eo ht start isIn wa xg ahead Q (k + 1) (nI c) (wt hatches le waited c)
  | 0, c, e => by
    have e : c = S := by omega
    subst e
    rw [wp_Model_call_h257]
    exact ⟨fun _ => hQ, fun h => absurd (Int32.le_refl _) h⟩
  | k + 1, c, e => by
    have ih := pm_wait_h257 hS hH hL hQ k (c + 1) (by omega)
    obtain ⟨a, ha, ea⟩ := tns_nat hH hL c
    have hz0 : tns hatches le c ≤ 0 ↔ tns hatches le c = 0 := by
      rw [ea, pu_z (by omega)]
    have i1 : vp_in (nI c) 10 := pu_inI (by omega) (by omega)
    rw [wp_Model_call_h257]
    refine ⟨fun h0 => ?_, fun _ => ⟨i1, pm_tonsOf (by omega) hH ⟨fun hz => ⟨i1, ?_⟩, fun hz => ⟨i1, ?_⟩⟩⟩⟩
    · have := (pu_nle (by omega) (by omega)).mp h0; omega
    · rw [wt_succ, if_pos (hz0.mp hz)] at ih
      rw [Int32.add_zero, pu_upd_id, ← nI_succ]
      exact ih
    · rw [wt_succ, if_neg (fun q => hz (hz0.mpr q))] at ih
      rw [← nI_succ, nI_clamp (by omega)]
      exact ih
