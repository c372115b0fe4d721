/-! Insertion by a key: the line that the class keeps. -/
/-- a stands ahead of b -/
def bf (key : Nat → Int32) (a b : Nat) : Prop := key a < key b ∨ (key a = key b ∧ a < b)
theorem bf_asymm {key : Nat → Int32} {a b : Nat} (h : bf key a b) (h2 : bf key b a) : False := by
  unfold bf at h h2
  rw [pu_lt, pu_eq] at h h2
  omega
theorem bf_ne {key : Nat → Int32} {a b : Nat} (h : bf key a b) : a ≠ b := by
  intro e; subst e; exact bf_asymm h h
/-- the first n places of a line hold those below c that count, in their order -/
def SL (key : Nat → Int32) (P : Nat → Prop) (line : Nat → Int32) (n c : Nat) (G : Nat → Nat) : Prop :=
  n ≤ c ∧ (∀ i, i < n → line i = nI (G i) ∧ G i < c ∧ P (G i)) ∧ (∀ i j, i < j → j < n → bf key (G i) (G j)) ∧ (∀ m, m < c → P m → ∃ i, i < n ∧ G i = m)
theorem SL.nil (key : Nat → Int32) (P : Nat → Prop) (line : Nat → Int32) : SL key P line 0 0 (fun _ => 0) :=
  ⟨Nat.le_refl _, fun i h => absurd h (Nat.not_lt_zero i), fun i j _ h => absurd h (Nat.not_lt_zero j), fun m h => absurd h (Nat.not_lt_zero m)⟩
theorem SL.skip {key : Nat → Int32} {P : Nat → Prop} {line : Nat → Int32} {n c : Nat} {G : Nat → Nat} (h : SL key P line n c G) (hp : ¬ P c) : SL key P line n (c + 1) G := by
  refine ⟨Nat.le_succ_of_le h.1, fun i hi => ⟨(h.2.1 i hi).1, by have := (h.2.1 i hi).2.1; omega, (h.2.1 i hi).2.2⟩, h.2.2.1, fun m hm hm2 => ?_⟩
  rcases Nat.lt_or_ge m c with h1 | h1
  · exact h.2.2.2 m h1 hm2
  · have : m = c := by omega
    subst this; exact absurd hm2 hp
/-- the order behind an insertion at place a -/
def gIns (G : Nat → Nat) (a c : Nat) : Nat → Nat := fun i => if i < a then G i else if i = a then c else G (i - 1)
theorem SL.ins {key : Nat → Int32} {P : Nat → Prop} {line line' : Nat → Int32} {n c a : Nat} {G : Nat → Nat} (h : SL key P line n c G) (hp : P c) (ha : a ≤ n) (h1 : ∀ i, i < a → line' i = line i) (h2 : line' a = nI c) (h3 : ∀ i, a < i → i ≤ n → line' i = line (i - 1))
    (hlo : a = 0 ∨ key (G (a - 1)) ≤ key c) (hhi : ∀ i, a ≤ i → i < n → ¬ key (G i) ≤ key c) : SL key P line' (n + 1) (c + 1) (gIns G a c) := by
  obtain ⟨hn, hG, hs, ho⟩ := h
  have g1 : ∀ i, i < a → gIns G a c i = G i := fun i hi => by simp [gIns, hi]
  have g2 : gIns G a c a = c := by simp [gIns]
  have g3 : ∀ i, a < i → gIns G a c i = G (i - 1) := fun i hi => by
    have e1 : ¬ i < a := by omega
    have e2 : ¬ i = a := by omega
    simp [gIns, e1, e2]
  have hlow : ∀ i, i < a → bf key (G i) c := by
    intro i hi
    have hc := (hG i (by omega)).2.1
    rcases hlo with e | e
    · omega
    · rcases Nat.lt_or_ge i (a - 1) with h4 | h4
      · have := hs i (a - 1) h4 (by omega)
        unfold bf at this ⊢
        rw [pu_le] at e
        rw [pu_lt, pu_eq] at this ⊢
        omega
      · have e2 : i = a - 1 := by omega
        subst e2
        unfold bf
        rw [pu_le] at e
        rw [pu_lt, pu_eq]
        omega
  have hhigh : ∀ i, a ≤ i → i < n → bf key c (G i) := by
    intro i hi hi2
    have := hhi i hi hi2
    unfold bf
    rw [pu_le] at this
    rw [pu_lt]
    omega
  refine ⟨by omega, fun i hi => ?_, fun i j hij hj => ?_, fun m hm hm2 => ?_⟩
  · rcases Nat.lt_trichotomy i a with e | e | e
    · rw [h1 i e, g1 i e]
      have := hG i (by omega)
      exact ⟨this.1, by omega, this.2.2⟩
    · subst e
      rw [h2, g2]
      exact ⟨rfl, by omega, hp⟩
    · rw [h3 i e (by omega), g3 i e]
      have := hG (i - 1) (by omega)
      exact ⟨this.1, by omega, this.2.2⟩
  · rcases Nat.lt_trichotomy j a with e | e | e
    · rw [g1 j e, g1 i (by omega)]; exact hs i j hij (by omega)
    · subst e
      rw [g2, g1 i hij]; exact hlow i hij
    · rw [g3 j e]
      rcases Nat.lt_trichotomy i a with e2 | e2 | e2
      · rw [g1 i e2]; exact hs i (j - 1) (by omega) (by omega)
      · subst e2
        rw [g2]; exact hhigh (j - 1) (by omega) (by omega)
      · rw [g3 i e2]; exact hs (i - 1) (j - 1) (by omega) (by omega)
  · rcases Nat.lt_or_ge m c with h4 | h4
    · obtain ⟨i, hi, e⟩ := ho m h4 hm2
      rcases Nat.lt_or_ge i a with h5 | h5
      · exact ⟨i, by omega, by rw [g1 i h5, e]⟩
      · exact ⟨i + 1, by omega, by rw [g3 (i + 1) (by omega)]; exact e⟩
    · have : m = c := by omega
      subst this
      exact ⟨a, by omega, g2⟩
theorem pu_dec (a : Nat) : nI (a + 1) + (-1) = nI a := by
  have := nI_pred a
  rw [Int32.sub_eq_add_neg] at this
  exact this
theorem pc_menLineUp_h12 {turns line0 : Nat → Int32} {c : Nat} {G : Nat → Nat} (hc : c < 24) (h0 : SL turns (fun _ => True) line0 c c G) {K : Int32 → (Nat → Int32) → Prop} {Q : (Nat → Int32) → Prop} (hK : ∀ line' G', SL turns (fun _ => True) line' (c + 1) (c + 1) G' → K (nI (c + 1)) line') :
    ∀ a line, a ≤ c → (∀ i, i < a → line i = line0 i) → (∀ i, a < i → i ≤ c → line i = line0 (i - 1)) → (∀ i, a ≤ i → i < c → ¬ turns (G i) ≤ turns c) → wp_Men_lineUp_h12 (nI c) turns K Q (a + 1) (nI a) line
  | 0, line, _, h1, h2, h3 => by
    rw [wp_Men_lineUp_h12]
    refine ⟨fun _ => ⟨pu_inI (by omega) (by omega), ?_⟩, fun h => absurd (show nI 0 ≤ 0 by decide) h⟩
    rw [← nI_succ]
    refine hK _ _ (h0.ins (a := 0) trivial (by omega) (fun i hi => absurd hi (Nat.not_lt_zero i)) (pu_upd_same _ _ _) (fun i hi hi2 => ?_) (Or.inl rfl) h3)
    rw [nI_clamp (by omega), pu_upd_ne (by omega), h2 i hi hi2]
  | a + 1, line, ha, h1, h2, h3 => by
    have hG := h0.2.1 a (by omega)
    have e1 : nI (a + 1) - 1 = nI a := nI_pred a
    have e2 : line a = nI (G a) := by rw [h1 a (by omega), hG.1]
    have i1 : vp_in (nI a) 24 := pu_inI (by omega) (by omega)
    have i2 : vp_in (nI (G a)) 24 := pu_inI (by omega) (by omega)
    have i3 : vp_in (nI c) 24 := pu_inI (by omega) (by omega)
    have i4 : vp_in (nI (a + 1)) 24 := pu_inI (by omega) (by omega)
    rw [wp_Men_lineUp_h12]
    simp only [e1, nI_clamp (show a < 2 ^ 31 by omega), e2, i1, i2, i3, i4, nI_clamp (show c < 2 ^ 31 by omega), nI_clamp (show G a < 2 ^ 31 by omega), nI_clamp (show a + 1 < 2 ^ 31 by omega), true_and, pu_dec]
    refine ⟨fun h => absurd h (nI_nle (by omega) (by omega)), fun _ => ⟨fun h => ?_, fun h => ?_⟩⟩
    · rw [← nI_succ]
      refine hK _ _ (h0.ins (a := a + 1) trivial (by omega) (fun i hi => ?_) (pu_upd_same _ _ _) (fun i hi hi2 => ?_) (Or.inr h) h3)
      · rw [pu_upd_ne (by omega), h1 i hi]
      · rw [pu_upd_ne (by omega), h2 i hi hi2]
    · refine pc_menLineUp_h12 hc h0 hK a _ (by omega) (fun i hi => ?_) (fun i hi hi2 => ?_) (fun i hi hi2 => ?_)
      · rw [pu_upd_ne (by omega), h1 i (by omega)]
      · rcases Nat.eq_or_lt_of_le (show a + 1 ≤ i from hi) with e | e
        · subst e
          rw [pu_upd_same]
          exact hG.1.symm
        · rw [pu_upd_ne (by omega), h2 i e hi2]
      · rcases Nat.eq_or_lt_of_le hi with e | e
        · subst e; exact h
        · exact h3 i e hi2
theorem pc_menLineUp_h2 {turns : Nat → Int32} {M : Nat} (hM : M ≤ 24) {Q : (Nat → Int32) → Prop} (hQ : ∀ line' G, SL turns (fun _ => True) line' M M G → Q line') : ∀ k c line G, c + k = M → SL turns (fun _ => True) line c c G → wp_Men_lineUp_h2 (nI M) turns Q (k + 1) (nI c) line
  | 0, c, line, G, e, h => by
    have e : c = M := by omega
    subst e
    rw [wp_Men_lineUp_h2]
    exact ⟨fun _ => hQ _ _ h, fun h => absurd ((pu_nle (by omega) (by omega)).mpr (Nat.le_refl _)) h⟩
  | k + 1, c, line, G, e, h => by
    rw [wp_Men_lineUp_h2]
    refine ⟨fun h0 => ?_, fun _ => ⟨c + 1, ?_⟩⟩
    · have := (pu_nle (by omega) (by omega)).mp h0; omega
    · exact pc_menLineUp_h12 (by omega) h (fun line' G' h' => pc_menLineUp_h2 hM hQ k (c + 1) line' G' (by omega) h') c line (Nat.le_refl _) (fun _ _ => rfl) (fun i hi hi2 => by omega) (fun i hi hi2 => by omega)
theorem pc_menLineUp {turns line : Nat → Int32} {M : Nat} (hM : M ≤ 24) {Q : (Nat → Int32) → Prop} (hQ : ∀ line' G, SL turns (fun _ => True) line' M M G → Q line') : wp_Men_lineUp (nI M) turns line Q :=
  ⟨M + 1, pc_menLineUp_h2 hM hQ M 0 line _ (by omega) (SL.nil _ _ _)⟩
/-- the rank of a ship -/
def rk (first : Int32) (came hatches left : Nat → Int32) (s : Nat) : Int32 := if first = 0 then came s else if first = 1 then -(tns hatches left s) else nI s
theorem pc_shipsLineUp_h47 {key rank line0 : Nat → Int32} {P : Nat → Prop} {n c : Nat} {G : Nat → Nat} (hc : c < 10) (h0 : SL key P line0 n c G) (hp : P c) (hr : ∀ m, m ≤ c → P m → rank m = key m) {K : Int32 → Int32 → (Nat → Int32) → (Nat → Int32) → Prop} {Q : Int32 → (Nat → Int32) → (Nat → Int32) → Prop} (hK : ∀ line' G', SL key P line' (n + 1) (c + 1) G' → K (nI (c + 1)) (nI (n + 1)) line' rank) :
    ∀ a line, a ≤ n → (∀ i, i < a → line i = line0 i) → (∀ i, a < i → i ≤ n → line i = line0 (i - 1)) → (∀ i, a ≤ i → i < n → ¬ key (G i) ≤ key c) → wp_Ships_lineUp_h47 (nI c) (nI n) rank K Q (a + 1) (nI a) line
  | 0, line, _, h1, h2, h3 => by
    rw [wp_Ships_lineUp_h47]
    refine ⟨fun _ => ⟨pu_inI (by omega) (by omega), ?_⟩, fun h => absurd (show nI 0 ≤ 0 by decide) h⟩
    rw [← nI_succ, ← nI_succ]
    refine hK _ _ (h0.ins (a := 0) hp (by omega) (fun i hi => absurd hi (Nat.not_lt_zero i)) (pu_upd_same _ _ _) (fun i hi hi2 => ?_) (Or.inl rfl) h3)
    rw [nI_clamp (by omega), pu_upd_ne (by omega), h2 i hi hi2]
  | a + 1, line, ha, h1, h2, h3 => by
    have hn := h0.1
    have hG := h0.2.1 a (by omega)
    have e1 : nI (a + 1) - 1 = nI a := nI_pred a
    have e2 : line a = nI (G a) := by rw [h1 a (by omega), hG.1]
    have i1 : vp_in (nI a) 10 := pu_inI (by omega) (by omega)
    have i2 : vp_in (nI (G a)) 10 := pu_inI (by omega) (by omega)
    have i3 : vp_in (nI c) 10 := pu_inI (by omega) (by omega)
    have i4 : vp_in (nI (a + 1)) 10 := pu_inI (by omega) (by omega)
    rw [wp_Ships_lineUp_h47]
    simp only [e1, nI_clamp (show a < 2 ^ 31 by omega), e2, i1, i2, i3, i4, nI_clamp (show c < 2 ^ 31 by omega), nI_clamp (show G a < 2 ^ 31 by omega), nI_clamp (show a + 1 < 2 ^ 31 by omega), true_and, pu_dec, hr c (Nat.le_refl _) hp, hr (G a) (by omega) hG.2.2]
    refine ⟨fun h => absurd h (nI_nle (by omega) (by omega)), fun _ => ⟨fun h => ?_, fun h => ?_⟩⟩
    · rw [← nI_succ, ← nI_succ]
      refine hK _ _ (h0.ins (a := a + 1) hp (by omega) (fun i hi => ?_) (pu_upd_same _ _ _) (fun i hi hi2 => ?_) (Or.inr h) h3)
      · rw [pu_upd_ne (by omega), h1 i hi]
      · rw [pu_upd_ne (by omega), h2 i hi hi2]
    · refine pc_shipsLineUp_h47 hc h0 hp hr hK a _ (by omega) (fun i hi => ?_) (fun i hi hi2 => ?_) (fun i hi hi2 => ?_)
      · rw [pu_upd_ne (by omega), h1 i (by omega)]
      · rcases Nat.eq_or_lt_of_le (show a + 1 ≤ i from hi) with e | e
        · subst e
          rw [pu_upd_same]
          exact hG.1.symm
        · rw [pu_upd_ne (by omega), h2 i e hi2]
      · rcases Nat.eq_or_lt_of_le hi with e | e
        · subst e; exact h
        · exact h3 i e hi2
theorem pc_rankOf {first : Int32} {came hatches left : Nat → Int32} {s : Nat} (hs : s < 10) {Q : Int32 → Prop} (hQ : Q (rk first came hatches left s)) : wp_Ships_rankOf came (nI s) first (tns hatches left s) Q := by
  unfold wp_Ships_rankOf
  rw [nI_clamp (by omega)]
  refine ⟨fun h => ⟨pu_inI hs (by omega), ?_⟩, fun h => ⟨fun h2 => ?_, fun h2 => ?_⟩⟩
  · rw [rk, if_pos h] at hQ; exact hQ
  · rw [rk, if_neg h, if_pos h2] at hQ; exact hQ
  · rw [rk, if_neg h, if_neg h2] at hQ; exact hQ
theorem pc_shipsLineUp_h7 {first : Int32} {came hatches left : Nat → Int32} {S : Nat} (hS : S ≤ 10) (hH : ∀ k, ∃ h, h ≤ 4 ∧ hatches k = nI h) {Q : Int32 → (Nat → Int32) → (Nat → Int32) → Prop} (hQ : ∀ n line' rank' G, SL (rk first came hatches left) (fun s => ¬ tns hatches left s = 0) line' n S G → Q (nI n) line' rank') :
    ∀ k c n line rank G, c + k = S → SL (rk first came hatches left) (fun s => ¬ tns hatches left s = 0) line n c G → (∀ m, m < c → ¬ tns hatches left m = 0 → rank m = rk first came hatches left m) → wp_Ships_lineUp_h7 first (nI S) came hatches left Q (k + 1) (nI c) (nI n) line rank
  | 0, c, n, line, rank, G, e, h, hr => by
    have e : c = S := by omega
    subst e
    rw [wp_Ships_lineUp_h7]
    exact ⟨fun _ => hQ _ _ _ _ h, fun h => absurd ((pu_nle (by omega) (by omega)).mpr (Nat.le_refl _)) h⟩
  | k + 1, c, n, line, rank, G, e, h, hr => by
    have hn := h.1
    rw [wp_Ships_lineUp_h7]
    refine ⟨fun h0 => ?_, fun _ => pc_tonsOf (by omega) hH ⟨fun hz => ?_, fun hz => pc_rankOf (by omega) ?_⟩⟩
    · have := (pu_nle (by omega) (by omega)).mp h0; omega
    · rw [← nI_succ]
      refine pc_shipsLineUp_h7 hS hH hQ k (c + 1) n line rank G (by omega) (h.skip (fun q => q hz)) (fun m hm hm2 => ?_)
      rcases Nat.lt_or_ge m c with h1 | h1
      · exact hr m h1 hm2
      · have : m = c := by omega
        subst this; exact absurd hz hm2
    · refine ⟨pu_inI (by omega) (by omega), n + 1, ?_⟩
      rw [nI_clamp (by omega)]
      have hr' : ∀ m, m ≤ c → ¬ tns hatches left m = 0 → upd rank c (rk first came hatches left c) m = rk first came hatches left m := by
        intro m hm hm2
        by_cases e1 : m = c
        · subst e1; rw [pu_upd_same]
        · rw [pu_upd_ne e1]; exact hr m (by omega) hm2
      refine pc_shipsLineUp_h47 (by omega) h hz hr' (fun line' G' h' => ?_) n line (Nat.le_refl _) (fun _ _ => rfl) (fun i hi hi2 => by omega) (fun i hi hi2 => by omega)
      exact pc_shipsLineUp_h7 hS hH hQ k (c + 1) (n + 1) line' _ G' (by omega) h' (fun m hm hm2 => hr' m (by omega) hm2)
theorem pc_shipsLineUp {first : Int32} {came hatches left line rank : Nat → Int32} {S : Nat} (hS : S ≤ 10) (hH : ∀ k, ∃ h, h ≤ 4 ∧ hatches k = nI h) {Q : Int32 → (Nat → Int32) → (Nat → Int32) → Prop} (hQ : ∀ n line' rank' G, SL (rk first came hatches left) (fun s => ¬ tns hatches left s = 0) line' n S G → Q (nI n) line' rank') : wp_Ships_lineUp (nI S) came hatches left line rank first Q :=
  ⟨S + 1, pc_shipsLineUp_h7 hS hH hQ S 0 0 line rank _ (by omega) (SL.nil _ _ _) (fun m hm => absurd hm (Nat.not_lt_zero m))⟩
