/-! The agreement: class and model. -/
/-- what may be told -/
def okPV (p : Nat) (v : Int32) : Prop := p < 11 ∧ (p = 0 → ∃ g, 1 ≤ g ∧ g ≤ 8 ∧ v = nI g) ∧ (p = 1 → ∃ c, c ≤ 12 ∧ v = nI c) ∧ (7 ≤ p → ∃ r, r ≤ 500 ∧ v = nI r)
theorem pv_nat {v lo : Int32} {h : Nat} (hh : h < 2 ^ 31) (h0 : ¬ lo < 0) (h1 : ¬ v < lo) (h2 : v ≤ nI h) : ∃ k, k ≤ h ∧ v = nI k := by
  refine pu_le_ex hh ?_ h2
  rw [pu_lt] at h0 h1 ⊢
  have : (0 : Int32).toInt = 0 := rfl
  omega
section
variable {b : Nat → Int32} {T : Nat}
theorem RS_inr {a p : Nat} (ha : a ≤ T) {lo hi : Int32} {at' p' : Nat} {v : Int32} (h : RS b T a p lo hi = .inr (at', p', v)) : a ≤ at' ∧ at' ≤ T ∧ p' = p ∧ ¬ v < lo ∧ v ≤ hi := by
  unfold RS at h
  split at h
  · cases h
  · rename_i at2 v2 hrn
    simp only [Sum.inr.injEq, Prod.mk.injEq] at h
    obtain ⟨rfl, rfl, rfl⟩ := h
    have := RN_inr ha hrn
    exact ⟨this.1, this.2.1, rfl, this.2.2⟩
theorem RO_inr {a : Nat} (ha : a ≤ T) {at' p' : Nat} {v : Int32} (h : RO b T a = .inr (at', p', v)) : a ≤ at' ∧ at' ≤ T ∧ p' = 6 ∧ (v = 0 ∨ v = 1 ∨ v = 2) := by
  have hs := scan_le (bBl b) ha
  have he := scan_le (bLe b) hs.2
  unfold RO at h
  repeat' split at h
  all_goals first | (cases h; done) | skip
  all_goals
    simp only [Sum.inr.injEq, Prod.mk.injEq] at h
    obtain ⟨rfl, rfl, rfl⟩ := h
    refine ⟨by omega, he.2, rfl, by simp⟩
theorem RA_inr {k e : Nat} (hk : k < 8) (he : e ≤ T) {at' p : Nat} {v : Int32} (h : RA b T k e = .inr (at', p, v)) : e ≤ at' ∧ at' ≤ T ∧ okPV p v := by
  have hr : k = 0 ∨ k = 1 ∨ k = 2 ∨ k = 3 ∨ k = 4 ∨ k = 5 ∨ k = 6 ∨ k = 7 := by omega
  rcases hr with rfl | rfl | rfl | rfl | rfl | rfl | rfl | rfl
  · have h : RS b T e 0 1 8 = .inr (at', p, v) := h
    obtain ⟨h1, h2, rfl, h3, h4⟩ := RS_inr he h
    obtain ⟨g, hg, rfl⟩ := pv_nat (h := 8) (by omega) (by decide) h3 h4
    refine ⟨h1, h2, by omega, fun _ => ⟨g, ?_, hg, rfl⟩, fun z => by omega, fun z => by omega⟩
    rcases Nat.eq_zero_or_pos g with z | z
    · subst z; exact absurd (show nI 0 < 1 by decide) h3
    · exact z
  · have h : RS b T e 1 1 12 = .inr (at', p, v) := h
    obtain ⟨h1, h2, rfl, h3, h4⟩ := RS_inr he h
    exact ⟨h1, h2, by omega, fun z => by omega, fun _ => pv_nat (h := 12) (by omega) (by decide) h3 h4, fun z => by omega⟩
  · have h : RS b T e 2 0 20 = .inr (at', p, v) := h
    obtain ⟨h1, h2, rfl, h3, h4⟩ := RS_inr he h
    exact ⟨h1, h2, by omega, fun z => by omega, fun z => by omega, fun z => by omega⟩
  · have h : RS b T e 3 0 1000 = .inr (at', p, v) := h
    obtain ⟨h1, h2, rfl, h3, h4⟩ := RS_inr he h
    exact ⟨h1, h2, by omega, fun z => by omega, fun z => by omega, fun z => by omega⟩
  · have h : RS b T e 4 0 100 = .inr (at', p, v) := h
    obtain ⟨h1, h2, rfl, h3, h4⟩ := RS_inr he h
    exact ⟨h1, h2, by omega, fun z => by omega, fun z => by omega, fun z => by omega⟩
  · have h : RS b T e 5 0 4 = .inr (at', p, v) := h
    obtain ⟨h1, h2, rfl, h3, h4⟩ := RS_inr he h
    exact ⟨h1, h2, by omega, fun z => by omega, fun z => by omega, fun z => by omega⟩
  · have h : RO b T e = .inr (at', p, v) := h
    obtain ⟨h1, h2, rfl, h3⟩ := RO_inr he h
    exact ⟨h1, h2, by omega, fun z => by omega, fun z => by omega, fun z => by omega⟩
  · have h : (match RN b T e 0 3 with | .inl f => Sum.inl f | .inr (at', v) => RS b T at' (7 + v).toNatClampNeg 1 500) = Sum.inr (at', p, v) := h
    split at h
    · cases h
    · rename_i at2 v2 hrn
      have hn := RN_inr he hrn
      obtain ⟨h1, h2, rfl, h3, h4⟩ := RS_inr hn.2.1 h
      obtain ⟨q, hq, rfl⟩ := pv_nat (h := 3) (by omega) (by decide) hn.2.2.1 hn.2.2.2
      rw [pu_7, nI_clamp (by omega)]
      exact ⟨by omega, h2, by omega, fun z => by omega, fun z => by omega, fun _ => pv_nat (h := 500) (by omega) (by decide) h3 h4⟩
theorem RC_inr {a : Nat} (ha : a ≤ T) {at' p : Nat} {v : Int32} (h : RC b T a = .inr (at', p, v)) : a + 3 ≤ at' ∧ at' ≤ T ∧ okPV p v := by
  have hs := scan_le (bBl b) ha
  have he := scan_le (bLe b) hs.2
  by_cases hx : ∃ k, k < 8 ∧ isW b k (scan (bBl b) T a) (scan (bLe b) T (scan (bBl b) T a)) = true
  · obtain ⟨k, hk, hw⟩ := hx
    rw [RC_is hk hw] at h
    have h3 := RA_inr hk he.2 h
    have h4 := (isW_spec.mp hw).1
    have h5 := len_3 k (by omega)
    exact ⟨by omega, h3.2⟩
  · rw [RC_no (fun k hk hw => hx ⟨k, hk, hw⟩)] at h
    cases h
theorem pc_order (hT : T ≤ 400) (hB : ∀ k, ∃ x : Int8, b k = x.toInt32) {a : Nat} (ha : a ≤ T) {w : Int32} {Q : Int32 → Int32 → Int32 → Prop} (h1 : ∀ at' v, RO b T a = .inr (at', 6, v) → Q v (nI at') w) (h0 : ∀ f, RO b T a = .inl f → ∀ at', Q (-1) at' (nI f)) : wp_Reader_readOrder (nI T) b (nI a) w Q := by
  have hs := scan_le (bBl b) ha
  have he := scan_le (bLe b) hs.2
  refine ⟨T - a + 1, pc_skip hT hB _ a (by omega) ⟨T - scan (bBl b) T a + 1, pc_wordEnd hT hB _ _ (by omega) ?_⟩⟩
  refine pc_isWord hT hB (by decide) he.1 he.2 (fun y8 => ⟨fun q => absurd q (by decide), fun _ => h1 _ _ (by unfold RO; rw [if_pos y8])⟩) (fun y8 => ⟨fun _ => ?_, fun q => absurd rfl q⟩)
  refine pc_isWord hT hB (by decide) he.1 he.2 (fun y9 => ⟨fun q => absurd q (by decide), fun _ => h1 _ _ (by unfold RO; rw [if_neg y8, if_pos y9])⟩) (fun y9 => ⟨fun _ => ?_, fun q => absurd rfl q⟩)
  refine pc_isWord hT hB (by decide) he.1 he.2 (fun y10 => ⟨fun q => absurd q (by decide), fun _ => h1 _ _ (by unfold RO; rw [if_neg y8, if_neg y9, if_pos y10])⟩) (fun y10 => ⟨fun _ => ?_, fun q => absurd rfl q⟩)
  exact h0 _ (by unfold RO; rw [if_neg y8, if_neg y9, if_neg y10]) _
theorem cl_num : ∀ i, i < 8 → i ≠ 1 → i ≠ 7 → RA b T (cl_w.getD i 0) = fun e => RS b T e (cl_p.getD i 0).toNatClampNeg (cl_l.getD i 0) (cl_m.getD i 0) := by
  intro i hi h1 h7
  have hr : i = 0 ∨ i = 2 ∨ i = 3 ∨ i = 4 ∨ i = 5 ∨ i = 6 := by omega
  rcases hr with rfl | rfl | rfl | rfl | rfl | rfl <;> rfl
theorem cl_rng : ∀ i, i < 8 → ¬ cl_l.getD i 0 < 0 ∧ ¬ cl_p.getD i 0 < 0 ∧ cl_p.getD i 0 < 11 ∧ vp_in (cl_p.getD i 0) 11 := by
  unfold vp_in
  decide +kernel
theorem clw_onto : ∀ k, k < 8 → ∃ i, i < 8 ∧ cl_w.getD i 0 = k := by decide +kernel
theorem ne_m1 {v lo : Int32} (h0 : ¬ lo < 0) (h1 : ¬ v < lo) : ¬ v = -1 := by
  intro e
  subst e
  rw [pu_lt] at h0 h1
  have e0 : (0 : Int32).toInt = 0 := rfl
  have e1 : (-1 : Int32).toInt = -1 := rfl
  omega
theorem pc_clause (hT : T ≤ 400) (hB : ∀ k, ∃ x : Int8, b k = x.toInt32) {a : Nat} (ha : a ≤ T) {w : Int32} {told : Nat → Int32} {Q : Int32 → Int32 → Int32 → (Nat → Int32) → Prop} (h1 : ∀ at' p v, RC b T a = .inr (at', p, v) → Q 1 (nI at') w (upd told p v)) (h0 : ∀ f, RC b T a = .inl f → ∀ at', Q 0 at' (nI f) told) : wp_Reader_readClause (nI T) b (nI a) w told Q := by
  have hs := scan_le (bBl b) ha
  have he := scan_le (bLe b) hs.2
  refine ⟨T - a + 1, pc_skip hT hB _ a (by omega) ⟨T - scan (bBl b) T a + 1, pc_wordEnd hT hB _ _ (by omega) ?_⟩⟩
  refine ⟨9, pc_clauseOf_h11 hT hB he.1 he.2 (fun i hi hw => ⟨fun _ => ⟨hi, hi, ?_⟩, fun q => absurd hi q⟩) (fun hno => ⟨fun q => absurd q (by decide), fun _ => h0 _ (RC_no (fun k hk hw => ?_)) _⟩) 8 0 (by omega) (fun j hj => absurd hj (Nat.not_lt_zero j))⟩
  · have hrc := RC_is (Nat.lt_of_lt_of_le (clw_lt i hi) (Nat.le_refl _)) hw
    rw [hrc] at h1 h0
    obtain ⟨r1, r2, r3, r4⟩ := cl_rng i hi
    refine ⟨fun e1 => ?_, fun n1 => ⟨hi, fun e7 => ?_, fun n7 => ⟨hi, hi, ?_⟩⟩⟩
    · subst e1
      have hra : RA b T (cl_w.getD 1 0) (scan (bLe b) T (scan (bBl b) T a)) = (match RN b T (scan (bLe b) T (scan (bBl b) T a)) 0 3 with | .inl f => .inl f | .inr (at', v) => RS b T at' (7 + v).toNatClampNeg 1 500) := rfl
      rw [hra] at h1 h0
      refine pc_num hT hB he.2 (fun at' v hrn => ?_) (fun f hrn at' => ⟨fun _ => ?_, fun q => absurd rfl q⟩)
      · have hn := RN_inr he.2 hrn
        rw [hrn] at h1 h0
        obtain ⟨x, hx, rfl⟩ := pv_nat (h := 3) (by omega) (by decide) hn.2.2.1 hn.2.2.2
        refine ⟨fun q => absurd q (ne_m1 (by decide) hn.2.2.1), fun _ => ⟨hi, fun q => absurd q (by decide), fun _ => ⟨hi, hi, ?_⟩⟩⟩
        have e7 : cl_p.getD 1 0 + nI x = nI (7 + x) := pu_7 x
        rw [e7]
        have e7' : (7 : Int32) + nI x = nI (7 + x) := pu_7 x
        refine pc_num hT hB hn.2.1 (fun at2 v2 hrn2 => ?_) (fun f hrn2 at2 => ⟨fun _ => h0 f ?_ _, fun q => absurd rfl q⟩)
        · have hn2 := RN_inr hn.2.1 hrn2
          have i1 : vp_in (nI (7 + x)) 11 := pu_inI (by omega) (by omega)
          refine ⟨fun q => absurd q (ne_m1 (by decide) hn2.2.2.1), fun _ => ⟨fun q => absurd q (nI_pos (by omega)), fun _ => ⟨fun _ => ⟨i1, h1 at2 _ v2 ?_⟩, fun q => absurd ((pu_nlt (a := 7 + x) (b := 11) (by omega) (by omega)).mpr (by omega)) q⟩⟩⟩
          show RS b T at' (7 + nI x).toNatClampNeg 1 500 = _
          rw [e7']
          unfold RS
          rw [show RN b T at' 1 500 = .inr (at2, v2) from hrn2]
        · show RS b T at' (7 + nI x).toNatClampNeg 1 500 = _
          unfold RS
          rw [show RN b T at' 1 500 = .inl f from hrn2]
      · rw [hrn] at h0
        exact h0 f rfl _
    · subst e7
      have hra : RA b T (cl_w.getD 7 0) (scan (bLe b) T (scan (bBl b) T a)) = RO b T (scan (bLe b) T (scan (bBl b) T a)) := rfl
      rw [hra] at h1 h0
      refine pc_order hT hB he.2 (fun at' v hro => ?_) (fun f hro at' => ⟨fun _ => h0 f hro _, fun q => absurd rfl q⟩)
      have hv := (RO_inr he.2 hro).2.2.2
      refine ⟨fun q => ?_, fun _ => ⟨fun q => absurd q r2, fun _ => ⟨fun _ => ⟨r4, h1 at' 6 v hro⟩, fun q => absurd r3 q⟩⟩⟩
      rcases hv with rfl | rfl | rfl <;> exact absurd q (by decide)
    · rw [cl_num i hi n1 n7] at h1 h0
      dsimp only at h1 h0
      refine pc_num hT hB he.2 (fun at' v hrn => ?_) (fun f hrn at' => ⟨fun _ => h0 f ?_ _, fun q => absurd rfl q⟩)
      · have hn := RN_inr he.2 hrn
        refine ⟨fun q => absurd q (ne_m1 r1 hn.2.2.1), fun _ => ⟨fun q => absurd q r2, fun _ => ⟨fun _ => ⟨r4, h1 at' _ v ?_⟩, fun q => absurd r3 q⟩⟩⟩
        unfold RS
        rw [hrn]
      · unfold RS
        rw [hrn]
  · obtain ⟨i, hi, e⟩ := clw_onto k hk
    rw [← e] at hw
    exact hno i hi hw
theorem pm_sets (hT : T ≤ 400) {a p : Nat} (ha : a ≤ T) (hp : p < 11) {lo hi : Int32} (hlo : ¬ lo < 0) {draft : Nat → Int32} {Q : Int32 → Int32 → Int32 → (Nat → Int32) → Prop} (h1 : ∀ at' v, RS b T a p lo hi = .inr (at', p, v) → ∀ bg, Q 1 (nI at') bg (upd draft p v)) (h0 : ∀ f, RS b T a p lo hi = .inl f → ∀ at', Q 0 at' (nI f) draft) : wp_Model_sets (nI a) (nI T) draft b (nI p) lo hi Q := by
  unfold wp_Model_sets
  rw [nI_clamp (by omega)]
  refine pm_num hT ha (fun at' v hrn bg => ?_) (fun f hrn at' => ⟨fun _ => ⟨fun _ => h0 f ?_ _, fun q => absurd (show (-1 : Int32) < 0 by decide) q⟩, fun q => absurd (show (-1 : Int32) < 0 by decide) q⟩)
  · have hn := RN_inr ha hrn
    have hv : ¬ v < 0 := by
      have := hn.2.2.1
      rw [pu_lt] at this hlo ⊢
      have e0 : (0 : Int32).toInt = 0 := rfl
      omega
    refine ⟨fun q => absurd q hv, fun _ => ⟨pu_inI hp (by omega), fun q => absurd q hv, fun _ => h1 at' v ?_ _⟩⟩
    unfold RS; rw [hrn]
  · unfold RS; rw [hrn]
theorem pm_clause (hT : T ≤ 400) {a : Nat} (ha : a ≤ T) {draft : Nat → Int32} {Q : Int32 → Int32 → Int32 → (Nat → Int32) → Prop} (h1 : ∀ at' p v, RC b T a = .inr (at', p, v) → ∀ bg, Q 1 (nI at') bg (upd draft p v)) (h0 : ∀ f, RC b T a = .inl f → ∀ at' dr, Q 0 at' (nI f) dr) : wp_Model_readClause (nI a) (nI T) draft b Q := by
  have hs := scan_le (bBl b) ha
  have he := scan_le (bLe b) hs.2
  have n0 : (narrow .boolean (.int 0) = .int 0) = True := eq_true rfl
  have n1 : (narrow .boolean (.int 1) = .int 1) = True := eq_true rfl
  refine pm_readWord (lo := 0) (hi := 7) hT ha (by omega) (by omega) (fun k hk hk7 hw => ?_) (fun hno => ?_)
  · have hrc := RC_is (show k < 8 by omega) hw
    rw [hrc] at h1 h0
    have hr : k = 0 ∨ k = 1 ∨ k = 2 ∨ k = 3 ∨ k = 4 ∨ k = 5 ∨ k = 6 ∨ k = 7 := by omega
    rcases hr with rfl | rfl | rfl | rfl | rfl | rfl | rfl | rfl
    · refine ⟨fun _ => ?_, fun q => absurd (show nI 0 = 0 by decide) q⟩
      exact pm_sets (p := 0) hT he.2 (by omega) (by decide) (fun at' v hr bg => ⟨rfl, h1 at' 0 v hr bg⟩) (fun f hr at' => ⟨rfl, h0 f hr _ _⟩)
    · refine ⟨fun q => absurd q (by decide), fun _ => ⟨fun _ => ?_, fun q => absurd (show nI 1 = 1 by decide) q⟩⟩
      exact pm_sets (p := 1) hT he.2 (by omega) (by decide) (fun at' v hr bg => ⟨rfl, h1 at' 1 v hr bg⟩) (fun f hr at' => ⟨rfl, h0 f hr _ _⟩)
    · refine ⟨fun q => absurd q (by decide), fun _ => ⟨fun q => absurd q (by decide), fun _ => ⟨fun _ => ?_, fun q => absurd (show nI 2 = 2 by decide) q⟩⟩⟩
      exact pm_sets (p := 2) hT he.2 (by omega) (by decide) (fun at' v hr bg => ⟨rfl, h1 at' 2 v hr bg⟩) (fun f hr at' => ⟨rfl, h0 f hr _ _⟩)
    · refine ⟨fun q => absurd q (by decide), fun _ => ⟨fun q => absurd q (by decide), fun _ => ⟨fun q => absurd q (by decide), fun _ => ⟨fun _ => ?_, fun q => absurd (show nI 3 = 3 by decide) q⟩⟩⟩⟩
      exact pm_sets (p := 3) hT he.2 (by omega) (by decide) (fun at' v hr bg => ⟨rfl, h1 at' 3 v hr bg⟩) (fun f hr at' => ⟨rfl, h0 f hr _ _⟩)
    · refine ⟨fun q => absurd q (by decide), fun _ => ⟨fun q => absurd q (by decide), fun _ => ⟨fun q => absurd q (by decide), fun _ => ⟨fun q => absurd q (by decide), fun _ => ⟨fun _ => ?_, fun q => absurd (show nI 4 = 4 by decide) q⟩⟩⟩⟩⟩
      exact pm_sets (p := 4) hT he.2 (by omega) (by decide) (fun at' v hr bg => ⟨rfl, h1 at' 4 v hr bg⟩) (fun f hr at' => ⟨rfl, h0 f hr _ _⟩)
    · refine ⟨fun q => absurd q (by decide), fun _ => ⟨fun q => absurd q (by decide), fun _ => ⟨fun q => absurd q (by decide), fun _ => ⟨fun q => absurd q (by decide), fun _ => ⟨fun q => absurd q (by decide), fun _ => ⟨fun _ => ?_, fun q => absurd (show nI 5 = 5 by decide) q⟩⟩⟩⟩⟩⟩
      exact pm_sets (p := 5) hT he.2 (by omega) (by decide) (fun at' v hr bg => ⟨rfl, h1 at' 5 v hr bg⟩) (fun f hr at' => ⟨rfl, h0 f hr _ _⟩)
    · refine ⟨fun q => absurd q (by decide), fun _ => ⟨fun q => absurd q (by decide), fun _ => ⟨fun q => absurd q (by decide), fun _ => ⟨fun q => absurd q (by decide), fun _ => ⟨fun q => absurd q (by decide), fun _ => ⟨fun q => absurd q (by decide), fun _ => ⟨fun _ => ?_, fun q => absurd (show nI 6 = 6 by decide) q⟩⟩⟩⟩⟩⟩⟩
      have hra : RA b T 6 (scan (bLe b) T (scan (bBl b) T a)) = RO b T (scan (bLe b) T (scan (bBl b) T a)) := rfl
      rw [hra] at h1 h0
      refine pm_readWord (lo := 8) (hi := 10) hT he.2 (by omega) (by omega) (fun k2 hk8 hk10 hw2 => ?_) (fun hno => ⟨fun _ => h0 _ ?_ _ _, fun q => absurd (show (-1 : Int32) < 0 by decide) q⟩)
      · have hne : ∀ j, j < 11 → j ≠ k2 → ¬ isW b j (scan (bBl b) T (scan (bLe b) T (scan (bBl b) T a))) (scan (bLe b) T (scan (bBl b) T (scan (bLe b) T (scan (bBl b) T a)))) = true := fun j hj hjk z => hjk (isW_uniq hj (by omega) z hw2)
        have hr2 : k2 = 8 ∨ k2 = 9 ∨ k2 = 10 := by omega
        refine ⟨fun q => absurd q (nI_pos (by omega)), fun _ => ?_⟩
        rcases hr2 with rfl | rfl | rfl
        · exact h1 _ 6 0 (by unfold RO; rw [if_pos hw2]) _
        · exact h1 _ 6 1 (by unfold RO; rw [if_neg (hne 8 (by omega) (by omega)), if_pos hw2]) _
        · exact h1 _ 6 2 (by unfold RO; rw [if_neg (hne 8 (by omega) (by omega)), if_neg (hne 9 (by omega) (by omega)), if_pos hw2]) _
      · unfold RO
        rw [if_neg (hno 8 (by omega) (by omega)), if_neg (hno 9 (by omega) (by omega)), if_neg (hno 10 (by omega) (by omega))]
    · refine ⟨fun q => absurd q (by decide), fun _ => ⟨fun q => absurd q (by decide), fun _ => ⟨fun q => absurd q (by decide), fun _ => ⟨fun q => absurd q (by decide), fun _ => ⟨fun q => absurd q (by decide), fun _ => ⟨fun q => absurd q (by decide), fun _ => ⟨fun q => absurd q (by decide), fun _ => ⟨fun _ => ?_, fun q => absurd (show nI 7 = 7 by decide) q⟩⟩⟩⟩⟩⟩⟩⟩
      have hra : RA b T 7 (scan (bLe b) T (scan (bBl b) T a)) = (match RN b T (scan (bLe b) T (scan (bBl b) T a)) 0 3 with | .inl f => .inl f | .inr (at', v) => RS b T at' (7 + v).toNatClampNeg 1 500) := rfl
      rw [hra] at h1 h0
      refine pm_num hT he.2 (fun at' v hrn bg => ?_) (fun f hrn at' => ⟨fun _ => ?_, fun q => absurd (show (-1 : Int32) < 0 by decide) q⟩)
      · have hn := RN_inr he.2 hrn
        rw [hrn] at h1 h0
        obtain ⟨x, hx, rfl⟩ := pv_nat (h := 3) (by omega) (by decide) hn.2.2.1 hn.2.2.2
        have e7' : (7 : Int32) + nI x = nI (7 + x) := pu_7 x
        refine ⟨fun q => absurd q (nI_pos (by omega)), fun _ => ?_⟩
        rw [e7']
        dsimp only at h1 h0
        rw [e7', nI_clamp (by omega)] at h1 h0
        exact pm_sets (p := 7 + x) hT hn.2.1 (by omega) (by decide) (fun at2 v2 hr bg => ⟨fun q => absurd q (by decide), fun _ => h1 at2 _ v2 hr bg⟩) (fun f hr at2 => ⟨fun _ => h0 f hr _ _, fun q => absurd rfl q⟩)
      · rw [hrn] at h0
        exact h0 f rfl _ _
  · have hz := h0 _ (RC_no (fun k hk hw => hno k (by omega) (by omega) hw)) (nI (scan (bLe b) T (scan (bBl b) T a))) draft
    refine ⟨fun q => absurd q (by decide), fun _ => ⟨fun q => absurd q (by decide), fun _ => ⟨fun q => absurd q (by decide), fun _ => ⟨fun q => absurd q (by decide), fun _ => ⟨fun q => absurd q (by decide), fun _ => ⟨fun q => absurd q (by decide), fun _ => ⟨fun q => absurd q (by decide), fun _ => ⟨fun q => absurd q (by decide), fun _ => hz⟩⟩⟩⟩⟩⟩⟩⟩
/-- the text from a on, c clauses being begun -/
def RT (b : Nat → Int32) (T : Nat) : Nat → Nat → Nat → (Nat → Int32) → Nat ⊕ (Nat × (Nat → Int32))
  | 0, _, _, _ => .inl 0
  | n + 1, c, a, f => match RC b T a with
    | .inl x => .inl x
    | .inr (at', p, v) => if scan (bBl b) T at' = T then .inr (c, upd f p v) else if b (scan (bBl b) T at') = 59 then RT b T n (c + 1) (scan (bBl b) T at' + 1) (upd f p v) else .inl (scan (bBl b) T at')
theorem RT_l {n c a : Nat} {f : Nat → Int32} {x : Nat} (h : RC b T a = .inl x) : RT b T (n + 1) c a f = .inl x := by simp only [RT, h]
theorem RT_e {n c a : Nat} {f : Nat → Int32} {at' p : Nat} {v : Int32} (h : RC b T a = .inr (at', p, v)) (h2 : scan (bBl b) T at' = T) : RT b T (n + 1) c a f = .inr (c, upd f p v) := by simp only [RT, h, h2, if_true]
theorem RT_n {n c a : Nat} {f : Nat → Int32} {at' p : Nat} {v : Int32} (h : RC b T a = .inr (at', p, v)) (h2 : ¬ scan (bBl b) T at' = T) (h3 : b (scan (bBl b) T at') = 59) : RT b T (n + 1) c a f = RT b T n (c + 1) (scan (bBl b) T at' + 1) (upd f p v) := by simp only [RT, h, h2, h3, if_true, if_false]
theorem RT_x {n c a : Nat} {f : Nat → Int32} {at' p : Nat} {v : Int32} (h : RC b T a = .inr (at', p, v)) (h2 : ¬ scan (bBl b) T at' = T) (h3 : ¬ b (scan (bBl b) T at') = 59) : RT b T (n + 1) c a f = .inl (scan (bBl b) T at') := by simp only [RT, h, h2, h3, if_false]
theorem upd_agree {f g : Nat → Int32} {p : Nat} {v : Int32} (h : ∀ j, j < 11 → f j = g j) : ∀ j, j < 11 → upd f p v j = upd g p v j := by
  intro j hj
  by_cases e : j = p
  · subst e; rw [pu_upd_same, pu_upd_same]
  · rw [pu_upd_ne e, pu_upd_ne e]; exact h j hj
theorem pc_text_h24 (hT : T ≤ 400) (hB : ∀ k, ∃ x : Int8, b k = x.toInt32) {Q : Int32 → Int32 → Int32 → (Nat → Int32) → Prop} : ∀ n c a told f, c + n = 402 → 1 ≤ c → 4 * (c - 1) ≤ a → a ≤ T → (∀ j, j < 11 → told j = f j) →
    (∀ x, RT b T n c a f = .inl x → ∀ at' told', Q (-1) at' (nI x) told') → (∀ m f', RT b T n c a f = .inr (m, f') → 1 ≤ m → m ≤ 400 → ∀ at' told', (∀ j, j < 11 → told' j = f' j) → Q (nI m) at' (-1) told') → wp_Reader_readText_h24 (nI T) b Q n (nI c) (nI a) (-1) told
  | 0, c, a, told, f, e, h1, h2, h3, hf, hl, hr => by omega
  | n + 1, c, a, told, f, e, h1, h2, h3, hf, hl, hr => by
    rw [wp_Reader_readText_h24]
    refine ⟨fun q => ?_, fun _ => ?_⟩
    · have := (pu_nlt (a := 400) (b := c) (by omega) (by omega)).mp q; omega
    · refine pc_clause hT hB h3 (fun at' p v hrc => ?_) (fun x hrc at' => ⟨fun _ => hl x (RT_l hrc) _ _, fun q => absurd rfl q⟩)
      have hi := RC_inr h3 hrc
      have hs := scan_le (bBl b) hi.2.1
      refine ⟨fun q => absurd q (by decide), fun _ => ⟨T - at' + 1, pc_skip hT hB _ at' (by omega) ?_⟩⟩
      refine ⟨fun q => ?_, fun q => ?_⟩
      · have hq := (pu_neq (by omega) (by omega)).mp q
        exact hr c _ (RT_e hrc hq) h1 (by omega) _ _ (upd_agree hf)
      · have hq : ¬ scan (bBl b) T at' = T := fun z => q (by rw [z])
        have h8 := i8_and (hB (scan (bBl b) T at'))
        have e59 : (59 : Int32).toInt = 59 := rfl
        refine t_in hT (by omega) ⟨fun z => ?_, fun z => ?_⟩
        · have hz : b (scan (bBl b) T at') = 59 := by
            rw [pu_eq] at z ⊢
            omega
          rw [← nI_succ, ← nI_succ]
          refine pc_text_h24 hT hB n (c + 1) (scan (bBl b) T at' + 1) _ (upd f p v) (by omega) (by omega) (by omega) (by omega) (upd_agree hf) ?_ ?_
          · rw [RT_n hrc hq hz] at hl; exact hl
          · rw [RT_n hrc hq hz] at hr; exact hr
        · have hz : ¬ b (scan (bBl b) T at') = 59 := by
            intro y
            rw [pu_eq] at z y
            omega
          exact hl _ (RT_x hrc hq hz) _ _
/-- where a text is good the row told is a good one -/
theorem RT_ok : ∀ n c a f m f', a ≤ T → I_AG f → RT b T n c a f = .inr (m, f') → I_AG f'
  | 0, c, a, f, m, f', h, hA, hr => by cases hr
  | n + 1, c, a, f, m, f', h, hA, hr => by
    rcases hrc : RC b T a with x | ⟨at', p, v⟩
    · rw [RT_l hrc] at hr; cases hr
    · have hi := RC_inr h hrc
      have hs := scan_le (bBl b) hi.2.1
      have hA' : I_AG (upd f p v) := by
        obtain ⟨⟨g, g1, g2, g3⟩, ⟨c2, c3, c4⟩, hr4⟩ := hA
        obtain ⟨o1, o2, o3, o4⟩ := hi.2.2
        refine ⟨?_, ?_, fun q hq => ?_⟩
        · by_cases e : 0 = p
          · rw [← e, pu_upd_same]; exact o2 e.symm
          · rw [pu_upd_ne e]; exact ⟨g, g1, g2, g3⟩
        · by_cases e : 1 = p
          · rw [← e, pu_upd_same]; exact o3 e.symm
          · rw [pu_upd_ne e]; exact ⟨c2, c3, c4⟩
        · by_cases e : 7 + q = p
          · rw [e, pu_upd_same]; exact o4 (by omega)
          · rw [pu_upd_ne e]; exact hr4 q hq
      by_cases h2 : scan (bBl b) T at' = T
      · rw [RT_e hrc h2] at hr
        simp only [Sum.inr.injEq, Prod.mk.injEq] at hr
        rw [← hr.2]; exact hA'
      · by_cases h3 : b (scan (bBl b) T at') = 59
        · rw [RT_n hrc h2 h3] at hr
          exact RT_ok n (c + 1) _ _ m f' (by omega) hA' hr
        · rw [RT_x hrc h2 h3] at hr; cases hr
theorem pm_copy_h166 {v1 th taped at' en bg fa : Int32} {draft says0 : Nat → Int32} {Q : Int32 → Int32 → Int32 → Int32 → Int32 → Int32 → Int32 → (Nat → Int32) → (Nat → Int32) → Prop} (hQ : Q v1 th taped at' en bg fa (fun j => if j < 11 then draft j else says0 j) draft) : ∀ k c, c + k = 11 → wp_Model_agree_h166 v1 th taped at' en bg fa draft Q (k + 1) (nI c) (fun j => if j < c then draft j else says0 j)
  | 0, c, e => by
    have e : c = 11 := by omega
    subst e
    rw [wp_Model_agree_h166]
    exact ⟨fun _ => hQ, fun q => absurd (show (11 : Int32) ≤ nI 11 by decide) q⟩
  | k + 1, c, e => by
    have ih := pm_copy_h166 hQ k (c + 1) (by omega)
    have i1 : vp_in (nI c) 11 := pu_inI (by omega) (by omega)
    rw [wp_Model_agree_h166, nI_clamp (by omega), ← nI_succ]
    refine ⟨fun q => ?_, fun _ => ⟨i1, i1, ?_⟩⟩
    · have := (pu_nle (a := 11) (b := c) (by omega) (by omega)).mp q; omega
    · have e2 : upd (fun j => if j < c then draft j else says0 j) c (draft c) = fun j => if j < c + 1 then draft j else says0 j := by
        funext j
        by_cases ej : j = c
        · subst ej; simp [upd]
        · have : j < c + 1 ↔ j < c := by omega
          simp only [upd, ej, if_false, this]
      rw [e2]
      exact ih
theorem pm_text_h55 (hT : T ≤ 400) {taped : Int32} {says : Nat → Int32} {Q : Int32 → Int32 → Int32 → Int32 → Int32 → Int32 → Int32 → (Nat → Int32) → (Nat → Int32) → Prop} : ∀ n c a draft f bg, c + n = 402 → 1 ≤ c → 4 * (c - 1) ≤ a → a ≤ T → (∀ j, j < 11 → draft j = f j) →
    (∀ x, RT b T n c a f = .inl x → ∀ at' dr bg', Q 0 1 taped at' (nI T) bg' (nI x) says dr) → (∀ m f', RT b T n c a f = .inr (m, f') → ∀ at' dr bg', Q (nI m) 0 taped at' (nI T) bg' (-1) (fun j => if j < 11 then f' j else says j) dr) → wp_Model_agree_h55 0 taped (nI T) says b Q (n + 1) (nI (c - 1)) 1 1 (nI a) bg draft
  | 0, c, a, draft, f, bg, e, h1, h2, h3, hf, hl, hr => by omega
  | n + 1, c, a, draft, f, bg, e, h1, h2, h3, hf, hl, hr => by
    rw [wp_Model_agree_h55]
    refine ⟨fun q => absurd q (by decide), fun _ => ⟨fun q => absurd q (by decide), fun _ => ?_⟩⟩
    refine pm_clause hT h3 (fun at' p v hrc bg2 => ⟨fun q => absurd q (by decide), fun _ => ?_⟩) (fun x hrc at' dr => ⟨fun _ => ⟨fun _ => ⟨fun _ => ?_, fun q => absurd rfl q⟩, fun q => absurd rfl q⟩, fun q => absurd rfl q⟩)
    · have hi := RC_inr h3 hrc
      have hs := scan_le (bBl b) hi.2.1
      have ec : nI (c - 1) + 1 = nI c := by rw [← nI_succ]; congr 1; omega
      refine ⟨T - at' + 1, pm_blanks hT _ at' (by omega) ?_⟩
      rw [ec]
      refine t_isAt hT hs.2 (fun y1 y2 => ⟨fun q => absurd q (by decide), fun _ => ?_⟩) (fun y => ⟨fun _ => ⟨fun q => ?_, fun q => ?_⟩, fun q => absurd rfl q⟩)
      · have hz : b (scan (bBl b) T at') = 59 := by
          rw [pu_lt, pu_lt] at y2
          rw [pu_eq]
          omega
        have hq : ¬ scan (bBl b) T at' = T := by omega
        have := pm_text_h55 hT (taped := taped) (says := says) (Q := Q) n (c + 1) (scan (bBl b) T at' + 1) (upd draft p v) (upd f p v) (nI (scan (bBl b) T at')) (by omega) (by omega) (by omega) (by omega) (upd_agree hf) (by rw [RT_n hrc hq hz] at hl; exact hl) (by rw [RT_n hrc hq hz] at hr; exact hr)
        rw [show c + 1 - 1 = c by omega] at this
        rw [← nI_succ]
        exact this
      · have hq := (pu_neq (by omega) (by omega)).mp q
        rw [wp_Model_agree_h55]
        refine ⟨fun z => absurd z (by decide), fun _ => ⟨fun _ => ⟨fun z => absurd z (by decide), fun _ => ⟨fun z => absurd z (by decide), fun _ => ?_⟩⟩, fun z => absurd rfl z⟩⟩
        rw [pm_th0]
        refine ⟨fun _ => ⟨12, ?_⟩, fun z => absurd rfl z⟩
        have hfin : (fun j => if j < 11 then upd f p v j else says j) = fun j => if j < 11 then upd draft p v j else says j := by
          funext j
          by_cases hj : j < 11
          · simp only [hj, if_true]; exact (upd_agree hf j hj).symm
          · simp only [hj, if_false]
        have hq2 := hr c _ (RT_e hrc hq) (nI (scan (bBl b) T at')) (upd draft p v) (nI (scan (bBl b) T at'))
        rw [hfin] at hq2
        have h0 : (fun j => if j < 0 then upd draft p v j else says j) = says := by
          funext j; simp
        have := pm_copy_h166 (says0 := says) hq2 11 0 (by omega)
        rw [h0] at this
        exact this
      · have hq : ¬ scan (bBl b) T at' = T := fun z => q (by rw [z])
        have hz : ¬ b (scan (bBl b) T at') = 59 := by
          intro z
          refine y ⟨by omega, ?_⟩
          rw [z]
          decide
        have hx := hl _ (RT_x hrc hq hz) (nI (scan (bBl b) T at')) (upd draft p v) (nI (scan (bBl b) T at'))
        rw [wp_Model_agree_h55]
        refine ⟨fun _ => ⟨fun _ => ⟨fun _ => ?_, fun z => absurd rfl z⟩, fun z => absurd rfl z⟩, fun z => absurd rfl z⟩
        rw [pm_th1]
        exact ⟨fun z => absurd z (by decide), fun _ => hx⟩
    · rw [pm_th1]
      exact ⟨fun z => absurd z (by decide), fun _ => hl x (RT_l hrc) _ _ _⟩
theorem pm_draft_h25 {th taped at' en bg : Int32} {says tape draft0 : Nat → Int32} {Q : Int32 → Int32 → Int32 → Int32 → Int32 → Int32 → Int32 → (Nat → Int32) → (Nat → Int32) → Prop} (hQ : ∀ dr, (∀ j, j < 11 → dr j = says j) → ∃ n', wp_Model_agree_h55 th taped en says tape Q n' 0 1 1 at' bg dr) : ∀ k c dr, c + k = 11 → (∀ j, j < c → dr j = says j) → wp_Model_agree_h25 th taped at' en bg says tape Q (k + 1) (nI c) dr
  | 0, c, dr, e, h => by
    have e : c = 11 := by omega
    subst e
    rw [wp_Model_agree_h25]
    exact ⟨fun _ => hQ dr h, fun q => absurd (show (11 : Int32) ≤ nI 11 by decide) q⟩
  | k + 1, c, dr, e, h => by
    have i1 : vp_in (nI c) 11 := pu_inI (by omega) (by omega)
    rw [wp_Model_agree_h25, nI_clamp (by omega), ← nI_succ]
    refine ⟨fun q => ?_, fun _ => ⟨i1, i1, pm_draft_h25 (draft0 := draft0) hQ k (c + 1) _ (by omega) (fun j hj => ?_)⟩⟩
    · have := (pu_nle (a := 11) (b := c) (by omega) (by omega)).mp q; omega
    · by_cases ej : j = c
      · subst ej; rw [pu_upd_same]
      · rw [pu_upd_ne ej]; exact h j (by omega)
end
theorem cpy11 (f g : Nat → Int32) {j : Nat} (hj : j < 11) : va_cpy f g (0 : Int32).toNatClampNeg (0 : Int32).toNatClampNeg (11 : Int32).toNatClampNeg j = f j := by
  have h := pk_cpy_in (f := f) (g := g) (sp := (0 : Int32).toNatClampNeg) (dp := (0 : Int32).toNatClampNeg) (n := (11 : Int32).toNatClampNeg) (j := j) (Nat.zero_le j) (by show j < 0 + 11; omega)
  rw [h]
  congr 1
  show 0 + (j - 0) = j
  omega
theorem cpy11_out (f g : Nat → Int32) {j : Nat} (hj : ¬ j < 11) : va_cpy f g (0 : Int32).toNatClampNeg (0 : Int32).toNatClampNeg (11 : Int32).toNatClampNeg j = g j :=
  pk_cpy_out (Or.inr (by show 0 + 11 ≤ j; omega))
theorem q_agree {t_length x_begin : Int32} {t_bytes ag e_told x_draft : Nat → Int32} (hT : I_T t_length t_bytes) (hA : I_AG ag) :
    wp_Dock_agree t_length t_bytes ag e_told
      (fun r a1 a2 _ a4 _ => wp_Model_agree t_length x_begin ag x_draft t_bytes (fun b th tp _ _ _ fa sa _ => th = 0 ∧ r = b ∧ (tp = a1 ∧ fa = a4 ∧ sa = a2) ∧ I_T a1 t_bytes ∧ I_AG a2))
      (fun E a1 a2 _ a4 _ => wp_Model_agree t_length x_begin ag x_draft t_bytes (fun b th tp _ _ _ fa sa _ => th = ecode [xIA] E ∧ (tp = a1 ∧ fa = a4 ∧ sa = a2) ∧ I_T a1 t_bytes ∧ I_AG a2)) := by
  obtain ⟨⟨T, hT, rfl⟩, hB⟩ := hT
  have h0T : I_T 0 t_bytes := ⟨⟨0, by omega, rfl⟩, hB⟩
  refine ⟨401, pc_text_h24 hT hB 401 1 0 _ ag (by omega) (by omega) (by omega) (by omega) (fun j hj => cpy11 _ _ hj) (fun x hx at' told' => ⟨fun _ => ?_, fun q => absurd rfl q⟩) (fun m f' hm hm1 hm4 at' told' hag => ⟨fun q => ?_, fun _ => ?_⟩)⟩
  · refine ⟨12, pm_draft_h25 (draft0 := x_draft) (fun dr hdr => ⟨402, pm_text_h55 hT 401 1 0 dr ag _ (by omega) (by omega) (by omega) (by omega) hdr (fun x2 hx2 at2 dr2 bg2 => ?_) (fun m f' hm at2 dr2 bg2 => ?_)⟩) 11 0 x_draft (by omega) (fun j hj => absurd hj (Nat.not_lt_zero j))⟩
    · have e := hx.symm.trans hx2
      simp only [Sum.inl.injEq] at e
      subst e
      exact ⟨by rfl, ⟨rfl, rfl, rfl⟩, h0T, hA⟩
    · have e := hx.symm.trans hm
      cases e
  · have : nI m < 0 := by rw [q]; decide
    exact absurd this (nI_pos (by omega))
  · refine ⟨12, pm_draft_h25 (draft0 := x_draft) (fun dr hdr => ⟨402, pm_text_h55 hT 401 1 0 dr ag _ (by omega) (by omega) (by omega) (by omega) hdr (fun x2 hx2 at2 dr2 bg2 => ?_) (fun m2 f2 hm2 at2 dr2 bg2 => ?_)⟩) 11 0 x_draft (by omega) (fun j hj => absurd hj (Nat.not_lt_zero j))⟩
    · have e := hm.symm.trans hx2
      cases e
    · have e := hm.symm.trans hm2
      simp only [Sum.inr.injEq, Prod.mk.injEq] at e
      obtain ⟨rfl, rfl⟩ := e
      have hfin : (fun j => if j < 11 then f' j else ag j) = va_cpy told' ag (0 : Int32).toNatClampNeg (0 : Int32).toNatClampNeg (11 : Int32).toNatClampNeg := by
        funext j
        by_cases hj : j < 11
        · rw [cpy11 _ _ hj]
          simp only [hj, if_true]
          exact (hag j hj).symm
        · rw [cpy11_out _ _ hj]
          simp only [hj, if_false]
      have hA' := RT_ok 401 1 0 ag m f' (by omega) hA hm
      refine ⟨rfl, rfl, ⟨rfl, rfl, hfin⟩, h0T, ?_⟩
      rw [← hfin]
      obtain ⟨⟨g, g1, g2, g3⟩, ⟨c2, c3, c4⟩, hr4⟩ := hA'
      exact ⟨⟨g, g1, g2, g3⟩, ⟨c2, c3, c4⟩, fun q hq => by
        obtain ⟨r, hr, er⟩ := hr4 q hq
        exact ⟨r, hr, by show (if 7 + q < 11 then f' (7 + q) else ag (7 + q)) = nI r; rw [if_pos (by omega)]; exact er⟩⟩
theorem q_fault (w : Int32) : wp_Dock_fault w (fun r => wp_Model_fault w (fun b th => th = 0 ∧ r = b)) := ⟨rfl, rfl⟩
