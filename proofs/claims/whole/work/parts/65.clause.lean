/-! Numbers and clauses of the text. -/
/-- the value of k digits -/
def nv (b : Nat → Int32) (s : Nat) : Nat → Int32
  | 0 => 0
  | k + 1 => nv b s k * 10 + b (s + k) - 48
/-- a number read at a: where it is wrong, or where it ends, and its value -/
def RN (b : Nat → Int32) (T a : Nat) (lo hi : Int32) : Nat ⊕ (Nat × Int32) :=
  if 1 ≤ scan (bDi b) T (scan (bBl b) T a) - scan (bBl b) T a ∧ scan (bDi b) T (scan (bBl b) T a) - scan (bBl b) T a ≤ 4 ∧ ¬ nv b (scan (bBl b) T a) (scan (bDi b) T (scan (bBl b) T a) - scan (bBl b) T a) < lo ∧ nv b (scan (bBl b) T a) (scan (bDi b) T (scan (bBl b) T a) - scan (bBl b) T a) ≤ hi
  then .inr (scan (bDi b) T (scan (bBl b) T a), nv b (scan (bBl b) T a) (scan (bDi b) T (scan (bBl b) T a) - scan (bBl b) T a)) else .inl (scan (bBl b) T a)
section
variable {b : Nat → Int32} {T : Nat}
theorem di_iff (a : Nat) : (¬ b a < 48 ∧ ¬ 57 < b a) ↔ bDi b a = true := by
  unfold bDi; rw [decide_eq_true_iff]
theorem pm_num_h6 (hT : T ≤ 400) {s : Nat} {lo hi : Int32} {Q : Int32 → Int32 → Int32 → Prop} : ∀ k a, a + k = T → s ≤ a →
    ((1 ≤ scan (bDi b) T a - s → scan (bDi b) T a - s ≤ 4 → ¬ nv b s (scan (bDi b) T a - s) < lo → nv b s (scan (bDi b) T a - s) ≤ hi → Q (nv b s (scan (bDi b) T a - s)) (nI (scan (bDi b) T a)) (nI s))) →
    (¬ (1 ≤ scan (bDi b) T a - s ∧ scan (bDi b) T a - s ≤ 4 ∧ ¬ nv b s (scan (bDi b) T a - s) < lo ∧ nv b s (scan (bDi b) T a - s) ≤ hi) → Q (-1) (nI (scan (bDi b) T a)) (nI s)) →
    ∀ v, (a - s ≤ 4 → v = nv b s (a - s)) → wp_Model_readNumber_h6 lo hi (nI T) (nI s) b Q (k + 1) v (nI a) := by
  intro k
  induction k with
  | zero =>
    intro a e hs h1 h0 v hv
    have e : a = T := by omega
    subst e
    rw [scan_stop (by omega)] at h1 h0
    rw [wp_Model_readNumber_h6]
    refine t_isAt hT (Nat.le_refl _) (fun h => absurd h (Nat.lt_irrefl _)) (fun _ => ⟨fun _ => ?_, fun q => absurd rfl q⟩)
    rw [pk_sub hs]
    refine ⟨fun q => h0 (fun z => ?_), fun q => ⟨fun q2 => h0 (fun z => ?_), fun q2 => ⟨fun q3 => h0 (fun z => ?_), fun q3 => ⟨fun q4 => ?_, fun q4 => h0 (fun z => ?_)⟩⟩⟩⟩
    · have := (pu_neq (by omega) (by omega)).mp q; omega
    · have := (pu_nlt (a := 4) (b := a - s) (by omega) (by omega)).mp q2; omega
    · rw [hv z.2.1] at q3; exact z.2.2.1 q3
    · have y2 : ¬ 4 < a - s := fun z => q2 ((pu_nlt (a := 4) (b := a - s) (by omega) (by omega)).mpr z)
      have y1 : ¬ a = s := fun z => q (by rw [z])
      rw [hv (by omega)] at q3 q4 ⊢
      exact h1 (by omega) (by omega) q3 q4
    · rw [hv z.2.1] at q4; exact q4 z.2.2.2
  | succ k ih =>
    intro a e hs h1 h0 v hv
    rw [wp_Model_readNumber_h6]
    refine t_isAt hT (by omega) (fun y1 y2 => ⟨fun q => absurd q (by decide), fun _ => ?_⟩) (fun y => ⟨fun _ => ?_, fun q => absurd rfl q⟩)
    · rw [scan_step y1 ((di_iff a).mp y2)] at h1 h0
      rw [pk_sub hs, ← nI_succ]
      refine ⟨fun q => ih (a + 1) (by omega) (by omega) h1 h0 v (fun z => ?_), fun q => ⟨pu_inI (by omega) (by omega), ih (a + 1) (by omega) (by omega) h1 h0 _ (fun z => ?_)⟩⟩
      · have := (pu_nle (a := 4) (b := a - s) (by omega) (by omega)).mp q; omega
      · rw [hv (by omega), show a + 1 - s = (a - s) + 1 by omega, nv, nI_clamp (by omega), show s + (a - s) = a by omega, Int32.mul_comm]
    · rw [scan_stop (fun z => y ⟨z.1, (di_iff a).mpr z.2⟩)] at h1 h0
      rw [pk_sub hs]
      refine ⟨fun q => h0 (fun z => ?_), fun q => ⟨fun q2 => h0 (fun z => ?_), fun q2 => ⟨fun q3 => h0 (fun z => ?_), fun q3 => ⟨fun q4 => ?_, fun q4 => h0 (fun z => ?_)⟩⟩⟩⟩
      · have := (pu_neq (by omega) (by omega)).mp q; omega
      · have := (pu_nlt (a := 4) (b := a - s) (by omega) (by omega)).mp q2; omega
      · rw [hv z.2.1] at q3; exact z.2.2.1 q3
      · have y2 : ¬ 4 < a - s := fun z => q2 ((pu_nlt (a := 4) (b := a - s) (by omega) (by omega)).mpr z)
        have y1 : ¬ a = s := fun z => q (by rw [z])
        rw [hv (by omega)] at q3 q4 ⊢
        exact h1 (by omega) (by omega) q3 q4
      · rw [hv z.2.1] at q4; exact q4 z.2.2.2
theorem pm_num (hT : T ≤ 400) {a : Nat} (ha : a ≤ T) {lo hi : Int32} {Q : Int32 → Int32 → Int32 → Prop} (h1 : ∀ at' v, RN b T a lo hi = .inr (at', v) → ∀ bg, Q v (nI at') bg) (h0 : ∀ f, RN b T a lo hi = .inl f → ∀ at', Q (-1) at' (nI f)) : wp_Model_readNumber (nI a) (nI T) b lo hi Q := by
  have hs := scan_le (bBl b) ha
  refine ⟨T - a + 1, pm_blanks hT _ a (by omega) ?_⟩
  refine ⟨T - scan (bBl b) T a + 1, pm_num_h6 hT _ _ (by omega) (Nat.le_refl _) (fun y1 y2 y3 y4 => h1 _ _ (by rw [RN, if_pos ⟨y1, y2, y3, y4⟩]) _) (fun y => h0 _ (by rw [RN, if_neg y]) _) 0 (fun _ => by rw [Nat.sub_self]; rfl)⟩
/-- the class reads at most five digits -/
theorem pc_num_h12 (hT : T ≤ 400) (hB : ∀ k, ∃ x : Int8, b k = x.toInt32) {s : Nat} (hsT : s ≤ T) {lo hi w : Int32} {Q : Int32 → Int32 → Int32 → Prop} : ∀ k a, a + k = s + 5 → s ≤ a → a ≤ T → (scan (bDi b) T s = scan (bDi b) T a) →
    ((1 ≤ scan (bDi b) T s - s → scan (bDi b) T s - s ≤ 4 → ¬ nv b s (scan (bDi b) T s - s) < lo → nv b s (scan (bDi b) T s - s) ≤ hi → Q (nv b s (scan (bDi b) T s - s)) (nI (scan (bDi b) T s)) w)) →
    (¬ (1 ≤ scan (bDi b) T s - s ∧ scan (bDi b) T s - s ≤ 4 ∧ ¬ nv b s (scan (bDi b) T s - s) < lo ∧ nv b s (scan (bDi b) T s - s) ≤ hi) → ∀ at', Q (-1) at' (nI s)) →
    wp_Reader_readNumber_h12 lo hi (nI s) (nI T) b w Q (k + 1) (nv b s (a - s)) (nI a) := by
  intro k
  induction k with
  | zero =>
    intro a e hs haT hsc h1 h0
    have hb : ∀ at', Q (-1) at' (nI s) := h0 (fun z => by
      have := (scan_le (bDi b) haT).1
      omega)
    rw [wp_Reader_readNumber_h12, pk_sub hs]
    refine ⟨fun q => ⟨fun _ => hb _, fun _ => ⟨fun _ => hb _, fun z => absurd q z⟩⟩, fun q => absurd ((pu_nlt (a := 4) (b := a - s) (by omega) (by omega)).mpr (by omega)) q⟩
  | succ k ih =>
    intro a e hs haT hsc h1 h0
    have h4 : ¬ (4 : Int32) < nI (a - s) := fun q => by have := (pu_nlt (a := 4) (b := a - s) (by omega) (by omega)).mp q; omega
    have e1 : (48 : Int32).toInt = 48 := rfl
    have e2 : (57 : Int32).toInt = 57 := rfl
    have stop : ¬ (a < T ∧ bDi b a = true) → ((nI (a - s) < 1 → Q (-1) (nI a) (nI s)) ∧ (¬ nI (a - s) < 1 → ((4 < nI (a - s) → Q (-1) (nI a) (nI s)) ∧ (¬ 4 < nI (a - s) → ((nv b s (a - s) < lo → Q (-1) (nI a) (nI s)) ∧ (¬ nv b s (a - s) < lo → ((nv b s (a - s) ≤ hi → Q (nv b s (a - s)) (nI a) w) ∧ (¬ nv b s (a - s) ≤ hi → Q (-1) (nI a) (nI s))))))))) := by
      intro hst
      rw [scan_stop hst] at hsc
      rw [hsc] at h1 h0
      refine ⟨fun q => h0 (fun z => ?_) _, fun q => ⟨fun q2 => absurd q2 h4, fun _ => ⟨fun q3 => h0 (fun z => z.2.2.1 q3) _, fun q3 => ⟨fun q4 => h1 ?_ (by omega) q3 q4, fun q4 => h0 (fun z => q4 z.2.2.2) _⟩⟩⟩⟩
      · have := (pu_nlt (a := a - s) (b := 1) (by omega) (by omega)).mp q; omega
      · have : ¬ a - s < 1 := fun z => q ((pu_nlt (a := a - s) (b := 1) (by omega) (by omega)).mpr z)
        omega
    rw [wp_Reader_readNumber_h12, pk_sub hs]
    refine ⟨fun q => absurd q h4, fun _ => ?_⟩
    rcases Nat.lt_or_ge a T with haT' | haT'
    · have h8 := i8_and (hB a)
      have hdi : bDi b a = true ↔ (¬ (b a).toInt < 48 ∧ ¬ 57 < (b a).toInt) := by
        rw [← di_iff, pu_lt, pu_lt, e1, e2]
      refine t_in hT haT' ?_
      unfold wp_Reader_isDigit
      refine ⟨fun q => ⟨fun _ => stop (fun z => ?_), fun z => absurd rfl z⟩, fun q => ⟨fun q2 => ⟨fun _ => stop (fun z => ?_), fun z => absurd rfl z⟩, fun q2 => ⟨fun z => absurd z (by decide), fun _ => t_in hT haT' ?_⟩⟩⟩
      · have := hdi.mp z.2
        rw [pu_lt, e1] at q
        omega
      · have := hdi.mp z.2
        rw [pu_lt, e2] at q2
        omega
      · rw [pu_lt, e1] at q
        rw [pu_lt, e2] at q2
        have hd : bDi b a = true := hdi.mpr (by omega)
        have hv : b a &&& 255 = b a := by rw [pu_eq]; omega
        rw [hv, ← nI_succ]
        have := ih (a + 1) (by omega) (by omega) (by omega) (by rw [hsc, scan_step haT' hd]) h1 h0
        rw [show a + 1 - s = (a - s) + 1 by omega, nv, show s + (a - s) = a by omega] at this
        exact this
    · refine t_out hT (by omega) haT' ?_
      unfold wp_Reader_isDigit
      exact ⟨fun _ => ⟨fun _ => stop (fun z => by omega), fun z => absurd rfl z⟩, fun q => absurd (show (-1 : Int32) < 48 by decide) q⟩
theorem pc_num (hT : T ≤ 400) (hB : ∀ k, ∃ x : Int8, b k = x.toInt32) {a : Nat} (ha : a ≤ T) {lo hi w : Int32} {Q : Int32 → Int32 → Int32 → Prop} (h1 : ∀ at' v, RN b T a lo hi = .inr (at', v) → Q v (nI at') w) (h0 : ∀ f, RN b T a lo hi = .inl f → ∀ at', Q (-1) at' (nI f)) : wp_Reader_readNumber (nI T) b (nI a) w lo hi Q := by
  have hs := scan_le (bBl b) ha
  refine ⟨T - a + 1, pc_skip hT hB _ a (by omega) ?_⟩
  have := pc_num_h12 (w := w) hT hB hs.2 (lo := lo) (hi := hi) (Q := Q) 5 (scan (bBl b) T a) (by omega) (Nat.le_refl _) hs.2 rfl (fun y1 y2 y3 y4 => h1 _ _ (by rw [RN, if_pos ⟨y1, y2, y3, y4⟩])) (fun y => h0 _ (by rw [RN, if_neg y]))
  rw [Nat.sub_self] at this
  exact ⟨6, this⟩
theorem RN_inr {a : Nat} (ha : a ≤ T) {lo hi : Int32} {at' : Nat} {v : Int32} (h : RN b T a lo hi = .inr (at', v)) : a ≤ at' ∧ at' ≤ T ∧ ¬ v < lo ∧ v ≤ hi := by
  have hs := scan_le (bBl b) ha
  have he := scan_le (bDi b) hs.2
  unfold RN at h
  split at h
  · rename_i hc
    simp only [Sum.inr.injEq, Prod.mk.injEq] at h
    obtain ⟨rfl, rfl⟩ := h
    exact ⟨by omega, he.2, hc.2.2.1, hc.2.2.2⟩
  · cases h
/-- a clause read at a: where it is wrong, or where it ends, its place, its value -/
def RS (b : Nat → Int32) (T a : Nat) (p : Nat) (lo hi : Int32) : Nat ⊕ (Nat × Nat × Int32) := match RN b T a lo hi with
  | .inl f => .inl f
  | .inr (at', v) => .inr (at', p, v)
def RO (b : Nat → Int32) (T a : Nat) : Nat ⊕ (Nat × Nat × Int32) :=
  if isW b 8 (scan (bBl b) T a) (scan (bLe b) T (scan (bBl b) T a)) then .inr (scan (bLe b) T (scan (bBl b) T a), 6, 0) else
  if isW b 9 (scan (bBl b) T a) (scan (bLe b) T (scan (bBl b) T a)) then .inr (scan (bLe b) T (scan (bBl b) T a), 6, 1) else
  if isW b 10 (scan (bBl b) T a) (scan (bLe b) T (scan (bBl b) T a)) then .inr (scan (bLe b) T (scan (bBl b) T a), 6, 2) else .inl (scan (bBl b) T a)
/-- what stands behind the word of a clause -/
def RA (b : Nat → Int32) (T : Nat) (k e : Nat) : Nat ⊕ (Nat × Nat × Int32) :=
  if k = 0 then RS b T e 0 1 8 else if k = 1 then RS b T e 1 1 12 else if k = 2 then RS b T e 2 0 20 else if k = 3 then RS b T e 3 0 1000 else if k = 4 then RS b T e 4 0 100 else if k = 5 then RS b T e 5 0 4 else if k = 6 then RO b T e else
  match RN b T e 0 3 with
  | .inl f => .inl f
  | .inr (at', v) => RS b T at' (7 + v).toNatClampNeg 1 500
def RC (b : Nat → Int32) (T a : Nat) : Nat ⊕ (Nat × Nat × Int32) :=
  let s := scan (bBl b) T a
  let e := scan (bLe b) T s
  if isW b 0 s e then RA b T 0 e else if isW b 1 s e then RA b T 1 e else if isW b 2 s e then RA b T 2 e else if isW b 3 s e then RA b T 3 e else if isW b 4 s e then RA b T 4 e else if isW b 5 s e then RA b T 5 e else if isW b 6 s e then RA b T 6 e else if isW b 7 s e then RA b T 7 e else .inl s
theorem RC_is {a k : Nat} (hk : k < 8) (h : isW b k (scan (bBl b) T a) (scan (bLe b) T (scan (bBl b) T a)) = true) : RC b T a = RA b T k (scan (bLe b) T (scan (bBl b) T a)) := by
  have hne : ∀ j, j < 11 → j ≠ k → isW b j (scan (bBl b) T a) (scan (bLe b) T (scan (bBl b) T a)) = false := by
    intro j hj hjk
    cases hb : isW b j (scan (bBl b) T a) (scan (bLe b) T (scan (bBl b) T a)) with
    | false => rfl
    | true => exact absurd (isW_uniq hj (by omega) hb h) hjk
  have hr : k = 0 ∨ k = 1 ∨ k = 2 ∨ k = 3 ∨ k = 4 ∨ k = 5 ∨ k = 6 ∨ k = 7 := by omega
  unfold RC
  rcases hr with rfl | rfl | rfl | rfl | rfl | rfl | rfl | rfl
  · simp only [h, if_true]
  · simp [h, hne 0 (by decide) (by decide)]
  · simp [h, hne 0 (by decide) (by decide), hne 1 (by decide) (by decide)]
  · simp [h, hne 0 (by decide) (by decide), hne 1 (by decide) (by decide), hne 2 (by decide) (by decide)]
  · simp [h, hne 0 (by decide) (by decide), hne 1 (by decide) (by decide), hne 2 (by decide) (by decide), hne 3 (by decide) (by decide)]
  · simp [h, hne 0 (by decide) (by decide), hne 1 (by decide) (by decide), hne 2 (by decide) (by decide), hne 3 (by decide) (by decide), hne 4 (by decide) (by decide)]
  · simp [h, hne 0 (by decide) (by decide), hne 1 (by decide) (by decide), hne 2 (by decide) (by decide), hne 3 (by decide) (by decide), hne 4 (by decide) (by decide), hne 5 (by decide) (by decide)]
  · simp [h, hne 0 (by decide) (by decide), hne 1 (by decide) (by decide), hne 2 (by decide) (by decide), hne 3 (by decide) (by decide), hne 4 (by decide) (by decide), hne 5 (by decide) (by decide), hne 6 (by decide) (by decide)]
theorem RC_no {a : Nat} (h : ∀ k, k < 8 → ¬ isW b k (scan (bBl b) T a) (scan (bLe b) T (scan (bBl b) T a)) = true) : RC b T a = .inl (scan (bBl b) T a) := by
  unfold RC
  simp [h 0 (by decide), h 1 (by decide), h 2 (by decide), h 3 (by decide), h 4 (by decide), h 5 (by decide), h 6 (by decide), h 7 (by decide)]
end
