/-! Plain facts on ints, and the calls that are short: what the class answers the model answers. -/
theorem pu_lt (a b : Int32) : a < b ↔ a.toInt < b.toInt := Int32.lt_iff_toInt_lt
theorem pu_le (a b : Int32) : a ≤ b ↔ a.toInt ≤ b.toInt := Int32.le_iff_toInt_le
theorem pu_eq (a b : Int32) : a = b ↔ a.toInt = b.toInt := Int32.toInt_inj.symm
theorem pu_nle {a b : Nat} (ha : a < 2 ^ 31) (hb : b < 2 ^ 31) : nI a ≤ nI b ↔ a ≤ b := by
  rw [pu_le, nI_toInt ha, nI_toInt hb]; omega
theorem pu_nlt {a b : Nat} (ha : a < 2 ^ 31) (hb : b < 2 ^ 31) : nI a < nI b ↔ a < b := by
  rw [pu_lt, nI_toInt ha, nI_toInt hb]; omega
theorem pu_neq {a b : Nat} (ha : a < 2 ^ 31) (hb : b < 2 ^ 31) : nI a = nI b ↔ a = b := by
  rw [pu_eq, nI_toInt ha, nI_toInt hb]; omega
theorem pu_in {k n : Nat} (hk : k < 2 ^ 31) : vp_in (nI k) n ↔ k < n := by
  unfold vp_in
  rw [nI_clamp hk]
  have := nI_pos hk
  constructor
  · intro h
    rcases Nat.lt_or_ge k n with h1 | h1
    · exact h1
    · exact absurd (Or.inr h1) h
  · intro h h2
    rcases h2 with h2 | h2
    · exact this h2
    · omega
theorem pu_inI {k n : Nat} (h : k < n) (hn : n < 2 ^ 31) : vp_in (nI k) n := (pu_in (by omega)).mpr h
/-- an int that isn't below 0 is a number -/
theorem pu_ex {p : Int32} (h : ¬ p < 0) : ∃ k, k < 2 ^ 31 ∧ p = nI k := by
  have h1 := p.toInt_lt
  rw [pu_lt] at h
  have h0 : (0 : Int32).toInt = 0 := rfl
  refine ⟨p.toInt.toNat, by omega, ?_⟩
  rw [pu_eq, nI_toInt (by omega)]
  omega
/-- an int between 0 and n -/
theorem pu_exb {p : Int32} {n : Nat} (hn : n < 2 ^ 31) (h : ¬ p < 0) (h2 : ¬ nI n ≤ p) : ∃ k, k < n ∧ p = nI k := by
  obtain ⟨k, hk, rfl⟩ := pu_ex h
  rw [pu_nle hn hk] at h2
  exact ⟨k, by omega, rfl⟩
theorem pu_lit (n : Nat) : (OfNat.ofNat n : Int32) = nI n := rfl
theorem pu_upd_same (f : Nat → Int32) (k : Nat) (x : Int32) : upd f k x k = x := by simp [upd]
theorem pu_upd_ne {f : Nat → Int32} {k j : Nat} {x : Int32} (h : j ≠ k) : upd f k x j = f j := by simp [upd, h]
theorem pu_upd_id (f : Nat → Int32) (k : Nat) : upd f k (f k) = f := by
  funext j
  by_cases h : j = k
  · subst h; simp [upd]
  · simp [upd, h]
theorem pu_upd_upd (f : Nat → Int32) (k : Nat) (x y : Int32) : upd (upd f k x) k y = upd f k y := by
  funext j
  by_cases h : j = k
  · subst h; simp [upd]
  · simp [upd, h]
theorem pu_cmp_lt (x y : Int64) : (lg_cmp x y < 0) ↔ x < y := by
  unfold lg_cmp
  simp only [gt_iff_lt, Int64.lt_iff_toInt_lt, ← Int64.toInt_inj]
  repeat' split
  all_goals (constructor <;> intro hh <;> first | omega | decide | exact absurd hh (by decide))
theorem pu_wlt (a b : Int32) : a.toInt64 < b.toInt64 ↔ a < b := by
  rw [Int64.lt_iff_toInt_lt, pu_lt, Int32.toInt_toInt64, Int32.toInt_toInt64]
theorem pu_nlt_le (a b : Int32) : b < a ↔ ¬ a ≤ b := by rw [pu_lt, pu_le]; omega
/-- the model's 'in', of ints -/
theorem pm_in (p a b : Int32) {A B : Int64} (hA : a.toInt64 = A) (hB : b.toInt64 = B) (Q : Int32 → Prop) : wp_Model_in p.toInt64 A B Q ↔ Q (if p < a then 0 else if p ≤ b then 1 else 0) := by
  subst hA; subst hB
  unfold wp_Model_in
  rw [pu_cmp_lt, lg_cmp_gt, pu_wlt, pu_wlt, pu_nlt_le p b]
  by_cases h : p < a
  · simp [h]
  · by_cases h2 : p ≤ b
    · simp only [h, h2, not_true, not_false_iff, false_implies, true_implies, true_and, if_true, if_false]
    · simp only [h, h2, not_true, not_false_iff, false_implies, true_implies, true_and, and_true, if_true, if_false]
theorem pm_th0 (t c : Int32) (Q : Int32 → Int32 → Prop) : wp_Model_throwsIf t 0 c Q ↔ Q 0 t := by
  unfold wp_Model_throwsIf
  have : narrow .boolean (.int 0) = .int 0 := by rfl
  simp [this]
theorem pm_th1 (t c : Int32) (Q : Int32 → Int32 → Prop) : wp_Model_throwsIf t 1 c Q ↔ Q 1 c := by
  unfold wp_Model_throwsIf
  have : narrow .boolean (.int 1) = .int 1 := by rfl
  have h1 : ¬ (1 : Int32) = 0 := by decide
  simp [this, h1]
theorem pu_pred_le {n : Nat} (hn : n < 2 ^ 31) (p : Int32) : (p ≤ nI n - 1) ↔ ¬ nI n ≤ p := by
  rw [pu_le, pu_le, Int32.toInt_sub, nI_toInt hn]
  have h1 : (1 : Int32).toInt = 1 := rfl
  rw [h1]
  have e : ((n : Int) - 1).bmod (2 ^ 32) = (n : Int) - 1 := by
    apply Int.bmod_eq_of_le <;> omega
  rw [e]
  omega
theorem pm_no {n : Nat} (hn : n < 2 ^ 31) (p : Int32) (Q : Int32 → Prop) : wp_Model_in p.toInt64 0 ((nI n - 1).toInt64) Q ↔ Q (if p < 0 then 0 else if nI n ≤ p then 0 else 1) := by
  rw [pm_in p 0 (nI n - 1) (by rfl) rfl]
  by_cases h : p < 0
  · simp only [h, if_true]
  · simp only [h, if_false, pu_pred_le hn]
    by_cases h2 : nI n ≤ p
    · simp only [h2, not_true, if_true, if_false]
    · simp only [h2, not_false_iff, if_true, if_false]
theorem pm_noMan {n : Nat} (hn : n < 2 ^ 31) (p : Int32) (Q : Int32 → Prop) : wp_Model_noMan (nI n) p Q ↔ Q (if p < 0 then 1 else if nI n ≤ p then 1 else 0) := by
  unfold wp_Model_noMan
  rw [pm_no hn]
  by_cases h : p < 0
  · simp [h]
  · by_cases h2 : nI n ≤ p <;> simp [h, h2]
theorem pm_noShip {n : Nat} (hn : n < 2 ^ 31) (p : Int32) (Q : Int32 → Prop) : wp_Model_noShip (nI n) p Q ↔ Q (if p < 0 then 1 else if nI n ≤ p then 1 else 0) := pm_noMan hn p Q
theorem pc_menHas (m p : Int32) (Q : Int32 → Prop) : wp_Men_has m p Q ↔ Q (if p < 0 then 0 else if m ≤ p then 0 else 1) := by
  unfold wp_Men_has
  by_cases h : p < 0
  · simp [h]
  · by_cases h2 : m ≤ p
    · simp only [h, h2, not_true, not_false_iff, false_implies, true_implies, true_and, and_true, if_true, if_false]
    · simp only [h, h2, not_true, not_false_iff, false_implies, true_implies, true_and, and_true, if_true, if_false]
theorem pc_shipsHas (m p : Int32) (Q : Int32 → Prop) : wp_Ships_has m p Q ↔ Q (if p < 0 then 0 else if m ≤ p then 0 else 1) := pc_menHas m p Q
theorem pc_ledgerHas (m p : Int32) (Q : Int32 → Prop) : wp_Ledger_has m p Q ↔ Q (if p < 0 then 0 else if m ≤ p then 0 else 1) := pc_menHas m p Q
/-- the number of an exception, by the order in which the law catches it -/
def ecode (l : List String) (E : String) : Int32 := match l with
  | [] => 0
  | a :: r => if a = E then nI 1 else if r.head? = some E then nI 2 else nI 3
abbrev xIA := "java/lang/IllegalArgumentException"
abbrev xIO := "java/lang/IndexOutOfBoundsException"
abbrev xUO := "java/lang/UnsupportedOperationException"
abbrev xNS := "java/util/NoSuchElementException"
theorem p10 : ((1 : Int32) = 0) = False := by decide
/-- the men's number -/
def I_M (m_size : Int32) : Prop := ∃ n, n ≤ 24 ∧ m_size = nI n
/-- the ships: their number, their hatches, tons, skills -/
def I_S (s_size : Int32) (s_hatches s_left s_skill : Nat → Int32) : Prop := (∃ n, n ≤ 10 ∧ s_size = nI n) ∧ (∀ k, ∃ h, h ≤ 4 ∧ s_hatches k = nI h) ∧ (∀ k, ∃ t, t ≤ 2000 ∧ s_left k = nI t) ∧ (∀ k, ∃ q, q ≤ 3 ∧ s_skill k = nI q)
/-- the tape -/
def I_T (t_length : Int32) (t_bytes : Nat → Int32) : Prop := (∃ n, n ≤ 400 ∧ t_length = nI n) ∧ ∀ k, ∃ b : Int8, t_bytes k = b.toInt32
/-- the agreement -/
def I_A (ag : Nat → Int32) : Prop := (∃ g, 1 ≤ g ∧ g ≤ 8 ∧ ag 0 = nI g) ∧ (∃ c, c ≤ 12 ∧ ag 1 = nI c)
theorem q_man {m_size : Int32} {m_skills m_barredUpTo m_gangShip m_gangHatch : Nat → Int32} (hM : I_M m_size) (p0 : Int32) :
    wp_Dock_man m_size m_skills m_barredUpTo m_gangShip m_gangHatch p0
      (fun r a1 a2 a3 a4 a5 => wp_Model_man m_size m_skills m_barredUpTo m_gangShip m_gangHatch p0 (fun b th b1 b2 b3 b4 b5 => th = 0 ∧ r = b ∧ (b1 = a1 ∧ b2 = a2 ∧ b3 = a3 ∧ b4 = a4 ∧ b5 = a5) ∧ I_M a1))
      (fun E a1 a2 a3 a4 a5 => wp_Model_man m_size m_skills m_barredUpTo m_gangShip m_gangHatch p0 (fun b th b1 b2 b3 b4 b5 => (th = ecode [xIA, xUO] E) ∧ (b1 = a1 ∧ b2 = a2 ∧ b3 = a3 ∧ b4 = a4 ∧ b5 = a5) ∧ I_M a1)) := by
  have hM' := hM
  obtain ⟨M, hM, rfl⟩ := hM
  unfold wp_Dock_man wp_Men_add wp_Men_leaveGang wp_Model_man
  simp only [pm_in p0 1 15 (A := 1) (B := 15) rfl rfl]
  by_cases h1 : p0 < 1
  · simp only [h1, pm_th1, p10, not_true, not_false_iff, false_implies, true_implies, true_and, and_true, if_true, if_false, and_self]
    refine ⟨rfl, hM'⟩
  · by_cases h2 : p0 ≤ 15
    · by_cases h3 : nI M < 24
      · have h4 : (nI M = 24) = False := by
          have := (pu_nlt (a := M) (b := 24) (by omega) (by omega)).mp h3
          exact eq_false (fun e => by have := (pu_neq (a := M) (b := 24) (by omega) (by omega)).mp e; omega)
        have h5 : M < 24 := (pu_nlt (a := M) (b := 24) (by omega) (by omega)).mp h3
        have h6 : vp_in (nI M) 24 := pu_inI h5 (by omega)
        simp only [h1, h2, h3, h4, h6, pm_th0, p10, not_true, not_false_iff, false_implies, true_implies, true_and, and_true, if_true, if_false, and_self]
        refine ⟨?_, ⟨M + 1, by omega, (nI_succ M).symm⟩⟩
        have := nI_pred M
        rw [nI_succ] at this
        exact this.symm
      · have h5 : M = 24 := by
          have := mt (pu_nlt (a := M) (b := 24) (by omega) (by omega)).mpr h3
          omega
        have h4 : (nI M = 24) = True := by rw [h5]; exact eq_true rfl
        simp only [h1, h2, h3, h4, pm_th0, pm_th1, p10, not_true, not_false_iff, false_implies, true_implies, true_and, and_true, if_true, if_false, and_self]
        refine ⟨by rfl, hM'⟩
    · simp only [h1, h2, pm_th1, p10, not_true, not_false_iff, false_implies, true_implies, true_and, and_true, if_true, if_false, and_self]
      refine ⟨by rfl, hM'⟩
