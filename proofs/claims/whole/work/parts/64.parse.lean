/-! The agreement's text: what both readers read. -/
/-- on from a as long as P holds -/
def sc (P : Nat → Bool) (T : Nat) : Nat → Nat → Nat
  | 0, a => a
  | k + 1, a => if a < T ∧ P a = true then sc P T k (a + 1) else a
def scan (P : Nat → Bool) (T a : Nat) : Nat := sc P T (T - a) a
theorem sc_le (P : Nat → Bool) (T : Nat) : ∀ k a, a ≤ sc P T k a ∧ sc P T k a ≤ a + k
  | 0, a => ⟨Nat.le_refl _, Nat.le_refl _⟩
  | k + 1, a => by
    rw [sc]
    split
    · have := sc_le P T k (a + 1); omega
    · omega
theorem scan_le (P : Nat → Bool) {T a : Nat} (h : a ≤ T) : a ≤ scan P T a ∧ scan P T a ≤ T := by
  have := sc_le P T (T - a) a
  unfold scan
  omega
theorem scan_stop {P : Nat → Bool} {T a : Nat} (h : ¬ (a < T ∧ P a = true)) : scan P T a = a := by
  unfold scan
  cases T - a with
  | zero => rfl
  | succ k => rw [sc, if_neg h]
theorem scan_step {P : Nat → Bool} {T a : Nat} (h1 : a < T) (h2 : P a = true) : scan P T a = scan P T (a + 1) := by
  unfold scan
  rw [show T - a = (T - (a + 1)) + 1 by omega, sc, if_pos ⟨h1, h2⟩]
def bBl (b : Nat → Int32) (k : Nat) : Bool := decide (b k = 32)
def bLe (b : Nat → Int32) (k : Nat) : Bool := decide (¬ b k < 97 ∧ ¬ 122 < b k)
def bDi (b : Nat → Int32) (k : Nat) : Bool := decide (¬ b k < 48 ∧ ¬ 57 < b k)
theorem i8_all : ∀ n, n < 256 → (0 ≤ (Int8.ofBitVec (BitVec.ofNat 8 n)).toInt32.toInt ∧ (Int8.ofBitVec (BitVec.ofNat 8 n)).toInt32.toInt ≤ 127 ∧ ((Int8.ofBitVec (BitVec.ofNat 8 n)).toInt32 &&& 255).toInt = (Int8.ofBitVec (BitVec.ofNat 8 n)).toInt32.toInt) ∨ ((Int8.ofBitVec (BitVec.ofNat 8 n)).toInt32.toInt < 0 ∧ 128 ≤ ((Int8.ofBitVec (BitVec.ofNat 8 n)).toInt32 &&& 255).toInt ∧ ((Int8.ofBitVec (BitVec.ofNat 8 n)).toInt32 &&& 255).toInt ≤ 255) := by decide +kernel
theorem i8_and {v : Int32} (h : ∃ x : Int8, v = x.toInt32) : (0 ≤ v.toInt ∧ v.toInt ≤ 127 ∧ (v &&& 255).toInt = v.toInt) ∨ (v.toInt < 0 ∧ 128 ≤ (v &&& 255).toInt ∧ (v &&& 255).toInt ≤ 255) := by
  obtain ⟨x, rfl⟩ := h
  have h := i8_all x.toBitVec.toNat x.toBitVec.isLt
  have e : Int8.ofBitVec (BitVec.ofNat 8 x.toBitVec.toNat) = x := by
    apply Int8.toBitVec_inj.1
    show BitVec.ofNat 8 x.toBitVec.toNat = x.toBitVec
    simp
  rw [e] at h
  exact h
section
variable {b : Nat → Int32} {T : Nat}
theorem t_in (hT : T ≤ 400) {a : Nat} (h : a < T) {Q : Int32 → Prop} (hQ : Q (b a &&& 255)) : wp_Tape_byteAt (nI T) b (nI a) Q := by
  unfold wp_Tape_byteAt
  rw [nI_clamp (by omega)]
  refine ⟨fun q => absurd q (nI_pos (by omega)), fun _ => ⟨fun q => ?_, fun _ => ⟨fun q => ?_, fun _ => ⟨pu_inI (by omega) (by omega), hQ⟩⟩⟩⟩
  · have := (pu_nle (by omega) (by omega)).mp q; omega
  · have := (pu_nle (a := 400) (b := a) (by omega) (by omega)).mp q; omega
theorem t_out (hT : T ≤ 400) {a : Nat} (ha : a < 2 ^ 30) (h : T ≤ a) {Q : Int32 → Prop} (hQ : Q (-1)) : wp_Tape_byteAt (nI T) b (nI a) Q := by
  unfold wp_Tape_byteAt
  refine ⟨fun q => absurd q (nI_pos (by omega)), fun _ => ⟨fun _ => hQ, fun q => absurd ((pu_nle (by omega) (by omega)).mpr h) q⟩⟩
theorem t_isAt (hT : T ≤ 400) {a : Nat} (ha : a ≤ T) {lo hi : Int32} {Q : Int32 → Prop} (h1 : a < T → (¬ b a < lo ∧ ¬ hi < b a) → Q 1) (h0 : ¬ (a < T ∧ (¬ b a < lo ∧ ¬ hi < b a)) → Q 0) : wp_Model_isAt (nI a) (nI T) b lo hi Q := by
  unfold wp_Model_isAt
  rw [nI_clamp (by omega)]
  refine ⟨fun q => h0 (fun z => ?_), fun q => ?_⟩
  · have := (pu_nle (by omega) (by omega)).mp q; omega
  · have hlt : a < T := by
      rcases Nat.lt_or_ge a T with z | z
      · exact z
      · exact absurd ((pu_nle (by omega) (by omega)).mpr z) q
    have i1 : vp_in (nI a) 400 := pu_inI (by omega) (by omega)
    exact ⟨i1, fun c => h0 (fun z => z.2.1 c), fun c => ⟨i1, fun d => h0 (fun z => z.2.2 d), fun d => h1 hlt ⟨c, d⟩⟩⟩
theorem bl_iff (a : Nat) : (¬ b a < 32 ∧ ¬ 32 < b a) ↔ bBl b a = true := by
  unfold bBl
  rw [decide_eq_true_iff, pu_lt, pu_lt, pu_eq]
  have : (32 : Int32).toInt = 32 := rfl
  omega
theorem pc_skip (hT : T ≤ 400) (hB : ∀ k, ∃ x : Int8, b k = x.toInt32) {Q : Int32 → Prop} : ∀ k a, a + k = T → Q (nI (scan (bBl b) T a)) → wp_Reader_skipBlanks_h0 (nI T) b Q (k + 1) (nI a)
  | 0, a, e, hQ => by
    have e : a = T := by omega
    subst e
    rw [scan_stop (by omega)] at hQ
    rw [wp_Reader_skipBlanks_h0]
    exact ⟨fun _ => hQ, fun h => absurd (Int32.le_refl _) h⟩
  | k + 1, a, e, hQ => by
    have h8 := i8_and (hB a)
    have e32 : (32 : Int32).toInt = 32 := rfl
    rw [wp_Reader_skipBlanks_h0]
    refine ⟨fun h => ?_, fun _ => t_in hT (by omega) ⟨fun h => ?_, fun h => ?_⟩⟩
    · have := (pu_nle (by omega) (by omega)).mp h; omega
    · have hb : bBl b a = true := by
        rw [pu_eq] at h
        unfold bBl
        rw [decide_eq_true_iff, pu_eq]
        omega
      rw [scan_step (by omega) hb] at hQ
      rw [← nI_succ]
      exact pc_skip hT hB k (a + 1) (by omega) hQ
    · have hb : ¬ bBl b a = true := by
        rw [pu_eq] at h
        unfold bBl
        rw [decide_eq_true_iff, pu_eq]
        omega
      rw [scan_stop (fun z => hb z.2)] at hQ
      exact hQ
theorem pc_wordEnd (hT : T ≤ 400) (hB : ∀ k, ∃ x : Int8, b k = x.toInt32) {Q : Int32 → Prop} : ∀ k a, a + k = T → Q (nI (scan (bLe b) T a)) → wp_Reader_wordEnd_h2 (nI T) b Q (k + 1) (nI a)
  | 0, a, e, hQ => by
    have e : a = T := by omega
    subst e
    rw [scan_stop (by omega)] at hQ
    rw [wp_Reader_wordEnd_h2]
    exact ⟨fun _ => hQ, fun h => absurd (Int32.le_refl _) h⟩
  | k + 1, a, e, hQ => by
    have h8 := i8_and (hB a)
    have e1 : (97 : Int32).toInt = 97 := rfl
    have e2 : (122 : Int32).toInt = 122 := rfl
    have yes : bLe b a = true → wp_Reader_wordEnd_h2 (nI T) b Q (k + 1) (nI (a + 1)) := by
      intro hb
      rw [scan_step (by omega) hb] at hQ
      exact pc_wordEnd hT hB k (a + 1) (by omega) hQ
    have no : ¬ bLe b a = true → Q (nI a) := by
      intro hb
      rw [scan_stop (fun z => hb z.2)] at hQ
      exact hQ
    have hle : bLe b a = true ↔ (¬ (b a).toInt < 97 ∧ ¬ 122 < (b a).toInt) := by
      unfold bLe
      rw [decide_eq_true_iff, pu_lt, pu_lt, e1, e2]
    rw [wp_Reader_wordEnd_h2]
    refine ⟨fun h => ?_, fun _ => t_in hT (by omega) ?_⟩
    · have := (pu_nle (by omega) (by omega)).mp h; omega
    · unfold wp_Reader_isLetter
      rw [← nI_succ]
      refine ⟨fun h => ⟨fun _ => no ?_, fun q => absurd rfl q⟩, fun h => ⟨fun h2 => ⟨fun _ => no ?_, fun q => absurd rfl q⟩, fun h2 => ⟨fun q => absurd q (by decide), fun _ => yes ?_⟩⟩⟩
      · rw [pu_lt, e1] at h; rw [hle]; omega
      · rw [pu_lt, e2] at h2; rw [hle]; omega
      · rw [pu_lt, e1] at h; rw [pu_lt, e2] at h2; rw [hle]; omega
theorem pm_blanks (hT : T ≤ 400) {Q : Int32 → Int32 → Prop} : ∀ k a, a + k = T → Q (nI (scan (bBl b) T a)) (nI (scan (bBl b) T a)) → wp_Model_blanks_h0 (nI T) b Q (k + 1) (nI a)
  | 0, a, e, hQ => by
    have e : a = T := by omega
    subst e
    rw [scan_stop (by omega)] at hQ
    rw [wp_Model_blanks_h0]
    exact t_isAt hT (Nat.le_refl _) (fun h => absurd h (Nat.lt_irrefl _)) (fun _ => ⟨fun _ => hQ, fun q => absurd rfl q⟩)
  | k + 1, a, e, hQ => by
    rw [wp_Model_blanks_h0]
    refine t_isAt hT (by omega) (fun h1 h2 => ⟨fun q => absurd q (by decide), fun _ => ?_⟩) (fun h => ⟨fun _ => ?_, fun q => absurd rfl q⟩)
    · rw [scan_step h1 ((bl_iff a).mp h2)] at hQ
      rw [← nI_succ]
      exact pm_blanks hT k (a + 1) (by omega) hQ
    · rw [scan_stop (fun z => h ⟨z.1, (bl_iff a).mpr z.2⟩)] at hQ
      exact hQ
/-- the first n letters of a word stand at s -/
def eqW (b : Nat → Int32) (k s : Nat) : Nat → Bool
  | 0 => true
  | n + 1 => eqW b k s n && decide (b (s + n) = (bytJS.getD k []).getD n 0)
/-- the word k stands from s to e -/
def isW (b : Nat → Int32) (k s e : Nat) : Bool := decide (e = s + lenJS.getD k 0) && eqW b k s (lenJS.getD k 0)
theorem byt_let : ∀ k, k < 11 → ∀ j, j < lenJS.getD k 0 → 97 ≤ ((bytJS.getD k []).getD j 0).toInt ∧ ((bytJS.getD k []).getD j 0).toInt ≤ 122 := by decide +kernel
theorem eqW_spec {k s : Nat} : ∀ n, eqW b k s n = true ↔ ∀ j, j < n → b (s + j) = (bytJS.getD k []).getD j 0
  | 0 => ⟨fun _ j hj => absurd hj (Nat.not_lt_zero j), fun _ => rfl⟩
  | n + 1 => by
    rw [eqW, Bool.and_eq_true, eqW_spec n, decide_eq_true_iff]
    constructor
    · rintro ⟨h1, h2⟩ j hj
      rcases Nat.lt_or_ge j n with z | z
      · exact h1 j z
      · rw [show j = n by omega]; exact h2
    · intro h
      exact ⟨fun j hj => h j (by omega), h n (by omega)⟩
theorem isW_spec {k s e : Nat} : isW b k s e = true ↔ (e = s + lenJS.getD k 0 ∧ ∀ j, j < lenJS.getD k 0 → b (s + j) = (bytJS.getD k []).getD j 0) := by
  rw [isW, Bool.and_eq_true, decide_eq_true_iff, eqW_spec]
theorem words_apart : ∀ k, k < 11 → ∀ k', k' < 11 → k ≠ k' → lenJS.getD k 0 ≠ lenJS.getD k' 0 ∨ ∃ j, j < 8 ∧ j < lenJS.getD k 0 ∧ (bytJS.getD k []).getD j 0 ≠ (bytJS.getD k' []).getD j 0 := by decide +kernel
theorem isW_uniq {k k' s e : Nat} (hk : k < 11) (hk' : k' < 11) (h : isW b k s e = true) (h' : isW b k' s e = true) : k = k' := by
  rw [isW_spec] at h h'
  rcases Nat.decEq k k' with q | q
  · rcases words_apart k hk k' hk' q with z | ⟨j, hj8, hj, z⟩
    · omega
    · exact absurd ((h.2 j hj).symm.trans (h'.2 j (by omega))) z
  · exact q
theorem len_3 : ∀ k, k < 11 → 3 ≤ lenJS.getD k 0 ∧ lenJS.getD k 0 ≤ 8 := by decide +kernel
theorem pc_isWord_h15 (hT : T ≤ 400) (hB : ∀ k, ∃ x : Int8, b k = x.toInt32) {k s : Nat} (hk : k < 11) (hs : s + lenJS.getD k 0 ≤ T) {Q : Int32 → Prop} (h1 : eqW b k s (lenJS.getD k 0) = true → Q 1) (h0 : ¬ eqW b k s (lenJS.getD k 0) = true → Q 0) : ∀ n j, j + n = lenJS.getD k 0 → eqW b k s j = true → wp_Reader_isWord_h15 k (nI s) (nI T) b Q (n + 1) (nI j)
  | 0, j, e, hj => by
    have e : j = lenJS.getD k 0 := by omega
    rw [wp_Reader_isWord_h15]
    refine ⟨hk, fun _ => h1 (by rw [← e]; exact hj), fun q => absurd (by rw [e]; exact Int32.le_refl _) q⟩
  | n + 1, j, e, hj => by
    have hlen := len_3 k hk
    have h8 := i8_and (hB (s + j))
    have hbl := byt_let k hk j (by omega)
    rw [wp_Reader_isWord_h15]
    refine ⟨hk, fun q => ?_, fun _ => ?_⟩
    · have := (pu_nle (by omega) (by omega)).mp q; omega
    · rw [nI_add]
      refine t_in hT (by omega) ⟨hk, pu_inI (by omega) (by omega), ?_⟩
      rw [nI_clamp (by omega)]
      refine ⟨fun q => ?_, fun q => h0 (fun z => ?_)⟩
      · rw [← nI_succ]
        refine pc_isWord_h15 hT hB hk hs h1 h0 n (j + 1) (by omega) ?_
        rw [eqW, hj, Bool.true_and, decide_eq_true_iff, pu_eq]
        rw [pu_eq] at q
        omega
      · have := (eqW_spec _).mp z j (by omega)
        rw [pu_eq] at this q
        omega
theorem pc_isWord (hT : T ≤ 400) (hB : ∀ k, ∃ x : Int8, b k = x.toInt32) {k s e : Nat} (hk : k < 11) (hse : s ≤ e) (he : e ≤ T) {Q : Int32 → Prop} (h1 : isW b k s e = true → Q 1) (h0 : ¬ isW b k s e = true → Q 0) : wp_Reader_isWord (nI T) b k (nI s) (nI e) Q := by
  have hlen := len_3 k hk
  refine ⟨hk, ?_⟩
  rw [pk_sub hse]
  dsimp only
  rw [pu_neq (by omega) (by omega)]
  refine ⟨fun q => ⟨lenJS.getD k 0 + 1, pc_isWord_h15 hT hB hk (by omega) (fun z => h1 ?_) (fun z => h0 (fun y => z ?_)) _ 0 (by omega) rfl⟩, fun q => h0 (fun y => ?_)⟩
  · rw [isW, z, Bool.and_true, decide_eq_true_iff]; omega
  · rw [isW, Bool.and_eq_true] at y
    exact y.2
  · rw [isW_spec] at y
    omega
theorem pm_isWord_h24 (hT : T ≤ 400) {k s : Nat} (hk : k < 11) (hs : s + lenJS.getD k 0 ≤ T) {Q : Int32 → Prop} (h1 : eqW b k s (lenJS.getD k 0) = true → Q 1) (h0 : ¬ eqW b k s (lenJS.getD k 0) = true → Q 0) : ∀ n j, j + n = lenJS.getD k 0 → eqW b k s j = true → wp_Model_isWord_h24 k (nI s) b Q (n + 1) 1 (nI j)
  | 0, j, e, hj => by
    have e : j = lenJS.getD k 0 := by omega
    rw [wp_Model_isWord_h24]
    refine ⟨fun q => absurd q (by decide), fun _ => ⟨hk, fun _ => ⟨rfl, h1 (by rw [← e]; exact hj)⟩, fun q => absurd (by rw [e]; exact Int32.le_refl _) q⟩⟩
  | n + 1, j, e, hj => by
    have hlen := len_3 k hk
    rw [wp_Model_isWord_h24]
    refine ⟨fun q => absurd q (by decide), fun _ => ⟨hk, fun q => ?_, fun _ => ?_⟩⟩
    · have := (pu_nle (by omega) (by omega)).mp q; omega
    · rw [nI_add]
      refine ⟨pu_inI (by omega) (by omega), hk, pu_inI (by omega) (by omega), ?_⟩
      rw [nI_clamp (by omega), nI_clamp (by omega), ← nI_succ]
      refine ⟨fun q => pm_isWord_h24 hT hk hs h1 h0 n (j + 1) (by omega) ?_, fun q => ?_⟩
      · rw [eqW, hj, Bool.true_and, decide_eq_true_iff]; exact q
      · have hz : Q 0 := h0 (fun z => q ((eqW_spec _).mp z j (by omega)))
        cases n with
        | zero =>
          rw [wp_Model_isWord_h24]
          exact ⟨fun _ => ⟨rfl, hz⟩, fun q => absurd rfl q⟩
        | succ n =>
          rw [wp_Model_isWord_h24]
          exact ⟨fun _ => ⟨rfl, hz⟩, fun q => absurd rfl q⟩
theorem pm_isWord (hT : T ≤ 400) {k s e : Nat} (hk : k < 11) (hse : s ≤ e) (he : e ≤ T) {Q : Int32 → Prop} (h1 : isW b k s e = true → Q 1) (h0 : ¬ isW b k s e = true → Q 0) : wp_Model_isWord (nI e) (nI s) b k Q := by
  have hlen := len_3 k hk
  refine ⟨hk, ?_⟩
  rw [pk_sub hse]
  dsimp only
  rw [pu_neq (by omega) (by omega)]
  refine ⟨fun q => ⟨lenJS.getD k 0 + 1, pm_isWord_h24 hT hk (by omega) (fun z => h1 ?_) (fun z => h0 (fun y => z ?_)) _ 0 (by omega) rfl⟩, fun q => ⟨1, ?_⟩⟩
  · rw [isW, z, Bool.and_true, decide_eq_true_iff]; omega
  · rw [isW, Bool.and_eq_true] at y
    exact y.2
  · rw [wp_Model_isWord_h24]
    refine ⟨fun _ => ⟨rfl, h0 (fun y => ?_)⟩, fun q => absurd rfl q⟩
    rw [isW_spec] at y
    omega
theorem clw_lt : ∀ i, i < 8 → cl_w.getD i 0 < 8 := by decide +kernel
theorem pc_clauseOf_h11 (hT : T ≤ 400) (hB : ∀ k, ∃ x : Int8, b k = x.toInt32) {s e : Nat} (hse : s ≤ e) (he : e ≤ T) {Q : Nat → Prop} (h1 : ∀ i, i < 8 → isW b (cl_w.getD i 0) s e = true → Q i) (h0 : (∀ i, i < 8 → ¬ isW b (cl_w.getD i 0) s e = true) → Q 8) : ∀ k i, i + k = 8 → (∀ j, j < i → ¬ isW b (cl_w.getD j 0) s e = true) → wp_Reader_clauseOf_h11 (nI s) (nI e) 8 (nI T) b Q (k + 1) (nI i)
  | 0, i, ei, h => by
    have ei : i = 8 := by omega
    subst ei
    rw [wp_Reader_clauseOf_h11]
    exact ⟨fun _ => h0 h, fun q => absurd (show (8 : Int32) ≤ nI 8 by decide) q⟩
  | k + 1, i, ei, h => by
    rw [wp_Reader_clauseOf_h11, nI_clamp (by omega)]
    refine ⟨fun q => ?_, fun _ => ⟨pu_inI (by omega) (by omega), by omega, ?_⟩⟩
    · have := (pu_nle (a := 8) (b := i) (by omega) (by omega)).mp q; omega
    · refine pc_isWord hT hB (Nat.lt_trans (clw_lt i (by omega)) (by omega)) hse he (fun z => ⟨fun q => absurd q (by decide), fun _ => ⟨by omega, h1 i (by omega) z⟩⟩) (fun z => ⟨fun _ => ?_, fun q => absurd rfl q⟩)
      rw [← nI_succ]
      refine pc_clauseOf_h11 hT hB hse he h1 h0 k (i + 1) (by omega) (fun j hj => ?_)
      rcases Nat.lt_or_ge j i with y | y
      · exact h j y
      · rw [show j = i by omega]; exact z
theorem pm_word {k : Nat} (hk : k < 11) {Q : Nat → Prop} (hQ : Q k) : wp_Model_word (nI k) Q := by
  have hr : k = 0 ∨ k = 1 ∨ k = 2 ∨ k = 3 ∨ k = 4 ∨ k = 5 ∨ k = 6 ∨ k = 7 ∨ k = 8 ∨ k = 9 ∨ k = 10 := by omega
  unfold wp_Model_word
  rcases hr with rfl | rfl | rfl | rfl | rfl | rfl | rfl | rfl | rfl | rfl | rfl
  all_goals
    repeat (first | exact ⟨fun _ => hQ, fun q => absurd (by decide) q⟩ | exact hQ | refine ⟨fun q => absurd q (by decide), fun _ => ?_⟩)
theorem pm_readWord_h30 (hT : T ≤ 400) {s e hi lo : Nat} (hhi : hi < 11) (hse : s ≤ e) (he : e ≤ T) {Q : Int32 → Int32 → Int32 → Prop} (h1 : ∀ k, lo ≤ k → k ≤ hi → isW b k s e = true → Q (nI k) (nI e) (nI s)) (h0 : (∀ k, lo ≤ k → k ≤ hi → ¬ isW b k s e = true) → Q (-1) (nI e) (nI s)) : ∀ n k, k + n = hi + 1 → lo ≤ k → (∀ j, lo ≤ j → j < k → ¬ isW b j s e = true) → wp_Model_readWord_h30 (nI hi) (nI e) (nI s) b Q (n + 1) (nI k)
  | 0, k, ek, hl, h => by
    rw [wp_Model_readWord_h30]
    exact ⟨fun _ => h0 (fun j hj hj2 => h j hj (by omega)), fun q => absurd ((pu_nlt (by omega) (by omega)).mpr (by omega)) q⟩
  | n + 1, k, ek, hl, h => by
    rw [wp_Model_readWord_h30]
    refine ⟨fun q => ?_, fun _ => pm_word (by omega) ?_⟩
    · have := (pu_nlt (by omega) (by omega)).mp q; omega
    · refine pm_isWord hT (by omega) hse he (fun z => ⟨fun q => absurd q (by decide), fun _ => h1 k hl (by omega) z⟩) (fun z => ⟨fun _ => ?_, fun q => absurd rfl q⟩)
      rw [← nI_succ]
      refine pm_readWord_h30 hT hhi hse he h1 h0 n (k + 1) (by omega) (by omega) (fun j hj hj2 => ?_)
      rcases Nat.lt_or_ge j k with y | y
      · exact h j hj y
      · rw [show j = k by omega]; exact z
theorem pm_readWord_h4 (hT : T ≤ 400) {s lo hi : Nat} (hhi : hi < 11) (hlo : lo ≤ hi + 1) {Q : Int32 → Int32 → Int32 → Prop} : ∀ k a, a + k = T → s ≤ a → (∀ w, lo ≤ w → w ≤ hi → isW b w s (scan (bLe b) T a) = true → Q (nI w) (nI (scan (bLe b) T a)) (nI s)) → ((∀ w, lo ≤ w → w ≤ hi → ¬ isW b w s (scan (bLe b) T a) = true) → Q (-1) (nI (scan (bLe b) T a)) (nI s)) → wp_Model_readWord_h4 (nI lo) (nI hi) (nI T) (nI s) b Q (k + 1) (nI a) := by
  intro k
  induction k with
  | zero =>
    intro a e hs h1 h0
    have e : a = T := by omega
    subst e
    rw [scan_stop (by omega)] at h1 h0
    rw [wp_Model_readWord_h4]
    exact t_isAt hT (Nat.le_refl _) (fun h => absurd h (Nat.lt_irrefl _)) (fun _ => ⟨fun _ => ⟨hi + 1 - lo + 1, pm_readWord_h30 hT hhi hs (Nat.le_refl _) h1 h0 _ lo (by omega) (Nat.le_refl _) (fun j z y => by omega)⟩, fun q => absurd rfl q⟩)
  | succ k ih =>
    intro a e hs h1 h0
    rw [wp_Model_readWord_h4]
    have hle : (¬ b a < 97 ∧ ¬ 122 < b a) ↔ bLe b a = true := by
      unfold bLe; rw [decide_eq_true_iff]
    refine t_isAt hT (by omega) (fun y1 y2 => ⟨fun q => absurd q (by decide), fun _ => ?_⟩) (fun y => ⟨fun _ => ?_, fun q => absurd rfl q⟩)
    · rw [scan_step y1 (hle.mp y2)] at h1 h0
      rw [← nI_succ]
      exact ih (a + 1) (by omega) (by omega) h1 h0
    · rw [scan_stop (fun z => y ⟨z.1, hle.mpr z.2⟩)] at h1 h0
      exact ⟨hi + 1 - lo + 1, pm_readWord_h30 hT hhi hs (by omega) h1 h0 _ lo (by omega) (Nat.le_refl _) (fun j z y => by omega)⟩
theorem pm_readWord (hT : T ≤ 400) {a lo hi : Nat} (ha : a ≤ T) (hhi : hi < 11) (hlo : lo ≤ hi + 1) {Q : Int32 → Int32 → Int32 → Prop} (h1 : ∀ w, lo ≤ w → w ≤ hi → isW b w (scan (bBl b) T a) (scan (bLe b) T (scan (bBl b) T a)) = true → Q (nI w) (nI (scan (bLe b) T (scan (bBl b) T a))) (nI (scan (bBl b) T a))) (h0 : (∀ w, lo ≤ w → w ≤ hi → ¬ isW b w (scan (bBl b) T a) (scan (bLe b) T (scan (bBl b) T a)) = true) → Q (-1) (nI (scan (bLe b) T (scan (bBl b) T a))) (nI (scan (bBl b) T a))) : wp_Model_readWord (nI a) (nI T) b (nI lo) (nI hi) Q := by
  have hs := scan_le (bBl b) ha
  refine ⟨T - a + 1, pm_blanks hT _ a (by omega) ?_⟩
  exact ⟨T - scan (bBl b) T a + 1, pm_readWord_h4 hT hhi hlo _ _ (by omega) (Nat.le_refl _) h1 h0⟩
end
