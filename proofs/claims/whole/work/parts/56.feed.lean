/-! The tape: feed. -/
/-- a byte of a number: the j-th, the highest first -/
def fb8 (p : Int32) (j : Nat) : Int32 := ((p >>> (nI (24 - 8 * j) &&& 31)).toInt8).toInt32
theorem fb8_u (p : Int32) (s : Int32) (k : Nat) (hk : k ≤ 24) (h1 : ((s.toUInt32 &&& Int32.toUInt32 31).toBitVec % 32).toNat = k) (h2 : ((s &&& 31).toBitVec.smod 32).toNat = k) : ((p.toUInt32 >>> (s.toUInt32 &&& Int32.toUInt32 31)).toInt32).toInt8 = (p >>> (s &&& 31)).toInt8 := by
  apply Int8.toBitVec_inj.1
  apply BitVec.eq_of_getLsbD_eq
  intro i hi
  have hi2 : i < 32 := by omega
  have hu : (p.toUInt32 >>> (s.toUInt32 &&& Int32.toUInt32 31)).toInt32.toBitVec = p.toBitVec >>> k := by
    show (p.toUInt32 >>> (s.toUInt32 &&& Int32.toUInt32 31)).toBitVec = _
    rw [UInt32.toBitVec_shiftRight, BitVec.ushiftRight_eq', h1]; rfl
  have hs : (p >>> (s &&& 31)).toBitVec = p.toBitVec.sshiftRight k := by
    rw [Int32.toBitVec_shiftRight, BitVec.sshiftRight_eq', h2]
  have e1 : ∀ x : Int32, x.toInt8.toBitVec.getLsbD i = x.toBitVec.getLsbD i := by
    intro x
    first
      | (show (x.toBitVec.signExtend 8).getLsbD i = _; rw [BitVec.getLsbD_signExtend]; simp [hi, hi2]; done)
      | (show (x.toBitVec.setWidth 8).getLsbD i = _; rw [BitVec.getLsbD_setWidth]; simp [hi]; done)
      | (simp [hi]; done)
  rw [e1, e1, hu, hs, BitVec.getLsbD_ushiftRight, BitVec.getLsbD_sshiftRight]
  have : k + i < 32 := by omega
  simp [this, hi2]
theorem fb_put {Q : Int32 → (Nat → Int32) → Prop} {p : Int32} {n T : Nat} {b : Nat → Int32} {v2 : Int32} (h : ¬ v2 < 0) (hT : T < 400) (hn : wp_Tape_putNumber_h3 p Q n (v2 + (-8)) (nI (T + 1)) (upd b T ((p.toUInt32 >>> (v2.toUInt32 &&& Int32.toUInt32 31)).toInt32.toInt8.toInt32))) : wp_Tape_putNumber_h3 p Q (n + 1) v2 (nI T) b := by
  rw [wp_Tape_putNumber_h3]
  refine ⟨fun h1 => absurd h1 h, fun _ => ?_⟩
  unfold wp_Tape_putByte
  refine ⟨fun h1 => absurd h1 (nI_pos (by omega)), fun _ => ⟨fun h1 => ?_, fun _ => ⟨pu_inI hT (by omega), ?_⟩⟩⟩
  · have := (pu_nle (a := 400) (b := T) (by omega) (by omega)).mp h1; omega
  · rw [nI_clamp (by omega), pk_vb, ← nI_succ]
    exact hn
theorem fb_num {Q : Int32 → (Nat → Int32) → Prop} {p : Int32} {T : Nat} {b : Nat → Int32} (hT : T + 4 ≤ 400) (hQ : Q (nI (T + 4)) (upd (upd (upd (upd b T (fb8 p 0)) (T + 1) (fb8 p 1)) (T + 2) (fb8 p 2)) (T + 3) (fb8 p 3))) : wp_Tape_putNumber (nI T) b p Q := by
  refine ⟨5, ?_⟩
  refine fb_put (by decide) (by omega) ?_
  refine fb_put (by decide) (by omega) ?_
  refine fb_put (by decide) (by omega) ?_
  refine fb_put (by decide) (by omega) ?_
  rw [fb8_u p 24 24 (by omega) (by decide) (by decide)]
  rw [fb8_u p (24 + -8) 16 (by omega) (by decide) (by decide)]
  rw [fb8_u p (24 + -8 + -8) 8 (by omega) (by decide) (by decide)]
  rw [fb8_u p (24 + -8 + -8 + -8) 0 (by omega) (by decide) (by decide)]
  rw [wp_Tape_putNumber_h3]
  refine ⟨fun _ => hQ, fun h => absurd (show (24 + -8 + -8 + -8 + -8 : Int32) < 0 by decide) h⟩
/-- the tape behind k bytes of five numbers -/
def fd (five : Nat → Int32) (T : Nat) (b : Nat → Int32) : Nat → Nat → Int32
  | 0 => b
  | k + 1 => upd (fd five T b k) (T + k) (fb8 (five (k / 4)) (k % 4))
theorem fb_m {five : Nat → Int32} {T : Nat} {b : Nat → Int32} {th : Int32} (hT : T + 20 ≤ 400) {Q : Int32 → Int32 → Int32 → (Nat → Int32) → (Nat → Int32) → Prop} (hQ : Q (nI T + 20) th (nI T + 20) (fd five T b 20) five) : ∀ k c, c + k = 20 → wp_Model_feed_h60 th (nI T) five Q (k + 1) (nI c) (fd five T b c)
  | 0, c, e => by
    have e : c = 20 := by omega
    subst e
    rw [wp_Model_feed_h60]
    exact ⟨fun _ => hQ, fun h => absurd (show (20 : Int32) ≤ nI 20 by decide) h⟩
  | k + 1, c, e => by
    have ih := fb_m hT hQ k (c + 1) (by omega)
    have d1 : nI c / 4 = nI (c / 4) := pk_div (d := 4) (by omega) (by omega) (by omega)
    have d2 : nI c - nI (c / 4) * 4 = nI (c % 4) := by
      have := pk_rem (a := c) (d := 4) (by omega) (by omega) (by omega)
      rw [show nI c / nI 4 = nI (c / 4) from d1] at this
      exact this
    have d3 : (24 : Int32) - 8 * nI (c % 4) = nI (24 - 8 * (c % 4)) := by
      have : (8 : Int32) * nI (c % 4) = nI (8 * (c % 4)) := pk_mul 8 (c % 4)
      rw [this]
      exact pk_sub (a := 24) (by omega)
    rw [wp_Model_feed_h60]
    refine ⟨fun h => ?_, fun _ => ?_⟩
    · have := (pu_nle (a := 20) (b := c) (by omega) (by omega)).mp h; omega
    · rw [d1, d2, d3, nI_add]
      refine ⟨pu_inI (by omega) (by omega), pu_inI (by omega) (by omega), ?_⟩
      rw [nI_clamp (by omega), nI_clamp (by omega), pk_vb, ← nI_succ]
      exact ih
theorem fd_bytes {five b : Nat → Int32} {T : Nat} (hb : ∀ k, ∃ x : Int8, b k = x.toInt32) : ∀ c k, ∃ x : Int8, fd five T b c k = x.toInt32
  | 0, k => hb k
  | c + 1, k => by
    rw [fd]
    by_cases e : k = T + c
    · subst e; rw [pu_upd_same]; exact ⟨_, rfl⟩
    · rw [pu_upd_ne e]; exact fd_bytes hb c k
theorem q_feed {t_length : Int32} {t_bytes x_five : Nat → Int32} (hT : I_T t_length t_bytes) (p0 p1 p2 p3 p4 : Int32) :
    wp_Dock_feed t_length t_bytes p0 p1 p2 p3 p4 (fun r a1 a2 => wp_Model_feed t_length t_bytes x_five p0 p1 p2 p3 p4 (fun b th b1 b2 _ => th = 0 ∧ r = b ∧ (b1 = a1 ∧ b2 = a2) ∧ I_T a1 a2)) := by
  have hT' := hT
  obtain ⟨⟨T, hT, rfl⟩, hB⟩ := hT
  have hadd : nI T + 20 = nI (T + 20) := nI_add T 20
  have hcond : (nI T + 20 ≤ 400) ↔ T + 20 ≤ 400 := by
    rw [hadd]; exact pu_nle (a := T + 20) (b := 400) (by omega) (by omega)
  unfold wp_Dock_feed wp_Model_feed
  by_cases h : T + 20 ≤ 400
  · have h' : nI T + 20 ≤ 400 := hcond.mpr h
    simp only [h', not_true, not_false_iff, false_implies, true_implies, true_and, and_true]
    refine fb_num (by omega) (fb_num (by omega) (fb_num (by omega) (fb_num (by omega) (fb_num (by omega) ?_))))
    refine ⟨21, fb_m h ?_ 20 0 (by omega)⟩
    have key : fd (upd (upd (upd (upd (upd x_five (0 : Int32).toNatClampNeg p0) (1 : Int32).toNatClampNeg p1) (2 : Int32).toNatClampNeg p2) (3 : Int32).toNatClampNeg p3) (4 : Int32).toNatClampNeg p4) T t_bytes 20 = _ := rfl
    refine ⟨rfl, hadd.symm, ⟨hadd, ?_⟩, ⟨⟨T + 4 + 4 + 4 + 4 + 4, by omega, rfl⟩, ?_⟩⟩
    · rfl
    · have := fd_bytes (five := upd (upd (upd (upd (upd x_five (0 : Int32).toNatClampNeg p0) (1 : Int32).toNatClampNeg p1) (2 : Int32).toNatClampNeg p2) (3 : Int32).toNatClampNeg p3) (4 : Int32).toNatClampNeg p4) (T := T) hB 20
      exact this
  · have h' : ¬ nI T + 20 ≤ 400 := fun z => h (hcond.mp z)
    simp only [h', not_true, not_false_iff, false_implies, true_implies, true_and, and_true, and_self]
    exact hT'
