/-! What the Statement gives of the start: constants, clauses, classes. -/
abbrev gv : Cond := Jvm.Cond.and given_1 narrow_1
def tmS (i : Nat) : Term := .string "DockCallModel" ([165, 166, 168, 170, 172, 174, 176, 178, 180, 182, 183].getD i 0)
def tmM (i : Nat) : Term := .string "DockCall" ([76, 86, 94, 106, 109, 114, 124, 140, 143, 150, 171, 173, 190, 193, 207, 210, 220, 228].getD i 0)
def tmC (i : Nat) : Term := .static "DockCall$Clause" (["GANG_MEN", "RATE_OF_SKILL", "CRANES_A_CALL", "BAR_CALLS", "PAY_AN_HOUR", "RAIN_SHARE", "BROKEN_HOURS", "FIRST_SHIPS"].getD i "") "LDockCall$Clause;"
def tmD (i : Nat) : Term := .string "DockCall$Clause" ([64, 70, 73, 76, 79, 82, 85, 88].getD i 0)
abbrev tmT : Term := .static "DockCall$Reader" "CLAUSES" "[LDockCall$Clause;"
def sub9 : List Bool → Cond → Cond
  | [], c => c
  | false :: r, .and x _ => sub9 r x
  | true :: r, .and _ y => sub9 r y
  | _ :: _, c => c
theorem sub9_of {args : Array Value} {s : State} : ∀ (q : List Bool) {T : Cond}, T.before args s = true → (sub9 q T).before args s = true
  | [], _, h => h
  | b :: r, T, h => by
    cases T with
    | and x y =>
      rw [Cond.before_and, Bool.and_eq_true] at h
      cases b
      · exact sub9_of r h.1
      · exact sub9_of r h.2
    | _ => cases b <;> exact h
theorem fm_ex {args : Array Value} {s : State} (hg : gv.before args s = true) : ∀ i : Nat, i < 11 → (Cond.exactly (tmS i) "java/lang/String").before args s = true := by
  intro i hi
  rcases (show i = 0 ∨ i = 1 ∨ i = 2 ∨ i = 3 ∨ i = 4 ∨ i = 5 ∨ i = 6 ∨ i = 7 ∨ i = 8 ∨ i = 9 ∨ i = 10 by omega) with rfl | rfl | rfl | rfl | rfl | rfl | rfl | rfl | rfl | rfl | rfl
  · exact sub9_of [true, true, true, false, true, false, true, true, true, true, false] hg
  · exact sub9_of [true, true, true, false, true, true, false, false, true, false, true] hg
  · exact sub9_of [true, true, true, false, true, true, false, true, true, true, true, false] hg
  · exact sub9_of [true, true, true, false, true, true, true, false, true, false, true] hg
  · exact sub9_of [true, true, true, false, true, true, true, true, true, false, false] hg
  · exact sub9_of [true, true, true, true, false, false, false, false, false, true, true] hg
  · exact sub9_of [true, true, true, true, false, false, false, true, true, false, true] hg
  · exact sub9_of [true, true, true, true, false, false, true, false, true, false, true] hg
  · exact sub9_of [true, true, true, true, false, false, true, true, true, false, true] hg
  · exact sub9_of [true, true, true, true, false, true, false, true, false, false, false] hg
  · exact sub9_of [true, true, true, true, false, true, true, false, false, false, false] hg
theorem fm_co {args : Array Value} {s : State} (hg : gv.before args s = true) : ∀ i : Nat, i < 11 → (Cond.eq (.field (tmS i) "java/lang/String" "coder" "B") (.int 0)).before args s = true := by
  intro i hi
  rcases (show i = 0 ∨ i = 1 ∨ i = 2 ∨ i = 3 ∨ i = 4 ∨ i = 5 ∨ i = 6 ∨ i = 7 ∨ i = 8 ∨ i = 9 ∨ i = 10 by omega) with rfl | rfl | rfl | rfl | rfl | rfl | rfl | rfl | rfl | rfl | rfl
  · exact sub9_of [true, true, true, false, true, false, true, true, true, true, true, false] hg
  · exact sub9_of [true, true, true, false, true, true, false, false, true, true, false] hg
  · exact sub9_of [true, true, true, false, true, true, false, true, true, true, true, true] hg
  · exact sub9_of [true, true, true, false, true, true, true, false, true, true, false] hg
  · exact sub9_of [true, true, true, false, true, true, true, true, true, false, true] hg
  · exact sub9_of [true, true, true, true, false, false, false, false, true, false, false] hg
  · exact sub9_of [true, true, true, true, false, false, false, true, true, true, false] hg
  · exact sub9_of [true, true, true, true, false, false, true, false, true, true, false] hg
  · exact sub9_of [true, true, true, true, false, false, true, true, true, true, false] hg
  · exact sub9_of [true, true, true, true, false, true, false, true, false, false, true] hg
  · exact sub9_of [true, true, true, true, false, true, true, false, false, false, true] hg
theorem fm_ar {args : Array Value} {s : State} (hg : gv.before args s = true) : ∀ i : Nat, i < 11 → (Cond.arrayOf (.field (tmS i) "java/lang/String" "value" "[B") .byte).before args s = true := by
  intro i hi
  rcases (show i = 0 ∨ i = 1 ∨ i = 2 ∨ i = 3 ∨ i = 4 ∨ i = 5 ∨ i = 6 ∨ i = 7 ∨ i = 8 ∨ i = 9 ∨ i = 10 by omega) with rfl | rfl | rfl | rfl | rfl | rfl | rfl | rfl | rfl | rfl | rfl
  · exact sub9_of [true, true, true, false, true, false, true, true, true, true, true, true] hg
  · exact sub9_of [true, true, true, false, true, true, false, false, true, true, true] hg
  · exact sub9_of [true, true, true, false, true, true, true, false, false, false, false] hg
  · exact sub9_of [true, true, true, false, true, true, true, false, true, true, true] hg
  · exact sub9_of [true, true, true, false, true, true, true, true, true, true, false] hg
  · exact sub9_of [true, true, true, true, false, false, false, false, true, false, true] hg
  · exact sub9_of [true, true, true, true, false, false, false, true, true, true, true, false] hg
  · exact sub9_of [true, true, true, true, false, false, true, false, true, true, true] hg
  · exact sub9_of [true, true, true, true, false, false, true, true, true, true, true, false] hg
  · exact sub9_of [true, true, true, true, false, true, false, true, false, true, false] hg
  · exact sub9_of [true, true, true, true, false, true, true, false, false, true, false] hg
theorem fm_le {args : Array Value} {s : State} (hg : gv.before args s = true) : ∀ i : Nat, i < 11 → (Cond.eq (.length (.field (tmS i) "java/lang/String" "value" "[B")) (.int (Int32.ofNat (lenJS.getD i 0)))).before args s = true := by
  intro i hi
  rcases (show i = 0 ∨ i = 1 ∨ i = 2 ∨ i = 3 ∨ i = 4 ∨ i = 5 ∨ i = 6 ∨ i = 7 ∨ i = 8 ∨ i = 9 ∨ i = 10 by omega) with rfl | rfl | rfl | rfl | rfl | rfl | rfl | rfl | rfl | rfl | rfl
  · exact sub9_of [true, true, true, false, true, true, false, false, false, false, false] hg
  · exact sub9_of [true, true, true, false, true, true, false, true, false, false, false] hg
  · exact sub9_of [true, true, true, false, true, true, true, false, false, false, true] hg
  · exact sub9_of [true, true, true, false, true, true, true, true, false, false, false] hg
  · exact sub9_of [true, true, true, false, true, true, true, true, true, true, true, false] hg
  · exact sub9_of [true, true, true, true, false, false, false, false, true, true, false] hg
  · exact sub9_of [true, true, true, true, false, false, false, true, true, true, true, true] hg
  · exact sub9_of [true, true, true, true, false, false, true, true, false, false, false] hg
  · exact sub9_of [true, true, true, true, false, false, true, true, true, true, true, true] hg
  · exact sub9_of [true, true, true, true, false, true, false, true, false, true, true] hg
  · exact sub9_of [true, true, true, true, false, true, true, false, false, true, true] hg
theorem fm_el0 {args : Array Value} {s : State} (hg : gv.before args s = true) : ∀ i : Nat, i < 4 → (Cond.eq (.elem (.field (tmS 0) "java/lang/String" "value" "[B") (.int (Int32.ofNat i))) (.int ((bytJS.getD 0 []).getD i 0))).before args s = true := by
  intro i hi
  rcases (show i = 0 ∨ i = 1 ∨ i = 2 ∨ i = 3 by omega) with rfl | rfl | rfl | rfl
  · exact sub9_of [true, true, true, false, true, true, false, false, false, false, true] hg
  · exact sub9_of [true, true, true, false, true, true, false, false, false, true, false] hg
  · exact sub9_of [true, true, true, false, true, true, false, false, false, true, true] hg
  · exact sub9_of [true, true, true, false, true, true, false, false, true, false, false] hg
theorem fm_el1 {args : Array Value} {s : State} (hg : gv.before args s = true) : ∀ i : Nat, i < 6 → (Cond.eq (.elem (.field (tmS 1) "java/lang/String" "value" "[B") (.int (Int32.ofNat i))) (.int ((bytJS.getD 1 []).getD i 0))).before args s = true := by
  intro i hi
  rcases (show i = 0 ∨ i = 1 ∨ i = 2 ∨ i = 3 ∨ i = 4 ∨ i = 5 by omega) with rfl | rfl | rfl | rfl | rfl | rfl
  · exact sub9_of [true, true, true, false, true, true, false, true, false, false, true] hg
  · exact sub9_of [true, true, true, false, true, true, false, true, false, true, false] hg
  · exact sub9_of [true, true, true, false, true, true, false, true, false, true, true] hg
  · exact sub9_of [true, true, true, false, true, true, false, true, true, false, false] hg
  · exact sub9_of [true, true, true, false, true, true, false, true, true, false, true] hg
  · exact sub9_of [true, true, true, false, true, true, false, true, true, true, false] hg
theorem fm_el2 {args : Array Value} {s : State} (hg : gv.before args s = true) : ∀ i : Nat, i < 3 → (Cond.eq (.elem (.field (tmS 2) "java/lang/String" "value" "[B") (.int (Int32.ofNat i))) (.int ((bytJS.getD 2 []).getD i 0))).before args s = true := by
  intro i hi
  rcases (show i = 0 ∨ i = 1 ∨ i = 2 by omega) with rfl | rfl | rfl
  · exact sub9_of [true, true, true, false, true, true, true, false, false, true, false] hg
  · exact sub9_of [true, true, true, false, true, true, true, false, false, true, true] hg
  · exact sub9_of [true, true, true, false, true, true, true, false, true, false, false] hg
theorem fm_el3 {args : Array Value} {s : State} (hg : gv.before args s = true) : ∀ i : Nat, i < 3 → (Cond.eq (.elem (.field (tmS 3) "java/lang/String" "value" "[B") (.int (Int32.ofNat i))) (.int ((bytJS.getD 3 []).getD i 0))).before args s = true := by
  intro i hi
  rcases (show i = 0 ∨ i = 1 ∨ i = 2 by omega) with rfl | rfl | rfl
  · exact sub9_of [true, true, true, false, true, true, true, true, false, false, true] hg
  · exact sub9_of [true, true, true, false, true, true, true, true, false, true, false] hg
  · exact sub9_of [true, true, true, false, true, true, true, true, false, true, true] hg
theorem fm_el4 {args : Array Value} {s : State} (hg : gv.before args s = true) : ∀ i : Nat, i < 4 → (Cond.eq (.elem (.field (tmS 4) "java/lang/String" "value" "[B") (.int (Int32.ofNat i))) (.int ((bytJS.getD 4 []).getD i 0))).before args s = true := by
  intro i hi
  rcases (show i = 0 ∨ i = 1 ∨ i = 2 ∨ i = 3 by omega) with rfl | rfl | rfl | rfl
  · exact sub9_of [true, true, true, false, true, true, true, true, true, true, true, true] hg
  · exact sub9_of [true, true, true, true, false, false, false, false, false, false, false] hg
  · exact sub9_of [true, true, true, true, false, false, false, false, false, false, true] hg
  · exact sub9_of [true, true, true, true, false, false, false, false, false, true, false] hg
theorem fm_el5 {args : Array Value} {s : State} (hg : gv.before args s = true) : ∀ i : Nat, i < 6 → (Cond.eq (.elem (.field (tmS 5) "java/lang/String" "value" "[B") (.int (Int32.ofNat i))) (.int ((bytJS.getD 5 []).getD i 0))).before args s = true := by
  intro i hi
  rcases (show i = 0 ∨ i = 1 ∨ i = 2 ∨ i = 3 ∨ i = 4 ∨ i = 5 by omega) with rfl | rfl | rfl | rfl | rfl | rfl
  · exact sub9_of [true, true, true, true, false, false, false, false, true, true, true] hg
  · exact sub9_of [true, true, true, true, false, false, false, true, false, false, false] hg
  · exact sub9_of [true, true, true, true, false, false, false, true, false, false, true] hg
  · exact sub9_of [true, true, true, true, false, false, false, true, false, true, false] hg
  · exact sub9_of [true, true, true, true, false, false, false, true, false, true, true] hg
  · exact sub9_of [true, true, true, true, false, false, false, true, true, false, false] hg
theorem fm_el6 {args : Array Value} {s : State} (hg : gv.before args s = true) : ∀ i : Nat, i < 5 → (Cond.eq (.elem (.field (tmS 6) "java/lang/String" "value" "[B") (.int (Int32.ofNat i))) (.int ((bytJS.getD 6 []).getD i 0))).before args s = true := by
  intro i hi
  rcases (show i = 0 ∨ i = 1 ∨ i = 2 ∨ i = 3 ∨ i = 4 by omega) with rfl | rfl | rfl | rfl | rfl
  · exact sub9_of [true, true, true, true, false, false, true, false, false, false, false] hg
  · exact sub9_of [true, true, true, true, false, false, true, false, false, false, true] hg
  · exact sub9_of [true, true, true, true, false, false, true, false, false, true, false] hg
  · exact sub9_of [true, true, true, true, false, false, true, false, false, true, true] hg
  · exact sub9_of [true, true, true, true, false, false, true, false, true, false, false] hg
theorem fm_el7 {args : Array Value} {s : State} (hg : gv.before args s = true) : ∀ i : Nat, i < 4 → (Cond.eq (.elem (.field (tmS 7) "java/lang/String" "value" "[B") (.int (Int32.ofNat i))) (.int ((bytJS.getD 7 []).getD i 0))).before args s = true := by
  intro i hi
  rcases (show i = 0 ∨ i = 1 ∨ i = 2 ∨ i = 3 by omega) with rfl | rfl | rfl | rfl
  · exact sub9_of [true, true, true, true, false, false, true, true, false, false, true] hg
  · exact sub9_of [true, true, true, true, false, false, true, true, false, true, false] hg
  · exact sub9_of [true, true, true, true, false, false, true, true, false, true, true] hg
  · exact sub9_of [true, true, true, true, false, false, true, true, true, false, false] hg
theorem fm_el8 {args : Array Value} {s : State} (hg : gv.before args s = true) : ∀ i : Nat, i < 7 → (Cond.eq (.elem (.field (tmS 8) "java/lang/String" "value" "[B") (.int (Int32.ofNat i))) (.int ((bytJS.getD 8 []).getD i 0))).before args s = true := by
  intro i hi
  rcases (show i = 0 ∨ i = 1 ∨ i = 2 ∨ i = 3 ∨ i = 4 ∨ i = 5 ∨ i = 6 by omega) with rfl | rfl | rfl | rfl | rfl | rfl | rfl
  · exact sub9_of [true, true, true, true, false, true, false, false, false, false, false] hg
  · exact sub9_of [true, true, true, true, false, true, false, false, false, false, true] hg
  · exact sub9_of [true, true, true, true, false, true, false, false, false, true, false] hg
  · exact sub9_of [true, true, true, true, false, true, false, false, false, true, true] hg
  · exact sub9_of [true, true, true, true, false, true, false, false, true, false, false] hg
  · exact sub9_of [true, true, true, true, false, true, false, false, true, false, true] hg
  · exact sub9_of [true, true, true, true, false, true, false, false, true, true, false] hg
theorem fm_el9 {args : Array Value} {s : State} (hg : gv.before args s = true) : ∀ i : Nat, i < 4 → (Cond.eq (.elem (.field (tmS 9) "java/lang/String" "value" "[B") (.int (Int32.ofNat i))) (.int ((bytJS.getD 9 []).getD i 0))).before args s = true := by
  intro i hi
  rcases (show i = 0 ∨ i = 1 ∨ i = 2 ∨ i = 3 by omega) with rfl | rfl | rfl | rfl
  · exact sub9_of [true, true, true, true, false, true, false, true, true, false, false] hg
  · exact sub9_of [true, true, true, true, false, true, false, true, true, false, true] hg
  · exact sub9_of [true, true, true, true, false, true, false, true, true, true, false] hg
  · exact sub9_of [true, true, true, true, false, true, false, true, true, true, true, false] hg
theorem fm_el10 {args : Array Value} {s : State} (hg : gv.before args s = true) : ∀ i : Nat, i < 6 → (Cond.eq (.elem (.field (tmS 10) "java/lang/String" "value" "[B") (.int (Int32.ofNat i))) (.int ((bytJS.getD 10 []).getD i 0))).before args s = true := by
  intro i hi
  rcases (show i = 0 ∨ i = 1 ∨ i = 2 ∨ i = 3 ∨ i = 4 ∨ i = 5 by omega) with rfl | rfl | rfl | rfl | rfl | rfl
  · exact sub9_of [true, true, true, true, false, true, true, false, true, false, false] hg
  · exact sub9_of [true, true, true, true, false, true, true, false, true, false, true] hg
  · exact sub9_of [true, true, true, true, false, true, true, false, true, true, false] hg
  · exact sub9_of [true, true, true, true, false, true, true, false, true, true, true] hg
  · exact sub9_of [true, true, true, true, false, true, true, true, false, false, false] hg
  · exact sub9_of [true, true, true, true, false, true, true, true, false, false, true] hg
theorem fm_el {args : Array Value} {s : State} (hg : gv.before args s = true) : ∀ i : Nat, i < 11 → ∀ j : Nat, j < lenJS.getD i 0 → (Cond.eq (.elem (.field (tmS i) "java/lang/String" "value" "[B") (.int (Int32.ofNat j))) (.int ((bytJS.getD i []).getD j 0))).before args s = true := by
  intro i hi j hj
  rcases (show i = 0 ∨ i = 1 ∨ i = 2 ∨ i = 3 ∨ i = 4 ∨ i = 5 ∨ i = 6 ∨ i = 7 ∨ i = 8 ∨ i = 9 ∨ i = 10 by omega) with rfl | rfl | rfl | rfl | rfl | rfl | rfl | rfl | rfl | rfl | rfl
  · exact fm_el0 hg j hj
  · exact fm_el1 hg j hj
  · exact fm_el2 hg j hj
  · exact fm_el3 hg j hj
  · exact fm_el4 hg j hj
  · exact fm_el5 hg j hj
  · exact fm_el6 hg j hj
  · exact fm_el7 hg j hj
  · exact fm_el8 hg j hj
  · exact fm_el9 hg j hj
  · exact fm_el10 hg j hj
theorem fm_ms {args : Array Value} {s : State} (hg : gv.before args s = true) : ∀ i : Nat, i < 18 → (Cond.exactly (tmM i) "java/lang/String").before args s = true := by
  intro i hi
  rcases (show i = 0 ∨ i = 1 ∨ i = 2 ∨ i = 3 ∨ i = 4 ∨ i = 5 ∨ i = 6 ∨ i = 7 ∨ i = 8 ∨ i = 9 ∨ i = 10 ∨ i = 11 ∨ i = 12 ∨ i = 13 ∨ i = 14 ∨ i = 15 ∨ i = 16 ∨ i = 17 by omega) with rfl | rfl | rfl | rfl | rfl | rfl | rfl | rfl | rfl | rfl | rfl | rfl | rfl | rfl | rfl | rfl | rfl | rfl
  · exact sub9_of [true, false, true, false, true, false, true, true, false, false, true] hg
  · exact sub9_of [true, false, true, false, true, true, false, true, true, true, false] hg
  · exact sub9_of [true, false, true, true, false, false, false, false, false, false, false] hg
  · exact sub9_of [true, false, true, true, false, false, true, false, true, false, true] hg
  · exact sub9_of [true, false, true, true, false, true, false, false, true, false, false] hg
  · exact sub9_of [true, false, true, true, true, false, false, true, false, true, true] hg
  · exact sub9_of [true, false, true, true, true, true, true, true, false, false, false] hg
  · exact sub9_of [true, true, false, false, false, false, false, true, true, false, false] hg
  · exact sub9_of [true, true, false, false, false, true, false, true, false, false, false] hg
  · exact sub9_of [true, true, false, false, false, true, true, true, false, true, false] hg
  · exact sub9_of [true, true, false, false, true, false, false, true, false, false, false] hg
  · exact sub9_of [true, true, false, false, true, true, false, false, false, true, false] hg
  · exact sub9_of [true, true, false, false, true, true, true, true, false, true, false] hg
  · exact sub9_of [true, true, false, true, false, false, true, false, true, false, true] hg
  · exact sub9_of [true, true, false, true, false, true, false, false, true, false, true] hg
  · exact sub9_of [true, true, false, true, true, false, false, false, false, true, false] hg
  · exact sub9_of [true, true, false, true, true, false, true, true, false, false, true] hg
  · exact sub9_of [true, true, true, false, false, false, false, false, false, false, false] hg
theorem fm_cx {args : Array Value} {s : State} (hg : gv.before args s = true) : ∀ i : Nat, i < 8 → (Cond.exactly (tmC i) "DockCall$Clause").before args s = true := by
  intro i hi
  rcases (show i = 0 ∨ i = 1 ∨ i = 2 ∨ i = 3 ∨ i = 4 ∨ i = 5 ∨ i = 6 ∨ i = 7 by omega) with rfl | rfl | rfl | rfl | rfl | rfl | rfl | rfl
  · exact sub9_of [true, false, false, true, true, true, false, false, false, true, true] hg
  · exact sub9_of [true, false, false, false, false, false, true, false, true, false, true] hg
  · exact sub9_of [true, false, false, true, true, true, false, true, false, true, true] hg
  · exact sub9_of [true, false, false, true, true, true, true, false, false, true, true] hg
  · exact sub9_of [true, false, false, true, true, true, true, true, true, false, false] hg
  · exact sub9_of [true, false, true, false, false, false, false, false, true, true, false] hg
  · exact sub9_of [true, false, true, false, false, false, true, false, false, false, true] hg
  · exact sub9_of [true, false, false, false, false, false, true, true, false, true, true] hg
theorem fm_cw {args : Array Value} {s : State} (hg : gv.before args s = true) : ∀ i : Nat, i < 8 → (Cond.eq (.field (tmC i) "DockCall$Clause" "word" "Ljava/lang/String;") (tmD i)).before args s = true := by
  intro i hi
  rcases (show i = 0 ∨ i = 1 ∨ i = 2 ∨ i = 3 ∨ i = 4 ∨ i = 5 ∨ i = 6 ∨ i = 7 by omega) with rfl | rfl | rfl | rfl | rfl | rfl | rfl | rfl
  · exact sub9_of [true, false, false, true, true, true, false, false, true, false, true] hg
  · exact sub9_of [true, false, false, false, false, false, true, false, true, true, true] hg
  · exact sub9_of [true, false, false, true, true, true, false, true, true, false, true] hg
  · exact sub9_of [true, false, false, true, true, true, true, false, true, false, true] hg
  · exact sub9_of [true, false, false, true, true, true, true, true, true, true, false] hg
  · exact sub9_of [true, false, true, false, false, false, false, true, false, false, false] hg
  · exact sub9_of [true, false, true, false, false, false, true, false, false, true, true] hg
  · exact sub9_of [true, false, false, false, false, false, true, true, true, false, true] hg
theorem fm_cp {args : Array Value} {s : State} (hg : gv.before args s = true) : ∀ i : Nat, i < 8 → (Cond.eq (.field (tmC i) "DockCall$Clause" "place" "I") (.int (cl_p.getD i 0))).before args s = true := by
  intro i hi
  rcases (show i = 0 ∨ i = 1 ∨ i = 2 ∨ i = 3 ∨ i = 4 ∨ i = 5 ∨ i = 6 ∨ i = 7 by omega) with rfl | rfl | rfl | rfl | rfl | rfl | rfl | rfl
  · exact sub9_of [true, false, false, true, true, true, false, false, true, true, false] hg
  · exact sub9_of [true, false, false, false, false, false, true, true, false, false, false] hg
  · exact sub9_of [true, false, false, true, true, true, false, true, true, true, false] hg
  · exact sub9_of [true, false, false, true, true, true, true, false, true, true, false] hg
  · exact sub9_of [true, false, false, true, true, true, true, true, true, true, true, false] hg
  · exact sub9_of [true, false, true, false, false, false, false, true, false, false, true] hg
  · exact sub9_of [true, false, true, false, false, false, true, false, true, false, false] hg
  · exact sub9_of [true, false, false, false, false, false, true, true, true, true, false] hg
theorem fm_cl {args : Array Value} {s : State} (hg : gv.before args s = true) : ∀ i : Nat, i < 8 → (Cond.eq (.field (tmC i) "DockCall$Clause" "least" "I") (.int (cl_l.getD i 0))).before args s = true := by
  intro i hi
  rcases (show i = 0 ∨ i = 1 ∨ i = 2 ∨ i = 3 ∨ i = 4 ∨ i = 5 ∨ i = 6 ∨ i = 7 by omega) with rfl | rfl | rfl | rfl | rfl | rfl | rfl | rfl
  · exact sub9_of [true, false, false, true, true, true, false, false, true, true, true] hg
  · exact sub9_of [true, false, false, false, false, false, true, true, false, false, true] hg
  · exact sub9_of [true, false, false, true, true, true, false, true, true, true, true, false] hg
  · exact sub9_of [true, false, false, true, true, true, true, false, true, true, true, false] hg
  · exact sub9_of [true, false, false, true, true, true, true, true, true, true, true, true] hg
  · exact sub9_of [true, false, true, false, false, false, false, true, false, true, false] hg
  · exact sub9_of [true, false, true, false, false, false, true, false, true, false, true] hg
  · exact sub9_of [true, false, false, false, false, false, true, true, true, true, true, false] hg
theorem fm_cm {args : Array Value} {s : State} (hg : gv.before args s = true) : ∀ i : Nat, i < 8 → (Cond.eq (.field (tmC i) "DockCall$Clause" "most" "I") (.int (cl_m.getD i 0))).before args s = true := by
  intro i hi
  rcases (show i = 0 ∨ i = 1 ∨ i = 2 ∨ i = 3 ∨ i = 4 ∨ i = 5 ∨ i = 6 ∨ i = 7 by omega) with rfl | rfl | rfl | rfl | rfl | rfl | rfl | rfl
  · exact sub9_of [true, false, false, true, true, true, false, true, false, false, false] hg
  · exact sub9_of [true, false, false, false, false, false, true, true, false, true, false] hg
  · exact sub9_of [true, false, false, true, true, true, false, true, true, true, true, true] hg
  · exact sub9_of [true, false, false, true, true, true, true, false, true, true, true, true] hg
  · exact sub9_of [true, false, true, false, false, false, false, false, false, false, false] hg
  · exact sub9_of [true, false, true, false, false, false, false, true, false, true, true] hg
  · exact sub9_of [true, false, true, false, false, false, true, false, true, true, false] hg
  · exact sub9_of [true, false, false, false, false, false, true, true, true, true, true, true] hg
theorem fm_cd {args : Array Value} {s : State} (hg : gv.before args s = true) : ∀ i : Nat, i < 8 → (Cond.eq (tmS (cl_w.getD i 0)) (tmD i)).before args s = true := by
  intro i hi
  rcases (show i = 0 ∨ i = 1 ∨ i = 2 ∨ i = 3 ∨ i = 4 ∨ i = 5 ∨ i = 6 ∨ i = 7 by omega) with rfl | rfl | rfl | rfl | rfl | rfl | rfl | rfl
  · exact sub9_of [true, true, true, true, true, false, true, false, true, false, false] hg
  · exact sub9_of [true, true, true, true, true, false, false, false, false, true, false] hg
  · exact sub9_of [true, true, true, true, true, false, true, true, true, true, true, false] hg
  · exact sub9_of [true, true, true, true, true, true, false, false, true, true, false] hg
  · exact sub9_of [true, true, true, true, true, true, false, true, true, true, false] hg
  · exact sub9_of [true, true, true, true, true, true, true, false, true, true, false] hg
  · exact sub9_of [true, true, true, true, true, true, true, true, true, true, true, true] hg
  · exact sub9_of [true, true, true, true, true, false, false, true, true, false, false] hg
theorem fm_te {args : Array Value} {s : State} (hg : gv.before args s = true) : ∀ i : Nat, i < 8 → (Cond.eq (.elem tmT (.int (Int32.ofNat i))) (tmC i)).before args s = true := by
  intro i hi
  rcases (show i = 0 ∨ i = 1 ∨ i = 2 ∨ i = 3 ∨ i = 4 ∨ i = 5 ∨ i = 6 ∨ i = 7 by omega) with rfl | rfl | rfl | rfl | rfl | rfl | rfl | rfl
  · exact sub9_of [true, false, false, false, false, false, false, true, false, false, true] hg
  · exact sub9_of [true, false, false, false, false, false, false, true, false, true, false] hg
  · exact sub9_of [true, false, false, false, false, false, false, true, false, true, true] hg
  · exact sub9_of [true, false, false, false, false, false, false, true, true, false, false] hg
  · exact sub9_of [true, false, false, false, false, false, false, true, true, false, true] hg
  · exact sub9_of [true, false, false, false, false, false, false, true, true, true, false] hg
  · exact sub9_of [true, false, false, false, false, false, false, true, true, true, true, false] hg
  · exact sub9_of [true, false, false, false, false, false, false, true, true, true, true, true] hg
theorem fm_cn0 {args : Array Value} {s : State} (hg : gv.before args s = true) : ∀ j : Nat, j < 8 → 0 ≠ j → (Cond.not (Cond.eq (tmC 0) (tmC j))).before args s = true ∨ (Cond.not (Cond.eq (tmC j) (tmC 0))).before args s = true := by
  intro j hj hne
  rcases (show j = 0 ∨ j = 1 ∨ j = 2 ∨ j = 3 ∨ j = 4 ∨ j = 5 ∨ j = 6 ∨ j = 7 by omega) with rfl | rfl | rfl | rfl | rfl | rfl | rfl | rfl
  · exact absurd rfl hne
  · exact Or.inr (sub9_of [true, false, false, true, true, true, false, true, false, false, true] hg)
  · exact Or.inl (sub9_of [true, false, false, true, true, true, true, false, false, true, false] hg)
  · exact Or.inl (sub9_of [true, false, false, true, true, true, true, true, false, true, false] hg)
  · exact Or.inl (sub9_of [true, false, true, false, false, false, false, false, false, true, true] hg)
  · exact Or.inl (sub9_of [true, false, true, false, false, false, false, true, true, true, false] hg)
  · exact Or.inl (sub9_of [true, false, true, false, false, false, true, true, false, false, true] hg)
  · exact Or.inr (sub9_of [true, false, false, true, true, true, false, true, false, true, false] hg)
theorem fm_cn1 {args : Array Value} {s : State} (hg : gv.before args s = true) : ∀ j : Nat, j < 8 → 1 ≠ j → (Cond.not (Cond.eq (tmC 1) (tmC j))).before args s = true ∨ (Cond.not (Cond.eq (tmC j) (tmC 1))).before args s = true := by
  intro j hj hne
  rcases (show j = 0 ∨ j = 1 ∨ j = 2 ∨ j = 3 ∨ j = 4 ∨ j = 5 ∨ j = 6 ∨ j = 7 by omega) with rfl | rfl | rfl | rfl | rfl | rfl | rfl | rfl
  · exact Or.inl (sub9_of [true, false, false, true, true, true, false, true, false, false, true] hg)
  · exact absurd rfl hne
  · exact Or.inl (sub9_of [true, false, false, true, true, true, true, false, false, false, false] hg)
  · exact Or.inl (sub9_of [true, false, false, true, true, true, true, true, false, false, false] hg)
  · exact Or.inl (sub9_of [true, false, true, false, false, false, false, false, false, false, true] hg)
  · exact Or.inl (sub9_of [true, false, true, false, false, false, false, true, true, false, false] hg)
  · exact Or.inl (sub9_of [true, false, true, false, false, false, true, false, true, true, true] hg)
  · exact Or.inl (sub9_of [true, false, false, false, false, true, false, false, false, false, false] hg)
theorem fm_cn2 {args : Array Value} {s : State} (hg : gv.before args s = true) : ∀ j : Nat, j < 8 → 2 ≠ j → (Cond.not (Cond.eq (tmC 2) (tmC j))).before args s = true ∨ (Cond.not (Cond.eq (tmC j) (tmC 2))).before args s = true := by
  intro j hj hne
  rcases (show j = 0 ∨ j = 1 ∨ j = 2 ∨ j = 3 ∨ j = 4 ∨ j = 5 ∨ j = 6 ∨ j = 7 by omega) with rfl | rfl | rfl | rfl | rfl | rfl | rfl | rfl
  · exact Or.inr (sub9_of [true, false, false, true, true, true, true, false, false, true, false] hg)
  · exact Or.inr (sub9_of [true, false, false, true, true, true, true, false, false, false, false] hg)
  · exact absurd rfl hne
  · exact Or.inl (sub9_of [true, false, false, true, true, true, true, true, false, true, true] hg)
  · exact Or.inl (sub9_of [true, false, true, false, false, false, false, false, true, false, false] hg)
  · exact Or.inl (sub9_of [true, false, true, false, false, false, false, true, true, true, true, false] hg)
  · exact Or.inl (sub9_of [true, false, true, false, false, false, true, true, false, true, false] hg)
  · exact Or.inr (sub9_of [true, false, false, true, true, true, true, false, false, false, true] hg)
theorem fm_cn3 {args : Array Value} {s : State} (hg : gv.before args s = true) : ∀ j : Nat, j < 8 → 3 ≠ j → (Cond.not (Cond.eq (tmC 3) (tmC j))).before args s = true ∨ (Cond.not (Cond.eq (tmC j) (tmC 3))).before args s = true := by
  intro j hj hne
  rcases (show j = 0 ∨ j = 1 ∨ j = 2 ∨ j = 3 ∨ j = 4 ∨ j = 5 ∨ j = 6 ∨ j = 7 by omega) with rfl | rfl | rfl | rfl | rfl | rfl | rfl | rfl
  · exact Or.inr (sub9_of [true, false, false, true, true, true, true, true, false, true, false] hg)
  · exact Or.inr (sub9_of [true, false, false, true, true, true, true, true, false, false, false] hg)
  · exact Or.inr (sub9_of [true, false, false, true, true, true, true, true, false, true, true] hg)
  · exact absurd rfl hne
  · exact Or.inl (sub9_of [true, false, true, false, false, false, false, false, true, false, true] hg)
  · exact Or.inl (sub9_of [true, false, true, false, false, false, false, true, true, true, true, true] hg)
  · exact Or.inl (sub9_of [true, false, true, false, false, false, true, true, false, true, true] hg)
  · exact Or.inr (sub9_of [true, false, false, true, true, true, true, true, false, false, true] hg)
theorem fm_cn4 {args : Array Value} {s : State} (hg : gv.before args s = true) : ∀ j : Nat, j < 8 → 4 ≠ j → (Cond.not (Cond.eq (tmC 4) (tmC j))).before args s = true ∨ (Cond.not (Cond.eq (tmC j) (tmC 4))).before args s = true := by
  intro j hj hne
  rcases (show j = 0 ∨ j = 1 ∨ j = 2 ∨ j = 3 ∨ j = 4 ∨ j = 5 ∨ j = 6 ∨ j = 7 by omega) with rfl | rfl | rfl | rfl | rfl | rfl | rfl | rfl
  · exact Or.inr (sub9_of [true, false, true, false, false, false, false, false, false, true, true] hg)
  · exact Or.inr (sub9_of [true, false, true, false, false, false, false, false, false, false, true] hg)
  · exact Or.inr (sub9_of [true, false, true, false, false, false, false, false, true, false, false] hg)
  · exact Or.inr (sub9_of [true, false, true, false, false, false, false, false, true, false, true] hg)
  · exact absurd rfl hne
  · exact Or.inl (sub9_of [true, false, true, false, false, false, true, false, false, false, false] hg)
  · exact Or.inl (sub9_of [true, false, true, false, false, false, true, true, true, false, false] hg)
  · exact Or.inr (sub9_of [true, false, true, false, false, false, false, false, false, true, false] hg)
theorem fm_cn5 {args : Array Value} {s : State} (hg : gv.before args s = true) : ∀ j : Nat, j < 8 → 5 ≠ j → (Cond.not (Cond.eq (tmC 5) (tmC j))).before args s = true ∨ (Cond.not (Cond.eq (tmC j) (tmC 5))).before args s = true := by
  intro j hj hne
  rcases (show j = 0 ∨ j = 1 ∨ j = 2 ∨ j = 3 ∨ j = 4 ∨ j = 5 ∨ j = 6 ∨ j = 7 by omega) with rfl | rfl | rfl | rfl | rfl | rfl | rfl | rfl
  · exact Or.inr (sub9_of [true, false, true, false, false, false, false, true, true, true, false] hg)
  · exact Or.inr (sub9_of [true, false, true, false, false, false, false, true, true, false, false] hg)
  · exact Or.inr (sub9_of [true, false, true, false, false, false, false, true, true, true, true, false] hg)
  · exact Or.inr (sub9_of [true, false, true, false, false, false, false, true, true, true, true, true] hg)
  · exact Or.inr (sub9_of [true, false, true, false, false, false, true, false, false, false, false] hg)
  · exact absurd rfl hne
  · exact Or.inl (sub9_of [true, false, true, false, false, false, true, true, true, false, true] hg)
  · exact Or.inr (sub9_of [true, false, true, false, false, false, false, true, true, false, true] hg)
theorem fm_cn6 {args : Array Value} {s : State} (hg : gv.before args s = true) : ∀ j : Nat, j < 8 → 6 ≠ j → (Cond.not (Cond.eq (tmC 6) (tmC j))).before args s = true ∨ (Cond.not (Cond.eq (tmC j) (tmC 6))).before args s = true := by
  intro j hj hne
  rcases (show j = 0 ∨ j = 1 ∨ j = 2 ∨ j = 3 ∨ j = 4 ∨ j = 5 ∨ j = 6 ∨ j = 7 by omega) with rfl | rfl | rfl | rfl | rfl | rfl | rfl | rfl
  · exact Or.inr (sub9_of [true, false, true, false, false, false, true, true, false, false, true] hg)
  · exact Or.inr (sub9_of [true, false, true, false, false, false, true, false, true, true, true] hg)
  · exact Or.inr (sub9_of [true, false, true, false, false, false, true, true, false, true, false] hg)
  · exact Or.inr (sub9_of [true, false, true, false, false, false, true, true, false, true, true] hg)
  · exact Or.inr (sub9_of [true, false, true, false, false, false, true, true, true, false, false] hg)
  · exact Or.inr (sub9_of [true, false, true, false, false, false, true, true, true, false, true] hg)
  · exact absurd rfl hne
  · exact Or.inr (sub9_of [true, false, true, false, false, false, true, true, false, false, false] hg)
theorem fm_cn7 {args : Array Value} {s : State} (hg : gv.before args s = true) : ∀ j : Nat, j < 8 → 7 ≠ j → (Cond.not (Cond.eq (tmC 7) (tmC j))).before args s = true ∨ (Cond.not (Cond.eq (tmC j) (tmC 7))).before args s = true := by
  intro j hj hne
  rcases (show j = 0 ∨ j = 1 ∨ j = 2 ∨ j = 3 ∨ j = 4 ∨ j = 5 ∨ j = 6 ∨ j = 7 by omega) with rfl | rfl | rfl | rfl | rfl | rfl | rfl | rfl
  · exact Or.inl (sub9_of [true, false, false, true, true, true, false, true, false, true, false] hg)
  · exact Or.inr (sub9_of [true, false, false, false, false, true, false, false, false, false, false] hg)
  · exact Or.inl (sub9_of [true, false, false, true, true, true, true, false, false, false, true] hg)
  · exact Or.inl (sub9_of [true, false, false, true, true, true, true, true, false, false, true] hg)
  · exact Or.inl (sub9_of [true, false, true, false, false, false, false, false, false, true, false] hg)
  · exact Or.inl (sub9_of [true, false, true, false, false, false, false, true, true, false, true] hg)
  · exact Or.inl (sub9_of [true, false, true, false, false, false, true, true, false, false, false] hg)
  · exact absurd rfl hne
theorem fm_cn {args : Array Value} {s : State} (hg : gv.before args s = true) : ∀ i : Nat, i < 8 → ∀ j : Nat, j < 8 → i ≠ j → (Cond.not (Cond.eq (tmC i) (tmC j))).before args s = true ∨ (Cond.not (Cond.eq (tmC j) (tmC i))).before args s = true := by
  intro i hi
  rcases (show i = 0 ∨ i = 1 ∨ i = 2 ∨ i = 3 ∨ i = 4 ∨ i = 5 ∨ i = 6 ∨ i = 7 by omega) with rfl | rfl | rfl | rfl | rfl | rfl | rfl | rfl
  · exact fm_cn0 hg
  · exact fm_cn1 hg
  · exact fm_cn2 hg
  · exact fm_cn3 hg
  · exact fm_cn4 hg
  · exact fm_cn5 hg
  · exact fm_cn6 hg
  · exact fm_cn7 hg
theorem fm_ta {args : Array Value} {s : State} (hg : gv.before args s = true) : (Cond.arrayOf tmT (.object "DockCall$Clause")).before args s = true := sub9_of [true, false, false, false, false, false, false, false, true, true, false] hg
theorem fm_tl {args : Array Value} {s : State} (hg : gv.before args s = true) : (Cond.eq (.length tmT) (.int 8)).before args s = true := sub9_of [true, false, false, false, false, false, false, false, true, true, true] hg
theorem fm_cs {args : Array Value} {s : State} (hg : gv.before args s = true) : (Cond.eq (.static "java/lang/String" "COMPACT_STRINGS" "Z") (.int 1)).before args s = true := sub9_of [true, false, false, false, false, false, true, false, false, false, false] hg
theorem fm_si {args : Array Value} {s : State} (hg : gv.before args s = true) : (Cond.isRef (.static "jdk/internal/util/Preconditions" "SIOOBE_FORMATTER" "Ljava/util/function/BiFunction;")).before args s = true := sub9_of [true, false, false, false, false, false, true, false, false, false, true] hg
theorem fm_us {args : Array Value} {s : State} (hg : gv.before args s = true) : (Cond.isRef (.static Bundle.tN "UNASSIGNED_STACK" Bundle.steD)).before args s = true := sub9_of [true, false, false, false, false, false, false, false, false, true, false] hg
theorem fm_ss {args : Array Value} {s : State} (hg : gv.before args s = true) : (Cond.isRef (.static Bundle.tN "SUPPRESSED_SENTINEL" Bundle.listD)).before args s = true := sub9_of [true, false, false, false, false, false, false, false, false, true, true] hg
theorem fm_rd96 {args : Array Value} {s : State} (hg : gv.before args s = true) : (Cond.eq (.string "DockCall$Reader" 96) (tmS 8)).before args s = true := sub9_of [true, true, true, true, false, true, false, false, true, true, true] hg
theorem fm_rd98 {args : Array Value} {s : State} (hg : gv.before args s = true) : (Cond.eq (.string "DockCall$Reader" 98) (tmS 9)).before args s = true := sub9_of [true, true, true, true, false, true, false, true, true, true, true, true] hg
theorem fm_rd100 {args : Array Value} {s : State} (hg : gv.before args s = true) : (Cond.eq (.string "DockCall$Reader" 100) (tmS 10)).before args s = true := sub9_of [true, true, true, true, false, true, true, true, false, true, false] hg
theorem fm_nc {args : Array Value} {s : State} (hg : gv.before args s = true) : ∀ E ∈ x4, ∀ F ∈ x4, E ≠ F → (Cond.not (.castable E F)).before args s = true := by
  intro E hE F hF hne
  simp only [x4, List.mem_cons, List.not_mem_nil, or_false] at hE hF
  rcases hE with rfl | rfl | rfl | rfl <;> rcases hF with rfl | rfl | rfl | rfl
  · exact absurd rfl hne
  · exact sub9_of [true, false, true, false, false, true, true, false, true, false, true] hg
  · exact sub9_of [true, false, true, false, true, false, false, false, true, false, false] hg
  · exact sub9_of [true, false, true, false, true, false, true, false, false, true, false] hg
  · exact sub9_of [true, false, true, false, false, true, false, false, true, true, false] hg
  · exact absurd rfl hne
  · exact sub9_of [true, false, true, false, true, false, false, false, true, false, true] hg
  · exact sub9_of [true, false, true, false, true, false, true, false, false, true, true] hg
  · exact sub9_of [true, false, true, false, false, true, false, false, true, true, true] hg
  · exact sub9_of [true, false, true, false, false, true, true, false, true, true, false] hg
  · exact absurd rfl hne
  · exact sub9_of [true, false, true, false, true, false, true, false, true, false, false] hg
  · exact sub9_of [true, false, true, false, false, true, false, true, false, false, true] hg
  · exact sub9_of [true, false, true, false, false, true, true, true, false, false, false] hg
  · exact sub9_of [true, false, true, false, true, false, false, false, true, true, true] hg
  · exact absurd rfl hne
set_option maxRecDepth 100000 in
theorem fm_ca : ∀ E ∈ x4, (Cond.castable E E) ∈ lw_tbl := by decide +kernel
set_option maxRecDepth 100000 in
theorem fm_xv : ∀ w ∈ xv_W, w ∈ lw_tbl := by decide +kernel
theorem fm_ev : ∀ w ∈ ev_W, w ∈ lw_tbl := by
  unfold ev_W
  simp only [List.forall_mem_cons]
  exact ⟨by decide +kernel, by decide +kernel, by decide +kernel, by decide +kernel, by decide +kernel, by decide +kernel, by decide +kernel, by decide +kernel, by decide +kernel, by decide +kernel, by decide +kernel, by decide +kernel, by decide +kernel, by decide +kernel, by decide +kernel, by decide +kernel, by decide +kernel, by decide +kernel, by decide +kernel, by decide +kernel, by decide +kernel, by decide +kernel, by decide +kernel, by decide +kernel, by decide +kernel, by decide +kernel, by decide +kernel, by decide +kernel, by decide +kernel, by decide +kernel, by decide +kernel, by decide +kernel, by decide +kernel, by decide +kernel, by decide +kernel, by decide +kernel, by decide +kernel, by decide +kernel, by decide +kernel, by decide +kernel, by decide +kernel, by decide +kernel, by decide +kernel, by decide +kernel, by decide +kernel, by decide +kernel, by decide +kernel, by decide +kernel, by decide +kernel, by decide +kernel, by decide +kernel, by decide +kernel, by decide +kernel, by decide +kernel, by decide +kernel, by decide +kernel, by decide +kernel, by decide +kernel, by decide +kernel, by decide +kernel, by decide +kernel, by decide +kernel, by decide +kernel, by decide +kernel, by decide +kernel, by decide +kernel, by decide +kernel, by decide +kernel, by decide +kernel, by decide +kernel, by decide +kernel, by decide +kernel, by decide +kernel, fun _ h => nomatch h⟩
set_option maxRecDepth 100000 in
theorem js_diff : ∀ i : Nat, i < 11 → ∀ j : Nat, j < 11 → i ≠ j → lenJS.getD i 0 ≠ lenJS.getD j 0 ∨ ∃ k ∈ List.range 8, k < lenJS.getD i 0 ∧ k < lenJS.getD j 0 ∧ (bytJS.getD i []).getD k 0 ≠ (bytJS.getD j []).getD k 0 := by decide +kernel
set_option maxRecDepth 100000 in
theorem js_len : ∀ i : Nat, i < 11 → lenJS.getD i 0 < 100 := by decide +kernel
theorem st_ref {args : Array Value} {s : State} {t : Term} {nm : String} (h : (Cond.exactly t nm).before args s = true) : ∃ a, t.eval args s none [] s = some (.ref a) := by
  obtain ⟨a2, c, cA, kA, q1, -⟩ := Cond.exactly_spec (args := args) (first := s) (o := none) (s := s) (idx := []) (t := t) (cls := nm) h
  exact ⟨a2, q1⟩
theorem st_len {args : Array Value} {s : State} {t u : Term} {o n d : String} (h : t.eval args s none [] s = u.eval args s none [] s) : (Term.length (.field t o n d)).eval args s none [] s = (Term.length (.field u o n d)).eval args s none [] s := by
  simp only [Term.eval, h]
theorem st_elem {args : Array Value} {s : State} {t u v : Term} {o n d : String} (h : t.eval args s none [] s = u.eval args s none [] s) : (Term.elem (.field t o n d) v).eval args s none [] s = (Term.elem (.field u o n d) v).eval args s none [] s := by
  simp only [Term.eval, h]
theorem st_not {args : Array Value} {s : State} {t u : Term} {a b : Nat} (ht : t.eval args s none [] s = some (.ref a)) (hu : u.eval args s none [] s = some (.ref b)) (hab : a ≠ b) : (Cond.not (.eq t u)).before args s = true := by
  simp [Cond.before, Cond.holds, Cond.value, ht, hu, hab]
theorem st_int {x y : Int32} (h : (some (Value.int x) : Option Value) = some (.int y)) : x = y := by
  cases h
  rfl
theorem xv_of1 {w : Cond} (h : xv_is w = true) {A : Array Value} {U : State} (hZ : w.before A U = true) : va_Nw w U := by
  cases w <;> first | exact va_Nw.of rfl hZ | cases h
theorem st_HL {args : Array Value} {s : State} (hts : ∀ w ∈ lw_tbl, w.before args s = true) (hg : gv.before args s = true) : HL s :=
  ⟨fun E hE => xv_of1 rfl (hts _ (fm_ca E hE)), fun E hE F hF n => va_Nc.of (fm_nc hg E hE F hF n)⟩
theorem st_EV {args : Array Value} {s : State} (hts : ∀ w ∈ lw_tbl, w.before args s = true) : EV s := fun w hw => ev_of1 (ev_all w hw) (hts w (fm_ev w hw))
theorem st_S {args : Array Value} {s : State} {A : Nat → Prop} (hg : gv.before args s = true) (hA : ∀ a : Nat, a < s.heap.size → ¬ A a) : ∃ adK adV : Nat → Nat, vk_S 11 lenJS bytJS adK adV A s s.heap ∧ ∀ i : Nat, i < 11 → (tmS i).eval args s none [] s = some (.ref (adK i)) := by
  refine vk_Sof (fun i hi => Nat.lt_trans (js_len i hi) (by decide)) (fun i hi => fm_ex hg i hi) (fun i hi => fm_co hg i hi) (fun i hi => fm_ar hg i hi) (fun i hi => fm_le hg i hi) (fun i hi j hj => fm_el hg i hi j hj) (fun i j hi hj hij => Or.inl ?_) hA
  obtain ⟨a, ha⟩ := st_ref (fm_ex hg i hi)
  obtain ⟨b, hb⟩ := st_ref (fm_ex hg j hj)
  refine st_not ha hb (fun e => ?_)
  have he : (tmS i).eval args s none [] s = (tmS j).eval args s none [] s := by rw [ha, hb, e]
  rcases js_diff i hi j hj hij with h | ⟨k, -, k1, k2, h⟩
  · have h1 := st_len (o := "java/lang/String") (n := "value") (d := "[B") he
    rw [va_eqt (fm_le hg i hi), va_eqt (fm_le hg j hj)] at h1
    have h2 := congrArg Int32.toInt (st_int h1)
    have e1 : (Int32.ofNat (lenJS.getD i 0)).toInt = (lenJS.getD i 0 : Nat) := nI_toInt (Nat.lt_trans (js_len i hi) (by decide))
    have e2 : (Int32.ofNat (lenJS.getD j 0)).toInt = (lenJS.getD j 0 : Nat) := nI_toInt (Nat.lt_trans (js_len j hj) (by decide))
    rw [e1, e2] at h2
    exact h (by omega)
  · have h1 := st_elem (o := "java/lang/String") (n := "value") (d := "[B") (v := .int (Int32.ofNat k)) he
    rw [va_eqt (fm_el hg i hi k k1), va_eqt (fm_el hg j hj k k2)] at h1
    exact h (st_int h1)
theorem va_Tx {ty : FieldType} {a N : Nat} {f g : Nat → Value} {A : Nat → Prop} {s : State} {H : Heap} (h : va_T ty a N f A s H) (hfg : ∀ j, j < N → g j = f j) : va_T ty a N g A s H := by
  obtain ⟨cell, h1, h2, h3, h4, h5, h6, h7⟩ := h
  exact ⟨cell, h1, h2, h3, h4, h5, fun j hj => by rw [hfg j hj]; exact h6 j hj, h7⟩
/-- the addresses of all these -/
theorem st_E {args : Array Value} {s : State} {A : Nat → Prop} (hg : gv.before args s = true) (hA : ∀ a : Nat, a < s.heap.size → ¬ A a) : ∃ E : Nat → Nat, vk_S 11 lenJS bytJS E (fun k => E (100 + k)) A s s.heap ∧ (∀ i : Nat, i < 11 → (tmS i).eval args s none [] s = some (.ref (E i))) ∧ (∀ i : Nat, i < 18 → (tmM i).eval args s none [] s = some (.ref (E (11 + i)))) ∧ (∀ i : Nat, i < 8 → (tmC i).eval args s none [] s = some (.ref (E (200 + i)))) ∧
    tmT.eval args s none [] s = some (.ref (E 300)) ∧ va_T (.object "DockCall$Clause") (E 300) 8 (fun j => .ref (E (200 + j))) A s s.heap := by
  obtain ⟨adK, adV, hS, hK⟩ := st_S (A := A) hg hA
  have h1 : ∀ i : Nat, ∃ a : Nat, i < 18 → (tmM i).eval args s none [] s = some (.ref a) := fun i => by
    by_cases hi : i < 18
    · obtain ⟨a, ha⟩ := st_ref (fm_ms hg i hi)
      exact ⟨a, fun _ => ha⟩
    · exact ⟨0, fun h => absurd h hi⟩
  obtain ⟨am, hm⟩ := Classical.axiomOfChoice h1
  have h2 : ∀ i : Nat, ∃ a : Nat, i < 8 → (tmC i).eval args s none [] s = some (.ref a) := fun i => by
    by_cases hi : i < 8
    · obtain ⟨a, ha⟩ := st_ref (fm_cx hg i hi)
      exact ⟨a, fun _ => ha⟩
    · exact ⟨0, fun h => absurd h hi⟩
  obtain ⟨ac, hc⟩ := Classical.axiomOfChoice h2
  obtain ⟨tt, ht, hT⟩ := va_Tof (args := args) (s := s) (tm := tmT) (ty := .object "DockCall$Clause") (N := 8) (f := fun j => .ref (ac j)) (A := A) (by decide) (fm_ta hg) (va_eqt (fm_tl hg)) (fun j hj => va_eqv (fm_te hg j hj) (hc j hj)) hA
  obtain ⟨E, hE⟩ : ∃ E : Nat → Nat, E = fun n => if n < 11 then adK n else if n < 100 then am (n - 11) else if n < 200 then adV (n - 100) else if n < 300 then ac (n - 200) else tt := ⟨_, rfl⟩
  have e1 : ∀ i : Nat, i < 11 → E i = adK i := fun i hi => by rw [hE]; exact if_pos hi
  have e2 : ∀ i : Nat, i < 18 → E (11 + i) = am i := fun i hi => by
    rw [hE]
    show (if 11 + i < 11 then _ else if 11 + i < 100 then am (11 + i - 11) else _) = _
    rw [if_neg (by omega), if_pos (by omega), show 11 + i - 11 = i by omega]
  have e3 : ∀ i : Nat, i < 100 → E (100 + i) = adV i := fun i hi => by
    rw [hE]
    show (if 100 + i < 11 then _ else if 100 + i < 100 then _ else if 100 + i < 200 then adV (100 + i - 100) else _) = _
    rw [if_neg (by omega), if_neg (by omega), if_pos (by omega), show 100 + i - 100 = i by omega]
  have e4 : ∀ i : Nat, i < 100 → E (200 + i) = ac i := fun i hi => by
    rw [hE]
    show (if 200 + i < 11 then _ else if 200 + i < 100 then _ else if 200 + i < 200 then _ else if 200 + i < 300 then ac (200 + i - 200) else _) = _
    rw [if_neg (by omega), if_neg (by omega), if_neg (by omega), if_pos (by omega), show 200 + i - 200 = i by omega]
  have e5 : E 300 = tt := by
    rw [hE]
    rfl
  refine ⟨E, ⟨fun i hi => ?_, fun i j hi hj h => hS.2 i j hi hj (by rw [← e1 i hi, ← e1 j hj]; exact h)⟩, fun i hi => by rw [e1 i hi]; exact hK i hi, fun i hi => by rw [e2 i hi]; exact hm i hi, fun i hi => by rw [e4 i (by omega)]; exact hc i hi, by rw [e5]; exact ht, ?_⟩
  · show va_O "java/lang/String" (E i) A s s.heap ∧ va_OF "java/lang/String" "coder" "B" (.int 0) (E i) A s s.heap ∧ va_OF "java/lang/String" "value" "[B" (.ref (E (100 + i))) (E i) A s s.heap ∧ va_T .byte (E (100 + i)) (lenJS.getD i 0) (fun j => .int ((bytJS.getD i []).getD j 0)) A s s.heap
    rw [e1 i hi, e3 i (by omega)]
    exact hS.1 i hi
  · rw [e5]
    exact va_Tx hT (fun j hj => by rw [e4 j (by omega)])
set_option maxRecDepth 100000 in
theorem st_R {args : Array Value} {s : State} {E : Nat → Nat} (hts : ∀ w ∈ lw_tbl, w.before args s = true) (hg : gv.before args s = true) (hK : ∀ i : Nat, i < 11 → (tmS i).eval args s none [] s = some (.ref (E i))) (hm : ∀ i : Nat, i < 18 → (tmM i).eval args s none [] s = some (.ref (E (11 + i)))) : ∀ q ∈ xs_L, vk_R q.1 q.2.1 q.2.2.1 (E q.2.2.2) s := by
  intro q hq
  simp only [xs_L, List.mem_cons, List.not_mem_nil, or_false] at hq
  rcases hq with rfl | rfl | rfl | rfl | rfl | rfl | rfl | rfl | rfl | rfl | rfl | rfl | rfl | rfl | rfl | rfl | rfl | rfl | rfl | rfl | rfl | rfl | rfl | rfl | rfl | rfl | rfl | rfl | rfl | rfl | rfl | rfl
  · exact vk_R.of (hts (.stringRef "DockCallModel" 165 "gang") (by decide +kernel)) (hK 0 (by decide))
  · exact vk_R.of (hts (.stringRef "DockCallModel" 166 "cranes") (by decide +kernel)) (hK 1 (by decide))
  · exact vk_R.of (hts (.stringRef "DockCallModel" 168 "bar") (by decide +kernel)) (hK 2 (by decide))
  · exact vk_R.of (hts (.stringRef "DockCallModel" 170 "pay") (by decide +kernel)) (hK 3 (by decide))
  · exact vk_R.of (hts (.stringRef "DockCallModel" 172 "rain") (by decide +kernel)) (hK 4 (by decide))
  · exact vk_R.of (hts (.stringRef "DockCallModel" 174 "broken") (by decide +kernel)) (hK 5 (by decide))
  · exact vk_R.of (hts (.stringRef "DockCallModel" 176 "first") (by decide +kernel)) (hK 6 (by decide))
  · exact vk_R.of (hts (.stringRef "DockCallModel" 178 "rate") (by decide +kernel)) (hK 7 (by decide))
  · exact vk_R.of (hts (.stringRef "DockCallModel" 180 "waiting") (by decide +kernel)) (hK 8 (by decide))
  · exact vk_R.of (hts (.stringRef "DockCallModel" 182 "tons") (by decide +kernel)) (hK 9 (by decide))
  · exact vk_R.of (hts (.stringRef "DockCallModel" 183 "number") (by decide +kernel)) (hK 10 (by decide))
  · exact vk_R.of (hts (.stringRef "DockCall$Reader" 96 "waiting") (by decide +kernel)) (va_eqv (fm_rd96 hg) (hK 8 (by decide)))
  · exact vk_R.of (hts (.stringRef "DockCall$Reader" 98 "tons") (by decide +kernel)) (va_eqv (fm_rd98 hg) (hK 9 (by decide)))
  · exact vk_R.of (hts (.stringRef "DockCall$Reader" 100 "number") (by decide +kernel)) (va_eqv (fm_rd100 hg) (hK 10 (by decide)))
  · exact vk_R.of (hts (.stringRef "DockCall" 76 "skills are 1 to 15") (by decide +kernel)) (hm 0 (by decide))
  · exact vk_R.of (hts (.stringRef "DockCall" 86 "there are 24 men") (by decide +kernel)) (hm 1 (by decide))
  · exact vk_R.of (hts (.stringRef "DockCall" 94 "there are 10 ships") (by decide +kernel)) (hm 2 (by decide))
  · exact vk_R.of (hts (.stringRef "DockCall" 106 "no such ship") (by decide +kernel)) (hm 3 (by decide))
  · exact vk_R.of (hts (.stringRef "DockCall" 109 "tons are 0 to 2000, a skill is 0 to 3") (by decide +kernel)) (hm 4 (by decide))
  · exact vk_R.of (hts (.stringRef "DockCall" 114 "it has 4 hatches") (by decide +kernel)) (hm 5 (by decide))
  · exact vk_R.of (hts (.stringRef "DockCall" 124 "the text is wrong") (by decide +kernel)) (hm 6 (by decide))
  · exact vk_R.of (hts (.stringRef "DockCall" 140 "the agreement says 0 to 10") (by decide +kernel)) (hm 7 (by decide))
  · exact vk_R.of (hts (.stringRef "DockCall" 143 "rain is 0 to 15") (by decide +kernel)) (hm 8 (by decide))
  · exact vk_R.of (hts (.stringRef "DockCall" 150 "no such man") (by decide +kernel)) (hm 9 (by decide))
  · exact vk_R.of (hts (.stringRef "DockCall" 171 "of a man there is 0 to 5") (by decide +kernel)) (hm 10 (by decide))
  · exact vk_R.of (hts (.stringRef "DockCall" 173 "no such ship or hatch") (by decide +kernel)) (hm 11 (by decide))
  · exact vk_R.of (hts (.stringRef "DockCall" 190 "of a ship there is 0 to 3") (by decide +kernel)) (hm 12 (by decide))
  · exact vk_R.of (hts (.stringRef "DockCall" 193 "no such entry") (by decide +kernel)) (hm 13 (by decide))
  · exact vk_R.of (hts (.stringRef "DockCall" 207 "of an entry there is 0 to 3") (by decide +kernel)) (hm 14 (by decide))
  · exact vk_R.of (hts (.stringRef "DockCall" 210 "money is 0 to 100000") (by decide +kernel)) (hm 15 (by decide))
  · exact vk_R.of (hts (.stringRef "DockCall" 220 "gangs are 0 to 8, at most 1 to 4 a call") (by decide +kernel)) (hm 16 (by decide))
  · exact vk_R.of (hts (.stringRef "DockCall" 228 "gangs a call are 1 to 8") (by decide +kernel)) (hm 17 (by decide))
set_option maxRecDepth 100000 in
theorem cl_w11 : ∀ i : Nat, i < 8 → cl_w.getD i 0 < 11 := by decide +kernel
set_option maxRecDepth 100000 in
theorem st_HX {args : Array Value} {s : State} {A : Nat → Prop} (hts : ∀ w ∈ lw_tbl, w.before args s = true) (hg : gv.before args s = true) (hA : ∀ a : Nat, a < s.heap.size → ¬ A a) : ∃ E : Nat → Nat, HX E A s s.heap := by
  obtain ⟨E, hS, hK, hm, hc, ht, hT⟩ := st_E (A := A) hg hA
  refine ⟨E, fun w hw => xv_of1 (xv_all w hw) (hts w (fm_xv w hw)), st_R hts hg hK hm, fun i j hi hj h => ?_, vx_Zqof (hts _ (show Cond.laysStatic Bundle.tN "UNASSIGNED_STACK" Bundle.steD ∈ lw_tbl by decide +kernel)) (hts _ (show Cond.initialized Bundle.tN ∈ lw_tbl by decide +kernel)) (fm_us hg) hA, vx_Zqof (hts _ (show Cond.laysStatic Bundle.tN "SUPPRESSED_SENTINEL" Bundle.listD ∈ lw_tbl by decide +kernel)) (hts _ (show Cond.initialized Bundle.tN ∈ lw_tbl by decide +kernel)) (fm_ss hg) hA, hS, fun i hi => ⟨va_Oof (fm_cx hg i hi) (hc i hi) hA, vk_OFof (hc i hi) (va_eqv (fm_cw hg i hi) (va_eqR (fm_cd hg i hi) (hK _ (cl_w11 i hi)))) hA, vk_OFof (hc i hi) (va_eqt (fm_cp hg i hi)) hA, vk_OFof (hc i hi) (va_eqt (fm_cl hg i hi)) hA, vk_OFof (hc i hi) (va_eqt (fm_cm hg i hi)) hA⟩, va_Zof (hts (.laysStatic "DockCall$Reader" "CLAUSES" "[LDockCall$Clause;") (by decide +kernel)) (hts (.initialized "DockCall$Reader") (by decide +kernel)) ht hA, hT, va_Zof (hts (.laysStatic "DockCall$Clause" "RATE_OF_SKILL" "LDockCall$Clause;") (by decide +kernel)) (hts (.initialized "DockCall$Clause") (by decide +kernel)) (hc 1 (by decide)) hA, va_Zof (hts (.laysStatic "DockCall$Clause" "FIRST_SHIPS" "LDockCall$Clause;") (by decide +kernel)) (hts (.initialized "DockCall$Clause") (by decide +kernel)) (hc 7 (by decide)) hA, va_Zof (hts (.laysStatic "java/lang/String" "COMPACT_STRINGS" "Z") (by decide +kernel)) (hts (.initialized "java/lang/String") (by decide +kernel)) (va_eqi (fm_cs hg)) hA, va_Zqof (hts (.laysStatic "jdk/internal/util/Preconditions" "SIOOBE_FORMATTER" "Ljava/util/function/BiFunction;") (by decide +kernel)) (hts (.initialized "jdk/internal/util/Preconditions") (by decide +kernel)) (fm_si hg) hA⟩
  by_cases hij : i = j
  · exact hij
  · rcases fm_cn hg i hi j hj hij with h9 | h9
    · exact absurd h (va_neR h9 (hc i hi) (hc j hj))
    · exact absurd h.symm (va_neR h9 (hc j hj) (hc i hi))
