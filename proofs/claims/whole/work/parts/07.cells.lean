/-- the cell of an object of X8: its fields in their order -/
abbrev ce_dk (ad : Nat → Nat)  : Nat × va_E := ((ad 0), .inr (10, [.ref (ad 1), .ref (ad 3), .ref (ad 4), .ref (ad 6), .ref (ad 14), .ref (ad 23), .ref (ad 31), .ref (ad 33)]))
/-- the cell of an object of X7: its fields in their order -/
abbrev ce_tp (ad : Nat → Nat) (t_length : Int32) : Nat × va_E := ((ad 1), .inr (9, [.ref (ad 2), .int t_length]))
/-- the cell of an object of X4: its fields in their order -/
abbrev ce_rd (ad : Nat → Nat) (e_at : Int32) (e_wrongAt : Int32) : Nat × va_E := ((ad 4), .inr (6, [.ref (ad 1), .ref (ad 5), .int e_at, .int e_wrongAt]))
/-- the cell of an object of X2: its fields in their order -/
abbrev ce_mn (ad : Nat → Nat) (m_size : Int32) : Nat × va_E := ((ad 6), .inr (4, [.ref (ad 7), .ref (ad 8), .ref (ad 9), .ref (ad 10), .ref (ad 11), .ref (ad 12), .ref (ad 13), .int m_size]))
/-- the cell of an object of X6: its fields in their order -/
abbrev ce_sh (ad : Nat → Nat) (s_inLine : Int32) (s_size : Int32) : Nat × va_E := ((ad 14), .inr (8, [.ref (ad 15), .ref (ad 16), .ref (ad 17), .ref (ad 18), .ref (ad 19), .ref (ad 20), .ref (ad 21), .ref (ad 22), .int s_inLine, .int s_size]))
/-- the cell of an object of X1: its fields in their order -/
abbrev ce_lg (ad : Nat → Nat) (g_size : Int32) (g_rulings : Int32) (g_paid : Int32) : Nat × va_E := ((ad 23), .inr (3, [.ref (ad 24), .ref (ad 25), .ref (ad 26), .ref (ad 27), .ref (ad 28), .ref (ad 29), .ref (ad 30), .int g_size, .int g_rulings, .int g_paid]))
/-- the cell of an object of X5: its fields in their order -/
abbrev ce_ro (ad : Nat → Nat) (o_number : Int32) (o_gangsInAll : Int32) (o_tonsMoved : Int32) (o_idle : Int32) (o_worked : Int32) (o_rained : Int32) : Nat × va_E := ((ad 31), .inr (7, [.ref (ad 3), .ref (ad 6), .ref (ad 14), .ref (ad 23), .ref (ad 32), .int o_number, .int o_gangsInAll, .int o_tonsMoved, .int o_idle, .int o_worked, .int o_rained]))
/-- the cell of an object of X3: its fields in their order -/
abbrev ce_pl (ad : Nat → Nat) (p_size : Int32) : Nat × va_E := ((ad 33), .inr (5, [.ref (ad 34), .ref (ad 35), .ref (ad 36), .ref (ad 37), .ref (ad 38), .int p_size]))
/-- the cell of an object of X9: its fields in their order -/
abbrev ce_xm (bd : Nat → Nat) (x_thrown : Int32) (x_men : Int32) (x_ships : Int32) (x_entries : Int32) (x_rules : Int32) (x_calls : Int32) (x_gangs : Int32) (x_idle : Int32) (x_moved : Int64) (x_paid : Int64) (x_taped : Int32) (x_at : Int32) (x_end : Int32) (x_begin : Int32) (x_faultAt : Int32) (x_wants : Int32) : Nat × va_E := ((bd 0), .inr (11, [.int x_thrown, .ref (bd 1), .ref (bd 2), .ref (bd 3), .ref (bd 4), .ref (bd 5), .ref (bd 6), .int x_men, .ref (bd 7), .ref (bd 8), .ref (bd 9), .ref (bd 10), .ref (bd 11), .ref (bd 12), .int x_ships, .ref (bd 13), .ref (bd 14), .ref (bd 15), .ref (bd 16), .ref (bd 17), .int x_entries, .ref (bd 18), .ref (bd 19), .ref (bd 20), .int x_rules, .int x_calls, .int x_gangs, .int x_idle, .long x_moved, .long x_paid, .ref (bd 21), .int x_taped, .ref (bd 22), .int x_at, .int x_end, .int x_begin, .int x_faultAt, .ref (bd 23), .ref (bd 24), .ref (bd 25), .ref (bd 26), .ref (bd 27), .ref (bd 28), .ref (bd 29), .ref (bd 30), .int x_wants, .ref (bd 31)]))
