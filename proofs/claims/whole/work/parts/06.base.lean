/-! What every contract here takes along: words on nest mates, the classes of arrays; the shape of a start and of an end; calls in one row. -/
def ev_W : List Cond := [Cond.methodLinkNest "DockCall" 9 ⟨"DockCall$Tape", "<init>", "()V"⟩ "DockCall", Cond.fieldLinkNest "DockCall" 66 "DockCall$Tape" "length" "I" "DockCall", Cond.fieldLinkNest "DockCall$Reader" 39 "DockCall$Tape" "length" "I" "DockCall", Cond.methodLinkNest "DockCall" 22 ⟨"DockCall$Reader", "<init>", "(LDockCall$Tape;)V"⟩ "DockCall", Cond.fieldLinkNest "DockCall" 126 "DockCall$Reader" "told" "[I" "DockCall", Cond.fieldLinkNest "DockCall" 135 "DockCall$Reader" "wrongAt" "I" "DockCall", Cond.methodLinkNest "DockCall" 31 ⟨"DockCall$Men", "<init>", "()V"⟩ "DockCall", Cond.fieldLinkNest "DockCall" 152 "DockCall$Men" "skills" "[I" "DockCall", Cond.fieldLinkNest "DockCall" 155 "DockCall$Men" "turns" "[I" "DockCall", Cond.fieldLinkNest "DockCall" 162 "DockCall$Men" "refusals" "[I" "DockCall", Cond.fieldLinkNest "DockCall" 165 "DockCall$Men" "gangShip" "[I" "DockCall", Cond.fieldLinkNest "DockCall" 168 "DockCall$Men" "gangHatch" "[I" "DockCall", Cond.fieldLinkNest "DockCall$Round" 98 "DockCall$Men" "line" "[I" "DockCall", Cond.fieldLinkNest "DockCall$Round" 95 "DockCall$Men" "size" "I" "DockCall", Cond.fieldLinkNest "DockCall" 81 "DockCall$Men" "size" "I" "DockCall", Cond.methodLinkNest "DockCall" 38 ⟨"DockCall$Ships", "<init>", "()V"⟩ "DockCall", Cond.fieldLinkNest "DockCall" 181 "DockCall$Ships" "came" "[I" "DockCall", Cond.fieldLinkNest "DockCall$Round" 66 "DockCall$Ships" "hatches" "[I" "DockCall", Cond.fieldLinkNest "DockCall" 111 "DockCall$Ships" "hatches" "[I" "DockCall", Cond.fieldLinkNest "DockCall" 187 "DockCall$Ships" "waited" "[I" "DockCall", Cond.fieldLinkNest "DockCall$Round" 73 "DockCall$Ships" "left" "[I" "DockCall", Cond.fieldLinkNest "DockCall" 175 "DockCall$Ships" "left" "[I" "DockCall", Cond.fieldLinkNest "DockCall$Round" 76 "DockCall$Ships" "skill" "[I" "DockCall", Cond.fieldLinkNest "DockCall$Round" 112 "DockCall$Ships" "dry" "[Z" "DockCall", Cond.fieldLinkNest "DockCall$Round" 50 "DockCall$Ships" "line" "[I" "DockCall", Cond.fieldLinkNest "DockCall$Round" 47 "DockCall$Ships" "inLine" "I" "DockCall", Cond.fieldLinkNest "DockCall" 93 "DockCall$Ships" "size" "I" "DockCall", Cond.methodLinkNest "DockCall" 45 ⟨"DockCall$Ledger", "<init>", "()V"⟩ "DockCall", Cond.fieldLinkNest "DockCall" 195 "DockCall$Ledger" "madeAt" "[I" "DockCall", Cond.fieldLinkNest "DockCall" 198 "DockCall$Ledger" "card" "[I" "DockCall", Cond.fieldLinkNest "DockCall" 201 "DockCall$Ledger" "money" "[I" "DockCall", Cond.fieldLinkNest "DockCall" 233 "DockCall$Ledger" "size" "I" "DockCall", Cond.fieldLinkNest "DockCall" 246 "DockCall$Ledger" "rulings" "I" "DockCall", Cond.fieldLinkNest "DockCall" 249 "DockCall$Ledger" "paid" "I" "DockCall", Cond.methodLinkNest "DockCall" 52 ⟨"DockCall$Round", "<init>", "([ILDockCall$Men;LDockCall$Ships;LDockCall$Ledger;)V"⟩ "DockCall", Cond.fieldLinkNest "DockCall" 96 "DockCall$Round" "number" "I" "DockCall", Cond.fieldLinkNest "DockCall" 240 "DockCall$Round" "gangsInAll" "I" "DockCall", Cond.fieldLinkNest "DockCall" 237 "DockCall$Round" "tonsMoved" "I" "DockCall", Cond.fieldLinkNest "DockCall" 243 "DockCall$Round" "idle" "I" "DockCall", Cond.methodLinkNest "DockCall" 61 ⟨"DockCall$Planner", "<init>", "()V"⟩ "DockCall", Cond.methodLinkNest "DockCall" 70 ⟨"DockCall$Tape", "putNumber", "(I)V"⟩ "DockCall", Cond.methodLinkNest "DockCall" 224 ⟨"DockCall$Planner", "clear", "()I"⟩ "DockCall", Cond.methodLinkNest "DockCall" 234 ⟨"DockCall$Ships", "tonsLeft", "()I"⟩ "DockCall", Cond.methodLinkNest "DockCall" 89 ⟨"DockCall$Men", "add", "(I)I"⟩ "DockCall", Cond.methodLinkNest "DockCall" 99 ⟨"DockCall$Ships", "add", "(I)I"⟩ "DockCall", Cond.methodLinkNest "DockCall" 100 ⟨"DockCall$Ships", "has", "(I)Z"⟩ "DockCall", Cond.methodLinkNest "DockCall" 116 ⟨"DockCall$Ships", "addHatch", "(IIIZ)I"⟩ "DockCall", Cond.methodLinkNest "DockCall" 120 ⟨"DockCall$Reader", "readText", "([I)I"⟩ "DockCall", Cond.methodLinkNest "DockCall$Reader" 44 ⟨"DockCall$Tape", "byteAt", "(I)I"⟩ "DockCall", Cond.methodLinkNest "DockCall" 145 ⟨"DockCall$Round", "hold", "(II)I"⟩ "DockCall", Cond.methodLinkNest "DockCall$Round" 30 ⟨"DockCall$Men", "leaveGangs", "()V"⟩ "DockCall", Cond.methodLinkNest "DockCall$Round" 35 ⟨"DockCall$Men", "lineUp", "()V"⟩ "DockCall", Cond.methodLinkNest "DockCall$Round" 38 ⟨"DockCall$Ships", "lineUp", "(I)V"⟩ "DockCall", Cond.methodLinkNest "DockCall$Round" 69 ⟨"DockCall$Ships", "place", "(II)I"⟩ "DockCall", Cond.methodLinkNest "DockCall$Round" 99 ⟨"DockCall$Men", "mayBeAsked", "(III)Z"⟩ "DockCall", Cond.methodLinkNest "DockCall$Round" 103 ⟨"DockCall$Men", "refuse", "(II)V"⟩ "DockCall", Cond.methodLinkNest "DockCall$Round" 123 ⟨"DockCall$Men", "joinGang", "(III)V"⟩ "DockCall", Cond.methodLinkNest "DockCall$Round" 127 ⟨"DockCall$Ledger", "add", "(III)V"⟩ "DockCall", Cond.methodLinkNest "DockCall$Round" 57 ⟨"DockCall$Ships", "countWaiting", "()V"⟩ "DockCall", Cond.methodLinkNest "DockCall" 149 ⟨"DockCall$Men", "has", "(I)Z"⟩ "DockCall", Cond.methodLinkNest "DockCall" 158 ⟨"DockCall$Men", "isBarred", "(II)Z"⟩ "DockCall", Cond.methodLinkNest "DockCall" 178 ⟨"DockCall$Ships", "place", "(II)I"⟩ "DockCall", Cond.methodLinkNest "DockCall" 184 ⟨"DockCall$Ships", "isDone", "(I)Z"⟩ "DockCall", Cond.methodLinkNest "DockCall" 192 ⟨"DockCall$Ledger", "has", "(I)Z"⟩ "DockCall", Cond.methodLinkNest "DockCall" 204 ⟨"DockCall$Ledger", "knownMoney", "(II)I"⟩ "DockCall", Cond.methodLinkNest "DockCall" 212 ⟨"DockCall$Ledger", "addRuling", "(III)Z"⟩ "DockCall", Cond.methodLinkNest "DockCall" 216 ⟨"DockCall$Ledger", "sumOf", "(III)I"⟩ "DockCall", Cond.methodLinkNest "DockCall" 222 ⟨"DockCall$Planner", "add", "(II)I"⟩ "DockCall", Cond.methodLinkNest "DockCall" 230 ⟨"DockCall$Planner", "leastWaiting", "(I)I"⟩ "DockCall", Cond.fieldLinkNest "DockCall$Reader" 88 "DockCall$Clause" "word" "Ljava/lang/String;" "DockCall", Cond.fieldLinkNest "DockCall$Reader" 58 "DockCall$Clause" "place" "I" "DockCall", Cond.fieldLinkNest "DockCall$Reader" 78 "DockCall$Clause" "least" "I" "DockCall", Cond.fieldLinkNest "DockCall$Reader" 81 "DockCall$Clause" "most" "I" "DockCall"]
theorem nwm_RX8_9 : Cond.methodLinkNest "DockCall" 9 ⟨"DockCall$Tape", "<init>", "()V"⟩ "DockCall" ∈ ev_W := List.mem_of_getElem? (i := 0) rfl
theorem nwf_RX8_66 : Cond.fieldLinkNest "DockCall" 66 "DockCall$Tape" "length" "I" "DockCall" ∈ ev_W := List.mem_of_getElem? (i := 1) rfl
theorem nwf_RX4_39 : Cond.fieldLinkNest "DockCall$Reader" 39 "DockCall$Tape" "length" "I" "DockCall" ∈ ev_W := List.mem_of_getElem? (i := 2) rfl
theorem nwm_RX8_22 : Cond.methodLinkNest "DockCall" 22 ⟨"DockCall$Reader", "<init>", "(LDockCall$Tape;)V"⟩ "DockCall" ∈ ev_W := List.mem_of_getElem? (i := 3) rfl
theorem nwf_RX8_126 : Cond.fieldLinkNest "DockCall" 126 "DockCall$Reader" "told" "[I" "DockCall" ∈ ev_W := List.mem_of_getElem? (i := 4) rfl
theorem nwf_RX8_135 : Cond.fieldLinkNest "DockCall" 135 "DockCall$Reader" "wrongAt" "I" "DockCall" ∈ ev_W := List.mem_of_getElem? (i := 5) rfl
theorem nwm_RX8_31 : Cond.methodLinkNest "DockCall" 31 ⟨"DockCall$Men", "<init>", "()V"⟩ "DockCall" ∈ ev_W := List.mem_of_getElem? (i := 6) rfl
theorem nwf_RX8_152 : Cond.fieldLinkNest "DockCall" 152 "DockCall$Men" "skills" "[I" "DockCall" ∈ ev_W := List.mem_of_getElem? (i := 7) rfl
theorem nwf_RX8_155 : Cond.fieldLinkNest "DockCall" 155 "DockCall$Men" "turns" "[I" "DockCall" ∈ ev_W := List.mem_of_getElem? (i := 8) rfl
theorem nwf_RX8_162 : Cond.fieldLinkNest "DockCall" 162 "DockCall$Men" "refusals" "[I" "DockCall" ∈ ev_W := List.mem_of_getElem? (i := 9) rfl
theorem nwf_RX8_165 : Cond.fieldLinkNest "DockCall" 165 "DockCall$Men" "gangShip" "[I" "DockCall" ∈ ev_W := List.mem_of_getElem? (i := 10) rfl
theorem nwf_RX8_168 : Cond.fieldLinkNest "DockCall" 168 "DockCall$Men" "gangHatch" "[I" "DockCall" ∈ ev_W := List.mem_of_getElem? (i := 11) rfl
theorem nwf_RX5_98 : Cond.fieldLinkNest "DockCall$Round" 98 "DockCall$Men" "line" "[I" "DockCall" ∈ ev_W := List.mem_of_getElem? (i := 12) rfl
theorem nwf_RX5_95 : Cond.fieldLinkNest "DockCall$Round" 95 "DockCall$Men" "size" "I" "DockCall" ∈ ev_W := List.mem_of_getElem? (i := 13) rfl
theorem nwf_RX8_81 : Cond.fieldLinkNest "DockCall" 81 "DockCall$Men" "size" "I" "DockCall" ∈ ev_W := List.mem_of_getElem? (i := 14) rfl
theorem nwm_RX8_38 : Cond.methodLinkNest "DockCall" 38 ⟨"DockCall$Ships", "<init>", "()V"⟩ "DockCall" ∈ ev_W := List.mem_of_getElem? (i := 15) rfl
theorem nwf_RX8_181 : Cond.fieldLinkNest "DockCall" 181 "DockCall$Ships" "came" "[I" "DockCall" ∈ ev_W := List.mem_of_getElem? (i := 16) rfl
theorem nwf_RX5_66 : Cond.fieldLinkNest "DockCall$Round" 66 "DockCall$Ships" "hatches" "[I" "DockCall" ∈ ev_W := List.mem_of_getElem? (i := 17) rfl
theorem nwf_RX8_111 : Cond.fieldLinkNest "DockCall" 111 "DockCall$Ships" "hatches" "[I" "DockCall" ∈ ev_W := List.mem_of_getElem? (i := 18) rfl
theorem nwf_RX8_187 : Cond.fieldLinkNest "DockCall" 187 "DockCall$Ships" "waited" "[I" "DockCall" ∈ ev_W := List.mem_of_getElem? (i := 19) rfl
theorem nwf_RX5_73 : Cond.fieldLinkNest "DockCall$Round" 73 "DockCall$Ships" "left" "[I" "DockCall" ∈ ev_W := List.mem_of_getElem? (i := 20) rfl
theorem nwf_RX8_175 : Cond.fieldLinkNest "DockCall" 175 "DockCall$Ships" "left" "[I" "DockCall" ∈ ev_W := List.mem_of_getElem? (i := 21) rfl
theorem nwf_RX5_76 : Cond.fieldLinkNest "DockCall$Round" 76 "DockCall$Ships" "skill" "[I" "DockCall" ∈ ev_W := List.mem_of_getElem? (i := 22) rfl
theorem nwf_RX5_112 : Cond.fieldLinkNest "DockCall$Round" 112 "DockCall$Ships" "dry" "[Z" "DockCall" ∈ ev_W := List.mem_of_getElem? (i := 23) rfl
theorem nwf_RX5_50 : Cond.fieldLinkNest "DockCall$Round" 50 "DockCall$Ships" "line" "[I" "DockCall" ∈ ev_W := List.mem_of_getElem? (i := 24) rfl
theorem nwf_RX5_47 : Cond.fieldLinkNest "DockCall$Round" 47 "DockCall$Ships" "inLine" "I" "DockCall" ∈ ev_W := List.mem_of_getElem? (i := 25) rfl
theorem nwf_RX8_93 : Cond.fieldLinkNest "DockCall" 93 "DockCall$Ships" "size" "I" "DockCall" ∈ ev_W := List.mem_of_getElem? (i := 26) rfl
theorem nwm_RX8_45 : Cond.methodLinkNest "DockCall" 45 ⟨"DockCall$Ledger", "<init>", "()V"⟩ "DockCall" ∈ ev_W := List.mem_of_getElem? (i := 27) rfl
theorem nwf_RX8_195 : Cond.fieldLinkNest "DockCall" 195 "DockCall$Ledger" "madeAt" "[I" "DockCall" ∈ ev_W := List.mem_of_getElem? (i := 28) rfl
theorem nwf_RX8_198 : Cond.fieldLinkNest "DockCall" 198 "DockCall$Ledger" "card" "[I" "DockCall" ∈ ev_W := List.mem_of_getElem? (i := 29) rfl
theorem nwf_RX8_201 : Cond.fieldLinkNest "DockCall" 201 "DockCall$Ledger" "money" "[I" "DockCall" ∈ ev_W := List.mem_of_getElem? (i := 30) rfl
theorem nwf_RX8_233 : Cond.fieldLinkNest "DockCall" 233 "DockCall$Ledger" "size" "I" "DockCall" ∈ ev_W := List.mem_of_getElem? (i := 31) rfl
theorem nwf_RX8_246 : Cond.fieldLinkNest "DockCall" 246 "DockCall$Ledger" "rulings" "I" "DockCall" ∈ ev_W := List.mem_of_getElem? (i := 32) rfl
theorem nwf_RX8_249 : Cond.fieldLinkNest "DockCall" 249 "DockCall$Ledger" "paid" "I" "DockCall" ∈ ev_W := List.mem_of_getElem? (i := 33) rfl
theorem nwm_RX8_52 : Cond.methodLinkNest "DockCall" 52 ⟨"DockCall$Round", "<init>", "([ILDockCall$Men;LDockCall$Ships;LDockCall$Ledger;)V"⟩ "DockCall" ∈ ev_W := List.mem_of_getElem? (i := 34) rfl
theorem nwf_RX8_96 : Cond.fieldLinkNest "DockCall" 96 "DockCall$Round" "number" "I" "DockCall" ∈ ev_W := List.mem_of_getElem? (i := 35) rfl
theorem nwf_RX8_240 : Cond.fieldLinkNest "DockCall" 240 "DockCall$Round" "gangsInAll" "I" "DockCall" ∈ ev_W := List.mem_of_getElem? (i := 36) rfl
theorem nwf_RX8_237 : Cond.fieldLinkNest "DockCall" 237 "DockCall$Round" "tonsMoved" "I" "DockCall" ∈ ev_W := List.mem_of_getElem? (i := 37) rfl
theorem nwf_RX8_243 : Cond.fieldLinkNest "DockCall" 243 "DockCall$Round" "idle" "I" "DockCall" ∈ ev_W := List.mem_of_getElem? (i := 38) rfl
theorem nwm_RX8_61 : Cond.methodLinkNest "DockCall" 61 ⟨"DockCall$Planner", "<init>", "()V"⟩ "DockCall" ∈ ev_W := List.mem_of_getElem? (i := 39) rfl
theorem nwm_RX8_70 : Cond.methodLinkNest "DockCall" 70 ⟨"DockCall$Tape", "putNumber", "(I)V"⟩ "DockCall" ∈ ev_W := List.mem_of_getElem? (i := 40) rfl
theorem nwm_RX8_224 : Cond.methodLinkNest "DockCall" 224 ⟨"DockCall$Planner", "clear", "()I"⟩ "DockCall" ∈ ev_W := List.mem_of_getElem? (i := 41) rfl
theorem nwm_RX8_234 : Cond.methodLinkNest "DockCall" 234 ⟨"DockCall$Ships", "tonsLeft", "()I"⟩ "DockCall" ∈ ev_W := List.mem_of_getElem? (i := 42) rfl
theorem nwm_RX8_89 : Cond.methodLinkNest "DockCall" 89 ⟨"DockCall$Men", "add", "(I)I"⟩ "DockCall" ∈ ev_W := List.mem_of_getElem? (i := 43) rfl
theorem nwm_RX8_99 : Cond.methodLinkNest "DockCall" 99 ⟨"DockCall$Ships", "add", "(I)I"⟩ "DockCall" ∈ ev_W := List.mem_of_getElem? (i := 44) rfl
theorem nwm_RX8_100 : Cond.methodLinkNest "DockCall" 100 ⟨"DockCall$Ships", "has", "(I)Z"⟩ "DockCall" ∈ ev_W := List.mem_of_getElem? (i := 45) rfl
theorem nwm_RX8_116 : Cond.methodLinkNest "DockCall" 116 ⟨"DockCall$Ships", "addHatch", "(IIIZ)I"⟩ "DockCall" ∈ ev_W := List.mem_of_getElem? (i := 46) rfl
theorem nwm_RX8_120 : Cond.methodLinkNest "DockCall" 120 ⟨"DockCall$Reader", "readText", "([I)I"⟩ "DockCall" ∈ ev_W := List.mem_of_getElem? (i := 47) rfl
theorem nwm_RX4_44 : Cond.methodLinkNest "DockCall$Reader" 44 ⟨"DockCall$Tape", "byteAt", "(I)I"⟩ "DockCall" ∈ ev_W := List.mem_of_getElem? (i := 48) rfl
theorem nwm_RX8_145 : Cond.methodLinkNest "DockCall" 145 ⟨"DockCall$Round", "hold", "(II)I"⟩ "DockCall" ∈ ev_W := List.mem_of_getElem? (i := 49) rfl
theorem nwm_RX5_30 : Cond.methodLinkNest "DockCall$Round" 30 ⟨"DockCall$Men", "leaveGangs", "()V"⟩ "DockCall" ∈ ev_W := List.mem_of_getElem? (i := 50) rfl
theorem nwm_RX5_35 : Cond.methodLinkNest "DockCall$Round" 35 ⟨"DockCall$Men", "lineUp", "()V"⟩ "DockCall" ∈ ev_W := List.mem_of_getElem? (i := 51) rfl
theorem nwm_RX5_38 : Cond.methodLinkNest "DockCall$Round" 38 ⟨"DockCall$Ships", "lineUp", "(I)V"⟩ "DockCall" ∈ ev_W := List.mem_of_getElem? (i := 52) rfl
theorem nwm_RX5_69 : Cond.methodLinkNest "DockCall$Round" 69 ⟨"DockCall$Ships", "place", "(II)I"⟩ "DockCall" ∈ ev_W := List.mem_of_getElem? (i := 53) rfl
theorem nwm_RX5_99 : Cond.methodLinkNest "DockCall$Round" 99 ⟨"DockCall$Men", "mayBeAsked", "(III)Z"⟩ "DockCall" ∈ ev_W := List.mem_of_getElem? (i := 54) rfl
theorem nwm_RX5_103 : Cond.methodLinkNest "DockCall$Round" 103 ⟨"DockCall$Men", "refuse", "(II)V"⟩ "DockCall" ∈ ev_W := List.mem_of_getElem? (i := 55) rfl
theorem nwm_RX5_123 : Cond.methodLinkNest "DockCall$Round" 123 ⟨"DockCall$Men", "joinGang", "(III)V"⟩ "DockCall" ∈ ev_W := List.mem_of_getElem? (i := 56) rfl
theorem nwm_RX5_127 : Cond.methodLinkNest "DockCall$Round" 127 ⟨"DockCall$Ledger", "add", "(III)V"⟩ "DockCall" ∈ ev_W := List.mem_of_getElem? (i := 57) rfl
theorem nwm_RX5_57 : Cond.methodLinkNest "DockCall$Round" 57 ⟨"DockCall$Ships", "countWaiting", "()V"⟩ "DockCall" ∈ ev_W := List.mem_of_getElem? (i := 58) rfl
theorem nwm_RX8_149 : Cond.methodLinkNest "DockCall" 149 ⟨"DockCall$Men", "has", "(I)Z"⟩ "DockCall" ∈ ev_W := List.mem_of_getElem? (i := 59) rfl
theorem nwm_RX8_158 : Cond.methodLinkNest "DockCall" 158 ⟨"DockCall$Men", "isBarred", "(II)Z"⟩ "DockCall" ∈ ev_W := List.mem_of_getElem? (i := 60) rfl
theorem nwm_RX8_178 : Cond.methodLinkNest "DockCall" 178 ⟨"DockCall$Ships", "place", "(II)I"⟩ "DockCall" ∈ ev_W := List.mem_of_getElem? (i := 61) rfl
theorem nwm_RX8_184 : Cond.methodLinkNest "DockCall" 184 ⟨"DockCall$Ships", "isDone", "(I)Z"⟩ "DockCall" ∈ ev_W := List.mem_of_getElem? (i := 62) rfl
theorem nwm_RX8_192 : Cond.methodLinkNest "DockCall" 192 ⟨"DockCall$Ledger", "has", "(I)Z"⟩ "DockCall" ∈ ev_W := List.mem_of_getElem? (i := 63) rfl
theorem nwm_RX8_204 : Cond.methodLinkNest "DockCall" 204 ⟨"DockCall$Ledger", "knownMoney", "(II)I"⟩ "DockCall" ∈ ev_W := List.mem_of_getElem? (i := 64) rfl
theorem nwm_RX8_212 : Cond.methodLinkNest "DockCall" 212 ⟨"DockCall$Ledger", "addRuling", "(III)Z"⟩ "DockCall" ∈ ev_W := List.mem_of_getElem? (i := 65) rfl
theorem nwm_RX8_216 : Cond.methodLinkNest "DockCall" 216 ⟨"DockCall$Ledger", "sumOf", "(III)I"⟩ "DockCall" ∈ ev_W := List.mem_of_getElem? (i := 66) rfl
theorem nwm_RX8_222 : Cond.methodLinkNest "DockCall" 222 ⟨"DockCall$Planner", "add", "(II)I"⟩ "DockCall" ∈ ev_W := List.mem_of_getElem? (i := 67) rfl
theorem nwm_RX8_230 : Cond.methodLinkNest "DockCall" 230 ⟨"DockCall$Planner", "leastWaiting", "(I)I"⟩ "DockCall" ∈ ev_W := List.mem_of_getElem? (i := 68) rfl
theorem nwf_RX4_88 : Cond.fieldLinkNest "DockCall$Reader" 88 "DockCall$Clause" "word" "Ljava/lang/String;" "DockCall" ∈ ev_W := List.mem_of_getElem? (i := 69) rfl
theorem nwf_RX4_58 : Cond.fieldLinkNest "DockCall$Reader" 58 "DockCall$Clause" "place" "I" "DockCall" ∈ ev_W := List.mem_of_getElem? (i := 70) rfl
theorem nwf_RX4_78 : Cond.fieldLinkNest "DockCall$Reader" 78 "DockCall$Clause" "least" "I" "DockCall" ∈ ev_W := List.mem_of_getElem? (i := 71) rfl
theorem nwf_RX4_81 : Cond.fieldLinkNest "DockCall$Reader" 81 "DockCall$Clause" "most" "I" "DockCall" ∈ ev_W := List.mem_of_getElem? (i := 72) rfl
def ev_is : Cond → Bool
  | .fieldLinkNest .. => true
  | .methodLinkNest .. => true
  | _ => false
theorem ev_all : ∀ w ∈ ev_W, ev_is w = true := by decide +kernel
theorem ev_warm1 {w : Cond} (h : ev_is w = true) {s U : State} (hW : s.WarmedH U.vm) (hZ : va_Nw w s) : va_Nw w U := by
  cases w <;> first | exact va_Nw.warmF hW hZ | exact va_Nw.warmM hW hZ | cases h
theorem ev_same1 {w : Cond} (h : ev_is w = true) {s U : State} (hv : s.vm = U.vm) (hZ : va_Nw w s) : va_Nw w U := by
  cases w <;> first | exact va_Nw.same rfl hv hZ | cases h
theorem ev_use1 {w : Cond} (h : ev_is w = true) {A : Array Value} {U : State} (hZ : va_Nw w U) : w.before A U = true := by
  cases w <;> first | exact va_Nw.use rfl hZ | cases h
theorem ev_of1 {w : Cond} (h : ev_is w = true) {A : Array Value} {U : State} (hZ : w.before A U = true) : va_Nw w U := by
  cases w <;> first | exact va_Nw.of rfl hZ | cases h
/-- the words on nest mates hold -/
def EV (U : State) : Prop := ∀ w ∈ ev_W, va_Nw w U
theorem EV.warm {s U : State} (hW : s.WarmedH U.vm) (h : EV s) : EV U := fun w hw => ev_warm1 (ev_all w hw) hW (h w hw)
theorem EV.same {s U : State} (hv : s.vm = U.vm) (h : EV s) : EV U := fun w hw => ev_same1 (ev_all w hw) hv (h w hw)
theorem EV.use {U : State} (h : EV U) {w : Cond} (hw : w ∈ ev_W) {A : Array Value} : w.before A U = true := ev_use1 (ev_all w hw) (h w hw)
/-- the classes of int, byte, boolean, long arrays -/
abbrev TY (y : Nat → ClassId) : List (ClassId × FieldType) := [(y 0, .int), (y 1, .byte), (y 2, .boolean), (y 3, .long)]
def mPre (D : va_G) (y : Nat → ClassId) (sz : Nat) (ws : va_W) (U : State) : Prop := U.heap.size = sz ∧ va_P D vwCl ws U.heap ∧ va_K D vwCl (TY y) U ∧ va_D (fun _ => True) ws ∧ EV U
def mAt (D : va_G) (y : Nat → ClassId) (A : Nat → Prop) {S : Type} (w : S → va_W) (u : S) (t : State) : Prop := va_P D vwCl (w u) t.heap ∧ va_K D vwCl (TY y) t ∧ va_D A (w u)
theorem mPre.blind {D : va_G} {y : Nat → ClassId} {sz : Nat} {ws : va_W} {av : List Value} : FrameBlind (va_Pc av (mPre D y sz ws)) := by
  intro a U g mk q
  obtain ⟨q0, q1, qP, qK, qD, qE⟩ := q
  exact ⟨q0, q1, qP, va_K.moved (u := U) (U := U.calling g mk a) (Vm.Alike.refl U.vm) qK, qD, EV.same (s := U) rfl qE⟩
theorem mPre.to {D : va_G} {y : Nat → ClassId} {ws : va_W} {av : List Value} {A : Nat → Prop} {s : State} {H : Heap} (hP : va_P D vwCl ws H) (hK : va_K D vwCl (TY y) s) (hD : va_D A ws) (hE : EV s) : ∀ U : State, U.heap = H → s.WarmedH U.vm → va_Pc av (mPre D y H.size ws) av.toArray U :=
  fun U hU hW => ⟨rfl, by rw [hU], by rw [hU]; exact hP, va_K.moved hW.alike hK, hD.weaken (fun _ _ _ _ => trivial), EV.warm hW hE⟩
theorem mAt.to {D : va_G} {y : Nat → ClassId} {A : Nat → Prop} {S : Type} {w : S → va_W} {u : S} {s t : State} {H : Heap} (hP : va_P D vwCl (w u) H) (hK : va_K D vwCl (TY y) s) (hD : va_D A (w u)) (ht : t.heap = H) (hW : s.WarmedH t.vm) : mAt D y A w u t := ⟨by rw [ht]; exact hP, va_K.moved hW.alike hK, hD⟩
theorem tw_out {x : Int32} (n : Nat) (hn : n < 2 ^ 31) (h : ∀ k, k ≤ n → ¬ x = nI k) : x.toInt < 0 ∨ (n : Int) < x.toInt := by
  rcases Int.lt_or_le x.toInt 0 with h0 | h0
  · exact Or.inl h0
  · rcases Int.lt_or_le (n : Int) x.toInt with h1 | h1
    · exact Or.inr h1
    · exact absurd (Int32.toInt.inj (by rw [nI_toInt (by omega)]; omega)) (h x.toInt.toNat (by omega))
section
variable {p : Program} {l : Launch} {e : Env} {R : Room} {s : State} {m : MethodId} {args : Array Value} {below : List Frame} {meth : Method} {c : Code} {H : Heap} {locs : List Loc} {cells slots : Nat} {Q : State → Prop}
variable {pc : Nat} {ls : Array Slot} {rest st0 : List Value} {a : Array Value} {A : Nat → Prop} {H0 : Heap} {mc ms : Nat} {D : va_G} {y : Nat → ClassId} {ws wc wr : va_W}
/-- behind a call: the callee's cells as they are now beside the others, in the caller's order again -/
theorem mx_back {S : Type} {w1 : S → va_W} {u : S} {t : State} {H1 : Heap} (hP : va_P D vwCl ws H) (hD : va_D A ws) (hS : va_S A H0 H locs) (hA : ∀ q, H0.size ≤ q → A q) (isC isR perm : List Nat) (hC : isC.map (fun i => ws[i]?) = wc.map some) (hR : isR.map (fun i => ws[i]?) = wr.map some) (hn : va_nd isR = true) (hdis : ∀ i ∈ isR, i ∉ isC) (hpn : va_nd perm = true) (wn : S → va_W) (hperm : ∀ u, perm.map (fun i => (wr ++ w1 u)[i]?) = (wn u).map some)
    (ht : t.heap = H1) (hk : ∀ q : Nat, q < H.size → ¬ va_A wc H.size q → H1[q]? = H[q]?) (hB : mAt D y (va_A wc H.size) w1 u t) : va_P D vwCl (wn u) H1 ∧ va_D A (wn u) := by
  obtain ⟨hP1, hK1, hD1⟩ := hB
  rw [ht] at hP1
  have hF := va_free (wc := wc) hD hS hA isC hC
  obtain ⟨hP2, hD2⟩ := va_join hP hD isC isR hC hR hn hdis hk hF hP1 hD1
  have e : perm.filterMap (fun i => (wr ++ w1 u)[i]?) = wn u := by
    have h := hperm u
    have : perm.filterMap (fun i => (wr ++ w1 u)[i]?) = (perm.map (fun i => (wr ++ w1 u)[i]?)).filterMap id := by rw [List.filterMap_map]; rfl
    rw [this, h, List.filterMap_map]
    simp
  exact ⟨hP2.sub perm e, hD2.sub perm hpn (hperm u)⟩

theorem mx_i {S : Type} {post : Int32 → S → Prop} {w1 : S → va_W} (hP : va_P D vwCl ws H) (hD : va_D A ws) (hS : va_S A H0 H locs) (hA : ∀ q, H0.size ≤ q → A q) (isC isR perm : List Nat) (hC : isC.map (fun i => ws[i]?) = wc.map some) (hR : isR.map (fun i => ws[i]?) = wr.map some) (hn : va_nd isR = true) (hdis : ∀ i ∈ isR, i ∉ isC) (hpn : va_nd perm = true) (wn : S → va_W) (hperm : ∀ u, perm.map (fun i => (wr ++ w1 u)[i]?) = (wn u).map some)
    (hr : va_Run p l e R s m args below meth c H locs cells slots 0 0 (F0 m pc ls st0) rest (va_Qi post (mAt D y (va_A wc H.size) w1) (va_A wc H.size) a) (va_A wc H.size))
    (kk : ∀ (r : Int32) (u : S) (H1 : Heap) (locs1 : List Loc), post r u → va_P D vwCl (wn u) H1 → va_D A (wn u) → va_S A H0 H1 locs1 → W p l e R s m args below meth c H1 locs1 cells slots Q (F0 m (pc + 3) ls (.int r :: rest))) : W p l e R s m args below meth c H locs cells slots Q (F0 m pc ls st0) := by
  have hF := va_free (wc := wc) hD hS hA isC hC
  refine va_calli hr hS (fun q _ h => hF q h) hF (fun r u t H1 locs1 ht hvm hw hB hz1 hk1 hS1 => ?_)
  obtain ⟨hP2, hD2⟩ := mx_back hP hD hS hA isC isR perm hC hR hn hdis hpn wn hperm ht hk1 hB
  exact kk r u H1 locs1 hw hP2 hD2 hS1
theorem mx_l {S : Type} {post : Int64 → S → Prop} {w1 : S → va_W} (hP : va_P D vwCl ws H) (hD : va_D A ws) (hS : va_S A H0 H locs) (hA : ∀ q, H0.size ≤ q → A q) (isC isR perm : List Nat) (hC : isC.map (fun i => ws[i]?) = wc.map some) (hR : isR.map (fun i => ws[i]?) = wr.map some) (hn : va_nd isR = true) (hdis : ∀ i ∈ isR, i ∉ isC) (hpn : va_nd perm = true) (wn : S → va_W) (hperm : ∀ u, perm.map (fun i => (wr ++ w1 u)[i]?) = (wn u).map some)
    (hr : va_Run p l e R s m args below meth c H locs cells slots 0 0 (F0 m pc ls st0) rest (va_Ql post (mAt D y (va_A wc H.size) w1) (va_A wc H.size) a) (va_A wc H.size))
    (kk : ∀ (r : Int64) (u : S) (H1 : Heap) (locs1 : List Loc), post r u → va_P D vwCl (wn u) H1 → va_D A (wn u) → va_S A H0 H1 locs1 → W p l e R s m args below meth c H1 locs1 cells slots Q (F0 m (pc + 3) ls (.long r :: rest))) : W p l e R s m args below meth c H locs cells slots Q (F0 m pc ls st0) := by
  have hF := va_free (wc := wc) hD hS hA isC hC
  refine va_calll hr hS (fun q _ h => hF q h) hF (fun r u t H1 locs1 ht hvm hw hB hz1 hk1 hS1 => ?_)
  obtain ⟨hP2, hD2⟩ := mx_back hP hD hS hA isC isR perm hC hR hn hdis hpn wn hperm ht hk1 hB
  exact kk r u H1 locs1 hw hP2 hD2 hS1
theorem mx_v {S : Type} {post : S → Prop} {w1 : S → va_W} (hP : va_P D vwCl ws H) (hD : va_D A ws) (hS : va_S A H0 H locs) (hA : ∀ q, H0.size ≤ q → A q) (isC isR perm : List Nat) (hC : isC.map (fun i => ws[i]?) = wc.map some) (hR : isR.map (fun i => ws[i]?) = wr.map some) (hn : va_nd isR = true) (hdis : ∀ i ∈ isR, i ∉ isC) (hpn : va_nd perm = true) (wn : S → va_W) (hperm : ∀ u, perm.map (fun i => (wr ++ w1 u)[i]?) = (wn u).map some)
    (hr : va_Run p l e R s m args below meth c H locs cells slots 0 0 (F0 m pc ls st0) rest (va_Qv post (mAt D y (va_A wc H.size) w1) (va_A wc H.size) a) (va_A wc H.size))
    (kk : ∀ (u : S) (H1 : Heap) (locs1 : List Loc), post u → va_P D vwCl (wn u) H1 → va_D A (wn u) → va_S A H0 H1 locs1 → W p l e R s m args below meth c H1 locs1 cells slots Q (F0 m (pc + 3) ls rest)) : W p l e R s m args below meth c H locs cells slots Q (F0 m pc ls st0) := by
  have hF := va_free (wc := wc) hD hS hA isC hC
  refine va_callv hr hS (fun q _ h => hF q h) hF (fun u t H1 locs1 ht hvm hw hB hz1 hk1 hS1 => ?_)
  obtain ⟨hP2, hD2⟩ := mx_back hP hD hS hA isC isR perm hC hR hn hdis hpn wn hperm ht hk1 hB
  exact kk u H1 locs1 hw hP2 hD2 hS1
end
