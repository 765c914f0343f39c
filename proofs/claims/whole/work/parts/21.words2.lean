/-! THE METHODS OF THE TABLES ARE THE STATEMENT'S, by the places of the words -/
theorem tb_i (i : Nat) {w : Jvm.Cond} (h : tables_1[i]? = some w) (g : goodWord w = true) : w ∈ tb_w := tb_mem (List.mem_append_right _ (List.mem_of_getElem? h)) g
theorem tb_s (i : Nat) {q : MethodName × Nat} (h : lw_privs[i]? = some q) : Jvm.Cond.selects q.1.cls q.1 q.1 ∈ tb_w := tb_mem (List.mem_append_left _ (List.mem_map.mpr ⟨q, List.mem_of_getElem? h, rfl⟩)) rfl
theorem tb_1 (i : Nat) {w : Jvm.Cond} (h : tables_1_1[i]? = some w) (g : goodWord w = true) : w ∈ tb_w := tb_mem (List.mem_append_right _ (List.mem_append_left _ (List.mem_of_getElem? h))) g
theorem tb_2 (i : Nat) {w : Jvm.Cond} (h : tables_1_2[i]? = some w) (g : goodWord w = true) : w ∈ tb_w := tb_mem (List.mem_append_right _ (List.mem_append_right _ (List.mem_append_left _ (List.mem_of_getElem? h)))) g
theorem tb_3 (i : Nat) {w : Jvm.Cond} (h : tables_1_3[i]? = some w) (g : goodWord w = true) : w ∈ tb_w := tb_mem (List.mem_append_right _ (List.mem_append_right _ (List.mem_append_right _ (List.mem_append_left _ (List.mem_of_getElem? h))))) g
theorem tb_4 (i : Nat) {w : Jvm.Cond} (h : tables_1_4[i]? = some w) (g : goodWord w = true) : w ∈ tb_w := tb_mem (List.mem_append_right _ (List.mem_append_right _ (List.mem_append_right _ (List.mem_append_right _ (List.mem_append_left _ (List.mem_of_getElem? h)))))) g
theorem tb_5 (i : Nat) {w : Jvm.Cond} (h : tables_1_5[i]? = some w) (g : goodWord w = true) : w ∈ tb_w := tb_mem (List.mem_append_right _ (List.mem_append_right _ (List.mem_append_right _ (List.mem_append_right _ (List.mem_append_right _ (List.mem_append_left _ (List.mem_of_getElem? h))))))) g
theorem tb_6 (i : Nat) {w : Jvm.Cond} (h : tables_1_6[i]? = some w) (g : goodWord w = true) : w ∈ tb_w := tb_mem (List.mem_append_right _ (List.mem_append_right _ (List.mem_append_right _ (List.mem_append_right _ (List.mem_append_right _ (List.mem_append_right _ (List.mem_append_left _ (List.mem_of_getElem? h)))))))) g
theorem tb_7 (i : Nat) {w : Jvm.Cond} (h : tables_1_7[i]? = some w) (g : goodWord w = true) : w ∈ tb_w := tb_mem (List.mem_append_right _ (List.mem_append_right _ (List.mem_append_right _ (List.mem_append_right _ (List.mem_append_right _ (List.mem_append_right _ (List.mem_append_right _ (List.mem_append_left _ (List.mem_of_getElem? h))))))))) g
theorem tb_8 (i : Nat) {w : Jvm.Cond} (h : tables_1_8[i]? = some w) (g : goodWord w = true) : w ∈ tb_w := tb_mem (List.mem_append_right _ (List.mem_append_right _ (List.mem_append_right _ (List.mem_append_right _ (List.mem_append_right _ (List.mem_append_right _ (List.mem_append_right _ (List.mem_append_right _ (List.mem_of_getElem? h))))))))) g
set_option maxRecDepth 20000 in
theorem wcX0_init : Jvm.Cond.code yX0_init cX0_init 2 none ∈ tb_w := tb_2 104 (by rfl) (by rfl)
set_option maxRecDepth 20000 in
theorem wkX0_init : Jvm.Cond.instanceMethod yX0_init ∈ tb_w := tb_2 103 (by rfl) (by rfl)
set_option maxRecDepth 20000 in
theorem wcX0_tryGoals : Jvm.Cond.code yX0_tryGoals cX0_tryGoals 5 none ∈ tb_w := tb_5 51 (by rfl) (by rfl)
set_option maxRecDepth 20000 in
theorem wkX0_tryGoals : Jvm.Cond.instanceMethod yX0_tryGoals ∈ tb_w := tb_5 50 (by rfl) (by rfl)
set_option maxRecDepth 20000 in
theorem weX0_tryGoals : Jvm.Cond.selects yX0_tryGoals.cls yX0_tryGoals yX0_tryGoals ∈ tb_w := tb_s 29 (q := (yX0_tryGoals, 14)) (by rfl)
set_option maxRecDepth 20000 in
theorem wcX0_tryAsIs : Jvm.Cond.code yX0_tryAsIs cX0_tryAsIs 4 none ∈ tb_w := tb_5 46 (by rfl) (by rfl)
set_option maxRecDepth 20000 in
theorem wkX0_tryAsIs : Jvm.Cond.instanceMethod yX0_tryAsIs ∈ tb_w := tb_5 45 (by rfl) (by rfl)
set_option maxRecDepth 20000 in
theorem weX0_tryAsIs : Jvm.Cond.selects yX0_tryAsIs.cls yX0_tryAsIs yX0_tryAsIs ∈ tb_w := tb_s 28 (q := (yX0_tryAsIs, 14)) (by rfl)
set_option maxRecDepth 20000 in
theorem wcX0_seekEntry : Jvm.Cond.code yX0_seekEntry cX0_seekEntry 5 none ∈ tb_w := tb_5 42 (by rfl) (by rfl)
set_option maxRecDepth 20000 in
theorem wkX0_seekEntry : Jvm.Cond.instanceMethod yX0_seekEntry ∈ tb_w := tb_5 40 (by rfl) (by rfl)
set_option maxRecDepth 20000 in
theorem weX0_seekEntry : Jvm.Cond.selects yX0_seekEntry.cls yX0_seekEntry yX0_seekEntry ∈ tb_w := tb_5 41 (by rfl) (by rfl)
set_option maxRecDepth 20000 in
theorem wcX0_tryPrefix : Jvm.Cond.code yX0_tryPrefix cX0_tryPrefix 6 none ∈ tb_w := tb_5 59 (by rfl) (by rfl)
set_option maxRecDepth 20000 in
theorem wkX0_tryPrefix : Jvm.Cond.instanceMethod yX0_tryPrefix ∈ tb_w := tb_5 58 (by rfl) (by rfl)
set_option maxRecDepth 20000 in
theorem weX0_tryPrefix : Jvm.Cond.selects yX0_tryPrefix.cls yX0_tryPrefix yX0_tryPrefix ∈ tb_w := tb_s 30 (q := (yX0_tryPrefix, 14)) (by rfl)
set_option maxRecDepth 20000 in
theorem wcX0_sendByEntry : Jvm.Cond.code yX0_sendByEntry cX0_sendByEntry 9 (some .boolean) ∈ tb_w := tb_5 63 (by rfl) (by rfl)
set_option maxRecDepth 20000 in
theorem wkX0_sendByEntry : Jvm.Cond.instanceMethod yX0_sendByEntry ∈ tb_w := tb_5 62 (by rfl) (by rfl)
set_option maxRecDepth 20000 in
theorem weX0_sendByEntry : Jvm.Cond.selects yX0_sendByEntry.cls yX0_sendByEntry yX0_sendByEntry ∈ tb_w := tb_s 31 (q := (yX0_sendByEntry, 14)) (by rfl)
set_option maxRecDepth 20000 in
theorem wcX0_seekChange : Jvm.Cond.code yX0_seekChange cX0_seekChange 5 none ∈ tb_w := tb_5 76 (by rfl) (by rfl)
set_option maxRecDepth 20000 in
theorem wkX0_seekChange : Jvm.Cond.instanceMethod yX0_seekChange ∈ tb_w := tb_5 74 (by rfl) (by rfl)
set_option maxRecDepth 20000 in
theorem weX0_seekChange : Jvm.Cond.selects yX0_seekChange.cls yX0_seekChange yX0_seekChange ∈ tb_w := tb_5 75 (by rfl) (by rfl)
set_option maxRecDepth 20000 in
theorem wcX0_sendChanged : Jvm.Cond.code yX0_sendChanged cX0_sendChanged 6 none ∈ tb_w := tb_5 80 (by rfl) (by rfl)
set_option maxRecDepth 20000 in
theorem wkX0_sendChanged : Jvm.Cond.instanceMethod yX0_sendChanged ∈ tb_w := tb_5 79 (by rfl) (by rfl)
set_option maxRecDepth 20000 in
theorem weX0_sendChanged : Jvm.Cond.selects yX0_sendChanged.cls yX0_sendChanged yX0_sendChanged ∈ tb_w := tb_s 32 (q := (yX0_sendChanged, 14)) (by rfl)
set_option maxRecDepth 20000 in
theorem wcX0_addSight : Jvm.Cond.code yX0_addSight cX0_addSight 2 none ∈ tb_w := tb_5 161 (by rfl) (by rfl)
set_option maxRecDepth 20000 in
theorem wkX0_addSight : Jvm.Cond.instanceMethod yX0_addSight ∈ tb_w := tb_5 159 (by rfl) (by rfl)
set_option maxRecDepth 20000 in
theorem weX0_addSight : Jvm.Cond.selects yX0_addSight.cls yX0_addSight yX0_addSight ∈ tb_w := tb_5 160 (by rfl) (by rfl)
set_option maxRecDepth 20000 in
theorem wcX0_seekSight : Jvm.Cond.code yX0_seekSight cX0_seekSight 4 none ∈ tb_w := tb_5 165 (by rfl) (by rfl)
set_option maxRecDepth 20000 in
theorem wkX0_seekSight : Jvm.Cond.instanceMethod yX0_seekSight ∈ tb_w := tb_5 163 (by rfl) (by rfl)
set_option maxRecDepth 20000 in
theorem weX0_seekSight : Jvm.Cond.selects yX0_seekSight.cls yX0_seekSight yX0_seekSight ∈ tb_w := tb_5 164 (by rfl) (by rfl)
set_option maxRecDepth 20000 in
theorem wcX0_mostAlike : Jvm.Cond.code yX0_mostAlike cX0_mostAlike 6 (some .int) ∈ tb_w := tb_5 169 (by rfl) (by rfl)
set_option maxRecDepth 20000 in
theorem wkX0_mostAlike : Jvm.Cond.instanceMethod yX0_mostAlike ∈ tb_w := tb_5 168 (by rfl) (by rfl)
set_option maxRecDepth 20000 in
theorem weX0_mostAlike : Jvm.Cond.selects yX0_mostAlike.cls yX0_mostAlike yX0_mostAlike ∈ tb_w := tb_s 33 (q := (yX0_mostAlike, 14)) (by rfl)
set_option maxRecDepth 20000 in
theorem wcX1_init : Jvm.Cond.code yX1_init cX1_init 1 none ∈ tb_w := tb_2 41 (by rfl) (by rfl)
set_option maxRecDepth 20000 in
theorem wkX1_init : Jvm.Cond.instanceMethod yX1_init ∈ tb_w := tb_2 40 (by rfl) (by rfl)
set_option maxRecDepth 20000 in
theorem wcX1_draw : Jvm.Cond.code yX1_draw cX1_draw 5 none ∈ tb_w := tb_4 54 (by rfl) (by rfl)
set_option maxRecDepth 20000 in
theorem wkX1_draw : Jvm.Cond.instanceMethod yX1_draw ∈ tb_w := tb_4 52 (by rfl) (by rfl)
set_option maxRecDepth 20000 in
theorem weX1_draw : Jvm.Cond.selects yX1_draw.cls yX1_draw yX1_draw ∈ tb_w := tb_4 53 (by rfl) (by rfl)
set_option maxRecDepth 20000 in
theorem wcX1_lay : Jvm.Cond.code yX1_lay cX1_lay 5 none ∈ tb_w := tb_4 58 (by rfl) (by rfl)
set_option maxRecDepth 20000 in
theorem wkX1_lay : Jvm.Cond.instanceMethod yX1_lay ∈ tb_w := tb_4 57 (by rfl) (by rfl)
set_option maxRecDepth 20000 in
theorem weX1_lay : Jvm.Cond.selects yX1_lay.cls yX1_lay yX1_lay ∈ tb_w := tb_s 16 (q := (yX1_lay, 6)) (by rfl)
set_option maxRecDepth 20000 in
theorem wcX1_entryFor : Jvm.Cond.code yX1_entryFor cX1_entryFor 3 (some .int) ∈ tb_w := tb_4 87 (by rfl) (by rfl)
set_option maxRecDepth 20000 in
theorem wkX1_entryFor : Jvm.Cond.instanceMethod yX1_entryFor ∈ tb_w := tb_4 85 (by rfl) (by rfl)
set_option maxRecDepth 20000 in
theorem weX1_entryFor : Jvm.Cond.selects yX1_entryFor.cls yX1_entryFor yX1_entryFor ∈ tb_w := tb_4 86 (by rfl) (by rfl)
set_option maxRecDepth 20000 in
theorem wcX1_holeFor : Jvm.Cond.code yX1_holeFor cX1_holeFor 3 (some .int) ∈ tb_w := tb_4 116 (by rfl) (by rfl)
set_option maxRecDepth 20000 in
theorem wkX1_holeFor : Jvm.Cond.instanceMethod yX1_holeFor ∈ tb_w := tb_4 114 (by rfl) (by rfl)
set_option maxRecDepth 20000 in
theorem weX1_holeFor : Jvm.Cond.selects yX1_holeFor.cls yX1_holeFor yX1_holeFor ∈ tb_w := tb_4 115 (by rfl) (by rfl)
set_option maxRecDepth 20000 in
theorem wcX1_digitsFor : Jvm.Cond.code yX1_digitsFor cX1_digitsFor 3 (some .int) ∈ tb_w := tb_4 187 (by rfl) (by rfl)
set_option maxRecDepth 20000 in
theorem wkX1_digitsFor : Jvm.Cond.instanceMethod yX1_digitsFor ∈ tb_w := tb_4 185 (by rfl) (by rfl)
set_option maxRecDepth 20000 in
theorem weX1_digitsFor : Jvm.Cond.selects yX1_digitsFor.cls yX1_digitsFor yX1_digitsFor ∈ tb_w := tb_4 186 (by rfl) (by rfl)
set_option maxRecDepth 20000 in
theorem wcX1_howManyTo : Jvm.Cond.code yX1_howManyTo cX1_howManyTo 4 (some .int) ∈ tb_w := tb_4 231 (by rfl) (by rfl)
set_option maxRecDepth 20000 in
theorem wkX1_howManyTo : Jvm.Cond.instanceMethod yX1_howManyTo ∈ tb_w := tb_4 229 (by rfl) (by rfl)
set_option maxRecDepth 20000 in
theorem weX1_howManyTo : Jvm.Cond.selects yX1_howManyTo.cls yX1_howManyTo yX1_howManyTo ∈ tb_w := tb_4 230 (by rfl) (by rfl)
set_option maxRecDepth 20000 in
theorem wcX1_leastTo : Jvm.Cond.code yX1_leastTo cX1_leastTo 3 (some .int) ∈ tb_w := tb_4 235 (by rfl) (by rfl)
set_option maxRecDepth 20000 in
theorem wkX1_leastTo : Jvm.Cond.instanceMethod yX1_leastTo ∈ tb_w := tb_4 233 (by rfl) (by rfl)
set_option maxRecDepth 20000 in
theorem weX1_leastTo : Jvm.Cond.selects yX1_leastTo.cls yX1_leastTo yX1_leastTo ∈ tb_w := tb_4 234 (by rfl) (by rfl)
set_option maxRecDepth 20000 in
theorem wcX1_takeReading : Jvm.Cond.code yX1_takeReading cX1_takeReading 4 (some .boolean) ∈ tb_w := tb_4 195 (by rfl) (by rfl)
set_option maxRecDepth 20000 in
theorem wkX1_takeReading : Jvm.Cond.instanceMethod yX1_takeReading ∈ tb_w := tb_4 193 (by rfl) (by rfl)
set_option maxRecDepth 20000 in
theorem weX1_takeReading : Jvm.Cond.selects yX1_takeReading.cls yX1_takeReading yX1_takeReading ∈ tb_w := tb_4 194 (by rfl) (by rfl)
set_option maxRecDepth 20000 in
theorem wcX1_isMeant : Jvm.Cond.code yX1_isMeant cX1_isMeant 3 (some .boolean) ∈ tb_w := tb_4 203 (by rfl) (by rfl)
set_option maxRecDepth 20000 in
theorem wkX1_isMeant : Jvm.Cond.instanceMethod yX1_isMeant ∈ tb_w := tb_4 202 (by rfl) (by rfl)
set_option maxRecDepth 20000 in
theorem weX1_isMeant : Jvm.Cond.selects yX1_isMeant.cls yX1_isMeant yX1_isMeant ∈ tb_w := tb_s 25 (q := (yX1_isMeant, 6)) (by rfl)
set_option maxRecDepth 20000 in
theorem wcX1_meantHoles : Jvm.Cond.code yX1_meantHoles cX1_meantHoles 4 (some .int) ∈ tb_w := tb_4 199 (by rfl) (by rfl)
set_option maxRecDepth 20000 in
theorem wkX1_meantHoles : Jvm.Cond.instanceMethod yX1_meantHoles ∈ tb_w := tb_4 197 (by rfl) (by rfl)
set_option maxRecDepth 20000 in
theorem weX1_meantHoles : Jvm.Cond.selects yX1_meantHoles.cls yX1_meantHoles yX1_meantHoles ∈ tb_w := tb_4 198 (by rfl) (by rfl)
set_option maxRecDepth 20000 in
theorem wcX1_setToRead : Jvm.Cond.code yX1_setToRead cX1_setToRead 3 (some .int) ∈ tb_w := tb_4 213 (by rfl) (by rfl)
set_option maxRecDepth 20000 in
theorem wkX1_setToRead : Jvm.Cond.instanceMethod yX1_setToRead ∈ tb_w := tb_4 211 (by rfl) (by rfl)
set_option maxRecDepth 20000 in
theorem weX1_setToRead : Jvm.Cond.selects yX1_setToRead.cls yX1_setToRead yX1_setToRead ∈ tb_w := tb_4 212 (by rfl) (by rfl)
set_option maxRecDepth 20000 in
theorem wcX1_decides : Jvm.Cond.code yX1_decides cX1_decides 5 (some .boolean) ∈ tb_w := tb_4 217 (by rfl) (by rfl)
set_option maxRecDepth 20000 in
theorem wkX1_decides : Jvm.Cond.instanceMethod yX1_decides ∈ tb_w := tb_4 216 (by rfl) (by rfl)
set_option maxRecDepth 20000 in
theorem weX1_decides : Jvm.Cond.selects yX1_decides.cls yX1_decides yX1_decides ∈ tb_w := tb_s 26 (q := (yX1_decides, 6)) (by rfl)
set_option maxRecDepth 20000 in
theorem wcX1_slipsOf : Jvm.Cond.code yX1_slipsOf cX1_slipsOf 8 (some .int) ∈ tb_w := tb_5 3 (by rfl) (by rfl)
set_option maxRecDepth 20000 in
theorem wkX1_slipsOf : Jvm.Cond.instanceMethod yX1_slipsOf ∈ tb_w := tb_5 1 (by rfl) (by rfl)
set_option maxRecDepth 20000 in
theorem weX1_slipsOf : Jvm.Cond.selects yX1_slipsOf.cls yX1_slipsOf yX1_slipsOf ∈ tb_w := tb_5 2 (by rfl) (by rfl)
set_option maxRecDepth 20000 in
theorem wcX1_mostSlipping : Jvm.Cond.code yX1_mostSlipping cX1_mostSlipping 5 (some .int) ∈ tb_w := tb_5 11 (by rfl) (by rfl)
set_option maxRecDepth 20000 in
theorem wkX1_mostSlipping : Jvm.Cond.instanceMethod yX1_mostSlipping ∈ tb_w := tb_5 9 (by rfl) (by rfl)
set_option maxRecDepth 20000 in
theorem weX1_mostSlipping : Jvm.Cond.selects yX1_mostSlipping.cls yX1_mostSlipping yX1_mostSlipping ∈ tb_w := tb_5 10 (by rfl) (by rfl)
set_option maxRecDepth 20000 in
theorem wcX1_idleEntries : Jvm.Cond.code yX1_idleEntries cX1_idleEntries 4 (some .int) ∈ tb_w := tb_5 20 (by rfl) (by rfl)
set_option maxRecDepth 20000 in
theorem wkX1_idleEntries : Jvm.Cond.instanceMethod yX1_idleEntries ∈ tb_w := tb_5 18 (by rfl) (by rfl)
set_option maxRecDepth 20000 in
theorem weX1_idleEntries : Jvm.Cond.selects yX1_idleEntries.cls yX1_idleEntries yX1_idleEntries ∈ tb_w := tb_5 19 (by rfl) (by rfl)
set_option maxRecDepth 20000 in
theorem wcX1_fewestEntries : Jvm.Cond.code yX1_fewestEntries cX1_fewestEntries 6 (some .int) ∈ tb_w := tb_5 28 (by rfl) (by rfl)
set_option maxRecDepth 20000 in
theorem wkX1_fewestEntries : Jvm.Cond.instanceMethod yX1_fewestEntries ∈ tb_w := tb_5 26 (by rfl) (by rfl)
set_option maxRecDepth 20000 in
theorem weX1_fewestEntries : Jvm.Cond.selects yX1_fewestEntries.cls yX1_fewestEntries yX1_fewestEntries ∈ tb_w := tb_5 27 (by rfl) (by rfl)
set_option maxRecDepth 20000 in
theorem wcX1_joinCosts : Jvm.Cond.code yX1_joinCosts cX1_joinCosts 7 none ∈ tb_w := tb_5 33 (by rfl) (by rfl)
set_option maxRecDepth 20000 in
theorem wkX1_joinCosts : Jvm.Cond.instanceMethod yX1_joinCosts ∈ tb_w := tb_5 32 (by rfl) (by rfl)
set_option maxRecDepth 20000 in
theorem weX1_joinCosts : Jvm.Cond.selects yX1_joinCosts.cls yX1_joinCosts yX1_joinCosts ∈ tb_w := tb_s 27 (q := (yX1_joinCosts, 6)) (by rfl)
set_option maxRecDepth 20000 in
theorem wcX2_init : Jvm.Cond.code yX2_init cX2_init 1 none ∈ tb_w := tb_1 233 (by rfl) (by rfl)
set_option maxRecDepth 20000 in
theorem wkX2_init : Jvm.Cond.instanceMethod yX2_init ∈ tb_w := tb_1 232 (by rfl) (by rfl)
set_option maxRecDepth 20000 in
theorem wcX2_take : Jvm.Cond.code yX2_take cX2_take 3 none ∈ tb_w := tb_3 131 (by rfl) (by rfl)
set_option maxRecDepth 20000 in
theorem wkX2_take : Jvm.Cond.instanceMethod yX2_take ∈ tb_w := tb_3 129 (by rfl) (by rfl)
set_option maxRecDepth 20000 in
theorem weX2_take : Jvm.Cond.selects yX2_take.cls yX2_take yX2_take ∈ tb_w := tb_3 130 (by rfl) (by rfl)
set_option maxRecDepth 20000 in
theorem wcX2_copyFrom : Jvm.Cond.code yX2_copyFrom cX2_copyFrom 2 none ∈ tb_w := tb_5 199 (by rfl) (by rfl)
set_option maxRecDepth 20000 in
theorem wkX2_copyFrom : Jvm.Cond.instanceMethod yX2_copyFrom ∈ tb_w := tb_5 197 (by rfl) (by rfl)
set_option maxRecDepth 20000 in
theorem weX2_copyFrom : Jvm.Cond.selects yX2_copyFrom.cls yX2_copyFrom yX2_copyFrom ∈ tb_w := tb_5 198 (by rfl) (by rfl)
set_option maxRecDepth 20000 in
theorem wcX2_addNote : Jvm.Cond.code yX2_addNote cX2_addNote 4 none ∈ tb_w := tb_5 149 (by rfl) (by rfl)
set_option maxRecDepth 20000 in
theorem wkX2_addNote : Jvm.Cond.instanceMethod yX2_addNote ∈ tb_w := tb_5 147 (by rfl) (by rfl)
set_option maxRecDepth 20000 in
theorem weX2_addNote : Jvm.Cond.selects yX2_addNote.cls yX2_addNote yX2_addNote ∈ tb_w := tb_5 148 (by rfl) (by rfl)
set_option maxRecDepth 20000 in
theorem wcX2_lastNotedTurn : Jvm.Cond.code yX2_lastNotedTurn cX2_lastNotedTurn 3 (some .int) ∈ tb_w := tb_5 121 (by rfl) (by rfl)
set_option maxRecDepth 20000 in
theorem wkX2_lastNotedTurn : Jvm.Cond.instanceMethod yX2_lastNotedTurn ∈ tb_w := tb_5 119 (by rfl) (by rfl)
set_option maxRecDepth 20000 in
theorem weX2_lastNotedTurn : Jvm.Cond.selects yX2_lastNotedTurn.cls yX2_lastNotedTurn yX2_lastNotedTurn ∈ tb_w := tb_5 120 (by rfl) (by rfl)
set_option maxRecDepth 20000 in
theorem wcX2_notesHold : Jvm.Cond.code yX2_notesHold cX2_notesHold 6 (some .boolean) ∈ tb_w := tb_5 128 (by rfl) (by rfl)
set_option maxRecDepth 20000 in
theorem wkX2_notesHold : Jvm.Cond.instanceMethod yX2_notesHold ∈ tb_w := tb_5 126 (by rfl) (by rfl)
set_option maxRecDepth 20000 in
theorem weX2_notesHold : Jvm.Cond.selects yX2_notesHold.cls yX2_notesHold yX2_notesHold ∈ tb_w := tb_5 127 (by rfl) (by rfl)
set_option maxRecDepth 20000 in
theorem wcX3_init : Jvm.Cond.code yX3_init cX3_init 2 none ∈ tb_w := tb_1 58 (by rfl) (by rfl)
set_option maxRecDepth 20000 in
theorem wkX3_init : Jvm.Cond.instanceMethod yX3_init ∈ tb_w := tb_1 57 (by rfl) (by rfl)
set_option maxRecDepth 20000 in
theorem wcX3_parse : Jvm.Cond.code yX3_parse cX3_parse 3 (some .int) ∈ tb_w := tb_2 221 (by rfl) (by rfl)
set_option maxRecDepth 20000 in
theorem wkX3_parse : Jvm.Cond.instanceMethod yX3_parse ∈ tb_w := tb_2 219 (by rfl) (by rfl)
set_option maxRecDepth 20000 in
theorem weX3_parse : Jvm.Cond.selects yX3_parse.cls yX3_parse yX3_parse ∈ tb_w := tb_2 220 (by rfl) (by rfl)
set_option maxRecDepth 20000 in
theorem wcX3_takeClause : Jvm.Cond.code yX3_takeClause cX3_takeClause 4 (some .boolean) ∈ tb_w := tb_2 233 (by rfl) (by rfl)
set_option maxRecDepth 20000 in
theorem wkX3_takeClause : Jvm.Cond.instanceMethod yX3_takeClause ∈ tb_w := tb_2 232 (by rfl) (by rfl)
set_option maxRecDepth 20000 in
theorem weX3_takeClause : Jvm.Cond.selects yX3_takeClause.cls yX3_takeClause yX3_takeClause ∈ tb_w := tb_s 0 (q := (yX3_takeClause, 3)) (by rfl)
set_option maxRecDepth 20000 in
theorem wcX3_takeKind : Jvm.Cond.code yX3_takeKind cX3_takeKind 1 (some .int) ∈ tb_w := tb_3 1 (by rfl) (by rfl)
set_option maxRecDepth 20000 in
theorem wkX3_takeKind : Jvm.Cond.instanceMethod yX3_takeKind ∈ tb_w := tb_3 0 (by rfl) (by rfl)
set_option maxRecDepth 20000 in
theorem weX3_takeKind : Jvm.Cond.selects yX3_takeKind.cls yX3_takeKind yX3_takeKind ∈ tb_w := tb_s 1 (q := (yX3_takeKind, 3)) (by rfl)
set_option maxRecDepth 20000 in
theorem wcX3_tooMany : Jvm.Cond.code yX3_tooMany cX3_tooMany 3 (some .boolean) ∈ tb_w := tb_3 70 (by rfl) (by rfl)
set_option maxRecDepth 20000 in
theorem wkX3_tooMany : Jvm.Cond.instanceMethod yX3_tooMany ∈ tb_w := tb_3 69 (by rfl) (by rfl)
set_option maxRecDepth 20000 in
theorem weX3_tooMany : Jvm.Cond.selects yX3_tooMany.cls yX3_tooMany yX3_tooMany ∈ tb_w := tb_s 2 (q := (yX3_tooMany, 3)) (by rfl)
set_option maxRecDepth 20000 in
theorem wcX3_takeShape : Jvm.Cond.code yX3_takeShape cX3_takeShape 4 (some .boolean) ∈ tb_w := tb_3 74 (by rfl) (by rfl)
set_option maxRecDepth 20000 in
theorem wkX3_takeShape : Jvm.Cond.instanceMethod yX3_takeShape ∈ tb_w := tb_3 73 (by rfl) (by rfl)
set_option maxRecDepth 20000 in
theorem weX3_takeShape : Jvm.Cond.selects yX3_takeShape.cls yX3_takeShape yX3_takeShape ∈ tb_w := tb_s 3 (q := (yX3_takeShape, 3)) (by rfl)
set_option maxRecDepth 20000 in
theorem wcX3_takeRoom : Jvm.Cond.code yX3_takeRoom cX3_takeRoom 3 (some .boolean) ∈ tb_w := tb_3 94 (by rfl) (by rfl)
set_option maxRecDepth 20000 in
theorem wkX3_takeRoom : Jvm.Cond.instanceMethod yX3_takeRoom ∈ tb_w := tb_3 93 (by rfl) (by rfl)
set_option maxRecDepth 20000 in
theorem weX3_takeRoom : Jvm.Cond.selects yX3_takeRoom.cls yX3_takeRoom yX3_takeRoom ∈ tb_w := tb_s 4 (q := (yX3_takeRoom, 3)) (by rfl)
set_option maxRecDepth 20000 in
theorem wcX3_takeEntry : Jvm.Cond.code yX3_takeEntry cX3_takeEntry 4 (some .boolean) ∈ tb_w := tb_3 102 (by rfl) (by rfl)
set_option maxRecDepth 20000 in
theorem wkX3_takeEntry : Jvm.Cond.instanceMethod yX3_takeEntry ∈ tb_w := tb_3 101 (by rfl) (by rfl)
set_option maxRecDepth 20000 in
theorem weX3_takeEntry : Jvm.Cond.selects yX3_takeEntry.cls yX3_takeEntry yX3_takeEntry ∈ tb_w := tb_s 5 (q := (yX3_takeEntry, 3)) (by rfl)
set_option maxRecDepth 20000 in
theorem wcX3_takeLetter : Jvm.Cond.code yX3_takeLetter cX3_takeLetter 2 (some .boolean) ∈ tb_w := tb_3 115 (by rfl) (by rfl)
set_option maxRecDepth 20000 in
theorem wkX3_takeLetter : Jvm.Cond.instanceMethod yX3_takeLetter ∈ tb_w := tb_3 114 (by rfl) (by rfl)
set_option maxRecDepth 20000 in
theorem weX3_takeLetter : Jvm.Cond.selects yX3_takeLetter.cls yX3_takeLetter yX3_takeLetter ∈ tb_w := tb_s 6 (q := (yX3_takeLetter, 3)) (by rfl)
set_option maxRecDepth 20000 in
theorem wcX4_init : Jvm.Cond.code yX4_init cX4_init 1 none ∈ tb_w := tb_1 114 (by rfl) (by rfl)
set_option maxRecDepth 20000 in
theorem wkX4_init : Jvm.Cond.instanceMethod yX4_init ∈ tb_w := tb_1 113 (by rfl) (by rfl)
set_option maxRecDepth 20000 in
theorem wcX4_copyFrom : Jvm.Cond.code yX4_copyFrom cX4_copyFrom 2 none ∈ tb_w := tb_3 146 (by rfl) (by rfl)
set_option maxRecDepth 20000 in
theorem wkX4_copyFrom : Jvm.Cond.instanceMethod yX4_copyFrom ∈ tb_w := tb_3 144 (by rfl) (by rfl)
set_option maxRecDepth 20000 in
theorem weX4_copyFrom : Jvm.Cond.selects yX4_copyFrom.cls yX4_copyFrom yX4_copyFrom ∈ tb_w := tb_3 145 (by rfl) (by rfl)
set_option maxRecDepth 20000 in
theorem wcX4_has : Jvm.Cond.code yX4_has cX4_has 2 (some .boolean) ∈ tb_w := tb_4 13 (by rfl) (by rfl)
set_option maxRecDepth 20000 in
theorem wkX4_has : Jvm.Cond.instanceMethod yX4_has ∈ tb_w := tb_4 11 (by rfl) (by rfl)
set_option maxRecDepth 20000 in
theorem weX4_has : Jvm.Cond.selects yX4_has.cls yX4_has yX4_has ∈ tb_w := tb_4 12 (by rfl) (by rfl)
set_option maxRecDepth 20000 in
theorem wcX4_find : Jvm.Cond.code yX4_find cX4_find 4 (some .int) ∈ tb_w := tb_3 111 (by rfl) (by rfl)
set_option maxRecDepth 20000 in
theorem wkX4_find : Jvm.Cond.instanceMethod yX4_find ∈ tb_w := tb_3 109 (by rfl) (by rfl)
set_option maxRecDepth 20000 in
theorem weX4_find : Jvm.Cond.selects yX4_find.cls yX4_find yX4_find ∈ tb_w := tb_3 110 (by rfl) (by rfl)
set_option maxRecDepth 20000 in
theorem wcX4_canTake : Jvm.Cond.code yX4_canTake cX4_canTake 3 (some .boolean) ∈ tb_w := tb_4 158 (by rfl) (by rfl)
set_option maxRecDepth 20000 in
theorem wkX4_canTake : Jvm.Cond.instanceMethod yX4_canTake ∈ tb_w := tb_4 156 (by rfl) (by rfl)
set_option maxRecDepth 20000 in
theorem weX4_canTake : Jvm.Cond.selects yX4_canTake.cls yX4_canTake yX4_canTake ∈ tb_w := tb_4 157 (by rfl) (by rfl)
set_option maxRecDepth 20000 in
theorem wcX4_put : Jvm.Cond.code yX4_put cX4_put 5 (some .int) ∈ tb_w := tb_3 107 (by rfl) (by rfl)
set_option maxRecDepth 20000 in
theorem wkX4_put : Jvm.Cond.instanceMethod yX4_put ∈ tb_w := tb_3 105 (by rfl) (by rfl)
set_option maxRecDepth 20000 in
theorem weX4_put : Jvm.Cond.selects yX4_put.cls yX4_put yX4_put ∈ tb_w := tb_3 106 (by rfl) (by rfl)
set_option maxRecDepth 20000 in
theorem wcX4_drop : Jvm.Cond.code yX4_drop cX4_drop 3 none ∈ tb_w := tb_4 167 (by rfl) (by rfl)
set_option maxRecDepth 20000 in
theorem wkX4_drop : Jvm.Cond.instanceMethod yX4_drop ∈ tb_w := tb_4 165 (by rfl) (by rfl)
set_option maxRecDepth 20000 in
theorem weX4_drop : Jvm.Cond.selects yX4_drop.cls yX4_drop yX4_drop ∈ tb_w := tb_4 166 (by rfl) (by rfl)
set_option maxRecDepth 20000 in
theorem wcX5_init : Jvm.Cond.code yX5_init cX5_init 2 none ∈ tb_w := tb_3 221 (by rfl) (by rfl)
set_option maxRecDepth 20000 in
theorem wkX5_init : Jvm.Cond.instanceMethod yX5_init ∈ tb_w := tb_3 220 (by rfl) (by rfl)
set_option maxRecDepth 20000 in
theorem wcX5_worth : Jvm.Cond.code yX5_worth cX5_worth 5 (some .long) ∈ tb_w := tb_4 101 (by rfl) (by rfl)
set_option maxRecDepth 20000 in
theorem wkX5_worth : Jvm.Cond.instanceMethod yX5_worth ∈ tb_w := tb_4 99 (by rfl) (by rfl)
set_option maxRecDepth 20000 in
theorem weX5_worth : Jvm.Cond.selects yX5_worth.cls yX5_worth yX5_worth ∈ tb_w := tb_4 100 (by rfl) (by rfl)
set_option maxRecDepth 20000 in
theorem wcX5_run : Jvm.Cond.code yX5_run cX5_run 7 (some .long) ∈ tb_w := tb_4 105 (by rfl) (by rfl)
set_option maxRecDepth 20000 in
theorem wkX5_run : Jvm.Cond.instanceMethod yX5_run ∈ tb_w := tb_4 104 (by rfl) (by rfl)
set_option maxRecDepth 20000 in
theorem weX5_run : Jvm.Cond.selects yX5_run.cls yX5_run yX5_run ∈ tb_w := tb_s 21 (q := (yX5_run, 4)) (by rfl)
set_option maxRecDepth 20000 in
theorem wcX5_join : Jvm.Cond.code yX5_join cX5_join 5 (some .long) ∈ tb_w := tb_4 108 (by rfl) (by rfl)
set_option maxRecDepth 20000 in
theorem wkX5_join : Jvm.Cond.static yX5_join ∈ tb_w := tb_4 107 (by rfl) (by rfl)
set_option maxRecDepth 20000 in
theorem wcX6_init : Jvm.Cond.code yX6_init cX6_init 2 none ∈ tb_w := tb_1 198 (by rfl) (by rfl)
set_option maxRecDepth 20000 in
theorem wkX6_init : Jvm.Cond.instanceMethod yX6_init ∈ tb_w := tb_1 197 (by rfl) (by rfl)
set_option maxRecDepth 20000 in
theorem wcX6_parse : Jvm.Cond.code yX6_parse cX6_parse 4 (some .int) ∈ tb_w := tb_3 157 (by rfl) (by rfl)
set_option maxRecDepth 20000 in
theorem wkX6_parse : Jvm.Cond.instanceMethod yX6_parse ∈ tb_w := tb_3 155 (by rfl) (by rfl)
set_option maxRecDepth 20000 in
theorem weX6_parse : Jvm.Cond.selects yX6_parse.cls yX6_parse yX6_parse ∈ tb_w := tb_3 156 (by rfl) (by rfl)
set_option maxRecDepth 20000 in
theorem wcX6_takeTest : Jvm.Cond.code yX6_takeTest cX6_takeTest 5 (some .boolean) ∈ tb_w := tb_3 203 (by rfl) (by rfl)
set_option maxRecDepth 20000 in
theorem wkX6_takeTest : Jvm.Cond.instanceMethod yX6_takeTest ∈ tb_w := tb_3 202 (by rfl) (by rfl)
set_option maxRecDepth 20000 in
theorem weX6_takeTest : Jvm.Cond.selects yX6_takeTest.cls yX6_takeTest yX6_takeTest ∈ tb_w := tb_s 11 (q := (yX6_takeTest, 7)) (by rfl)
set_option maxRecDepth 20000 in
theorem wcX6_takeFact : Jvm.Cond.code yX6_takeFact cX6_takeFact 6 (some .boolean) ∈ tb_w := tb_3 207 (by rfl) (by rfl)
set_option maxRecDepth 20000 in
theorem wkX6_takeFact : Jvm.Cond.instanceMethod yX6_takeFact ∈ tb_w := tb_3 206 (by rfl) (by rfl)
set_option maxRecDepth 20000 in
theorem weX6_takeFact : Jvm.Cond.selects yX6_takeFact.cls yX6_takeFact yX6_takeFact ∈ tb_w := tb_s 12 (q := (yX6_takeFact, 7)) (by rfl)
set_option maxRecDepth 20000 in
theorem wcX6_takeComparison : Jvm.Cond.code yX6_takeComparison cX6_takeComparison 3 (some .int) ∈ tb_w := tb_3 213 (by rfl) (by rfl)
set_option maxRecDepth 20000 in
theorem wkX6_takeComparison : Jvm.Cond.instanceMethod yX6_takeComparison ∈ tb_w := tb_3 212 (by rfl) (by rfl)
set_option maxRecDepth 20000 in
theorem weX6_takeComparison : Jvm.Cond.selects yX6_takeComparison.cls yX6_takeComparison yX6_takeComparison ∈ tb_w := tb_s 13 (q := (yX6_takeComparison, 7)) (by rfl)
set_option maxRecDepth 20000 in
theorem wcX6_takeSum : Jvm.Cond.code yX6_takeSum cX6_takeSum 5 (some .boolean) ∈ tb_w := tb_3 166 (by rfl) (by rfl)
set_option maxRecDepth 20000 in
theorem wkX6_takeSum : Jvm.Cond.instanceMethod yX6_takeSum ∈ tb_w := tb_3 165 (by rfl) (by rfl)
set_option maxRecDepth 20000 in
theorem weX6_takeSum : Jvm.Cond.selects yX6_takeSum.cls yX6_takeSum yX6_takeSum ∈ tb_w := tb_s 7 (q := (yX6_takeSum, 7)) (by rfl)
set_option maxRecDepth 20000 in
theorem wcX6_takeValue : Jvm.Cond.code yX6_takeValue cX6_takeValue 4 (some .boolean) ∈ tb_w := tb_3 170 (by rfl) (by rfl)
set_option maxRecDepth 20000 in
theorem wkX6_takeValue : Jvm.Cond.instanceMethod yX6_takeValue ∈ tb_w := tb_3 169 (by rfl) (by rfl)
set_option maxRecDepth 20000 in
theorem weX6_takeValue : Jvm.Cond.selects yX6_takeValue.cls yX6_takeValue yX6_takeValue ∈ tb_w := tb_s 8 (q := (yX6_takeValue, 7)) (by rfl)
set_option maxRecDepth 20000 in
theorem wcX6_countPart : Jvm.Cond.code yX6_countPart cX6_countPart 2 (some .boolean) ∈ tb_w := tb_3 177 (by rfl) (by rfl)
set_option maxRecDepth 20000 in
theorem wkX6_countPart : Jvm.Cond.instanceMethod yX6_countPart ∈ tb_w := tb_3 176 (by rfl) (by rfl)
set_option maxRecDepth 20000 in
theorem weX6_countPart : Jvm.Cond.selects yX6_countPart.cls yX6_countPart yX6_countPart ∈ tb_w := tb_s 9 (q := (yX6_countPart, 7)) (by rfl)
set_option maxRecDepth 20000 in
theorem wcX6_put : Jvm.Cond.code yX6_put cX6_put 2 (some .boolean) ∈ tb_w := tb_3 181 (by rfl) (by rfl)
set_option maxRecDepth 20000 in
theorem wkX6_put : Jvm.Cond.instanceMethod yX6_put ∈ tb_w := tb_3 180 (by rfl) (by rfl)
set_option maxRecDepth 20000 in
theorem weX6_put : Jvm.Cond.selects yX6_put.cls yX6_put yX6_put ∈ tb_w := tb_s 10 (q := (yX6_put, 7)) (by rfl)
set_option maxRecDepth 20000 in
theorem wcX6_joinOf : Jvm.Cond.code yX6_joinOf cX6_joinOf 1 (some .int) ∈ tb_w := tb_3 198 (by rfl) (by rfl)
set_option maxRecDepth 20000 in
theorem wkX6_joinOf : Jvm.Cond.static yX6_joinOf ∈ tb_w := tb_3 197 (by rfl) (by rfl)
set_option maxRecDepth 20000 in
theorem wcX6_textOf : Jvm.Cond.code yX6_textOf cX6_textOf 1 (some (.object "java/lang/String")) ∈ tb_w := tb_3 184 (by rfl) (by rfl)
set_option maxRecDepth 20000 in
theorem wkX6_textOf : Jvm.Cond.static yX6_textOf ∈ tb_w := tb_3 183 (by rfl) (by rfl)
set_option maxRecDepth 20000 in
theorem wcX7_init : Jvm.Cond.code yX7_init cX7_init 2 none ∈ tb_w := tb_2 71 (by rfl) (by rfl)
set_option maxRecDepth 20000 in
theorem wkX7_init : Jvm.Cond.instanceMethod yX7_init ∈ tb_w := tb_2 70 (by rfl) (by rfl)
set_option maxRecDepth 20000 in
theorem wcX7_start : Jvm.Cond.code yX7_start cX7_start 3 none ∈ tb_w := tb_4 48 (by rfl) (by rfl)
set_option maxRecDepth 20000 in
theorem wkX7_start : Jvm.Cond.instanceMethod yX7_start ∈ tb_w := tb_4 46 (by rfl) (by rfl)
set_option maxRecDepth 20000 in
theorem weX7_start : Jvm.Cond.selects yX7_start.cls yX7_start yX7_start ∈ tb_w := tb_4 47 (by rfl) (by rfl)
set_option maxRecDepth 20000 in
theorem wcX7_step : Jvm.Cond.code yX7_step cX7_step 3 (some .int) ∈ tb_w := tb_4 74 (by rfl) (by rfl)
set_option maxRecDepth 20000 in
theorem wkX7_step : Jvm.Cond.instanceMethod yX7_step ∈ tb_w := tb_4 72 (by rfl) (by rfl)
set_option maxRecDepth 20000 in
theorem weX7_step : Jvm.Cond.selects yX7_step.cls yX7_step yX7_step ∈ tb_w := tb_4 73 (by rfl) (by rfl)
set_option maxRecDepth 20000 in
theorem wcX7_lay : Jvm.Cond.code yX7_lay cX7_lay 2 none ∈ tb_w := tb_4 121 (by rfl) (by rfl)
set_option maxRecDepth 20000 in
theorem wkX7_lay : Jvm.Cond.instanceMethod yX7_lay ∈ tb_w := tb_4 120 (by rfl) (by rfl)
set_option maxRecDepth 20000 in
theorem weX7_lay : Jvm.Cond.selects yX7_lay.cls yX7_lay yX7_lay ∈ tb_w := tb_s 22 (q := (yX7_lay, 6)) (by rfl)
set_option maxRecDepth 20000 in
theorem wcX7_choose : Jvm.Cond.code yX7_choose cX7_choose 8 (some .int) ∈ tb_w := tb_4 78 (by rfl) (by rfl)
set_option maxRecDepth 20000 in
theorem wkX7_choose : Jvm.Cond.instanceMethod yX7_choose ∈ tb_w := tb_4 77 (by rfl) (by rfl)
set_option maxRecDepth 20000 in
theorem weX7_choose : Jvm.Cond.selects yX7_choose.cls yX7_choose yX7_choose ∈ tb_w := tb_s 19 (q := (yX7_choose, 6)) (by rfl)
set_option maxRecDepth 20000 in
theorem wcX7_describe : Jvm.Cond.code yX7_describe cX7_describe 6 none ∈ tb_w := tb_4 83 (by rfl) (by rfl)
set_option maxRecDepth 20000 in
theorem wkX7_describe : Jvm.Cond.instanceMethod yX7_describe ∈ tb_w := tb_4 82 (by rfl) (by rfl)
set_option maxRecDepth 20000 in
theorem weX7_describe : Jvm.Cond.selects yX7_describe.cls yX7_describe yX7_describe ∈ tb_w := tb_s 20 (q := (yX7_describe, 6)) (by rfl)
set_option maxRecDepth 20000 in
theorem wcX7_steps : Jvm.Cond.code yX7_steps cX7_steps 4 none ∈ tb_w := tb_5 88 (by rfl) (by rfl)
set_option maxRecDepth 20000 in
theorem wkX7_steps : Jvm.Cond.instanceMethod yX7_steps ∈ tb_w := tb_5 86 (by rfl) (by rfl)
set_option maxRecDepth 20000 in
theorem weX7_steps : Jvm.Cond.selects yX7_steps.cls yX7_steps yX7_steps ∈ tb_w := tb_5 87 (by rfl) (by rfl)
set_option maxRecDepth 20000 in
theorem wcX7_turnOfSorting : Jvm.Cond.code yX7_turnOfSorting cX7_turnOfSorting 4 (some .int) ∈ tb_w := tb_5 97 (by rfl) (by rfl)
set_option maxRecDepth 20000 in
theorem wkX7_turnOfSorting : Jvm.Cond.instanceMethod yX7_turnOfSorting ∈ tb_w := tb_5 95 (by rfl) (by rfl)
set_option maxRecDepth 20000 in
theorem weX7_turnOfSorting : Jvm.Cond.selects yX7_turnOfSorting.cls yX7_turnOfSorting yX7_turnOfSorting ∈ tb_w := tb_5 96 (by rfl) (by rfl)
set_option maxRecDepth 20000 in
theorem wcX7_turnOfTying : Jvm.Cond.code yX7_turnOfTying cX7_turnOfTying 6 (some .int) ∈ tb_w := tb_5 105 (by rfl) (by rfl)
set_option maxRecDepth 20000 in
theorem wkX7_turnOfTying : Jvm.Cond.instanceMethod yX7_turnOfTying ∈ tb_w := tb_5 103 (by rfl) (by rfl)
set_option maxRecDepth 20000 in
theorem weX7_turnOfTying : Jvm.Cond.selects yX7_turnOfTying.cls yX7_turnOfTying yX7_turnOfTying ∈ tb_w := tb_5 104 (by rfl) (by rfl)
set_option maxRecDepth 20000 in
theorem wcX7_agrees : Jvm.Cond.code yX7_agrees cX7_agrees 5 (some .boolean) ∈ tb_w := tb_5 117 (by rfl) (by rfl)
set_option maxRecDepth 20000 in
theorem wkX7_agrees : Jvm.Cond.instanceMethod yX7_agrees ∈ tb_w := tb_5 115 (by rfl) (by rfl)
set_option maxRecDepth 20000 in
theorem weX7_agrees : Jvm.Cond.selects yX7_agrees.cls yX7_agrees yX7_agrees ∈ tb_w := tb_5 116 (by rfl) (by rfl)
set_option maxRecDepth 20000 in
theorem wcX7_stepsWithPosts : Jvm.Cond.code yX7_stepsWithPosts cX7_stepsWithPosts 5 none ∈ tb_w := tb_5 182 (by rfl) (by rfl)
set_option maxRecDepth 20000 in
theorem wkX7_stepsWithPosts : Jvm.Cond.instanceMethod yX7_stepsWithPosts ∈ tb_w := tb_5 180 (by rfl) (by rfl)
set_option maxRecDepth 20000 in
theorem weX7_stepsWithPosts : Jvm.Cond.selects yX7_stepsWithPosts.cls yX7_stepsWithPosts yX7_stepsWithPosts ∈ tb_w := tb_5 181 (by rfl) (by rfl)
set_option maxRecDepth 20000 in
theorem wcX7_draw : Jvm.Cond.code yX7_draw cX7_draw 1 (some .int) ∈ tb_w := tb_5 186 (by rfl) (by rfl)
set_option maxRecDepth 20000 in
theorem wkX7_draw : Jvm.Cond.instanceMethod yX7_draw ∈ tb_w := tb_5 185 (by rfl) (by rfl)
set_option maxRecDepth 20000 in
theorem weX7_draw : Jvm.Cond.selects yX7_draw.cls yX7_draw yX7_draw ∈ tb_w := tb_s 34 (q := (yX7_draw, 6)) (by rfl)
set_option maxRecDepth 20000 in
theorem wcX8_init : Jvm.Cond.code yX8_init cX8_init 1 none ∈ tb_w := tb_1 64 (by rfl) (by rfl)
set_option maxRecDepth 20000 in
theorem wkX8_init : Jvm.Cond.instanceMethod yX8_init ∈ tb_w := tb_1 63 (by rfl) (by rfl)
set_option maxRecDepth 20000 in
theorem wcX8_lay : Jvm.Cond.code yX8_lay cX8_lay 5 none ∈ tb_w := tb_3 86 (by rfl) (by rfl)
set_option maxRecDepth 20000 in
theorem wkX8_lay : Jvm.Cond.instanceMethod yX8_lay ∈ tb_w := tb_3 84 (by rfl) (by rfl)
set_option maxRecDepth 20000 in
theorem weX8_lay : Jvm.Cond.selects yX8_lay.cls yX8_lay yX8_lay ∈ tb_w := tb_3 85 (by rfl) (by rfl)
set_option maxRecDepth 20000 in
theorem wcX8_copyFrom : Jvm.Cond.code yX8_copyFrom cX8_copyFrom 2 none ∈ tb_w := tb_3 135 (by rfl) (by rfl)
set_option maxRecDepth 20000 in
theorem wkX8_copyFrom : Jvm.Cond.instanceMethod yX8_copyFrom ∈ tb_w := tb_3 133 (by rfl) (by rfl)
set_option maxRecDepth 20000 in
theorem weX8_copyFrom : Jvm.Cond.selects yX8_copyFrom.cls yX8_copyFrom yX8_copyFrom ∈ tb_w := tb_3 134 (by rfl) (by rfl)
set_option maxRecDepth 20000 in
theorem wcX8_hasHole : Jvm.Cond.code yX8_hasHole cX8_hasHole 2 (some .boolean) ∈ tb_w := tb_3 98 (by rfl) (by rfl)
set_option maxRecDepth 20000 in
theorem wkX8_hasHole : Jvm.Cond.instanceMethod yX8_hasHole ∈ tb_w := tb_3 96 (by rfl) (by rfl)
set_option maxRecDepth 20000 in
theorem weX8_hasHole : Jvm.Cond.selects yX8_hasHole.cls yX8_hasHole yX8_hasHole ∈ tb_w := tb_3 97 (by rfl) (by rfl)
set_option maxRecDepth 20000 in
theorem wcX8_hasCode : Jvm.Cond.code yX8_hasCode cX8_hasCode 2 (some .boolean) ∈ tb_w := tb_4 91 (by rfl) (by rfl)
set_option maxRecDepth 20000 in
theorem wkX8_hasCode : Jvm.Cond.instanceMethod yX8_hasCode ∈ tb_w := tb_4 89 (by rfl) (by rfl)
set_option maxRecDepth 20000 in
theorem weX8_hasCode : Jvm.Cond.selects yX8_hasCode.cls yX8_hasCode yX8_hasCode ∈ tb_w := tb_4 90 (by rfl) (by rfl)
set_option maxRecDepth 20000 in
theorem wcX8_hasPrefix : Jvm.Cond.code yX8_hasPrefix cX8_hasPrefix 3 (some .boolean) ∈ tb_w := tb_4 154 (by rfl) (by rfl)
set_option maxRecDepth 20000 in
theorem wkX8_hasPrefix : Jvm.Cond.instanceMethod yX8_hasPrefix ∈ tb_w := tb_4 152 (by rfl) (by rfl)
set_option maxRecDepth 20000 in
theorem weX8_hasPrefix : Jvm.Cond.selects yX8_hasPrefix.cls yX8_hasPrefix yX8_hasPrefix ∈ tb_w := tb_4 153 (by rfl) (by rfl)
set_option maxRecDepth 20000 in
theorem wcX8_prefixesOf : Jvm.Cond.code yX8_prefixesOf cX8_prefixesOf 2 (some .int) ∈ tb_w := tb_3 90 (by rfl) (by rfl)
set_option maxRecDepth 20000 in
theorem wkX8_prefixesOf : Jvm.Cond.instanceMethod yX8_prefixesOf ∈ tb_w := tb_3 88 (by rfl) (by rfl)
set_option maxRecDepth 20000 in
theorem weX8_prefixesOf : Jvm.Cond.selects yX8_prefixesOf.cls yX8_prefixesOf yX8_prefixesOf ∈ tb_w := tb_3 89 (by rfl) (by rfl)
set_option maxRecDepth 20000 in
theorem wcX8_spanOf : Jvm.Cond.code yX8_spanOf cX8_spanOf 3 (some .int) ∈ tb_w := tb_4 62 (by rfl) (by rfl)
set_option maxRecDepth 20000 in
theorem wkX8_spanOf : Jvm.Cond.instanceMethod yX8_spanOf ∈ tb_w := tb_4 60 (by rfl) (by rfl)
set_option maxRecDepth 20000 in
theorem weX8_spanOf : Jvm.Cond.selects yX8_spanOf.cls yX8_spanOf yX8_spanOf ∈ tb_w := tb_4 61 (by rfl) (by rfl)
set_option maxRecDepth 20000 in
theorem wcX8_prefixOf : Jvm.Cond.code yX8_prefixOf cX8_prefixOf 4 (some .int) ∈ tb_w := tb_5 67 (by rfl) (by rfl)
set_option maxRecDepth 20000 in
theorem wkX8_prefixOf : Jvm.Cond.instanceMethod yX8_prefixOf ∈ tb_w := tb_5 65 (by rfl) (by rfl)
set_option maxRecDepth 20000 in
theorem weX8_prefixOf : Jvm.Cond.selects yX8_prefixOf.cls yX8_prefixOf yX8_prefixOf ∈ tb_w := tb_5 66 (by rfl) (by rfl)
set_option maxRecDepth 20000 in
theorem wcX8_digitOf : Jvm.Cond.code yX8_digitOf cX8_digitOf 4 (some .int) ∈ tb_w := tb_4 96 (by rfl) (by rfl)
set_option maxRecDepth 20000 in
theorem wkX8_digitOf : Jvm.Cond.instanceMethod yX8_digitOf ∈ tb_w := tb_4 94 (by rfl) (by rfl)
set_option maxRecDepth 20000 in
theorem weX8_digitOf : Jvm.Cond.selects yX8_digitOf.cls yX8_digitOf yX8_digitOf ∈ tb_w := tb_4 95 (by rfl) (by rfl)
set_option maxRecDepth 20000 in
theorem wcX9_init : Jvm.Cond.code yX9_init cX9_init 1 none ∈ tb_w := tb_1 33 (by rfl) (by rfl)
set_option maxRecDepth 20000 in
theorem wkX9_init : Jvm.Cond.instanceMethod yX9_init ∈ tb_w := tb_1 32 (by rfl) (by rfl)
set_option maxRecDepth 20000 in
theorem wcX9_add : Jvm.Cond.code yX9_add cX9_add 3 none ∈ tb_w := tb_2 209 (by rfl) (by rfl)
set_option maxRecDepth 20000 in
theorem wkX9_add : Jvm.Cond.instanceMethod yX9_add ∈ tb_w := tb_2 207 (by rfl) (by rfl)
set_option maxRecDepth 20000 in
theorem weX9_add : Jvm.Cond.selects yX9_add.cls yX9_add yX9_add ∈ tb_w := tb_2 208 (by rfl) (by rfl)
set_option maxRecDepth 20000 in
theorem wcX9_rewind : Jvm.Cond.code yX9_rewind cX9_rewind 1 none ∈ tb_w := tb_2 225 (by rfl) (by rfl)
set_option maxRecDepth 20000 in
theorem wkX9_rewind : Jvm.Cond.instanceMethod yX9_rewind ∈ tb_w := tb_2 223 (by rfl) (by rfl)
set_option maxRecDepth 20000 in
theorem weX9_rewind : Jvm.Cond.selects yX9_rewind.cls yX9_rewind yX9_rewind ∈ tb_w := tb_2 224 (by rfl) (by rfl)
set_option maxRecDepth 20000 in
theorem wcX9_fail : Jvm.Cond.code yX9_fail cX9_fail 3 (some .boolean) ∈ tb_w := tb_3 66 (by rfl) (by rfl)
set_option maxRecDepth 20000 in
theorem wkX9_fail : Jvm.Cond.instanceMethod yX9_fail ∈ tb_w := tb_3 64 (by rfl) (by rfl)
set_option maxRecDepth 20000 in
theorem weX9_fail : Jvm.Cond.selects yX9_fail.cls yX9_fail yX9_fail ∈ tb_w := tb_3 65 (by rfl) (by rfl)
set_option maxRecDepth 20000 in
theorem wcX9_byteAt : Jvm.Cond.code yX9_byteAt cX9_byteAt 2 (some .int) ∈ tb_w := tb_3 21 (by rfl) (by rfl)
set_option maxRecDepth 20000 in
theorem wkX9_byteAt : Jvm.Cond.instanceMethod yX9_byteAt ∈ tb_w := tb_3 19 (by rfl) (by rfl)
set_option maxRecDepth 20000 in
theorem weX9_byteAt : Jvm.Cond.selects yX9_byteAt.cls yX9_byteAt yX9_byteAt ∈ tb_w := tb_3 20 (by rfl) (by rfl)
set_option maxRecDepth 20000 in
theorem wcX9_next : Jvm.Cond.code yX9_next cX9_next 2 (some .int) ∈ tb_w := tb_2 237 (by rfl) (by rfl)
set_option maxRecDepth 20000 in
theorem wkX9_next : Jvm.Cond.instanceMethod yX9_next ∈ tb_w := tb_2 235 (by rfl) (by rfl)
set_option maxRecDepth 20000 in
theorem weX9_next : Jvm.Cond.selects yX9_next.cls yX9_next yX9_next ∈ tb_w := tb_2 236 (by rfl) (by rfl)
set_option maxRecDepth 20000 in
theorem wcX9_takeByte : Jvm.Cond.code yX9_takeByte cX9_takeByte 2 (some .boolean) ∈ tb_w := tb_3 127 (by rfl) (by rfl)
set_option maxRecDepth 20000 in
theorem wkX9_takeByte : Jvm.Cond.instanceMethod yX9_takeByte ∈ tb_w := tb_3 125 (by rfl) (by rfl)
set_option maxRecDepth 20000 in
theorem weX9_takeByte : Jvm.Cond.selects yX9_takeByte.cls yX9_takeByte yX9_takeByte ∈ tb_w := tb_3 126 (by rfl) (by rfl)
set_option maxRecDepth 20000 in
theorem wcX9_takeWord : Jvm.Cond.code yX9_takeWord cX9_takeWord 3 (some .boolean) ∈ tb_w := tb_3 6 (by rfl) (by rfl)
set_option maxRecDepth 20000 in
theorem wkX9_takeWord : Jvm.Cond.instanceMethod yX9_takeWord ∈ tb_w := tb_3 4 (by rfl) (by rfl)
set_option maxRecDepth 20000 in
theorem weX9_takeWord : Jvm.Cond.selects yX9_takeWord.cls yX9_takeWord yX9_takeWord ∈ tb_w := tb_3 5 (by rfl) (by rfl)
set_option maxRecDepth 20000 in
theorem wcX9_takeNumber : Jvm.Cond.code yX9_takeNumber cX9_takeNumber 6 (some .int) ∈ tb_w := tb_3 78 (by rfl) (by rfl)
set_option maxRecDepth 20000 in
theorem wkX9_takeNumber : Jvm.Cond.instanceMethod yX9_takeNumber ∈ tb_w := tb_3 76 (by rfl) (by rfl)
set_option maxRecDepth 20000 in
theorem weX9_takeNumber : Jvm.Cond.selects yX9_takeNumber.cls yX9_takeNumber yX9_takeNumber ∈ tb_w := tb_3 77 (by rfl) (by rfl)
set_option maxRecDepth 20000 in
theorem wcX9_takeSemicolon : Jvm.Cond.code yX9_takeSemicolon cX9_takeSemicolon 1 (some .boolean) ∈ tb_w := tb_3 123 (by rfl) (by rfl)
set_option maxRecDepth 20000 in
theorem wkX9_takeSemicolon : Jvm.Cond.instanceMethod yX9_takeSemicolon ∈ tb_w := tb_3 121 (by rfl) (by rfl)
set_option maxRecDepth 20000 in
theorem weX9_takeSemicolon : Jvm.Cond.selects yX9_takeSemicolon.cls yX9_takeSemicolon yX9_takeSemicolon ∈ tb_w := tb_3 122 (by rfl) (by rfl)
set_option maxRecDepth 20000 in
theorem wcX9_isDigit : Jvm.Cond.code yX9_isDigit cX9_isDigit 1 (some .boolean) ∈ tb_w := tb_3 81 (by rfl) (by rfl)
set_option maxRecDepth 20000 in
theorem wkX9_isDigit : Jvm.Cond.static yX9_isDigit ∈ tb_w := tb_3 80 (by rfl) (by rfl)
set_option maxRecDepth 20000 in
theorem wcX10_init : Jvm.Cond.code yX10_init cX10_init 1 none ∈ tb_w := tb_1 108 (by rfl) (by rfl)
set_option maxRecDepth 20000 in
theorem wkX10_init : Jvm.Cond.instanceMethod yX10_init ∈ tb_w := tb_1 107 (by rfl) (by rfl)
set_option maxRecDepth 20000 in
theorem wcX10_clear : Jvm.Cond.code yX10_clear cX10_clear 2 none ∈ tb_w := tb_2 229 (by rfl) (by rfl)
set_option maxRecDepth 20000 in
theorem wkX10_clear : Jvm.Cond.instanceMethod yX10_clear ∈ tb_w := tb_2 227 (by rfl) (by rfl)
set_option maxRecDepth 20000 in
theorem weX10_clear : Jvm.Cond.selects yX10_clear.cls yX10_clear yX10_clear ∈ tb_w := tb_2 228 (by rfl) (by rfl)
set_option maxRecDepth 20000 in
theorem wcX10_copyFrom : Jvm.Cond.code yX10_copyFrom cX10_copyFrom 2 none ∈ tb_w := tb_3 142 (by rfl) (by rfl)
set_option maxRecDepth 20000 in
theorem wkX10_copyFrom : Jvm.Cond.instanceMethod yX10_copyFrom ∈ tb_w := tb_3 140 (by rfl) (by rfl)
set_option maxRecDepth 20000 in
theorem weX10_copyFrom : Jvm.Cond.selects yX10_copyFrom.cls yX10_copyFrom yX10_copyFrom ∈ tb_w := tb_3 141 (by rfl) (by rfl)
set_option maxRecDepth 20000 in
theorem wcX10_queue : Jvm.Cond.code yX10_queue cX10_queue 2 none ∈ tb_w := tb_3 119 (by rfl) (by rfl)
set_option maxRecDepth 20000 in
theorem wkX10_queue : Jvm.Cond.instanceMethod yX10_queue ∈ tb_w := tb_3 117 (by rfl) (by rfl)
set_option maxRecDepth 20000 in
theorem weX10_queue : Jvm.Cond.selects yX10_queue.cls yX10_queue yX10_queue ∈ tb_w := tb_3 118 (by rfl) (by rfl)
set_option maxRecDepth 20000 in
theorem wcX10_takeOut : Jvm.Cond.code yX10_takeOut cX10_takeOut 4 (some .int) ∈ tb_w := tb_4 112 (by rfl) (by rfl)
set_option maxRecDepth 20000 in
theorem wkX10_takeOut : Jvm.Cond.instanceMethod yX10_takeOut ∈ tb_w := tb_4 110 (by rfl) (by rfl)
set_option maxRecDepth 20000 in
theorem weX10_takeOut : Jvm.Cond.selects yX10_takeOut.cls yX10_takeOut yX10_takeOut ∈ tb_w := tb_4 111 (by rfl) (by rfl)
set_option maxRecDepth 20000 in
theorem wcX10_bagUp : Jvm.Cond.code yX10_bagUp cX10_bagUp 2 none ∈ tb_w := tb_4 126 (by rfl) (by rfl)
set_option maxRecDepth 20000 in
theorem wkX10_bagUp : Jvm.Cond.instanceMethod yX10_bagUp ∈ tb_w := tb_4 124 (by rfl) (by rfl)
set_option maxRecDepth 20000 in
theorem weX10_bagUp : Jvm.Cond.selects yX10_bagUp.cls yX10_bagUp yX10_bagUp ∈ tb_w := tb_4 125 (by rfl) (by rfl)
set_option maxRecDepth 20000 in
theorem wcX10_lyingInAll : Jvm.Cond.code yX10_lyingInAll cX10_lyingInAll 1 (some .int) ∈ tb_w := tb_4 25 (by rfl) (by rfl)
set_option maxRecDepth 20000 in
theorem wkX10_lyingInAll : Jvm.Cond.instanceMethod yX10_lyingInAll ∈ tb_w := tb_4 23 (by rfl) (by rfl)
set_option maxRecDepth 20000 in
theorem weX10_lyingInAll : Jvm.Cond.selects yX10_lyingInAll.cls yX10_lyingInAll yX10_lyingInAll ∈ tb_w := tb_4 24 (by rfl) (by rfl)
set_option maxRecDepth 20000 in
theorem wcX10_bagsOfAll : Jvm.Cond.code yX10_bagsOfAll cX10_bagsOfAll 1 (some .int) ∈ tb_w := tb_4 32 (by rfl) (by rfl)
set_option maxRecDepth 20000 in
theorem wkX10_bagsOfAll : Jvm.Cond.instanceMethod yX10_bagsOfAll ∈ tb_w := tb_4 30 (by rfl) (by rfl)
set_option maxRecDepth 20000 in
theorem weX10_bagsOfAll : Jvm.Cond.selects yX10_bagsOfAll.cls yX10_bagsOfAll yX10_bagsOfAll ∈ tb_w := tb_4 31 (by rfl) (by rfl)
set_option maxRecDepth 20000 in
theorem wcX10_shareOf : Jvm.Cond.code yX10_shareOf cX10_shareOf 9 (some .int) ∈ tb_w := tb_5 140 (by rfl) (by rfl)
set_option maxRecDepth 20000 in
theorem wkX10_shareOf : Jvm.Cond.instanceMethod yX10_shareOf ∈ tb_w := tb_5 138 (by rfl) (by rfl)
set_option maxRecDepth 20000 in
theorem weX10_shareOf : Jvm.Cond.selects yX10_shareOf.cls yX10_shareOf yX10_shareOf ∈ tb_w := tb_5 139 (by rfl) (by rfl)
set_option maxRecDepth 20000 in
theorem wcX10_sumOf : Jvm.Cond.code yX10_sumOf cX10_sumOf 3 (some .int) ∈ tb_w := tb_4 28 (by rfl) (by rfl)
set_option maxRecDepth 20000 in
theorem wkX10_sumOf : Jvm.Cond.static yX10_sumOf ∈ tb_w := tb_4 27 (by rfl) (by rfl)
set_option maxRecDepth 20000 in
theorem wcX11_init : Jvm.Cond.code yX11_init cX11_init 2 none ∈ tb_w := tb_1 25 (by rfl) (by rfl)
set_option maxRecDepth 20000 in
theorem wkX11_init : Jvm.Cond.instanceMethod yX11_init ∈ tb_w := tb_1 24 (by rfl) (by rfl)
set_option maxRecDepth 20000 in
theorem wcX11_feed : Jvm.Cond.code yX11_feed cX11_feed 6 (some .int) ∈ tb_w := tb_2 205 (by rfl) (by rfl)
set_option maxRecDepth 20000 in
theorem wkX11_feed : Jvm.Cond.instanceMethod yX11_feed ∈ tb_w := tb_2 203 (by rfl) (by rfl)
set_option maxRecDepth 20000 in
theorem weX11_feed : Jvm.Cond.selects yX11_feed.cls yX11_feed yX11_feed ∈ tb_w := tb_2 204 (by rfl) (by rfl)
set_option maxRecDepth 20000 in
theorem wcX11_end : Jvm.Cond.code yX11_end cX11_end 2 (some .int) ∈ tb_w := tb_2 213 (by rfl) (by rfl)
set_option maxRecDepth 20000 in
theorem wkX11_end : Jvm.Cond.instanceMethod yX11_end ∈ tb_w := tb_2 211 (by rfl) (by rfl)
set_option maxRecDepth 20000 in
theorem weX11_end : Jvm.Cond.selects yX11_end.cls yX11_end yX11_end ∈ tb_w := tb_2 212 (by rfl) (by rfl)
set_option maxRecDepth 20000 in
theorem wcX11_frame : Jvm.Cond.code yX11_frame cX11_frame 2 (some .int) ∈ tb_w := tb_2 217 (by rfl) (by rfl)
set_option maxRecDepth 20000 in
theorem wkX11_frame : Jvm.Cond.instanceMethod yX11_frame ∈ tb_w := tb_2 215 (by rfl) (by rfl)
set_option maxRecDepth 20000 in
theorem weX11_frame : Jvm.Cond.selects yX11_frame.cls yX11_frame yX11_frame ∈ tb_w := tb_2 216 (by rfl) (by rfl)
set_option maxRecDepth 20000 in
theorem wcX11_rule : Jvm.Cond.code yX11_rule cX11_rule 2 (some .int) ∈ tb_w := tb_3 153 (by rfl) (by rfl)
set_option maxRecDepth 20000 in
theorem wkX11_rule : Jvm.Cond.instanceMethod yX11_rule ∈ tb_w := tb_3 151 (by rfl) (by rfl)
set_option maxRecDepth 20000 in
theorem weX11_rule : Jvm.Cond.selects yX11_rule.cls yX11_rule yX11_rule ∈ tb_w := tb_3 152 (by rfl) (by rfl)
set_option maxRecDepth 20000 in
theorem wcX11_force : Jvm.Cond.code yX11_force cX11_force 3 (some .int) ∈ tb_w := tb_4 0 (by rfl) (by rfl)
set_option maxRecDepth 20000 in
theorem wkX11_force : Jvm.Cond.instanceMethod yX11_force ∈ tb_w := tb_3 238 (by rfl) (by rfl)
set_option maxRecDepth 20000 in
theorem weX11_force : Jvm.Cond.selects yX11_force.cls yX11_force yX11_force ∈ tb_w := tb_3 239 (by rfl) (by rfl)
set_option maxRecDepth 20000 in
theorem wcX11_hole : Jvm.Cond.code yX11_hole cX11_hole 3 (some .int) ∈ tb_w := tb_4 4 (by rfl) (by rfl)
set_option maxRecDepth 20000 in
theorem wkX11_hole : Jvm.Cond.instanceMethod yX11_hole ∈ tb_w := tb_4 2 (by rfl) (by rfl)
set_option maxRecDepth 20000 in
theorem weX11_hole : Jvm.Cond.selects yX11_hole.cls yX11_hole yX11_hole ∈ tb_w := tb_4 3 (by rfl) (by rfl)
set_option maxRecDepth 20000 in
theorem wcX11_entry : Jvm.Cond.code yX11_entry cX11_entry 4 (some .int) ∈ tb_w := tb_4 9 (by rfl) (by rfl)
set_option maxRecDepth 20000 in
theorem wkX11_entry : Jvm.Cond.instanceMethod yX11_entry ∈ tb_w := tb_4 7 (by rfl) (by rfl)
set_option maxRecDepth 20000 in
theorem weX11_entry : Jvm.Cond.selects yX11_entry.cls yX11_entry yX11_entry ∈ tb_w := tb_4 8 (by rfl) (by rfl)
set_option maxRecDepth 20000 in
theorem wcX11_waits : Jvm.Cond.code yX11_waits cX11_waits 2 (some .int) ∈ tb_w := tb_4 17 (by rfl) (by rfl)
set_option maxRecDepth 20000 in
theorem wkX11_waits : Jvm.Cond.instanceMethod yX11_waits ∈ tb_w := tb_4 15 (by rfl) (by rfl)
set_option maxRecDepth 20000 in
theorem weX11_waits : Jvm.Cond.selects yX11_waits.cls yX11_waits yX11_waits ∈ tb_w := tb_4 16 (by rfl) (by rfl)
set_option maxRecDepth 20000 in
theorem wcX11_count : Jvm.Cond.code yX11_count cX11_count 2 (some .int) ∈ tb_w := tb_4 21 (by rfl) (by rfl)
set_option maxRecDepth 20000 in
theorem wkX11_count : Jvm.Cond.instanceMethod yX11_count ∈ tb_w := tb_4 19 (by rfl) (by rfl)
set_option maxRecDepth 20000 in
theorem weX11_count : Jvm.Cond.selects yX11_count.cls yX11_count yX11_count ∈ tb_w := tb_4 20 (by rfl) (by rfl)
set_option maxRecDepth 20000 in
theorem wcX11_turn : Jvm.Cond.code yX11_turn cX11_turn 2 (some .int) ∈ tb_w := tb_4 36 (by rfl) (by rfl)
set_option maxRecDepth 20000 in
theorem wkX11_turn : Jvm.Cond.instanceMethod yX11_turn ∈ tb_w := tb_4 34 (by rfl) (by rfl)
set_option maxRecDepth 20000 in
theorem weX11_turn : Jvm.Cond.selects yX11_turn.cls yX11_turn yX11_turn ∈ tb_w := tb_4 35 (by rfl) (by rfl)
set_option maxRecDepth 20000 in
theorem wcX11_post : Jvm.Cond.code yX11_post cX11_post 2 (some .int) ∈ tb_w := tb_4 139 (by rfl) (by rfl)
set_option maxRecDepth 20000 in
theorem wkX11_post : Jvm.Cond.instanceMethod yX11_post ∈ tb_w := tb_4 137 (by rfl) (by rfl)
set_option maxRecDepth 20000 in
theorem weX11_post : Jvm.Cond.selects yX11_post.cls yX11_post yX11_post ∈ tb_w := tb_4 138 (by rfl) (by rfl)
set_option maxRecDepth 20000 in
theorem wcX11_tie : Jvm.Cond.code yX11_tie cX11_tie 3 (some .int) ∈ tb_w := tb_4 145 (by rfl) (by rfl)
set_option maxRecDepth 20000 in
theorem wkX11_tie : Jvm.Cond.instanceMethod yX11_tie ∈ tb_w := tb_4 143 (by rfl) (by rfl)
set_option maxRecDepth 20000 in
theorem weX11_tie : Jvm.Cond.selects yX11_tie.cls yX11_tie yX11_tie ∈ tb_w := tb_4 144 (by rfl) (by rfl)
set_option maxRecDepth 20000 in
theorem wcX11_enter : Jvm.Cond.code yX11_enter cX11_enter 4 (some .int) ∈ tb_w := tb_4 150 (by rfl) (by rfl)
set_option maxRecDepth 20000 in
theorem wkX11_enter : Jvm.Cond.instanceMethod yX11_enter ∈ tb_w := tb_4 148 (by rfl) (by rfl)
set_option maxRecDepth 20000 in
theorem weX11_enter : Jvm.Cond.selects yX11_enter.cls yX11_enter yX11_enter ∈ tb_w := tb_4 149 (by rfl) (by rfl)
set_option maxRecDepth 20000 in
theorem wcX11_strike : Jvm.Cond.code yX11_strike cX11_strike 2 (some .int) ∈ tb_w := tb_4 163 (by rfl) (by rfl)
set_option maxRecDepth 20000 in
theorem wkX11_strike : Jvm.Cond.instanceMethod yX11_strike ∈ tb_w := tb_4 161 (by rfl) (by rfl)
set_option maxRecDepth 20000 in
theorem weX11_strike : Jvm.Cond.selects yX11_strike.cls yX11_strike yX11_strike ∈ tb_w := tb_4 162 (by rfl) (by rfl)
set_option maxRecDepth 20000 in
theorem wcX11_undo : Jvm.Cond.code yX11_undo cX11_undo 1 (some .int) ∈ tb_w := tb_4 172 (by rfl) (by rfl)
set_option maxRecDepth 20000 in
theorem wkX11_undo : Jvm.Cond.instanceMethod yX11_undo ∈ tb_w := tb_4 170 (by rfl) (by rfl)
set_option maxRecDepth 20000 in
theorem weX11_undo : Jvm.Cond.selects yX11_undo.cls yX11_undo yX11_undo ∈ tb_w := tb_4 171 (by rfl) (by rfl)
set_option maxRecDepth 20000 in
theorem wcX11_where : Jvm.Cond.code yX11_where cX11_where 3 (some .int) ∈ tb_w := tb_4 176 (by rfl) (by rfl)
set_option maxRecDepth 20000 in
theorem wkX11_where : Jvm.Cond.instanceMethod yX11_where ∈ tb_w := tb_4 174 (by rfl) (by rfl)
set_option maxRecDepth 20000 in
theorem weX11_where : Jvm.Cond.selects yX11_where.cls yX11_where yX11_where ∈ tb_w := tb_4 175 (by rfl) (by rfl)
set_option maxRecDepth 20000 in
theorem wcX11_may : Jvm.Cond.code yX11_may cX11_may 2 (some .int) ∈ tb_w := tb_4 191 (by rfl) (by rfl)
set_option maxRecDepth 20000 in
theorem wkX11_may : Jvm.Cond.instanceMethod yX11_may ∈ tb_w := tb_4 189 (by rfl) (by rfl)
set_option maxRecDepth 20000 in
theorem weX11_may : Jvm.Cond.selects yX11_may.cls yX11_may yX11_may ∈ tb_w := tb_4 190 (by rfl) (by rfl)
set_option maxRecDepth 20000 in
theorem wcX11_read : Jvm.Cond.code yX11_read cX11_read 4 (some .int) ∈ tb_w := tb_4 209 (by rfl) (by rfl)
set_option maxRecDepth 20000 in
theorem wkX11_read : Jvm.Cond.instanceMethod yX11_read ∈ tb_w := tb_4 207 (by rfl) (by rfl)
set_option maxRecDepth 20000 in
theorem weX11_read : Jvm.Cond.selects yX11_read.cls yX11_read yX11_read ∈ tb_w := tb_4 208 (by rfl) (by rfl)
set_option maxRecDepth 20000 in
theorem wcX11_codes : Jvm.Cond.code yX11_codes cX11_codes 4 (some .int) ∈ tb_w := tb_4 227 (by rfl) (by rfl)
set_option maxRecDepth 20000 in
theorem wkX11_codes : Jvm.Cond.instanceMethod yX11_codes ∈ tb_w := tb_4 225 (by rfl) (by rfl)
set_option maxRecDepth 20000 in
theorem weX11_codes : Jvm.Cond.selects yX11_codes.cls yX11_codes yX11_codes ∈ tb_w := tb_4 226 (by rfl) (by rfl)
set_option maxRecDepth 20000 in
theorem wcX11_slips : Jvm.Cond.code yX11_slips cX11_slips 2 (some .int) ∈ tb_w := tb_4 239 (by rfl) (by rfl)
set_option maxRecDepth 20000 in
theorem wkX11_slips : Jvm.Cond.instanceMethod yX11_slips ∈ tb_w := tb_4 237 (by rfl) (by rfl)
set_option maxRecDepth 20000 in
theorem weX11_slips : Jvm.Cond.selects yX11_slips.cls yX11_slips yX11_slips ∈ tb_w := tb_4 238 (by rfl) (by rfl)
set_option maxRecDepth 20000 in
theorem wcX11_worst : Jvm.Cond.code yX11_worst cX11_worst 3 (some .int) ∈ tb_w := tb_5 7 (by rfl) (by rfl)
set_option maxRecDepth 20000 in
theorem wkX11_worst : Jvm.Cond.instanceMethod yX11_worst ∈ tb_w := tb_5 5 (by rfl) (by rfl)
set_option maxRecDepth 20000 in
theorem weX11_worst : Jvm.Cond.selects yX11_worst.cls yX11_worst yX11_worst ∈ tb_w := tb_5 6 (by rfl) (by rfl)
set_option maxRecDepth 20000 in
theorem wcX11_idle : Jvm.Cond.code yX11_idle cX11_idle 1 (some .int) ∈ tb_w := tb_5 16 (by rfl) (by rfl)
set_option maxRecDepth 20000 in
theorem wkX11_idle : Jvm.Cond.instanceMethod yX11_idle ∈ tb_w := tb_5 14 (by rfl) (by rfl)
set_option maxRecDepth 20000 in
theorem weX11_idle : Jvm.Cond.selects yX11_idle.cls yX11_idle yX11_idle ∈ tb_w := tb_5 15 (by rfl) (by rfl)
set_option maxRecDepth 20000 in
theorem wcX11_least : Jvm.Cond.code yX11_least cX11_least 1 (some .int) ∈ tb_w := tb_5 24 (by rfl) (by rfl)
set_option maxRecDepth 20000 in
theorem wkX11_least : Jvm.Cond.instanceMethod yX11_least ∈ tb_w := tb_5 22 (by rfl) (by rfl)
set_option maxRecDepth 20000 in
theorem weX11_least : Jvm.Cond.selects yX11_least.cls yX11_least yX11_least ∈ tb_w := tb_5 23 (by rfl) (by rfl)
set_option maxRecDepth 20000 in
theorem wcX11_one : Jvm.Cond.code yX11_one cX11_one 2 (some .int) ∈ tb_w := tb_5 38 (by rfl) (by rfl)
set_option maxRecDepth 20000 in
theorem wkX11_one : Jvm.Cond.instanceMethod yX11_one ∈ tb_w := tb_5 36 (by rfl) (by rfl)
set_option maxRecDepth 20000 in
theorem weX11_one : Jvm.Cond.selects yX11_one.cls yX11_one yX11_one ∈ tb_w := tb_5 37 (by rfl) (by rfl)
set_option maxRecDepth 20000 in
theorem wcX11_change : Jvm.Cond.code yX11_change cX11_change 2 (some .int) ∈ tb_w := tb_5 72 (by rfl) (by rfl)
set_option maxRecDepth 20000 in
theorem wkX11_change : Jvm.Cond.instanceMethod yX11_change ∈ tb_w := tb_5 70 (by rfl) (by rfl)
set_option maxRecDepth 20000 in
theorem weX11_change : Jvm.Cond.selects yX11_change.cls yX11_change yX11_change ∈ tb_w := tb_5 71 (by rfl) (by rfl)
set_option maxRecDepth 20000 in
theorem wcX11_ahead : Jvm.Cond.code yX11_ahead cX11_ahead 5 (some .int) ∈ tb_w := tb_5 84 (by rfl) (by rfl)
set_option maxRecDepth 20000 in
theorem wkX11_ahead : Jvm.Cond.instanceMethod yX11_ahead ∈ tb_w := tb_5 82 (by rfl) (by rfl)
set_option maxRecDepth 20000 in
theorem weX11_ahead : Jvm.Cond.selects yX11_ahead.cls yX11_ahead yX11_ahead ∈ tb_w := tb_5 83 (by rfl) (by rfl)
set_option maxRecDepth 20000 in
theorem wcX11_sorted : Jvm.Cond.code yX11_sorted cX11_sorted 1 (some .int) ∈ tb_w := tb_5 93 (by rfl) (by rfl)
set_option maxRecDepth 20000 in
theorem wkX11_sorted : Jvm.Cond.instanceMethod yX11_sorted ∈ tb_w := tb_5 91 (by rfl) (by rfl)
set_option maxRecDepth 20000 in
theorem weX11_sorted : Jvm.Cond.selects yX11_sorted.cls yX11_sorted yX11_sorted ∈ tb_w := tb_5 92 (by rfl) (by rfl)
set_option maxRecDepth 20000 in
theorem wcX11_tied : Jvm.Cond.code yX11_tied cX11_tied 2 (some .int) ∈ tb_w := tb_5 101 (by rfl) (by rfl)
set_option maxRecDepth 20000 in
theorem wkX11_tied : Jvm.Cond.instanceMethod yX11_tied ∈ tb_w := tb_5 99 (by rfl) (by rfl)
set_option maxRecDepth 20000 in
theorem weX11_tied : Jvm.Cond.selects yX11_tied.cls yX11_tied yX11_tied ∈ tb_w := tb_5 100 (by rfl) (by rfl)
set_option maxRecDepth 20000 in
theorem wcX11_enough : Jvm.Cond.code yX11_enough cX11_enough 4 (some .int) ∈ tb_w := tb_5 109 (by rfl) (by rfl)
set_option maxRecDepth 20000 in
theorem wkX11_enough : Jvm.Cond.instanceMethod yX11_enough ∈ tb_w := tb_5 107 (by rfl) (by rfl)
set_option maxRecDepth 20000 in
theorem weX11_enough : Jvm.Cond.selects yX11_enough.cls yX11_enough yX11_enough ∈ tb_w := tb_5 108 (by rfl) (by rfl)
set_option maxRecDepth 20000 in
theorem wcX11_said : Jvm.Cond.code yX11_said cX11_said 6 (some .int) ∈ tb_w := tb_5 113 (by rfl) (by rfl)
set_option maxRecDepth 20000 in
theorem wkX11_said : Jvm.Cond.instanceMethod yX11_said ∈ tb_w := tb_5 111 (by rfl) (by rfl)
set_option maxRecDepth 20000 in
theorem weX11_said : Jvm.Cond.selects yX11_said.cls yX11_said yX11_said ∈ tb_w := tb_5 112 (by rfl) (by rfl)
set_option maxRecDepth 20000 in
theorem wcX11_sent : Jvm.Cond.code yX11_sent cX11_sent 4 (some .int) ∈ tb_w := tb_5 132 (by rfl) (by rfl)
set_option maxRecDepth 20000 in
theorem wkX11_sent : Jvm.Cond.instanceMethod yX11_sent ∈ tb_w := tb_5 130 (by rfl) (by rfl)
set_option maxRecDepth 20000 in
theorem weX11_sent : Jvm.Cond.selects yX11_sent.cls yX11_sent yX11_sent ∈ tb_w := tb_5 131 (by rfl) (by rfl)
set_option maxRecDepth 20000 in
theorem wcX11_pence : Jvm.Cond.code yX11_pence cX11_pence 3 (some .int) ∈ tb_w := tb_5 136 (by rfl) (by rfl)
set_option maxRecDepth 20000 in
theorem wkX11_pence : Jvm.Cond.instanceMethod yX11_pence ∈ tb_w := tb_5 134 (by rfl) (by rfl)
set_option maxRecDepth 20000 in
theorem weX11_pence : Jvm.Cond.selects yX11_pence.cls yX11_pence yX11_pence ∈ tb_w := tb_5 135 (by rfl) (by rfl)
set_option maxRecDepth 20000 in
theorem wcX11_note : Jvm.Cond.code yX11_note cX11_note 5 (some .int) ∈ tb_w := tb_5 145 (by rfl) (by rfl)
set_option maxRecDepth 20000 in
theorem wkX11_note : Jvm.Cond.instanceMethod yX11_note ∈ tb_w := tb_5 143 (by rfl) (by rfl)
set_option maxRecDepth 20000 in
theorem weX11_note : Jvm.Cond.selects yX11_note.cls yX11_note yX11_note ∈ tb_w := tb_5 144 (by rfl) (by rfl)
set_option maxRecDepth 20000 in
theorem wcX11_ruled : Jvm.Cond.code yX11_ruled cX11_ruled 5 (some .int) ∈ tb_w := tb_5 153 (by rfl) (by rfl)
set_option maxRecDepth 20000 in
theorem wkX11_ruled : Jvm.Cond.instanceMethod yX11_ruled ∈ tb_w := tb_5 151 (by rfl) (by rfl)
set_option maxRecDepth 20000 in
theorem weX11_ruled : Jvm.Cond.selects yX11_ruled.cls yX11_ruled yX11_ruled ∈ tb_w := tb_5 152 (by rfl) (by rfl)
set_option maxRecDepth 20000 in
theorem wcX11_look : Jvm.Cond.code yX11_look cX11_look 4 (some .int) ∈ tb_w := tb_5 157 (by rfl) (by rfl)
set_option maxRecDepth 20000 in
theorem wkX11_look : Jvm.Cond.instanceMethod yX11_look ∈ tb_w := tb_5 155 (by rfl) (by rfl)
set_option maxRecDepth 20000 in
theorem weX11_look : Jvm.Cond.selects yX11_look.cls yX11_look yX11_look ∈ tb_w := tb_5 156 (by rfl) (by rfl)
set_option maxRecDepth 20000 in
theorem wcX11_seed : Jvm.Cond.code yX11_seed cX11_seed 3 (some .int) ∈ tb_w := tb_5 174 (by rfl) (by rfl)
set_option maxRecDepth 20000 in
theorem wkX11_seed : Jvm.Cond.instanceMethod yX11_seed ∈ tb_w := tb_5 172 (by rfl) (by rfl)
set_option maxRecDepth 20000 in
theorem weX11_seed : Jvm.Cond.selects yX11_seed.cls yX11_seed yX11_seed ∈ tb_w := tb_5 173 (by rfl) (by rfl)
set_option maxRecDepth 20000 in
theorem wcX11_posts : Jvm.Cond.code yX11_posts cX11_posts 9 (some .int) ∈ tb_w := tb_5 178 (by rfl) (by rfl)
set_option maxRecDepth 20000 in
theorem wkX11_posts : Jvm.Cond.instanceMethod yX11_posts ∈ tb_w := tb_5 176 (by rfl) (by rfl)
set_option maxRecDepth 20000 in
theorem weX11_posts : Jvm.Cond.selects yX11_posts.cls yX11_posts yX11_posts ∈ tb_w := tb_5 177 (by rfl) (by rfl)
set_option maxRecDepth 20000 in
theorem wcX11_image : Jvm.Cond.code yX11_image cX11_image 2 (some .int) ∈ tb_w := tb_5 195 (by rfl) (by rfl)
set_option maxRecDepth 20000 in
theorem wkX11_image : Jvm.Cond.instanceMethod yX11_image ∈ tb_w := tb_5 193 (by rfl) (by rfl)
set_option maxRecDepth 20000 in
theorem weX11_image : Jvm.Cond.selects yX11_image.cls yX11_image yX11_image ∈ tb_w := tb_5 194 (by rfl) (by rfl)
set_option maxRecDepth 20000 in
theorem wcX11_back : Jvm.Cond.code yX11_back cX11_back 2 (some .int) ∈ tb_w := tb_5 204 (by rfl) (by rfl)
set_option maxRecDepth 20000 in
theorem wkX11_back : Jvm.Cond.instanceMethod yX11_back ∈ tb_w := tb_5 202 (by rfl) (by rfl)
set_option maxRecDepth 20000 in
theorem weX11_back : Jvm.Cond.selects yX11_back.cls yX11_back yX11_back ∈ tb_w := tb_5 203 (by rfl) (by rfl)
set_option maxRecDepth 20000 in
theorem wcX11_hasFrame : Jvm.Cond.code yX11_hasFrame cX11_hasFrame 1 (some .boolean) ∈ tb_w := tb_4 40 (by rfl) (by rfl)
set_option maxRecDepth 20000 in
theorem wkX11_hasFrame : Jvm.Cond.instanceMethod yX11_hasFrame ∈ tb_w := tb_4 39 (by rfl) (by rfl)
set_option maxRecDepth 20000 in
theorem weX11_hasFrame : Jvm.Cond.selects yX11_hasFrame.cls yX11_hasFrame yX11_hasFrame ∈ tb_w := tb_s 14 (q := (yX11_hasFrame, 14)) (by rfl)
set_option maxRecDepth 20000 in
theorem wcX11_ruleAt : Jvm.Cond.code yX11_ruleAt cX11_ruleAt 2 (some (.object "PostFrame$Rule")) ∈ tb_w := tb_4 70 (by rfl) (by rfl)
set_option maxRecDepth 20000 in
theorem wkX11_ruleAt : Jvm.Cond.instanceMethod yX11_ruleAt ∈ tb_w := tb_4 69 (by rfl) (by rfl)
set_option maxRecDepth 20000 in
theorem weX11_ruleAt : Jvm.Cond.selects yX11_ruleAt.cls yX11_ruleAt yX11_ruleAt ∈ tb_w := tb_s 18 (q := (yX11_ruleAt, 14)) (by rfl)
set_option maxRecDepth 20000 in
theorem wcX11_ruleInForce : Jvm.Cond.code yX11_ruleInForce cX11_ruleInForce 1 (some (.object "PostFrame$Rule")) ∈ tb_w := tb_4 66 (by rfl) (by rfl)
set_option maxRecDepth 20000 in
theorem wkX11_ruleInForce : Jvm.Cond.instanceMethod yX11_ruleInForce ∈ tb_w := tb_4 65 (by rfl) (by rfl)
set_option maxRecDepth 20000 in
theorem weX11_ruleInForce : Jvm.Cond.selects yX11_ruleInForce.cls yX11_ruleInForce yX11_ruleInForce ∈ tb_w := tb_s 17 (q := (yX11_ruleInForce, 14)) (by rfl)
set_option maxRecDepth 20000 in
theorem wcX11_remember : Jvm.Cond.code yX11_remember cX11_remember 1 none ∈ tb_w := tb_4 133 (by rfl) (by rfl)
set_option maxRecDepth 20000 in
theorem wkX11_remember : Jvm.Cond.instanceMethod yX11_remember ∈ tb_w := tb_4 132 (by rfl) (by rfl)
set_option maxRecDepth 20000 in
theorem weX11_remember : Jvm.Cond.selects yX11_remember.cls yX11_remember yX11_remember ∈ tb_w := tb_s 23 (q := (yX11_remember, 14)) (by rfl)
set_option maxRecDepth 20000 in
theorem wcX11_drawNow : Jvm.Cond.code yX11_drawNow cX11_drawNow 1 none ∈ tb_w := tb_4 180 (by rfl) (by rfl)
set_option maxRecDepth 20000 in
theorem wkX11_drawNow : Jvm.Cond.instanceMethod yX11_drawNow ∈ tb_w := tb_4 179 (by rfl) (by rfl)
set_option maxRecDepth 20000 in
theorem weX11_drawNow : Jvm.Cond.selects yX11_drawNow.cls yX11_drawNow yX11_drawNow ∈ tb_w := tb_s 24 (q := (yX11_drawNow, 14)) (by rfl)
set_option maxRecDepth 20000 in
theorem wcX11_startFromNow : Jvm.Cond.code yX11_startFromNow cX11_startFromNow 1 none ∈ tb_w := tb_4 44 (by rfl) (by rfl)
set_option maxRecDepth 20000 in
theorem wkX11_startFromNow : Jvm.Cond.instanceMethod yX11_startFromNow ∈ tb_w := tb_4 43 (by rfl) (by rfl)
set_option maxRecDepth 20000 in
theorem weX11_startFromNow : Jvm.Cond.selects yX11_startFromNow.cls yX11_startFromNow yX11_startFromNow ∈ tb_w := tb_s 15 (q := (yX11_startFromNow, 14)) (by rfl)
set_option maxRecDepth 20000 in
theorem wcX12_init : Jvm.Cond.code yX12_init cX12_init 1 none ∈ tb_w := tb_5 209 (by rfl) (by rfl)
set_option maxRecDepth 20000 in
theorem wkX12_init : Jvm.Cond.instanceMethod yX12_init ∈ tb_w := tb_5 208 (by rfl) (by rfl)
set_option maxRecDepth 20000 in
theorem wcX12_in : Jvm.Cond.code yX12_in cX12_in 6 (some .boolean) ∈ tb_w := tb_6 173 (by rfl) (by rfl)
set_option maxRecDepth 20000 in
theorem wkX12_in : Jvm.Cond.static yX12_in ∈ tb_w := tb_6 172 (by rfl) (by rfl)
set_option maxRecDepth 20000 in
theorem wcX12_isOf : Jvm.Cond.code yX12_isOf cX12_isOf 2 (some .boolean) ∈ tb_w := tb_7 220 (by rfl) (by rfl)
set_option maxRecDepth 20000 in
theorem wkX12_isOf : Jvm.Cond.static yX12_isOf ∈ tb_w := tb_7 219 (by rfl) (by rfl)
set_option maxRecDepth 20000 in
theorem wcX12_bits : Jvm.Cond.code yX12_bits cX12_bits 3 (some .int) ∈ tb_w := tb_7 209 (by rfl) (by rfl)
set_option maxRecDepth 20000 in
theorem wkX12_bits : Jvm.Cond.static yX12_bits ∈ tb_w := tb_7 208 (by rfl) (by rfl)
set_option maxRecDepth 20000 in
theorem wcX12_power : Jvm.Cond.code yX12_power cX12_power 4 (some .int) ∈ tb_w := tb_6 184 (by rfl) (by rfl)
set_option maxRecDepth 20000 in
theorem wkX12_power : Jvm.Cond.static yX12_power ∈ tb_w := tb_6 183 (by rfl) (by rfl)
set_option maxRecDepth 20000 in
theorem wcX12_four : Jvm.Cond.code yX12_four cX12_four 3 none ∈ tb_w := tb_6 105 (by rfl) (by rfl)
set_option maxRecDepth 20000 in
theorem wkX12_four : Jvm.Cond.instanceMethod yX12_four ∈ tb_w := tb_6 104 (by rfl) (by rfl)
set_option maxRecDepth 20000 in
theorem weX12_four : Jvm.Cond.selects yX12_four.cls yX12_four yX12_four ∈ tb_w := tb_s 35 (q := (yX12_four, 42)) (by rfl)
set_option maxRecDepth 20000 in
theorem wcX12_feed : Jvm.Cond.code yX12_feed cX12_feed 6 (some .int) ∈ tb_w := tb_6 101 (by rfl) (by rfl)
set_option maxRecDepth 20000 in
theorem wkX12_feed : Jvm.Cond.instanceMethod yX12_feed ∈ tb_w := tb_6 99 (by rfl) (by rfl)
set_option maxRecDepth 20000 in
theorem weX12_feed : Jvm.Cond.selects yX12_feed.cls yX12_feed yX12_feed ∈ tb_w := tb_6 100 (by rfl) (by rfl)
set_option maxRecDepth 20000 in
theorem wcX12_end : Jvm.Cond.code yX12_end cX12_end 2 (some .int) ∈ tb_w := tb_6 109 (by rfl) (by rfl)
set_option maxRecDepth 20000 in
theorem wkX12_end : Jvm.Cond.instanceMethod yX12_end ∈ tb_w := tb_6 107 (by rfl) (by rfl)
set_option maxRecDepth 20000 in
theorem weX12_end : Jvm.Cond.selects yX12_end.cls yX12_end yX12_end ∈ tb_w := tb_6 108 (by rfl) (by rfl)
set_option maxRecDepth 20000 in
theorem wcX12_fails : Jvm.Cond.code yX12_fails cX12_fails 3 (some .boolean) ∈ tb_w := tb_6 146 (by rfl) (by rfl)
set_option maxRecDepth 20000 in
theorem wkX12_fails : Jvm.Cond.instanceMethod yX12_fails ∈ tb_w := tb_6 145 (by rfl) (by rfl)
set_option maxRecDepth 20000 in
theorem weX12_fails : Jvm.Cond.selects yX12_fails.cls yX12_fails yX12_fails ∈ tb_w := tb_s 42 (q := (yX12_fails, 42)) (by rfl)
set_option maxRecDepth 20000 in
theorem wcX12_see : Jvm.Cond.code yX12_see cX12_see 1 (some .int) ∈ tb_w := tb_6 125 (by rfl) (by rfl)
set_option maxRecDepth 20000 in
theorem wkX12_see : Jvm.Cond.instanceMethod yX12_see ∈ tb_w := tb_6 124 (by rfl) (by rfl)
set_option maxRecDepth 20000 in
theorem weX12_see : Jvm.Cond.selects yX12_see.cls yX12_see yX12_see ∈ tb_w := tb_s 38 (q := (yX12_see, 42)) (by rfl)
set_option maxRecDepth 20000 in
theorem wcX12_isDigit : Jvm.Cond.code yX12_isDigit cX12_isDigit 2 (some .boolean) ∈ tb_w := tb_6 170 (by rfl) (by rfl)
set_option maxRecDepth 20000 in
theorem wkX12_isDigit : Jvm.Cond.instanceMethod yX12_isDigit ∈ tb_w := tb_6 169 (by rfl) (by rfl)
set_option maxRecDepth 20000 in
theorem weX12_isDigit : Jvm.Cond.selects yX12_isDigit.cls yX12_isDigit yX12_isDigit ∈ tb_w := tb_s 48 (q := (yX12_isDigit, 42)) (by rfl)
set_option maxRecDepth 20000 in
theorem wcX12_isLetter : Jvm.Cond.code yX12_isLetter cX12_isLetter 2 (some .boolean) ∈ tb_w := tb_6 138 (by rfl) (by rfl)
set_option maxRecDepth 20000 in
theorem wkX12_isLetter : Jvm.Cond.instanceMethod yX12_isLetter ∈ tb_w := tb_6 137 (by rfl) (by rfl)
set_option maxRecDepth 20000 in
theorem weX12_isLetter : Jvm.Cond.selects yX12_isLetter.cls yX12_isLetter yX12_isLetter ∈ tb_w := tb_s 41 (q := (yX12_isLetter, 42)) (by rfl)
set_option maxRecDepth 20000 in
theorem wcX12_isWord : Jvm.Cond.code yX12_isWord cX12_isWord 6 (some .boolean) ∈ tb_w := tb_6 134 (by rfl) (by rfl)
set_option maxRecDepth 20000 in
theorem wkX12_isWord : Jvm.Cond.instanceMethod yX12_isWord ∈ tb_w := tb_6 133 (by rfl) (by rfl)
set_option maxRecDepth 20000 in
theorem weX12_isWord : Jvm.Cond.selects yX12_isWord.cls yX12_isWord yX12_isWord ∈ tb_w := tb_s 40 (q := (yX12_isWord, 42)) (by rfl)
set_option maxRecDepth 20000 in
theorem wcX12_passWord : Jvm.Cond.code yX12_passWord cX12_passWord 1 none ∈ tb_w := tb_6 158 (by rfl) (by rfl)
set_option maxRecDepth 20000 in
theorem wkX12_passWord : Jvm.Cond.instanceMethod yX12_passWord ∈ tb_w := tb_6 157 (by rfl) (by rfl)
set_option maxRecDepth 20000 in
theorem weX12_passWord : Jvm.Cond.selects yX12_passWord.cls yX12_passWord yX12_passWord ∈ tb_w := tb_s 45 (q := (yX12_passWord, 42)) (by rfl)
set_option maxRecDepth 20000 in
theorem wcX12_takesWord : Jvm.Cond.code yX12_takesWord cX12_takesWord 3 (some .boolean) ∈ tb_w := tb_6 232 (by rfl) (by rfl)
set_option maxRecDepth 20000 in
theorem wkX12_takesWord : Jvm.Cond.instanceMethod yX12_takesWord ∈ tb_w := tb_6 231 (by rfl) (by rfl)
set_option maxRecDepth 20000 in
theorem weX12_takesWord : Jvm.Cond.selects yX12_takesWord.cls yX12_takesWord yX12_takesWord ∈ tb_w := tb_s 59 (q := (yX12_takesWord, 42)) (by rfl)
set_option maxRecDepth 20000 in
theorem wcX12_numberHere : Jvm.Cond.code yX12_numberHere cX12_numberHere 5 (some .boolean) ∈ tb_w := tb_6 166 (by rfl) (by rfl)
set_option maxRecDepth 20000 in
theorem wkX12_numberHere : Jvm.Cond.instanceMethod yX12_numberHere ∈ tb_w := tb_6 165 (by rfl) (by rfl)
set_option maxRecDepth 20000 in
theorem weX12_numberHere : Jvm.Cond.selects yX12_numberHere.cls yX12_numberHere yX12_numberHere ∈ tb_w := tb_s 47 (q := (yX12_numberHere, 42)) (by rfl)
set_option maxRecDepth 20000 in
theorem wcX12_wordHere : Jvm.Cond.code yX12_wordHere cX12_wordHere 1 (some .int) ∈ tb_w := tb_6 217 (by rfl) (by rfl)
set_option maxRecDepth 20000 in
theorem wkX12_wordHere : Jvm.Cond.instanceMethod yX12_wordHere ∈ tb_w := tb_6 216 (by rfl) (by rfl)
set_option maxRecDepth 20000 in
theorem weX12_wordHere : Jvm.Cond.selects yX12_wordHere.cls yX12_wordHere yX12_wordHere ∈ tb_w := tb_s 58 (q := (yX12_wordHere, 42)) (by rfl)
set_option maxRecDepth 20000 in
theorem wcX12_puts : Jvm.Cond.code yX12_puts cX12_puts 3 none ∈ tb_w := tb_6 213 (by rfl) (by rfl)
set_option maxRecDepth 20000 in
theorem wkX12_puts : Jvm.Cond.instanceMethod yX12_puts ∈ tb_w := tb_6 212 (by rfl) (by rfl)
set_option maxRecDepth 20000 in
theorem weX12_puts : Jvm.Cond.selects yX12_puts.cls yX12_puts yX12_puts ∈ tb_w := tb_s 57 (q := (yX12_puts, 42)) (by rfl)
set_option maxRecDepth 20000 in
theorem wcX12_makes : Jvm.Cond.code yX12_makes cX12_makes 2 (some .boolean) ∈ tb_w := tb_6 209 (by rfl) (by rfl)
set_option maxRecDepth 20000 in
theorem wkX12_makes : Jvm.Cond.instanceMethod yX12_makes ∈ tb_w := tb_6 208 (by rfl) (by rfl)
set_option maxRecDepth 20000 in
theorem weX12_makes : Jvm.Cond.selects yX12_makes.cls yX12_makes yX12_makes ∈ tb_w := tb_s 56 (q := (yX12_makes, 42)) (by rfl)
set_option maxRecDepth 20000 in
theorem wcX12_opens : Jvm.Cond.code yX12_opens cX12_opens 2 (some .boolean) ∈ tb_w := tb_7 5 (by rfl) (by rfl)
set_option maxRecDepth 20000 in
theorem wkX12_opens : Jvm.Cond.instanceMethod yX12_opens ∈ tb_w := tb_7 4 (by rfl) (by rfl)
set_option maxRecDepth 20000 in
theorem weX12_opens : Jvm.Cond.selects yX12_opens.cls yX12_opens yX12_opens ∈ tb_w := tb_s 62 (q := (yX12_opens, 42)) (by rfl)
set_option maxRecDepth 20000 in
theorem wcX12_strength : Jvm.Cond.code yX12_strength cX12_strength 1 (some .int) ∈ tb_w := tb_7 20 (by rfl) (by rfl)
set_option maxRecDepth 20000 in
theorem wkX12_strength : Jvm.Cond.static yX12_strength ∈ tb_w := tb_7 19 (by rfl) (by rfl)
set_option maxRecDepth 20000 in
theorem wcX12_layDown : Jvm.Cond.code yX12_layDown cX12_layDown 2 none ∈ tb_w := tb_7 17 (by rfl) (by rfl)
set_option maxRecDepth 20000 in
theorem wkX12_layDown : Jvm.Cond.instanceMethod yX12_layDown ∈ tb_w := tb_7 16 (by rfl) (by rfl)
set_option maxRecDepth 20000 in
theorem weX12_layDown : Jvm.Cond.selects yX12_layDown.cls yX12_layDown yX12_layDown ∈ tb_w := tb_s 65 (q := (yX12_layDown, 42)) (by rfl)
set_option maxRecDepth 20000 in
theorem wcX12_value : Jvm.Cond.code yX12_value cX12_value 3 (some .boolean) ∈ tb_w := tb_6 204 (by rfl) (by rfl)
set_option maxRecDepth 20000 in
theorem wkX12_value : Jvm.Cond.instanceMethod yX12_value ∈ tb_w := tb_6 203 (by rfl) (by rfl)
set_option maxRecDepth 20000 in
theorem weX12_value : Jvm.Cond.selects yX12_value.cls yX12_value yX12_value ∈ tb_w := tb_s 55 (q := (yX12_value, 42)) (by rfl)
set_option maxRecDepth 20000 in
theorem wcX12_term : Jvm.Cond.code yX12_term cX12_term 2 (some .boolean) ∈ tb_w := tb_6 200 (by rfl) (by rfl)
set_option maxRecDepth 20000 in
theorem wkX12_term : Jvm.Cond.instanceMethod yX12_term ∈ tb_w := tb_6 199 (by rfl) (by rfl)
set_option maxRecDepth 20000 in
theorem weX12_term : Jvm.Cond.selects yX12_term.cls yX12_term yX12_term ∈ tb_w := tb_s 54 (q := (yX12_term, 42)) (by rfl)
set_option maxRecDepth 20000 in
theorem wcX12_sum : Jvm.Cond.code yX12_sum cX12_sum 2 (some .boolean) ∈ tb_w := tb_6 196 (by rfl) (by rfl)
set_option maxRecDepth 20000 in
theorem wkX12_sum : Jvm.Cond.instanceMethod yX12_sum ∈ tb_w := tb_6 195 (by rfl) (by rfl)
set_option maxRecDepth 20000 in
theorem weX12_sum : Jvm.Cond.selects yX12_sum.cls yX12_sum yX12_sum ∈ tb_w := tb_s 53 (q := (yX12_sum, 42)) (by rfl)
set_option maxRecDepth 20000 in
theorem wcX12_compare : Jvm.Cond.code yX12_compare cX12_compare 5 (some .boolean) ∈ tb_w := tb_7 9 (by rfl) (by rfl)
set_option maxRecDepth 20000 in
theorem wkX12_compare : Jvm.Cond.instanceMethod yX12_compare ∈ tb_w := tb_7 8 (by rfl) (by rfl)
set_option maxRecDepth 20000 in
theorem weX12_compare : Jvm.Cond.selects yX12_compare.cls yX12_compare yX12_compare ∈ tb_w := tb_s 63 (q := (yX12_compare, 42)) (by rfl)
set_option maxRecDepth 20000 in
theorem wcX12_fact : Jvm.Cond.code yX12_fact cX12_fact 3 (some .boolean) ∈ tb_w := tb_7 0 (by rfl) (by rfl)
set_option maxRecDepth 20000 in
theorem wkX12_fact : Jvm.Cond.instanceMethod yX12_fact ∈ tb_w := tb_6 239 (by rfl) (by rfl)
set_option maxRecDepth 20000 in
theorem weX12_fact : Jvm.Cond.selects yX12_fact.cls yX12_fact yX12_fact ∈ tb_w := tb_s 61 (q := (yX12_fact, 42)) (by rfl)
set_option maxRecDepth 20000 in
theorem wcX12_isInside : Jvm.Cond.code yX12_isInside cX12_isInside 2 (some .boolean) ∈ tb_w := tb_7 24 (by rfl) (by rfl)
set_option maxRecDepth 20000 in
theorem wkX12_isInside : Jvm.Cond.instanceMethod yX12_isInside ∈ tb_w := tb_7 23 (by rfl) (by rfl)
set_option maxRecDepth 20000 in
theorem weX12_isInside : Jvm.Cond.selects yX12_isInside.cls yX12_isInside yX12_isInside ∈ tb_w := tb_s 66 (q := (yX12_isInside, 42)) (by rfl)
set_option maxRecDepth 20000 in
theorem wcX12_closes : Jvm.Cond.code yX12_closes cX12_closes 1 none ∈ tb_w := tb_7 13 (by rfl) (by rfl)
set_option maxRecDepth 20000 in
theorem wkX12_closes : Jvm.Cond.instanceMethod yX12_closes ∈ tb_w := tb_7 12 (by rfl) (by rfl)
set_option maxRecDepth 20000 in
theorem weX12_closes : Jvm.Cond.selects yX12_closes.cls yX12_closes yX12_closes ∈ tb_w := tb_s 64 (q := (yX12_closes, 42)) (by rfl)
set_option maxRecDepth 20000 in
theorem wcX12_tested : Jvm.Cond.code yX12_tested cX12_tested 3 (some .boolean) ∈ tb_w := tb_6 236 (by rfl) (by rfl)
set_option maxRecDepth 20000 in
theorem wkX12_tested : Jvm.Cond.instanceMethod yX12_tested ∈ tb_w := tb_6 235 (by rfl) (by rfl)
set_option maxRecDepth 20000 in
theorem weX12_tested : Jvm.Cond.selects yX12_tested.cls yX12_tested yX12_tested ∈ tb_w := tb_s 60 (q := (yX12_tested, 42)) (by rfl)
set_option maxRecDepth 20000 in
theorem wcX12_isTakeHere : Jvm.Cond.code yX12_isTakeHere cX12_isTakeHere 2 (some .boolean) ∈ tb_w := tb_6 192 (by rfl) (by rfl)
set_option maxRecDepth 20000 in
theorem wkX12_isTakeHere : Jvm.Cond.instanceMethod yX12_isTakeHere ∈ tb_w := tb_6 191 (by rfl) (by rfl)
set_option maxRecDepth 20000 in
theorem weX12_isTakeHere : Jvm.Cond.selects yX12_isTakeHere.cls yX12_isTakeHere yX12_isTakeHere ∈ tb_w := tb_s 52 (q := (yX12_isTakeHere, 42)) (by rfl)
set_option maxRecDepth 20000 in
theorem wcX12_cellHere : Jvm.Cond.code yX12_cellHere cX12_cellHere 4 (some .boolean) ∈ tb_w := tb_6 162 (by rfl) (by rfl)
set_option maxRecDepth 20000 in
theorem wkX12_cellHere : Jvm.Cond.instanceMethod yX12_cellHere ∈ tb_w := tb_6 161 (by rfl) (by rfl)
set_option maxRecDepth 20000 in
theorem weX12_cellHere : Jvm.Cond.selects yX12_cellHere.cls yX12_cellHere yX12_cellHere ∈ tb_w := tb_s 46 (q := (yX12_cellHere, 42)) (by rfl)
set_option maxRecDepth 20000 in
theorem wcX12_isFrameHere : Jvm.Cond.code yX12_isFrameHere cX12_isFrameHere 3 (some .boolean) ∈ tb_w := tb_6 154 (by rfl) (by rfl)
set_option maxRecDepth 20000 in
theorem wkX12_isFrameHere : Jvm.Cond.instanceMethod yX12_isFrameHere ∈ tb_w := tb_6 153 (by rfl) (by rfl)
set_option maxRecDepth 20000 in
theorem weX12_isFrameHere : Jvm.Cond.selects yX12_isFrameHere.cls yX12_isFrameHere yX12_isFrameHere ∈ tb_w := tb_s 44 (q := (yX12_isFrameHere, 42)) (by rfl)
set_option maxRecDepth 20000 in
theorem wcX12_isRoomHere : Jvm.Cond.code yX12_isRoomHere cX12_isRoomHere 2 (some .boolean) ∈ tb_w := tb_6 177 (by rfl) (by rfl)
set_option maxRecDepth 20000 in
theorem wkX12_isRoomHere : Jvm.Cond.instanceMethod yX12_isRoomHere ∈ tb_w := tb_6 176 (by rfl) (by rfl)
set_option maxRecDepth 20000 in
theorem weX12_isRoomHere : Jvm.Cond.selects yX12_isRoomHere.cls yX12_isRoomHere yX12_isRoomHere ∈ tb_w := tb_s 49 (q := (yX12_isRoomHere, 42)) (by rfl)
set_option maxRecDepth 20000 in
theorem wcX12_isPlanHere : Jvm.Cond.code yX12_isPlanHere cX12_isPlanHere 5 (some .boolean) ∈ tb_w := tb_6 181 (by rfl) (by rfl)
set_option maxRecDepth 20000 in
theorem wkX12_isPlanHere : Jvm.Cond.instanceMethod yX12_isPlanHere ∈ tb_w := tb_6 180 (by rfl) (by rfl)
set_option maxRecDepth 20000 in
theorem weX12_isPlanHere : Jvm.Cond.selects yX12_isPlanHere.cls yX12_isPlanHere yX12_isPlanHere ∈ tb_w := tb_s 50 (q := (yX12_isPlanHere, 42)) (by rfl)
set_option maxRecDepth 20000 in
theorem wcX12_isLetterToldHere : Jvm.Cond.code yX12_isLetterToldHere cX12_isLetterToldHere 2 (some .boolean) ∈ tb_w := tb_6 188 (by rfl) (by rfl)
set_option maxRecDepth 20000 in
theorem wkX12_isLetterToldHere : Jvm.Cond.instanceMethod yX12_isLetterToldHere ∈ tb_w := tb_6 187 (by rfl) (by rfl)
set_option maxRecDepth 20000 in
theorem weX12_isLetterToldHere : Jvm.Cond.selects yX12_isLetterToldHere.cls yX12_isLetterToldHere yX12_isLetterToldHere ∈ tb_w := tb_s 51 (q := (yX12_isLetterToldHere, 42)) (by rfl)
set_option maxRecDepth 20000 in
theorem wcX12_frameLineHere : Jvm.Cond.code yX12_frameLineHere cX12_frameLineHere 2 (some .boolean) ∈ tb_w := tb_6 150 (by rfl) (by rfl)
set_option maxRecDepth 20000 in
theorem wkX12_frameLineHere : Jvm.Cond.instanceMethod yX12_frameLineHere ∈ tb_w := tb_6 149 (by rfl) (by rfl)
set_option maxRecDepth 20000 in
theorem weX12_frameLineHere : Jvm.Cond.selects yX12_frameLineHere.cls yX12_frameLineHere yX12_frameLineHere ∈ tb_w := tb_s 43 (q := (yX12_frameLineHere, 42)) (by rfl)
set_option maxRecDepth 20000 in
theorem wcX12_isFrameWord : Jvm.Cond.code yX12_isFrameWord cX12_isFrameWord 1 (some .boolean) ∈ tb_w := tb_6 129 (by rfl) (by rfl)
set_option maxRecDepth 20000 in
theorem wkX12_isFrameWord : Jvm.Cond.instanceMethod yX12_isFrameWord ∈ tb_w := tb_6 128 (by rfl) (by rfl)
set_option maxRecDepth 20000 in
theorem weX12_isFrameWord : Jvm.Cond.selects yX12_isFrameWord.cls yX12_isFrameWord yX12_isFrameWord ∈ tb_w := tb_s 39 (q := (yX12_isFrameWord, 42)) (by rfl)
set_option maxRecDepth 20000 in
theorem wcX12_clauseHere : Jvm.Cond.code yX12_clauseHere cX12_clauseHere 3 (some .boolean) ∈ tb_w := tb_6 121 (by rfl) (by rfl)
set_option maxRecDepth 20000 in
theorem wkX12_clauseHere : Jvm.Cond.instanceMethod yX12_clauseHere ∈ tb_w := tb_6 120 (by rfl) (by rfl)
set_option maxRecDepth 20000 in
theorem weX12_clauseHere : Jvm.Cond.selects yX12_clauseHere.cls yX12_clauseHere yX12_clauseHere ∈ tb_w := tb_s 37 (q := (yX12_clauseHere, 42)) (by rfl)
set_option maxRecDepth 20000 in
theorem wcX12_readsAll : Jvm.Cond.code yX12_readsAll cX12_readsAll 2 (some .boolean) ∈ tb_w := tb_6 117 (by rfl) (by rfl)
set_option maxRecDepth 20000 in
theorem wkX12_readsAll : Jvm.Cond.instanceMethod yX12_readsAll ∈ tb_w := tb_6 116 (by rfl) (by rfl)
set_option maxRecDepth 20000 in
theorem weX12_readsAll : Jvm.Cond.selects yX12_readsAll.cls yX12_readsAll yX12_readsAll ∈ tb_w := tb_s 36 (q := (yX12_readsAll, 42)) (by rfl)
set_option maxRecDepth 20000 in
theorem wcX12_rule : Jvm.Cond.code yX12_rule cX12_rule 1 (some .int) ∈ tb_w := tb_6 113 (by rfl) (by rfl)
set_option maxRecDepth 20000 in
theorem wkX12_rule : Jvm.Cond.instanceMethod yX12_rule ∈ tb_w := tb_6 111 (by rfl) (by rfl)
set_option maxRecDepth 20000 in
theorem weX12_rule : Jvm.Cond.selects yX12_rule.cls yX12_rule yX12_rule ∈ tb_w := tb_6 112 (by rfl) (by rfl)
set_option maxRecDepth 20000 in
theorem wcX12_frame : Jvm.Cond.code yX12_frame cX12_frame 2 (some .int) ∈ tb_w := tb_7 30 (by rfl) (by rfl)
set_option maxRecDepth 20000 in
theorem wkX12_frame : Jvm.Cond.instanceMethod yX12_frame ∈ tb_w := tb_7 28 (by rfl) (by rfl)
set_option maxRecDepth 20000 in
theorem weX12_frame : Jvm.Cond.selects yX12_frame.cls yX12_frame yX12_frame ∈ tb_w := tb_7 29 (by rfl) (by rfl)
set_option maxRecDepth 20000 in
theorem wcX12_isRule : Jvm.Cond.code yX12_isRule cX12_isRule 2 (some .boolean) ∈ tb_w := tb_7 42 (by rfl) (by rfl)
set_option maxRecDepth 20000 in
theorem wkX12_isRule : Jvm.Cond.instanceMethod yX12_isRule ∈ tb_w := tb_7 41 (by rfl) (by rfl)
set_option maxRecDepth 20000 in
theorem weX12_isRule : Jvm.Cond.selects yX12_isRule.cls yX12_isRule yX12_isRule ∈ tb_w := tb_s 68 (q := (yX12_isRule, 42)) (by rfl)
set_option maxRecDepth 20000 in
theorem wcX12_push : Jvm.Cond.code yX12_push cX12_push 3 none ∈ tb_w := tb_7 119 (by rfl) (by rfl)
set_option maxRecDepth 20000 in
theorem wkX12_push : Jvm.Cond.instanceMethod yX12_push ∈ tb_w := tb_7 118 (by rfl) (by rfl)
set_option maxRecDepth 20000 in
theorem weX12_push : Jvm.Cond.selects yX12_push.cls yX12_push yX12_push ∈ tb_w := tb_s 82 (q := (yX12_push, 42)) (by rfl)
set_option maxRecDepth 20000 in
theorem wcX12_pop : Jvm.Cond.code yX12_pop cX12_pop 1 (some .long) ∈ tb_w := tb_7 123 (by rfl) (by rfl)
set_option maxRecDepth 20000 in
theorem wkX12_pop : Jvm.Cond.instanceMethod yX12_pop ∈ tb_w := tb_7 122 (by rfl) (by rfl)
set_option maxRecDepth 20000 in
theorem weX12_pop : Jvm.Cond.selects yX12_pop.cls yX12_pop yX12_pop ∈ tb_w := tb_s 83 (q := (yX12_pop, 42)) (by rfl)
set_option maxRecDepth 20000 in
theorem wcX12_sumOfTwo : Jvm.Cond.code yX12_sumOfTwo cX12_sumOfTwo 5 (some .long) ∈ tb_w := tb_7 126 (by rfl) (by rfl)
set_option maxRecDepth 20000 in
theorem wkX12_sumOfTwo : Jvm.Cond.static yX12_sumOfTwo ∈ tb_w := tb_7 125 (by rfl) (by rfl)
set_option maxRecDepth 20000 in
theorem wcX12_reckons : Jvm.Cond.code yX12_reckons cX12_reckons 11 (some .long) ∈ tb_w := tb_7 115 (by rfl) (by rfl)
set_option maxRecDepth 20000 in
theorem wkX12_reckons : Jvm.Cond.instanceMethod yX12_reckons ∈ tb_w := tb_7 114 (by rfl) (by rfl)
set_option maxRecDepth 20000 in
theorem weX12_reckons : Jvm.Cond.selects yX12_reckons.cls yX12_reckons yX12_reckons ∈ tb_w := tb_s 81 (q := (yX12_reckons, 42)) (by rfl)
set_option maxRecDepth 20000 in
theorem wcX12_isFrame : Jvm.Cond.code yX12_isFrame cX12_isFrame 1 (some .boolean) ∈ tb_w := tb_7 75 (by rfl) (by rfl)
set_option maxRecDepth 20000 in
theorem wkX12_isFrame : Jvm.Cond.instanceMethod yX12_isFrame ∈ tb_w := tb_7 74 (by rfl) (by rfl)
set_option maxRecDepth 20000 in
theorem weX12_isFrame : Jvm.Cond.selects yX12_isFrame.cls yX12_isFrame yX12_isFrame ∈ tb_w := tb_s 71 (q := (yX12_isFrame, 42)) (by rfl)
set_option maxRecDepth 20000 in
theorem wcX12_codesMany : Jvm.Cond.code yX12_codesMany cX12_codesMany 1 (some .int) ∈ tb_w := tb_7 150 (by rfl) (by rfl)
set_option maxRecDepth 20000 in
theorem wkX12_codesMany : Jvm.Cond.instanceMethod yX12_codesMany ∈ tb_w := tb_7 149 (by rfl) (by rfl)
set_option maxRecDepth 20000 in
theorem weX12_codesMany : Jvm.Cond.selects yX12_codesMany.cls yX12_codesMany yX12_codesMany ∈ tb_w := tb_s 88 (q := (yX12_codesMany, 42)) (by rfl)
set_option maxRecDepth 20000 in
theorem wcX12_isHole : Jvm.Cond.code yX12_isHole cX12_isHole 2 (some .boolean) ∈ tb_w := tb_7 50 (by rfl) (by rfl)
set_option maxRecDepth 20000 in
theorem wkX12_isHole : Jvm.Cond.instanceMethod yX12_isHole ∈ tb_w := tb_7 49 (by rfl) (by rfl)
set_option maxRecDepth 20000 in
theorem weX12_isHole : Jvm.Cond.selects yX12_isHole.cls yX12_isHole yX12_isHole ∈ tb_w := tb_s 69 (q := (yX12_isHole, 42)) (by rfl)
set_option maxRecDepth 20000 in
theorem wcX12_isEntry : Jvm.Cond.code yX12_isEntry cX12_isEntry 2 (some .boolean) ∈ tb_w := tb_7 59 (by rfl) (by rfl)
set_option maxRecDepth 20000 in
theorem wkX12_isEntry : Jvm.Cond.instanceMethod yX12_isEntry ∈ tb_w := tb_7 58 (by rfl) (by rfl)
set_option maxRecDepth 20000 in
theorem weX12_isEntry : Jvm.Cond.selects yX12_isEntry.cls yX12_isEntry yX12_isEntry ∈ tb_w := tb_s 70 (q := (yX12_isEntry, 42)) (by rfl)
set_option maxRecDepth 20000 in
theorem wcX12_isCode : Jvm.Cond.code yX12_isCode cX12_isCode 2 (some .boolean) ∈ tb_w := tb_7 146 (by rfl) (by rfl)
set_option maxRecDepth 20000 in
theorem wkX12_isCode : Jvm.Cond.instanceMethod yX12_isCode ∈ tb_w := tb_7 145 (by rfl) (by rfl)
set_option maxRecDepth 20000 in
theorem weX12_isCode : Jvm.Cond.selects yX12_isCode.cls yX12_isCode yX12_isCode ∈ tb_w := tb_s 87 (q := (yX12_isCode, 42)) (by rfl)
set_option maxRecDepth 20000 in
theorem wcX12_prefixOf : Jvm.Cond.code yX12_prefixOf cX12_prefixOf 3 (some .int) ∈ tb_w := tb_7 99 (by rfl) (by rfl)
set_option maxRecDepth 20000 in
theorem wkX12_prefixOf : Jvm.Cond.instanceMethod yX12_prefixOf ∈ tb_w := tb_7 98 (by rfl) (by rfl)
set_option maxRecDepth 20000 in
theorem weX12_prefixOf : Jvm.Cond.selects yX12_prefixOf.cls yX12_prefixOf yX12_prefixOf ∈ tb_w := tb_s 77 (q := (yX12_prefixOf, 42)) (by rfl)
set_option maxRecDepth 20000 in
theorem wcX12_entryOf : Jvm.Cond.code yX12_entryOf cX12_entryOf 5 (some .int) ∈ tb_w := tb_7 95 (by rfl) (by rfl)
set_option maxRecDepth 20000 in
theorem wkX12_entryOf : Jvm.Cond.instanceMethod yX12_entryOf ∈ tb_w := tb_7 94 (by rfl) (by rfl)
set_option maxRecDepth 20000 in
theorem weX12_entryOf : Jvm.Cond.selects yX12_entryOf.cls yX12_entryOf yX12_entryOf ∈ tb_w := tb_s 76 (q := (yX12_entryOf, 42)) (by rfl)
set_option maxRecDepth 20000 in
theorem wcX12_holeOf : Jvm.Cond.code yX12_holeOf cX12_holeOf 3 (some .int) ∈ tb_w := tb_7 103 (by rfl) (by rfl)
set_option maxRecDepth 20000 in
theorem wkX12_holeOf : Jvm.Cond.instanceMethod yX12_holeOf ∈ tb_w := tb_7 102 (by rfl) (by rfl)
set_option maxRecDepth 20000 in
theorem weX12_holeOf : Jvm.Cond.selects yX12_holeOf.cls yX12_holeOf yX12_holeOf ∈ tb_w := tb_s 78 (q := (yX12_holeOf, 42)) (by rfl)
set_option maxRecDepth 20000 in
theorem wcX12_sumOver : Jvm.Cond.code yX12_sumOver cX12_sumOver 4 (some .int) ∈ tb_w := tb_7 107 (by rfl) (by rfl)
set_option maxRecDepth 20000 in
theorem wkX12_sumOver : Jvm.Cond.instanceMethod yX12_sumOver ∈ tb_w := tb_7 106 (by rfl) (by rfl)
set_option maxRecDepth 20000 in
theorem weX12_sumOver : Jvm.Cond.selects yX12_sumOver.cls yX12_sumOver yX12_sumOver ∈ tb_w := tb_s 79 (q := (yX12_sumOver, 42)) (by rfl)
set_option maxRecDepth 20000 in
theorem wcX12_begins : Jvm.Cond.code yX12_begins cX12_begins 2 none ∈ tb_w := tb_7 34 (by rfl) (by rfl)
set_option maxRecDepth 20000 in
theorem wkX12_begins : Jvm.Cond.instanceMethod yX12_begins ∈ tb_w := tb_7 33 (by rfl) (by rfl)
set_option maxRecDepth 20000 in
theorem weX12_begins : Jvm.Cond.selects yX12_begins.cls yX12_begins yX12_begins ∈ tb_w := tb_s 67 (q := (yX12_begins, 42)) (by rfl)
set_option maxRecDepth 20000 in
theorem wcX12_force : Jvm.Cond.code yX12_force cX12_force 3 (some .int) ∈ tb_w := tb_7 38 (by rfl) (by rfl)
set_option maxRecDepth 20000 in
theorem wkX12_force : Jvm.Cond.instanceMethod yX12_force ∈ tb_w := tb_7 36 (by rfl) (by rfl)
set_option maxRecDepth 20000 in
theorem weX12_force : Jvm.Cond.selects yX12_force.cls yX12_force yX12_force ∈ tb_w := tb_7 37 (by rfl) (by rfl)
set_option maxRecDepth 20000 in
theorem wcX12_hole : Jvm.Cond.code yX12_hole cX12_hole 3 (some .int) ∈ tb_w := tb_7 46 (by rfl) (by rfl)
set_option maxRecDepth 20000 in
theorem wkX12_hole : Jvm.Cond.instanceMethod yX12_hole ∈ tb_w := tb_7 44 (by rfl) (by rfl)
set_option maxRecDepth 20000 in
theorem weX12_hole : Jvm.Cond.selects yX12_hole.cls yX12_hole yX12_hole ∈ tb_w := tb_7 45 (by rfl) (by rfl)
set_option maxRecDepth 20000 in
theorem wcX12_entry : Jvm.Cond.code yX12_entry cX12_entry 3 (some .int) ∈ tb_w := tb_7 55 (by rfl) (by rfl)
set_option maxRecDepth 20000 in
theorem wkX12_entry : Jvm.Cond.instanceMethod yX12_entry ∈ tb_w := tb_7 53 (by rfl) (by rfl)
set_option maxRecDepth 20000 in
theorem weX12_entry : Jvm.Cond.selects yX12_entry.cls yX12_entry yX12_entry ∈ tb_w := tb_7 54 (by rfl) (by rfl)
set_option maxRecDepth 20000 in
theorem wcX12_waits : Jvm.Cond.code yX12_waits cX12_waits 2 (some .int) ∈ tb_w := tb_7 63 (by rfl) (by rfl)
set_option maxRecDepth 20000 in
theorem wkX12_waits : Jvm.Cond.instanceMethod yX12_waits ∈ tb_w := tb_7 61 (by rfl) (by rfl)
set_option maxRecDepth 20000 in
theorem weX12_waits : Jvm.Cond.selects yX12_waits.cls yX12_waits yX12_waits ∈ tb_w := tb_7 62 (by rfl) (by rfl)
set_option maxRecDepth 20000 in
theorem wcX12_summedBy : Jvm.Cond.code yX12_summedBy cX12_summedBy 4 (some .long) ∈ tb_w := tb_7 111 (by rfl) (by rfl)
set_option maxRecDepth 20000 in
theorem wkX12_summedBy : Jvm.Cond.instanceMethod yX12_summedBy ∈ tb_w := tb_7 110 (by rfl) (by rfl)
set_option maxRecDepth 20000 in
theorem weX12_summedBy : Jvm.Cond.selects yX12_summedBy.cls yX12_summedBy yX12_summedBy ∈ tb_w := tb_s 80 (q := (yX12_summedBy, 42)) (by rfl)
set_option maxRecDepth 20000 in
theorem wcX12_sumOf : Jvm.Cond.code yX12_sumOf cX12_sumOf 5 (some .long) ∈ tb_w := tb_7 91 (by rfl) (by rfl)
set_option maxRecDepth 20000 in
theorem wkX12_sumOf : Jvm.Cond.instanceMethod yX12_sumOf ∈ tb_w := tb_7 90 (by rfl) (by rfl)
set_option maxRecDepth 20000 in
theorem weX12_sumOf : Jvm.Cond.selects yX12_sumOf.cls yX12_sumOf yX12_sumOf ∈ tb_w := tb_s 75 (q := (yX12_sumOf, 42)) (by rfl)
set_option maxRecDepth 20000 in
theorem wcX12_choice : Jvm.Cond.code yX12_choice cX12_choice 7 (some .int) ∈ tb_w := tb_7 87 (by rfl) (by rfl)
set_option maxRecDepth 20000 in
theorem wkX12_choice : Jvm.Cond.instanceMethod yX12_choice ∈ tb_w := tb_7 86 (by rfl) (by rfl)
set_option maxRecDepth 20000 in
theorem weX12_choice : Jvm.Cond.selects yX12_choice.cls yX12_choice yX12_choice ∈ tb_w := tb_s 74 (q := (yX12_choice, 42)) (by rfl)
set_option maxRecDepth 20000 in
theorem wcX12_ties : Jvm.Cond.code yX12_ties cX12_ties 2 none ∈ tb_w := tb_7 138 (by rfl) (by rfl)
set_option maxRecDepth 20000 in
theorem wkX12_ties : Jvm.Cond.instanceMethod yX12_ties ∈ tb_w := tb_7 137 (by rfl) (by rfl)
set_option maxRecDepth 20000 in
theorem weX12_ties : Jvm.Cond.selects yX12_ties.cls yX12_ties yX12_ties ∈ tb_w := tb_s 86 (q := (yX12_ties, 42)) (by rfl)
set_option maxRecDepth 20000 in
theorem wcX12_sorts : Jvm.Cond.code yX12_sorts cX12_sorts 3 none ∈ tb_w := tb_7 134 (by rfl) (by rfl)
set_option maxRecDepth 20000 in
theorem wkX12_sorts : Jvm.Cond.instanceMethod yX12_sorts ∈ tb_w := tb_7 133 (by rfl) (by rfl)
set_option maxRecDepth 20000 in
theorem weX12_sorts : Jvm.Cond.selects yX12_sorts.cls yX12_sorts yX12_sorts ∈ tb_w := tb_s 85 (q := (yX12_sorts, 42)) (by rfl)
set_option maxRecDepth 20000 in
theorem wcX12_leaves : Jvm.Cond.code yX12_leaves cX12_leaves 4 (some .int) ∈ tb_w := tb_7 130 (by rfl) (by rfl)
set_option maxRecDepth 20000 in
theorem wkX12_leaves : Jvm.Cond.instanceMethod yX12_leaves ∈ tb_w := tb_7 129 (by rfl) (by rfl)
set_option maxRecDepth 20000 in
theorem weX12_leaves : Jvm.Cond.selects yX12_leaves.cls yX12_leaves yX12_leaves ∈ tb_w := tb_s 84 (q := (yX12_leaves, 42)) (by rfl)
set_option maxRecDepth 20000 in
theorem wcX12_passes : Jvm.Cond.code yX12_passes cX12_passes 3 (some .int) ∈ tb_w := tb_7 83 (by rfl) (by rfl)
set_option maxRecDepth 20000 in
theorem wkX12_passes : Jvm.Cond.instanceMethod yX12_passes ∈ tb_w := tb_7 82 (by rfl) (by rfl)
set_option maxRecDepth 20000 in
theorem weX12_passes : Jvm.Cond.selects yX12_passes.cls yX12_passes yX12_passes ∈ tb_w := tb_s 73 (q := (yX12_passes, 42)) (by rfl)
set_option maxRecDepth 20000 in
theorem wcX12_passesAll : Jvm.Cond.code yX12_passesAll cX12_passesAll 3 none ∈ tb_w := tb_8 55 (by rfl) (by rfl)
set_option maxRecDepth 20000 in
theorem wkX12_passesAll : Jvm.Cond.instanceMethod yX12_passesAll ∈ tb_w := tb_8 54 (by rfl) (by rfl)
set_option maxRecDepth 20000 in
theorem weX12_passesAll : Jvm.Cond.selects yX12_passesAll.cls yX12_passesAll yX12_passesAll ∈ tb_w := tb_s 108 (q := (yX12_passesAll, 42)) (by rfl)
set_option maxRecDepth 20000 in
theorem wcX12_keepsAct : Jvm.Cond.code yX12_keepsAct cX12_keepsAct 2 none ∈ tb_w := tb_7 79 (by rfl) (by rfl)
set_option maxRecDepth 20000 in
theorem wkX12_keepsAct : Jvm.Cond.instanceMethod yX12_keepsAct ∈ tb_w := tb_7 78 (by rfl) (by rfl)
set_option maxRecDepth 20000 in
theorem weX12_keepsAct : Jvm.Cond.selects yX12_keepsAct.cls yX12_keepsAct yX12_keepsAct ∈ tb_w := tb_s 72 (q := (yX12_keepsAct, 42)) (by rfl)
set_option maxRecDepth 20000 in
theorem wcX12_undo : Jvm.Cond.code yX12_undo cX12_undo 2 (some .int) ∈ tb_w := tb_7 67 (by rfl) (by rfl)
set_option maxRecDepth 20000 in
theorem wkX12_undo : Jvm.Cond.instanceMethod yX12_undo ∈ tb_w := tb_7 65 (by rfl) (by rfl)
set_option maxRecDepth 20000 in
theorem weX12_undo : Jvm.Cond.selects yX12_undo.cls yX12_undo yX12_undo ∈ tb_w := tb_7 66 (by rfl) (by rfl)
set_option maxRecDepth 20000 in
theorem wcX12_turn : Jvm.Cond.code yX12_turn cX12_turn 2 (some .int) ∈ tb_w := tb_7 71 (by rfl) (by rfl)
set_option maxRecDepth 20000 in
theorem wkX12_turn : Jvm.Cond.instanceMethod yX12_turn ∈ tb_w := tb_7 69 (by rfl) (by rfl)
set_option maxRecDepth 20000 in
theorem weX12_turn : Jvm.Cond.selects yX12_turn.cls yX12_turn yX12_turn ∈ tb_w := tb_7 70 (by rfl) (by rfl)
set_option maxRecDepth 20000 in
theorem wcX12_comes : Jvm.Cond.code yX12_comes cX12_comes 2 none ∈ tb_w := tb_7 154 (by rfl) (by rfl)
set_option maxRecDepth 20000 in
theorem wkX12_comes : Jvm.Cond.instanceMethod yX12_comes ∈ tb_w := tb_7 153 (by rfl) (by rfl)
set_option maxRecDepth 20000 in
theorem weX12_comes : Jvm.Cond.selects yX12_comes.cls yX12_comes yX12_comes ∈ tb_w := tb_s 89 (q := (yX12_comes, 42)) (by rfl)
set_option maxRecDepth 20000 in
theorem wcX12_post : Jvm.Cond.code yX12_post cX12_post 2 (some .int) ∈ tb_w := tb_7 142 (by rfl) (by rfl)
set_option maxRecDepth 20000 in
theorem wkX12_post : Jvm.Cond.instanceMethod yX12_post ∈ tb_w := tb_7 140 (by rfl) (by rfl)
set_option maxRecDepth 20000 in
theorem weX12_post : Jvm.Cond.selects yX12_post.cls yX12_post yX12_post ∈ tb_w := tb_7 141 (by rfl) (by rfl)
set_option maxRecDepth 20000 in
theorem wcX12_tie : Jvm.Cond.code yX12_tie cX12_tie 3 (some .int) ∈ tb_w := tb_7 158 (by rfl) (by rfl)
set_option maxRecDepth 20000 in
theorem wkX12_tie : Jvm.Cond.instanceMethod yX12_tie ∈ tb_w := tb_7 156 (by rfl) (by rfl)
set_option maxRecDepth 20000 in
theorem weX12_tie : Jvm.Cond.selects yX12_tie.cls yX12_tie yX12_tie ∈ tb_w := tb_7 157 (by rfl) (by rfl)
set_option maxRecDepth 20000 in
theorem wcX12_numberOf : Jvm.Cond.code yX12_numberOf cX12_numberOf 4 (some .int) ∈ tb_w := tb_7 170 (by rfl) (by rfl)
set_option maxRecDepth 20000 in
theorem wkX12_numberOf : Jvm.Cond.instanceMethod yX12_numberOf ∈ tb_w := tb_7 169 (by rfl) (by rfl)
set_option maxRecDepth 20000 in
theorem weX12_numberOf : Jvm.Cond.selects yX12_numberOf.cls yX12_numberOf yX12_numberOf ∈ tb_w := tb_s 91 (q := (yX12_numberOf, 42)) (by rfl)
set_option maxRecDepth 20000 in
theorem wcX12_canEnter : Jvm.Cond.code yX12_canEnter cX12_canEnter 4 (some .boolean) ∈ tb_w := tb_7 166 (by rfl) (by rfl)
set_option maxRecDepth 20000 in
theorem wkX12_canEnter : Jvm.Cond.instanceMethod yX12_canEnter ∈ tb_w := tb_7 165 (by rfl) (by rfl)
set_option maxRecDepth 20000 in
theorem weX12_canEnter : Jvm.Cond.selects yX12_canEnter.cls yX12_canEnter yX12_canEnter ∈ tb_w := tb_s 90 (q := (yX12_canEnter, 42)) (by rfl)
set_option maxRecDepth 20000 in
theorem wcX12_enters : Jvm.Cond.code yX12_enters cX12_enters 5 (some .int) ∈ tb_w := tb_7 174 (by rfl) (by rfl)
set_option maxRecDepth 20000 in
theorem wkX12_enters : Jvm.Cond.instanceMethod yX12_enters ∈ tb_w := tb_7 173 (by rfl) (by rfl)
set_option maxRecDepth 20000 in
theorem weX12_enters : Jvm.Cond.selects yX12_enters.cls yX12_enters yX12_enters ∈ tb_w := tb_s 92 (q := (yX12_enters, 42)) (by rfl)
set_option maxRecDepth 20000 in
theorem wcX12_enter : Jvm.Cond.code yX12_enter cX12_enter 4 (some .int) ∈ tb_w := tb_7 162 (by rfl) (by rfl)
set_option maxRecDepth 20000 in
theorem wkX12_enter : Jvm.Cond.instanceMethod yX12_enter ∈ tb_w := tb_7 160 (by rfl) (by rfl)
set_option maxRecDepth 20000 in
theorem weX12_enter : Jvm.Cond.selects yX12_enter.cls yX12_enter yX12_enter ∈ tb_w := tb_7 161 (by rfl) (by rfl)
set_option maxRecDepth 20000 in
theorem wcX12_strike : Jvm.Cond.code yX12_strike cX12_strike 3 (some .int) ∈ tb_w := tb_7 178 (by rfl) (by rfl)
set_option maxRecDepth 20000 in
theorem wkX12_strike : Jvm.Cond.instanceMethod yX12_strike ∈ tb_w := tb_7 176 (by rfl) (by rfl)
set_option maxRecDepth 20000 in
theorem weX12_strike : Jvm.Cond.selects yX12_strike.cls yX12_strike yX12_strike ∈ tb_w := tb_7 177 (by rfl) (by rfl)
set_option maxRecDepth 20000 in
theorem wcX12_where : Jvm.Cond.code yX12_where cX12_where 4 (some .int) ∈ tb_w := tb_7 182 (by rfl) (by rfl)
set_option maxRecDepth 20000 in
theorem wkX12_where : Jvm.Cond.instanceMethod yX12_where ∈ tb_w := tb_7 180 (by rfl) (by rfl)
set_option maxRecDepth 20000 in
theorem weX12_where : Jvm.Cond.selects yX12_where.cls yX12_where yX12_where ∈ tb_w := tb_7 181 (by rfl) (by rfl)
set_option maxRecDepth 20000 in
theorem wcX12_isReading : Jvm.Cond.code yX12_isReading cX12_isReading 4 (some .boolean) ∈ tb_w := tb_7 190 (by rfl) (by rfl)
set_option maxRecDepth 20000 in
theorem wkX12_isReading : Jvm.Cond.instanceMethod yX12_isReading ∈ tb_w := tb_7 189 (by rfl) (by rfl)
set_option maxRecDepth 20000 in
theorem weX12_isReading : Jvm.Cond.selects yX12_isReading.cls yX12_isReading yX12_isReading ∈ tb_w := tb_s 93 (q := (yX12_isReading, 42)) (by rfl)
set_option maxRecDepth 20000 in
theorem wcX12_digitOf : Jvm.Cond.code yX12_digitOf cX12_digitOf 3 (some .int) ∈ tb_w := tb_7 198 (by rfl) (by rfl)
set_option maxRecDepth 20000 in
theorem wkX12_digitOf : Jvm.Cond.instanceMethod yX12_digitOf ∈ tb_w := tb_7 197 (by rfl) (by rfl)
set_option maxRecDepth 20000 in
theorem weX12_digitOf : Jvm.Cond.selects yX12_digitOf.cls yX12_digitOf yX12_digitOf ∈ tb_w := tb_s 95 (q := (yX12_digitOf, 42)) (by rfl)
set_option maxRecDepth 20000 in
theorem wcX12_canMean : Jvm.Cond.code yX12_canMean cX12_canMean 3 (some .boolean) ∈ tb_w := tb_7 194 (by rfl) (by rfl)
set_option maxRecDepth 20000 in
theorem wkX12_canMean : Jvm.Cond.instanceMethod yX12_canMean ∈ tb_w := tb_7 193 (by rfl) (by rfl)
set_option maxRecDepth 20000 in
theorem weX12_canMean : Jvm.Cond.selects yX12_canMean.cls yX12_canMean yX12_canMean ∈ tb_w := tb_s 94 (q := (yX12_canMean, 42)) (by rfl)
set_option maxRecDepth 20000 in
theorem wcX12_may : Jvm.Cond.code yX12_may cX12_may 4 (some .int) ∈ tb_w := tb_7 186 (by rfl) (by rfl)
set_option maxRecDepth 20000 in
theorem wkX12_may : Jvm.Cond.instanceMethod yX12_may ∈ tb_w := tb_7 184 (by rfl) (by rfl)
set_option maxRecDepth 20000 in
theorem weX12_may : Jvm.Cond.selects yX12_may.cls yX12_may yX12_may ∈ tb_w := tb_7 185 (by rfl) (by rfl)
set_option maxRecDepth 20000 in
theorem wcX12_areLike : Jvm.Cond.code yX12_areLike cX12_areLike 5 (some .boolean) ∈ tb_w := tb_7 217 (by rfl) (by rfl)
set_option maxRecDepth 20000 in
theorem wkX12_areLike : Jvm.Cond.instanceMethod yX12_areLike ∈ tb_w := tb_7 216 (by rfl) (by rfl)
set_option maxRecDepth 20000 in
theorem weX12_areLike : Jvm.Cond.selects yX12_areLike.cls yX12_areLike yX12_areLike ∈ tb_w := tb_s 98 (q := (yX12_areLike, 42)) (by rfl)
set_option maxRecDepth 20000 in
theorem wcX12_isEnough : Jvm.Cond.code yX12_isEnough cX12_isEnough 4 (some .boolean) ∈ tb_w := tb_7 213 (by rfl) (by rfl)
set_option maxRecDepth 20000 in
theorem wkX12_isEnough : Jvm.Cond.instanceMethod yX12_isEnough ∈ tb_w := tb_7 212 (by rfl) (by rfl)
set_option maxRecDepth 20000 in
theorem weX12_isEnough : Jvm.Cond.selects yX12_isEnough.cls yX12_isEnough yX12_isEnough ∈ tb_w := tb_s 97 (q := (yX12_isEnough, 42)) (by rfl)
set_option maxRecDepth 20000 in
theorem wcX12_fillsGoes : Jvm.Cond.code yX12_fillsGoes cX12_fillsGoes 2 none ∈ tb_w := tb_7 206 (by rfl) (by rfl)
set_option maxRecDepth 20000 in
theorem wkX12_fillsGoes : Jvm.Cond.instanceMethod yX12_fillsGoes ∈ tb_w := tb_7 205 (by rfl) (by rfl)
set_option maxRecDepth 20000 in
theorem weX12_fillsGoes : Jvm.Cond.selects yX12_fillsGoes.cls yX12_fillsGoes yX12_fillsGoes ∈ tb_w := tb_s 96 (q := (yX12_fillsGoes, 42)) (by rfl)
set_option maxRecDepth 20000 in
theorem wcX12_read : Jvm.Cond.code yX12_read cX12_read 6 (some .int) ∈ tb_w := tb_7 202 (by rfl) (by rfl)
set_option maxRecDepth 20000 in
theorem wkX12_read : Jvm.Cond.instanceMethod yX12_read ∈ tb_w := tb_7 200 (by rfl) (by rfl)
set_option maxRecDepth 20000 in
theorem weX12_read : Jvm.Cond.selects yX12_read.cls yX12_read yX12_read ∈ tb_w := tb_7 201 (by rfl) (by rfl)
set_option maxRecDepth 20000 in
theorem wcX12_codes : Jvm.Cond.code yX12_codes cX12_codes 6 (some .int) ∈ tb_w := tb_7 224 (by rfl) (by rfl)
set_option maxRecDepth 20000 in
theorem wkX12_codes : Jvm.Cond.instanceMethod yX12_codes ∈ tb_w := tb_7 222 (by rfl) (by rfl)
set_option maxRecDepth 20000 in
theorem weX12_codes : Jvm.Cond.selects yX12_codes.cls yX12_codes yX12_codes ∈ tb_w := tb_7 223 (by rfl) (by rfl)
set_option maxRecDepth 20000 in
theorem wcX12_slipsOf : Jvm.Cond.code yX12_slipsOf cX12_slipsOf 7 (some .int) ∈ tb_w := tb_7 232 (by rfl) (by rfl)
set_option maxRecDepth 20000 in
theorem wkX12_slipsOf : Jvm.Cond.instanceMethod yX12_slipsOf ∈ tb_w := tb_7 231 (by rfl) (by rfl)
set_option maxRecDepth 20000 in
theorem weX12_slipsOf : Jvm.Cond.selects yX12_slipsOf.cls yX12_slipsOf yX12_slipsOf ∈ tb_w := tb_s 99 (q := (yX12_slipsOf, 42)) (by rfl)
set_option maxRecDepth 20000 in
theorem wcX12_slips : Jvm.Cond.code yX12_slips cX12_slips 2 (some .int) ∈ tb_w := tb_7 228 (by rfl) (by rfl)
set_option maxRecDepth 20000 in
theorem wkX12_slips : Jvm.Cond.instanceMethod yX12_slips ∈ tb_w := tb_7 226 (by rfl) (by rfl)
set_option maxRecDepth 20000 in
theorem weX12_slips : Jvm.Cond.selects yX12_slips.cls yX12_slips yX12_slips ∈ tb_w := tb_7 227 (by rfl) (by rfl)
set_option maxRecDepth 20000 in
theorem wcX12_worst : Jvm.Cond.code yX12_worst cX12_worst 6 (some .int) ∈ tb_w := tb_7 236 (by rfl) (by rfl)
set_option maxRecDepth 20000 in
theorem wkX12_worst : Jvm.Cond.instanceMethod yX12_worst ∈ tb_w := tb_7 234 (by rfl) (by rfl)
set_option maxRecDepth 20000 in
theorem weX12_worst : Jvm.Cond.selects yX12_worst.cls yX12_worst yX12_worst ∈ tb_w := tb_7 235 (by rfl) (by rfl)
set_option maxRecDepth 20000 in
theorem wcX12_idle : Jvm.Cond.code yX12_idle cX12_idle 3 (some .int) ∈ tb_w := tb_8 0 (by rfl) (by rfl)
set_option maxRecDepth 20000 in
theorem wkX12_idle : Jvm.Cond.instanceMethod yX12_idle ∈ tb_w := tb_7 238 (by rfl) (by rfl)
set_option maxRecDepth 20000 in
theorem weX12_idle : Jvm.Cond.selects yX12_idle.cls yX12_idle yX12_idle ∈ tb_w := tb_7 239 (by rfl) (by rfl)
set_option maxRecDepth 20000 in
theorem wcX12_needsOfCodes : Jvm.Cond.code yX12_needsOfCodes cX12_needsOfCodes 4 none ∈ tb_w := tb_8 8 (by rfl) (by rfl)
set_option maxRecDepth 20000 in
theorem wkX12_needsOfCodes : Jvm.Cond.instanceMethod yX12_needsOfCodes ∈ tb_w := tb_8 7 (by rfl) (by rfl)
set_option maxRecDepth 20000 in
theorem weX12_needsOfCodes : Jvm.Cond.selects yX12_needsOfCodes.cls yX12_needsOfCodes yX12_needsOfCodes ∈ tb_w := tb_s 100 (q := (yX12_needsOfCodes, 42)) (by rfl)
set_option maxRecDepth 20000 in
theorem wcX12_needBelow : Jvm.Cond.code yX12_needBelow cX12_needBelow 5 (some .int) ∈ tb_w := tb_8 16 (by rfl) (by rfl)
set_option maxRecDepth 20000 in
theorem wkX12_needBelow : Jvm.Cond.instanceMethod yX12_needBelow ∈ tb_w := tb_8 15 (by rfl) (by rfl)
set_option maxRecDepth 20000 in
theorem weX12_needBelow : Jvm.Cond.selects yX12_needBelow.cls yX12_needBelow yX12_needBelow ∈ tb_w := tb_s 102 (q := (yX12_needBelow, 42)) (by rfl)
set_option maxRecDepth 20000 in
theorem wcX12_needsOf : Jvm.Cond.code yX12_needsOf cX12_needsOf 6 none ∈ tb_w := tb_8 12 (by rfl) (by rfl)
set_option maxRecDepth 20000 in
theorem wkX12_needsOf : Jvm.Cond.instanceMethod yX12_needsOf ∈ tb_w := tb_8 11 (by rfl) (by rfl)
set_option maxRecDepth 20000 in
theorem weX12_needsOf : Jvm.Cond.selects yX12_needsOf.cls yX12_needsOf yX12_needsOf ∈ tb_w := tb_s 101 (q := (yX12_needsOf, 42)) (by rfl)
set_option maxRecDepth 20000 in
theorem wcX12_least : Jvm.Cond.code yX12_least cX12_least 2 (some .int) ∈ tb_w := tb_8 4 (by rfl) (by rfl)
set_option maxRecDepth 20000 in
theorem wkX12_least : Jvm.Cond.instanceMethod yX12_least ∈ tb_w := tb_8 2 (by rfl) (by rfl)
set_option maxRecDepth 20000 in
theorem weX12_least : Jvm.Cond.selects yX12_least.cls yX12_least yX12_least ∈ tb_w := tb_8 3 (by rfl) (by rfl)
set_option maxRecDepth 20000 in
theorem wcX12_keeps : Jvm.Cond.code yX12_keeps cX12_keeps 2 none ∈ tb_w := tb_8 25 (by rfl) (by rfl)
set_option maxRecDepth 20000 in
theorem wkX12_keeps : Jvm.Cond.instanceMethod yX12_keeps ∈ tb_w := tb_8 24 (by rfl) (by rfl)
set_option maxRecDepth 20000 in
theorem weX12_keeps : Jvm.Cond.selects yX12_keeps.cls yX12_keeps yX12_keeps ∈ tb_w := tb_s 103 (q := (yX12_keeps, 42)) (by rfl)
set_option maxRecDepth 20000 in
theorem wcX12_laysBack : Jvm.Cond.code yX12_laysBack cX12_laysBack 2 none ∈ tb_w := tb_8 33 (by rfl) (by rfl)
set_option maxRecDepth 20000 in
theorem wkX12_laysBack : Jvm.Cond.instanceMethod yX12_laysBack ∈ tb_w := tb_8 32 (by rfl) (by rfl)
set_option maxRecDepth 20000 in
theorem weX12_laysBack : Jvm.Cond.selects yX12_laysBack.cls yX12_laysBack yX12_laysBack ∈ tb_w := tb_s 105 (q := (yX12_laysBack, 42)) (by rfl)
set_option maxRecDepth 20000 in
theorem wcX12_sortsAll : Jvm.Cond.code yX12_sortsAll cX12_sortsAll 2 none ∈ tb_w := tb_8 29 (by rfl) (by rfl)
set_option maxRecDepth 20000 in
theorem wkX12_sortsAll : Jvm.Cond.instanceMethod yX12_sortsAll ∈ tb_w := tb_8 28 (by rfl) (by rfl)
set_option maxRecDepth 20000 in
theorem weX12_sortsAll : Jvm.Cond.selects yX12_sortsAll.cls yX12_sortsAll yX12_sortsAll ∈ tb_w := tb_s 104 (q := (yX12_sortsAll, 42)) (by rfl)
set_option maxRecDepth 20000 in
theorem wcX12_triesEntry : Jvm.Cond.code yX12_triesEntry cX12_triesEntry 4 none ∈ tb_w := tb_8 37 (by rfl) (by rfl)
set_option maxRecDepth 20000 in
theorem wkX12_triesEntry : Jvm.Cond.instanceMethod yX12_triesEntry ∈ tb_w := tb_8 36 (by rfl) (by rfl)
set_option maxRecDepth 20000 in
theorem weX12_triesEntry : Jvm.Cond.selects yX12_triesEntry.cls yX12_triesEntry yX12_triesEntry ∈ tb_w := tb_s 106 (q := (yX12_triesEntry, 42)) (by rfl)
set_option maxRecDepth 20000 in
theorem wcX12_one : Jvm.Cond.code yX12_one cX12_one 5 (some .int) ∈ tb_w := tb_8 20 (by rfl) (by rfl)
set_option maxRecDepth 20000 in
theorem wkX12_one : Jvm.Cond.instanceMethod yX12_one ∈ tb_w := tb_8 18 (by rfl) (by rfl)
set_option maxRecDepth 20000 in
theorem weX12_one : Jvm.Cond.selects yX12_one.cls yX12_one yX12_one ∈ tb_w := tb_8 19 (by rfl) (by rfl)
set_option maxRecDepth 20000 in
theorem wcX12_changes : Jvm.Cond.code yX12_changes cX12_changes 5 none ∈ tb_w := tb_8 45 (by rfl) (by rfl)
set_option maxRecDepth 20000 in
theorem wkX12_changes : Jvm.Cond.instanceMethod yX12_changes ∈ tb_w := tb_8 44 (by rfl) (by rfl)
set_option maxRecDepth 20000 in
theorem weX12_changes : Jvm.Cond.selects yX12_changes.cls yX12_changes yX12_changes ∈ tb_w := tb_s 107 (q := (yX12_changes, 42)) (by rfl)
set_option maxRecDepth 20000 in
theorem wcX12_change : Jvm.Cond.code yX12_change cX12_change 7 (some .int) ∈ tb_w := tb_8 41 (by rfl) (by rfl)
set_option maxRecDepth 20000 in
theorem wkX12_change : Jvm.Cond.instanceMethod yX12_change ∈ tb_w := tb_8 39 (by rfl) (by rfl)
set_option maxRecDepth 20000 in
theorem weX12_change : Jvm.Cond.selects yX12_change.cls yX12_change yX12_change ∈ tb_w := tb_8 40 (by rfl) (by rfl)
set_option maxRecDepth 20000 in
theorem wcX12_ahead : Jvm.Cond.code yX12_ahead cX12_ahead 5 (some .int) ∈ tb_w := tb_8 49 (by rfl) (by rfl)
set_option maxRecDepth 20000 in
theorem wkX12_ahead : Jvm.Cond.instanceMethod yX12_ahead ∈ tb_w := tb_8 47 (by rfl) (by rfl)
set_option maxRecDepth 20000 in
theorem weX12_ahead : Jvm.Cond.selects yX12_ahead.cls yX12_ahead yX12_ahead ∈ tb_w := tb_8 48 (by rfl) (by rfl)
set_option maxRecDepth 20000 in
theorem wcX12_sorted : Jvm.Cond.code yX12_sorted cX12_sorted 3 (some .int) ∈ tb_w := tb_8 59 (by rfl) (by rfl)
set_option maxRecDepth 20000 in
theorem wkX12_sorted : Jvm.Cond.instanceMethod yX12_sorted ∈ tb_w := tb_8 57 (by rfl) (by rfl)
set_option maxRecDepth 20000 in
theorem weX12_sorted : Jvm.Cond.selects yX12_sorted.cls yX12_sorted yX12_sorted ∈ tb_w := tb_8 58 (by rfl) (by rfl)
set_option maxRecDepth 20000 in
theorem wcX12_tied : Jvm.Cond.code yX12_tied cX12_tied 4 (some .int) ∈ tb_w := tb_8 63 (by rfl) (by rfl)
set_option maxRecDepth 20000 in
theorem wkX12_tied : Jvm.Cond.instanceMethod yX12_tied ∈ tb_w := tb_8 61 (by rfl) (by rfl)
set_option maxRecDepth 20000 in
theorem weX12_tied : Jvm.Cond.selects yX12_tied.cls yX12_tied yX12_tied ∈ tb_w := tb_8 62 (by rfl) (by rfl)
set_option maxRecDepth 20000 in
theorem wcX12_isTiedIn : Jvm.Cond.code yX12_isTiedIn cX12_isTiedIn 5 (some .boolean) ∈ tb_w := tb_8 72 (by rfl) (by rfl)
set_option maxRecDepth 20000 in
theorem wkX12_isTiedIn : Jvm.Cond.instanceMethod yX12_isTiedIn ∈ tb_w := tb_8 71 (by rfl) (by rfl)
set_option maxRecDepth 20000 in
theorem weX12_isTiedIn : Jvm.Cond.selects yX12_isTiedIn.cls yX12_isTiedIn yX12_isTiedIn ∈ tb_w := tb_s 109 (q := (yX12_isTiedIn, 42)) (by rfl)
set_option maxRecDepth 20000 in
theorem wcX12_enough : Jvm.Cond.code yX12_enough cX12_enough 6 (some .int) ∈ tb_w := tb_8 67 (by rfl) (by rfl)
set_option maxRecDepth 20000 in
theorem wkX12_enough : Jvm.Cond.instanceMethod yX12_enough ∈ tb_w := tb_8 65 (by rfl) (by rfl)
set_option maxRecDepth 20000 in
theorem weX12_enough : Jvm.Cond.selects yX12_enough.cls yX12_enough yX12_enough ∈ tb_w := tb_8 66 (by rfl) (by rfl)
set_option maxRecDepth 20000 in
theorem wcX12_pence : Jvm.Cond.code yX12_pence cX12_pence 9 (some .int) ∈ tb_w := tb_8 76 (by rfl) (by rfl)
set_option maxRecDepth 20000 in
theorem wkX12_pence : Jvm.Cond.instanceMethod yX12_pence ∈ tb_w := tb_8 74 (by rfl) (by rfl)
set_option maxRecDepth 20000 in
theorem weX12_pence : Jvm.Cond.selects yX12_pence.cls yX12_pence yX12_pence ∈ tb_w := tb_8 75 (by rfl) (by rfl)
set_option maxRecDepth 20000 in
theorem wcX12_note : Jvm.Cond.code yX12_note cX12_note 5 (some .int) ∈ tb_w := tb_8 81 (by rfl) (by rfl)
set_option maxRecDepth 20000 in
theorem wkX12_note : Jvm.Cond.instanceMethod yX12_note ∈ tb_w := tb_8 79 (by rfl) (by rfl)
set_option maxRecDepth 20000 in
theorem weX12_note : Jvm.Cond.selects yX12_note.cls yX12_note yX12_note ∈ tb_w := tb_8 80 (by rfl) (by rfl)
set_option maxRecDepth 20000 in
theorem wcX12_areNotesSo : Jvm.Cond.code yX12_areNotesSo cX12_areNotesSo 3 (some .boolean) ∈ tb_w := tb_8 99 (by rfl) (by rfl)
set_option maxRecDepth 20000 in
theorem wkX12_areNotesSo : Jvm.Cond.instanceMethod yX12_areNotesSo ∈ tb_w := tb_8 98 (by rfl) (by rfl)
set_option maxRecDepth 20000 in
theorem weX12_areNotesSo : Jvm.Cond.selects yX12_areNotesSo.cls yX12_areNotesSo yX12_areNotesSo ∈ tb_w := tb_s 112 (q := (yX12_areNotesSo, 42)) (by rfl)
set_option maxRecDepth 20000 in
theorem wcX12_areAllSo : Jvm.Cond.code yX12_areAllSo cX12_areAllSo 6 (some .boolean) ∈ tb_w := tb_8 95 (by rfl) (by rfl)
set_option maxRecDepth 20000 in
theorem wkX12_areAllSo : Jvm.Cond.instanceMethod yX12_areAllSo ∈ tb_w := tb_8 94 (by rfl) (by rfl)
set_option maxRecDepth 20000 in
theorem weX12_areAllSo : Jvm.Cond.selects yX12_areAllSo.cls yX12_areAllSo yX12_areAllSo ∈ tb_w := tb_s 111 (q := (yX12_areAllSo, 42)) (by rfl)
set_option maxRecDepth 20000 in
theorem wcX12_fillsFits : Jvm.Cond.code yX12_fillsFits cX12_fillsFits 4 none ∈ tb_w := tb_8 91 (by rfl) (by rfl)
set_option maxRecDepth 20000 in
theorem wkX12_fillsFits : Jvm.Cond.instanceMethod yX12_fillsFits ∈ tb_w := tb_8 90 (by rfl) (by rfl)
set_option maxRecDepth 20000 in
theorem weX12_fillsFits : Jvm.Cond.selects yX12_fillsFits.cls yX12_fillsFits yX12_fillsFits ∈ tb_w := tb_s 110 (q := (yX12_fillsFits, 42)) (by rfl)
set_option maxRecDepth 20000 in
theorem wcX12_ruled : Jvm.Cond.code yX12_ruled cX12_ruled 5 (some .int) ∈ tb_w := tb_8 87 (by rfl) (by rfl)
set_option maxRecDepth 20000 in
theorem wkX12_ruled : Jvm.Cond.instanceMethod yX12_ruled ∈ tb_w := tb_8 85 (by rfl) (by rfl)
set_option maxRecDepth 20000 in
theorem weX12_ruled : Jvm.Cond.selects yX12_ruled.cls yX12_ruled yX12_ruled ∈ tb_w := tb_8 86 (by rfl) (by rfl)
set_option maxRecDepth 20000 in
theorem wcX12_alikeAt : Jvm.Cond.code yX12_alikeAt cX12_alikeAt 6 (some .int) ∈ tb_w := tb_8 107 (by rfl) (by rfl)
set_option maxRecDepth 20000 in
theorem wkX12_alikeAt : Jvm.Cond.instanceMethod yX12_alikeAt ∈ tb_w := tb_8 106 (by rfl) (by rfl)
set_option maxRecDepth 20000 in
theorem weX12_alikeAt : Jvm.Cond.selects yX12_alikeAt.cls yX12_alikeAt yX12_alikeAt ∈ tb_w := tb_s 113 (q := (yX12_alikeAt, 42)) (by rfl)
set_option maxRecDepth 20000 in
theorem wcX12_look : Jvm.Cond.code yX12_look cX12_look 7 (some .int) ∈ tb_w := tb_8 103 (by rfl) (by rfl)
set_option maxRecDepth 20000 in
theorem wkX12_look : Jvm.Cond.instanceMethod yX12_look ∈ tb_w := tb_8 101 (by rfl) (by rfl)
set_option maxRecDepth 20000 in
theorem weX12_look : Jvm.Cond.selects yX12_look.cls yX12_look yX12_look ∈ tb_w := tb_8 102 (by rfl) (by rfl)
set_option maxRecDepth 20000 in
theorem wcX12_fillsCanBe : Jvm.Cond.code yX12_fillsCanBe cX12_fillsCanBe 5 none ∈ tb_w := tb_8 115 (by rfl) (by rfl)
set_option maxRecDepth 20000 in
theorem wkX12_fillsCanBe : Jvm.Cond.instanceMethod yX12_fillsCanBe ∈ tb_w := tb_8 114 (by rfl) (by rfl)
set_option maxRecDepth 20000 in
theorem weX12_fillsCanBe : Jvm.Cond.selects yX12_fillsCanBe.cls yX12_fillsCanBe yX12_fillsCanBe ∈ tb_w := tb_s 114 (q := (yX12_fillsCanBe, 42)) (by rfl)
set_option maxRecDepth 20000 in
theorem wcX12_said : Jvm.Cond.code yX12_said cX12_said 6 (some .int) ∈ tb_w := tb_8 111 (by rfl) (by rfl)
set_option maxRecDepth 20000 in
theorem wkX12_said : Jvm.Cond.instanceMethod yX12_said ∈ tb_w := tb_8 109 (by rfl) (by rfl)
set_option maxRecDepth 20000 in
theorem weX12_said : Jvm.Cond.selects yX12_said.cls yX12_said yX12_said ∈ tb_w := tb_8 110 (by rfl) (by rfl)
set_option maxRecDepth 20000 in
theorem wcX12_sent : Jvm.Cond.code yX12_sent cX12_sent 4 (some .int) ∈ tb_w := tb_8 119 (by rfl) (by rfl)
set_option maxRecDepth 20000 in
theorem wkX12_sent : Jvm.Cond.instanceMethod yX12_sent ∈ tb_w := tb_8 117 (by rfl) (by rfl)
set_option maxRecDepth 20000 in
theorem weX12_sent : Jvm.Cond.selects yX12_sent.cls yX12_sent yX12_sent ∈ tb_w := tb_8 118 (by rfl) (by rfl)
set_option maxRecDepth 20000 in
theorem wcX12_seed : Jvm.Cond.code yX12_seed cX12_seed 3 (some .int) ∈ tb_w := tb_8 123 (by rfl) (by rfl)
set_option maxRecDepth 20000 in
theorem wkX12_seed : Jvm.Cond.instanceMethod yX12_seed ∈ tb_w := tb_8 121 (by rfl) (by rfl)
set_option maxRecDepth 20000 in
theorem weX12_seed : Jvm.Cond.selects yX12_seed.cls yX12_seed yX12_seed ∈ tb_w := tb_8 122 (by rfl) (by rfl)
set_option maxRecDepth 20000 in
theorem wcX12_draw : Jvm.Cond.code yX12_draw cX12_draw 2 (some .int) ∈ tb_w := tb_8 132 (by rfl) (by rfl)
set_option maxRecDepth 20000 in
theorem wkX12_draw : Jvm.Cond.instanceMethod yX12_draw ∈ tb_w := tb_8 131 (by rfl) (by rfl)
set_option maxRecDepth 20000 in
theorem weX12_draw : Jvm.Cond.selects yX12_draw.cls yX12_draw yX12_draw ∈ tb_w := tb_s 115 (q := (yX12_draw, 42)) (by rfl)
set_option maxRecDepth 20000 in
theorem wcX12_posts : Jvm.Cond.code yX12_posts cX12_posts 9 (some .int) ∈ tb_w := tb_8 127 (by rfl) (by rfl)
set_option maxRecDepth 20000 in
theorem wkX12_posts : Jvm.Cond.instanceMethod yX12_posts ∈ tb_w := tb_8 125 (by rfl) (by rfl)
set_option maxRecDepth 20000 in
theorem weX12_posts : Jvm.Cond.selects yX12_posts.cls yX12_posts yX12_posts ∈ tb_w := tb_8 126 (by rfl) (by rfl)
set_option maxRecDepth 20000 in
theorem wcX12_count : Jvm.Cond.code yX12_count cX12_count 2 (some .int) ∈ tb_w := tb_8 140 (by rfl) (by rfl)
set_option maxRecDepth 20000 in
theorem wkX12_count : Jvm.Cond.instanceMethod yX12_count ∈ tb_w := tb_8 138 (by rfl) (by rfl)
set_option maxRecDepth 20000 in
theorem weX12_count : Jvm.Cond.selects yX12_count.cls yX12_count yX12_count ∈ tb_w := tb_8 139 (by rfl) (by rfl)
set_option maxRecDepth 20000 in
theorem wcX12_image : Jvm.Cond.code yX12_image cX12_image 3 (some .int) ∈ tb_w := tb_8 144 (by rfl) (by rfl)
set_option maxRecDepth 20000 in
theorem wkX12_image : Jvm.Cond.instanceMethod yX12_image ∈ tb_w := tb_8 142 (by rfl) (by rfl)
set_option maxRecDepth 20000 in
theorem weX12_image : Jvm.Cond.selects yX12_image.cls yX12_image yX12_image ∈ tb_w := tb_8 143 (by rfl) (by rfl)
set_option maxRecDepth 20000 in
theorem wcX12_back : Jvm.Cond.code yX12_back cX12_back 3 (some .int) ∈ tb_w := tb_8 148 (by rfl) (by rfl)
set_option maxRecDepth 20000 in
theorem wkX12_back : Jvm.Cond.instanceMethod yX12_back ∈ tb_w := tb_8 146 (by rfl) (by rfl)
set_option maxRecDepth 20000 in
theorem weX12_back : Jvm.Cond.selects yX12_back.cls yX12_back yX12_back ∈ tb_w := tb_8 147 (by rfl) (by rfl)
set_option maxRecDepth 20000 in
theorem wcJ6_bitCount_0f7a4 : Jvm.Cond.code yJ6_bitCount_0f7a4 cJ6_bitCount_0f7a4 1 (some .int) ∈ tb_w := tb_4 220 (by rfl) (by rfl)
set_option maxRecDepth 20000 in
theorem wkJ6_bitCount_0f7a4 : Jvm.Cond.static yJ6_bitCount_0f7a4 ∈ tb_w := tb_4 219 (by rfl) (by rfl)
