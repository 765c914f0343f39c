/-! EVERY LINK OF THE TABLES IS THE STATEMENT'S -/
theorem mj_v_0 : ∀ p ∈ m_mj_0, m_val p.2.2.1 p.1.2.2.2.2.2 = true := List.forall_mem_cons.mpr ⟨kX0_init_v, List.forall_mem_cons.mpr ⟨kX0_tryGoals_v, List.forall_mem_cons.mpr ⟨kX0_tryAsIs_v, List.forall_mem_cons.mpr ⟨kX0_seekEntry_v, List.forall_mem_cons.mpr ⟨kX0_tryPrefix_v, List.forall_mem_cons.mpr ⟨kX0_sendByEntry_v, List.forall_mem_cons.mpr ⟨kX0_seekChange_v, List.forall_mem_cons.mpr ⟨kX0_sendChanged_v, List.forall_mem_cons.mpr ⟨kX0_addSight_v, List.forall_mem_cons.mpr ⟨kX0_seekSight_v, List.forall_mem_cons.mpr ⟨kX0_mostAlike_v, List.forall_mem_cons.mpr ⟨kX1_init_v, List.forall_mem_cons.mpr ⟨kX1_draw_v, List.forall_mem_cons.mpr ⟨kX1_lay_v, List.forall_mem_cons.mpr ⟨kX1_entryFor_v, List.forall_mem_cons.mpr ⟨kX1_holeFor_v, List.forall_mem_cons.mpr ⟨kX1_digitsFor_v, List.forall_mem_cons.mpr ⟨kX1_howManyTo_v, List.forall_mem_cons.mpr ⟨kX1_leastTo_v, List.forall_mem_cons.mpr ⟨kX1_takeReading_v, List.forall_mem_cons.mpr ⟨kX1_isMeant_v, List.forall_mem_cons.mpr ⟨kX1_meantHoles_v, List.forall_mem_cons.mpr ⟨kX1_setToRead_v, List.forall_mem_cons.mpr ⟨kX1_decides_v, List.forall_mem_cons.mpr ⟨kX1_slipsOf_v, List.forall_mem_cons.mpr ⟨kX1_mostSlipping_v, List.forall_mem_cons.mpr ⟨kX1_idleEntries_v, List.forall_mem_cons.mpr ⟨kX1_fewestEntries_v, List.forall_mem_cons.mpr ⟨kX1_joinCosts_v, List.forall_mem_cons.mpr ⟨kX2_init_v, List.forall_mem_cons.mpr ⟨kX2_take_v, List.forall_mem_cons.mpr ⟨kX2_copyFrom_v, fun _ h => absurd h List.not_mem_nil⟩⟩⟩⟩⟩⟩⟩⟩⟩⟩⟩⟩⟩⟩⟩⟩⟩⟩⟩⟩⟩⟩⟩⟩⟩⟩⟩⟩⟩⟩⟩⟩
theorem mj_v_1 : ∀ p ∈ m_mj_1, m_val p.2.2.1 p.1.2.2.2.2.2 = true := List.forall_mem_cons.mpr ⟨kX2_addNote_v, List.forall_mem_cons.mpr ⟨kX2_lastNotedTurn_v, List.forall_mem_cons.mpr ⟨kX2_notesHold_v, List.forall_mem_cons.mpr ⟨kX3_init_v, List.forall_mem_cons.mpr ⟨kX3_parse_v, List.forall_mem_cons.mpr ⟨kX3_takeClause_v, List.forall_mem_cons.mpr ⟨kX3_takeKind_v, List.forall_mem_cons.mpr ⟨kX3_tooMany_v, List.forall_mem_cons.mpr ⟨kX3_takeShape_v, List.forall_mem_cons.mpr ⟨kX3_takeRoom_v, List.forall_mem_cons.mpr ⟨kX3_takeEntry_v, List.forall_mem_cons.mpr ⟨kX3_takeLetter_v, List.forall_mem_cons.mpr ⟨kX4_init_v, List.forall_mem_cons.mpr ⟨kX4_copyFrom_v, List.forall_mem_cons.mpr ⟨kX4_has_v, List.forall_mem_cons.mpr ⟨kX4_find_v, List.forall_mem_cons.mpr ⟨kX4_canTake_v, List.forall_mem_cons.mpr ⟨kX4_put_v, List.forall_mem_cons.mpr ⟨kX4_drop_v, List.forall_mem_cons.mpr ⟨kX5_init_v, List.forall_mem_cons.mpr ⟨kX5_worth_v, List.forall_mem_cons.mpr ⟨kX5_run_v, List.forall_mem_cons.mpr ⟨kX5_join_v, List.forall_mem_cons.mpr ⟨kX6_init_v, List.forall_mem_cons.mpr ⟨kX6_parse_v, List.forall_mem_cons.mpr ⟨kX6_takeTest_v, List.forall_mem_cons.mpr ⟨kX6_takeFact_v, List.forall_mem_cons.mpr ⟨kX6_takeComparison_v, List.forall_mem_cons.mpr ⟨kX6_takeSum_v, List.forall_mem_cons.mpr ⟨kX6_takeValue_v, List.forall_mem_cons.mpr ⟨kX6_countPart_v, List.forall_mem_cons.mpr ⟨kX6_put_v, fun _ h => absurd h List.not_mem_nil⟩⟩⟩⟩⟩⟩⟩⟩⟩⟩⟩⟩⟩⟩⟩⟩⟩⟩⟩⟩⟩⟩⟩⟩⟩⟩⟩⟩⟩⟩⟩⟩
theorem mj_v_2 : ∀ p ∈ m_mj_2, m_val p.2.2.1 p.1.2.2.2.2.2 = true := List.forall_mem_cons.mpr ⟨kX6_joinOf_v, List.forall_mem_cons.mpr ⟨kX6_textOf_v, List.forall_mem_cons.mpr ⟨kX7_init_v, List.forall_mem_cons.mpr ⟨kX7_start_v, List.forall_mem_cons.mpr ⟨kX7_step_v, List.forall_mem_cons.mpr ⟨kX7_lay_v, List.forall_mem_cons.mpr ⟨kX7_choose_v, List.forall_mem_cons.mpr ⟨kX7_describe_v, List.forall_mem_cons.mpr ⟨kX7_steps_v, List.forall_mem_cons.mpr ⟨kX7_turnOfSorting_v, List.forall_mem_cons.mpr ⟨kX7_turnOfTying_v, List.forall_mem_cons.mpr ⟨kX7_agrees_v, List.forall_mem_cons.mpr ⟨kX7_stepsWithPosts_v, List.forall_mem_cons.mpr ⟨kX7_draw_v, List.forall_mem_cons.mpr ⟨kX8_init_v, List.forall_mem_cons.mpr ⟨kX8_lay_v, List.forall_mem_cons.mpr ⟨kX8_copyFrom_v, List.forall_mem_cons.mpr ⟨kX8_hasHole_v, List.forall_mem_cons.mpr ⟨kX8_hasCode_v, List.forall_mem_cons.mpr ⟨kX8_hasPrefix_v, List.forall_mem_cons.mpr ⟨kX8_prefixesOf_v, List.forall_mem_cons.mpr ⟨kX8_spanOf_v, List.forall_mem_cons.mpr ⟨kX8_prefixOf_v, List.forall_mem_cons.mpr ⟨kX8_digitOf_v, List.forall_mem_cons.mpr ⟨kX9_init_v, List.forall_mem_cons.mpr ⟨kX9_add_v, List.forall_mem_cons.mpr ⟨kX9_rewind_v, List.forall_mem_cons.mpr ⟨kX9_fail_v, List.forall_mem_cons.mpr ⟨kX9_byteAt_v, List.forall_mem_cons.mpr ⟨kX9_next_v, List.forall_mem_cons.mpr ⟨kX9_takeByte_v, List.forall_mem_cons.mpr ⟨kX9_takeWord_v, fun _ h => absurd h List.not_mem_nil⟩⟩⟩⟩⟩⟩⟩⟩⟩⟩⟩⟩⟩⟩⟩⟩⟩⟩⟩⟩⟩⟩⟩⟩⟩⟩⟩⟩⟩⟩⟩⟩
theorem mj_v_3 : ∀ p ∈ m_mj_3, m_val p.2.2.1 p.1.2.2.2.2.2 = true := List.forall_mem_cons.mpr ⟨kX9_takeNumber_v, List.forall_mem_cons.mpr ⟨kX9_takeSemicolon_v, List.forall_mem_cons.mpr ⟨kX9_isDigit_v, List.forall_mem_cons.mpr ⟨kX10_init_v, List.forall_mem_cons.mpr ⟨kX10_clear_v, List.forall_mem_cons.mpr ⟨kX10_copyFrom_v, List.forall_mem_cons.mpr ⟨kX10_queue_v, List.forall_mem_cons.mpr ⟨kX10_takeOut_v, List.forall_mem_cons.mpr ⟨kX10_bagUp_v, List.forall_mem_cons.mpr ⟨kX10_lyingInAll_v, List.forall_mem_cons.mpr ⟨kX10_bagsOfAll_v, List.forall_mem_cons.mpr ⟨kX10_shareOf_v, List.forall_mem_cons.mpr ⟨kX10_sumOf_v, List.forall_mem_cons.mpr ⟨kX11_init_v, List.forall_mem_cons.mpr ⟨kX11_feed_v, List.forall_mem_cons.mpr ⟨kX11_end_v, List.forall_mem_cons.mpr ⟨kX11_frame_v, List.forall_mem_cons.mpr ⟨kX11_rule_v, List.forall_mem_cons.mpr ⟨kX11_force_v, List.forall_mem_cons.mpr ⟨kX11_hole_v, List.forall_mem_cons.mpr ⟨kX11_entry_v, List.forall_mem_cons.mpr ⟨kX11_waits_v, List.forall_mem_cons.mpr ⟨kX11_count_v, List.forall_mem_cons.mpr ⟨kX11_turn_v, List.forall_mem_cons.mpr ⟨kX11_post_v, List.forall_mem_cons.mpr ⟨kX11_tie_v, List.forall_mem_cons.mpr ⟨kX11_enter_v, List.forall_mem_cons.mpr ⟨kX11_strike_v, List.forall_mem_cons.mpr ⟨kX11_undo_v, List.forall_mem_cons.mpr ⟨kX11_where_v, List.forall_mem_cons.mpr ⟨kX11_may_v, List.forall_mem_cons.mpr ⟨kX11_read_v, fun _ h => absurd h List.not_mem_nil⟩⟩⟩⟩⟩⟩⟩⟩⟩⟩⟩⟩⟩⟩⟩⟩⟩⟩⟩⟩⟩⟩⟩⟩⟩⟩⟩⟩⟩⟩⟩⟩
theorem mj_v_4 : ∀ p ∈ m_mj_4, m_val p.2.2.1 p.1.2.2.2.2.2 = true := List.forall_mem_cons.mpr ⟨kX11_codes_v, List.forall_mem_cons.mpr ⟨kX11_slips_v, List.forall_mem_cons.mpr ⟨kX11_worst_v, List.forall_mem_cons.mpr ⟨kX11_idle_v, List.forall_mem_cons.mpr ⟨kX11_least_v, List.forall_mem_cons.mpr ⟨kX11_one_v, List.forall_mem_cons.mpr ⟨kX11_change_v, List.forall_mem_cons.mpr ⟨kX11_ahead_v, List.forall_mem_cons.mpr ⟨kX11_sorted_v, List.forall_mem_cons.mpr ⟨kX11_tied_v, List.forall_mem_cons.mpr ⟨kX11_enough_v, List.forall_mem_cons.mpr ⟨kX11_said_v, List.forall_mem_cons.mpr ⟨kX11_sent_v, List.forall_mem_cons.mpr ⟨kX11_pence_v, List.forall_mem_cons.mpr ⟨kX11_note_v, List.forall_mem_cons.mpr ⟨kX11_ruled_v, List.forall_mem_cons.mpr ⟨kX11_look_v, List.forall_mem_cons.mpr ⟨kX11_seed_v, List.forall_mem_cons.mpr ⟨kX11_posts_v, List.forall_mem_cons.mpr ⟨kX11_image_v, List.forall_mem_cons.mpr ⟨kX11_back_v, List.forall_mem_cons.mpr ⟨kX11_hasFrame_v, List.forall_mem_cons.mpr ⟨kX11_ruleAt_v, List.forall_mem_cons.mpr ⟨kX11_ruleInForce_v, List.forall_mem_cons.mpr ⟨kX11_remember_v, List.forall_mem_cons.mpr ⟨kX11_drawNow_v, List.forall_mem_cons.mpr ⟨kX11_startFromNow_v, List.forall_mem_cons.mpr ⟨kX12_init_v, List.forall_mem_cons.mpr ⟨kX12_in_v, List.forall_mem_cons.mpr ⟨kX12_isOf_v, List.forall_mem_cons.mpr ⟨kX12_bits_v, List.forall_mem_cons.mpr ⟨kX12_power_v, fun _ h => absurd h List.not_mem_nil⟩⟩⟩⟩⟩⟩⟩⟩⟩⟩⟩⟩⟩⟩⟩⟩⟩⟩⟩⟩⟩⟩⟩⟩⟩⟩⟩⟩⟩⟩⟩⟩
theorem mj_v_5 : ∀ p ∈ m_mj_5, m_val p.2.2.1 p.1.2.2.2.2.2 = true := List.forall_mem_cons.mpr ⟨kX12_four_v, List.forall_mem_cons.mpr ⟨kX12_feed_v, List.forall_mem_cons.mpr ⟨kX12_end_v, List.forall_mem_cons.mpr ⟨kX12_fails_v, List.forall_mem_cons.mpr ⟨kX12_see_v, List.forall_mem_cons.mpr ⟨kX12_isDigit_v, List.forall_mem_cons.mpr ⟨kX12_isLetter_v, List.forall_mem_cons.mpr ⟨kX12_isWord_v, List.forall_mem_cons.mpr ⟨kX12_passWord_v, List.forall_mem_cons.mpr ⟨kX12_takesWord_v, List.forall_mem_cons.mpr ⟨kX12_numberHere_v, List.forall_mem_cons.mpr ⟨kX12_wordHere_v, List.forall_mem_cons.mpr ⟨kX12_puts_v, List.forall_mem_cons.mpr ⟨kX12_makes_v, List.forall_mem_cons.mpr ⟨kX12_opens_v, List.forall_mem_cons.mpr ⟨kX12_strength_v, List.forall_mem_cons.mpr ⟨kX12_layDown_v, List.forall_mem_cons.mpr ⟨kX12_value_v, List.forall_mem_cons.mpr ⟨kX12_term_v, List.forall_mem_cons.mpr ⟨kX12_sum_v, List.forall_mem_cons.mpr ⟨kX12_compare_v, List.forall_mem_cons.mpr ⟨kX12_fact_v, List.forall_mem_cons.mpr ⟨kX12_isInside_v, List.forall_mem_cons.mpr ⟨kX12_closes_v, List.forall_mem_cons.mpr ⟨kX12_tested_v, List.forall_mem_cons.mpr ⟨kX12_isTakeHere_v, List.forall_mem_cons.mpr ⟨kX12_cellHere_v, List.forall_mem_cons.mpr ⟨kX12_isFrameHere_v, List.forall_mem_cons.mpr ⟨kX12_isRoomHere_v, List.forall_mem_cons.mpr ⟨kX12_isPlanHere_v, List.forall_mem_cons.mpr ⟨kX12_isLetterToldHere_v, List.forall_mem_cons.mpr ⟨kX12_frameLineHere_v, fun _ h => absurd h List.not_mem_nil⟩⟩⟩⟩⟩⟩⟩⟩⟩⟩⟩⟩⟩⟩⟩⟩⟩⟩⟩⟩⟩⟩⟩⟩⟩⟩⟩⟩⟩⟩⟩⟩
theorem mj_v_6 : ∀ p ∈ m_mj_6, m_val p.2.2.1 p.1.2.2.2.2.2 = true := List.forall_mem_cons.mpr ⟨kX12_isFrameWord_v, List.forall_mem_cons.mpr ⟨kX12_clauseHere_v, List.forall_mem_cons.mpr ⟨kX12_readsAll_v, List.forall_mem_cons.mpr ⟨kX12_rule_v, List.forall_mem_cons.mpr ⟨kX12_frame_v, List.forall_mem_cons.mpr ⟨kX12_isRule_v, List.forall_mem_cons.mpr ⟨kX12_push_v, List.forall_mem_cons.mpr ⟨kX12_pop_v, List.forall_mem_cons.mpr ⟨kX12_sumOfTwo_v, List.forall_mem_cons.mpr ⟨kX12_reckons_v, List.forall_mem_cons.mpr ⟨kX12_isFrame_v, List.forall_mem_cons.mpr ⟨kX12_codesMany_v, List.forall_mem_cons.mpr ⟨kX12_isHole_v, List.forall_mem_cons.mpr ⟨kX12_isEntry_v, List.forall_mem_cons.mpr ⟨kX12_isCode_v, List.forall_mem_cons.mpr ⟨kX12_prefixOf_v, List.forall_mem_cons.mpr ⟨kX12_entryOf_v, List.forall_mem_cons.mpr ⟨kX12_holeOf_v, List.forall_mem_cons.mpr ⟨kX12_sumOver_v, List.forall_mem_cons.mpr ⟨kX12_begins_v, List.forall_mem_cons.mpr ⟨kX12_force_v, List.forall_mem_cons.mpr ⟨kX12_hole_v, List.forall_mem_cons.mpr ⟨kX12_entry_v, List.forall_mem_cons.mpr ⟨kX12_waits_v, List.forall_mem_cons.mpr ⟨kX12_summedBy_v, List.forall_mem_cons.mpr ⟨kX12_sumOf_v, List.forall_mem_cons.mpr ⟨kX12_choice_v, List.forall_mem_cons.mpr ⟨kX12_ties_v, List.forall_mem_cons.mpr ⟨kX12_sorts_v, List.forall_mem_cons.mpr ⟨kX12_leaves_v, List.forall_mem_cons.mpr ⟨kX12_passes_v, List.forall_mem_cons.mpr ⟨kX12_passesAll_v, fun _ h => absurd h List.not_mem_nil⟩⟩⟩⟩⟩⟩⟩⟩⟩⟩⟩⟩⟩⟩⟩⟩⟩⟩⟩⟩⟩⟩⟩⟩⟩⟩⟩⟩⟩⟩⟩⟩
theorem mj_v_7 : ∀ p ∈ m_mj_7, m_val p.2.2.1 p.1.2.2.2.2.2 = true := List.forall_mem_cons.mpr ⟨kX12_keepsAct_v, List.forall_mem_cons.mpr ⟨kX12_undo_v, List.forall_mem_cons.mpr ⟨kX12_turn_v, List.forall_mem_cons.mpr ⟨kX12_comes_v, List.forall_mem_cons.mpr ⟨kX12_post_v, List.forall_mem_cons.mpr ⟨kX12_tie_v, List.forall_mem_cons.mpr ⟨kX12_numberOf_v, List.forall_mem_cons.mpr ⟨kX12_canEnter_v, List.forall_mem_cons.mpr ⟨kX12_enters_v, List.forall_mem_cons.mpr ⟨kX12_enter_v, List.forall_mem_cons.mpr ⟨kX12_strike_v, List.forall_mem_cons.mpr ⟨kX12_where_v, List.forall_mem_cons.mpr ⟨kX12_isReading_v, List.forall_mem_cons.mpr ⟨kX12_digitOf_v, List.forall_mem_cons.mpr ⟨kX12_canMean_v, List.forall_mem_cons.mpr ⟨kX12_may_v, List.forall_mem_cons.mpr ⟨kX12_areLike_v, List.forall_mem_cons.mpr ⟨kX12_isEnough_v, List.forall_mem_cons.mpr ⟨kX12_fillsGoes_v, List.forall_mem_cons.mpr ⟨kX12_read_v, List.forall_mem_cons.mpr ⟨kX12_codes_v, List.forall_mem_cons.mpr ⟨kX12_slipsOf_v, List.forall_mem_cons.mpr ⟨kX12_slips_v, List.forall_mem_cons.mpr ⟨kX12_worst_v, List.forall_mem_cons.mpr ⟨kX12_idle_v, List.forall_mem_cons.mpr ⟨kX12_needsOfCodes_v, List.forall_mem_cons.mpr ⟨kX12_needBelow_v, List.forall_mem_cons.mpr ⟨kX12_needsOf_v, List.forall_mem_cons.mpr ⟨kX12_least_v, List.forall_mem_cons.mpr ⟨kX12_keeps_v, List.forall_mem_cons.mpr ⟨kX12_laysBack_v, List.forall_mem_cons.mpr ⟨kX12_sortsAll_v, fun _ h => absurd h List.not_mem_nil⟩⟩⟩⟩⟩⟩⟩⟩⟩⟩⟩⟩⟩⟩⟩⟩⟩⟩⟩⟩⟩⟩⟩⟩⟩⟩⟩⟩⟩⟩⟩⟩
theorem mj_v_8 : ∀ p ∈ m_mj_8, m_val p.2.2.1 p.1.2.2.2.2.2 = true := List.forall_mem_cons.mpr ⟨kX12_triesEntry_v, List.forall_mem_cons.mpr ⟨kX12_one_v, List.forall_mem_cons.mpr ⟨kX12_changes_v, List.forall_mem_cons.mpr ⟨kX12_change_v, List.forall_mem_cons.mpr ⟨kX12_ahead_v, List.forall_mem_cons.mpr ⟨kX12_sorted_v, List.forall_mem_cons.mpr ⟨kX12_tied_v, List.forall_mem_cons.mpr ⟨kX12_isTiedIn_v, List.forall_mem_cons.mpr ⟨kX12_enough_v, List.forall_mem_cons.mpr ⟨kX12_pence_v, List.forall_mem_cons.mpr ⟨kX12_note_v, List.forall_mem_cons.mpr ⟨kX12_areNotesSo_v, List.forall_mem_cons.mpr ⟨kX12_areAllSo_v, List.forall_mem_cons.mpr ⟨kX12_fillsFits_v, List.forall_mem_cons.mpr ⟨kX12_ruled_v, List.forall_mem_cons.mpr ⟨kX12_alikeAt_v, List.forall_mem_cons.mpr ⟨kX12_look_v, List.forall_mem_cons.mpr ⟨kX12_fillsCanBe_v, List.forall_mem_cons.mpr ⟨kX12_said_v, List.forall_mem_cons.mpr ⟨kX12_sent_v, List.forall_mem_cons.mpr ⟨kX12_seed_v, List.forall_mem_cons.mpr ⟨kX12_draw_v, List.forall_mem_cons.mpr ⟨kX12_posts_v, List.forall_mem_cons.mpr ⟨kX12_count_v, List.forall_mem_cons.mpr ⟨kX12_image_v, List.forall_mem_cons.mpr ⟨kX12_back_v, List.forall_mem_cons.mpr ⟨kJ6_bitCount_0f7a4_v, List.forall_mem_cons.mpr ⟨kL_law_v, fun _ h => absurd h List.not_mem_nil⟩⟩⟩⟩⟩⟩⟩⟩⟩⟩⟩⟩⟩⟩⟩⟩⟩⟩⟩⟩⟩⟩⟩⟩⟩⟩⟩⟩
theorem mjs_v (k : Nat) : ∀ p ∈ m_mjs k, m_val p.2.2.1 p.1.2.2.2.2.2 = true := by
  match k with
  | 0 => exact mj_v_0
  | 1 => exact mj_v_1
  | 2 => exact mj_v_2
  | 3 => exact mj_v_3
  | 4 => exact mj_v_4
  | 5 => exact mj_v_5
  | 6 => exact mj_v_6
  | 7 => exact mj_v_7
  | 8 => exact mj_v_8
  | n + 9 => exact fun _ h => absurd h List.not_mem_nil
theorem m_nth_mem : ∀ {L : List MJ} {k : Nat} {q : MJ}, m_nth L k = some q → q ∈ L
  | [], k, q, h => by cases h
  | a :: r, 0, q, h => by cases h; exact List.mem_cons_self
  | a :: r, k + 1, q, h => List.mem_cons_of_mem _ (m_nth_mem (L := r) (k := k) h)
theorem mj_v {k : Nat} {q : MJ} (h : m_mj k = some q) : m_val q.2.2.1 q.1.2.2.2.2.2 = true := mjs_v _ q (m_nth_mem h)
theorem m_lk_mem : ∀ {C : MC} {pc : Nat} {op : Instr}, m_lk C pc = some op → (pc, op) ∈ C
  | [], pc, op, h => by cases h
  | q :: r, pc, op, h => by
    unfold m_lk at h
    cases hb : Nat.beq q.1 pc with
    | true =>
      rw [hb] at h
      have h1 : some q.2 = some op := h
      cases h1
      have := Nat.eq_of_beq_eq_true hb
      subst this
      exact List.mem_cons_self
    | false =>
      rw [hb] at h
      exact List.mem_cons_of_mem _ (m_lk_mem h)
theorem m_val_use {cc : ByteArray} {C : MC} {pc : Nat} {op : Instr} (h : m_val cc C = true) (hl : m_lk C pc = some op) : ∃ n : Nat, decode cc pc = .ok (op, n) ∧ (n = m_len op ∨ m_len op = 0) := by
  have h1 := List.all_eq_true.mp h _ (m_lk_mem hl)
  dsimp only at h1
  split at h1
  · rename_i o n hd
    simp only [Bool.and_eq_true, Bool.or_eq_true, decide_eq_true_eq] at h1
    obtain ⟨rfl, h2⟩ := h1
    exact ⟨n, hd, h2⟩
  · cases h1
def r_ok (rt : Nat) (r : Option FieldType) : Bool := match r with
  | none => Nat.beq rt 0
  | some .int => Nat.beq rt 1
  | some .long => Nat.beq rt 2
  | some (.object _) => Nat.beq rt 3
  | some .boolean => Nat.beq rt 4
  | _ => false
def Ym (q : MJ) : Prop := q.2.1.cls = Rn q.1.1 ∧ plainName q.2.1.cls = true ∧ Jvm.Cond.code q.2.1 q.2.2.1 q.1.2.2.2.1 q.2.2.2 ∈ tb_w ∧ Jvm.Cond.initialized q.2.1.cls ∈ tb_w ∧ (q.2.1.cls ≠ "java/lang/invoke/MethodHandle" ∧ q.2.1.cls ≠ "java/lang/invoke/VarHandle") ∧ r_ok q.1.2.1 q.2.2.2 = true ∧ (q.1.2.2.2.2.1 = true → q.2.1.name = "<init>") ∧ q.1.2.2.2.1 ≤ 40
def LkV (own : Nat) (x : Nat × Nat) : Prop := match m_mj x.2 with
  | some q => Ym q ∧ Jvm.Cond.methodLink (Rn own) x.1 q.2.1 ∈ tb_w ∧ Jvm.Cond.instanceMethod q.2.1 ∈ tb_w ∧ Jvm.Cond.selects q.2.1.cls q.2.1 q.2.1 ∈ tb_w ∧ (parseMethodDescriptor q.2.1.desc).map (fun d => d.parameters.length) = some (q.1.2.2.1 - 1) ∧ 1 ≤ q.1.2.2.1 ∧ ∃ rr, vwCl[q.1.1]? = some rr
  | none => (x.2 = 1002 ∧ Jvm.Cond.methodLink (Rn own) x.1 yJ0_length_8abf5 ∈ tb_w) ∨ (x.2 = 1003 ∧ Jvm.Cond.methodLink (Rn own) x.1 yJ0_charAt_5068e ∈ tb_w)
def LkS (own : Nat) (x : Nat × Nat) : Prop := match m_mj x.2 with
  | some q => Ym q ∧ Jvm.Cond.methodLink (Rn own) x.1 q.2.1 ∈ tb_w ∧ Jvm.Cond.static q.2.1 ∈ tb_w ∧ (parseMethodDescriptor q.2.1.desc).map (fun d => d.parameters.length) = some q.1.2.2.1
  | none => (x.2 = 1001 ∧ Jvm.Cond.methodLink (Rn own) x.1 arraycopyName ∈ tb_w) ∨ (x.2 = 1004 ∧ Jvm.Cond.methodLink (Rn own) x.1 Lib.Math.max.name ∈ tb_w) ∨ (x.2 = 1005 ∧ Jvm.Cond.methodLink (Rn own) x.1 Lib.Math.min.name ∈ tb_w)
def LkI (own : Nat) (x : Nat × Nat) : Prop := match m_mj x.2 with
  | some q => Ym q ∧ (Jvm.Cond.methodLink (Rn own) x.1 q.2.1 ∈ tb_w ∨ (Rn own, x.1, q.2.1, RX11) ∈ m_nl) ∧ Jvm.Cond.instanceMethod q.2.1 ∈ tb_w ∧ q.2.1.name = "<init>" ∧ q.2.2.2 = none ∧ (parseMethodDescriptor q.2.1.desc).map (fun d => d.parameters.length) = some (q.1.2.2.1 - 1) ∧ 1 ≤ q.1.2.2.1
  | none => x.2 = 1000 ∧ Jvm.Cond.methodLink (Rn own) x.1 objectInit ∈ tb_w
set_option maxRecDepth 20000 in
theorem wi_11 : Jvm.Cond.initialized RX11 ∈ tb_w := tb_1 1 (by rfl) (by rfl)
set_option maxRecDepth 20000 in
theorem wi_0 : Jvm.Cond.initialized RX0 ∈ tb_w := tb_1 11 (by rfl) (by rfl)
set_option maxRecDepth 20000 in
theorem wi_1 : Jvm.Cond.initialized RX1 ∈ tb_w := tb_1 9 (by rfl) (by rfl)
set_option maxRecDepth 20000 in
theorem wi_2 : Jvm.Cond.initialized RX2 ∈ tb_w := tb_1 8 (by rfl) (by rfl)
set_option maxRecDepth 20000 in
theorem wi_3 : Jvm.Cond.initialized RX3 ∈ tb_w := tb_1 3 (by rfl) (by rfl)
set_option maxRecDepth 20000 in
theorem wi_4 : Jvm.Cond.initialized RX4 ∈ tb_w := tb_1 6 (by rfl) (by rfl)
set_option maxRecDepth 20000 in
theorem wi_5 : Jvm.Cond.initialized RX5 ∈ tb_w := tb_1 18 (by rfl) (by rfl)
set_option maxRecDepth 20000 in
theorem wi_6 : Jvm.Cond.initialized RX6 ∈ tb_w := tb_1 7 (by rfl) (by rfl)
set_option maxRecDepth 20000 in
theorem wi_7 : Jvm.Cond.initialized RX7 ∈ tb_w := tb_1 10 (by rfl) (by rfl)
set_option maxRecDepth 20000 in
theorem wi_8 : Jvm.Cond.initialized RX8 ∈ tb_w := tb_1 4 (by rfl) (by rfl)
set_option maxRecDepth 20000 in
theorem wi_9 : Jvm.Cond.initialized RX9 ∈ tb_w := tb_1 2 (by rfl) (by rfl)
set_option maxRecDepth 20000 in
theorem wi_10 : Jvm.Cond.initialized RX10 ∈ tb_w := tb_1 5 (by rfl) (by rfl)
set_option maxRecDepth 20000 in
theorem wi_12 : Jvm.Cond.initialized RX12 ∈ tb_w := tb_1 12 (by rfl) (by rfl)
set_option maxRecDepth 20000 in
theorem wi_14 : Jvm.Cond.initialized RJ6 ∈ tb_w := tb_1 20 (by rfl) (by rfl)
theorem ykX0_init : Ym (iX0_init, yX0_init, cX0_init, none) := ⟨rfl, by decide +kernel, wcX0_init, wi_0, by decide +kernel, rfl, by decide +kernel, by decide⟩
theorem ykX0_tryGoals : Ym (iX0_tryGoals, yX0_tryGoals, cX0_tryGoals, none) := ⟨rfl, by decide +kernel, wcX0_tryGoals, wi_0, by decide +kernel, rfl, by decide +kernel, by decide⟩
theorem ykX0_tryAsIs : Ym (iX0_tryAsIs, yX0_tryAsIs, cX0_tryAsIs, none) := ⟨rfl, by decide +kernel, wcX0_tryAsIs, wi_0, by decide +kernel, rfl, by decide +kernel, by decide⟩
theorem ykX0_seekEntry : Ym (iX0_seekEntry, yX0_seekEntry, cX0_seekEntry, none) := ⟨rfl, by decide +kernel, wcX0_seekEntry, wi_0, by decide +kernel, rfl, by decide +kernel, by decide⟩
theorem ykX0_tryPrefix : Ym (iX0_tryPrefix, yX0_tryPrefix, cX0_tryPrefix, none) := ⟨rfl, by decide +kernel, wcX0_tryPrefix, wi_0, by decide +kernel, rfl, by decide +kernel, by decide⟩
theorem ykX0_sendByEntry : Ym (iX0_sendByEntry, yX0_sendByEntry, cX0_sendByEntry, (some .boolean)) := ⟨rfl, by decide +kernel, wcX0_sendByEntry, wi_0, by decide +kernel, rfl, by decide +kernel, by decide⟩
theorem ykX0_seekChange : Ym (iX0_seekChange, yX0_seekChange, cX0_seekChange, none) := ⟨rfl, by decide +kernel, wcX0_seekChange, wi_0, by decide +kernel, rfl, by decide +kernel, by decide⟩
theorem ykX0_sendChanged : Ym (iX0_sendChanged, yX0_sendChanged, cX0_sendChanged, none) := ⟨rfl, by decide +kernel, wcX0_sendChanged, wi_0, by decide +kernel, rfl, by decide +kernel, by decide⟩
theorem ykX0_addSight : Ym (iX0_addSight, yX0_addSight, cX0_addSight, none) := ⟨rfl, by decide +kernel, wcX0_addSight, wi_0, by decide +kernel, rfl, by decide +kernel, by decide⟩
theorem ykX0_seekSight : Ym (iX0_seekSight, yX0_seekSight, cX0_seekSight, none) := ⟨rfl, by decide +kernel, wcX0_seekSight, wi_0, by decide +kernel, rfl, by decide +kernel, by decide⟩
theorem ykX0_mostAlike : Ym (iX0_mostAlike, yX0_mostAlike, cX0_mostAlike, (some .int)) := ⟨rfl, by decide +kernel, wcX0_mostAlike, wi_0, by decide +kernel, rfl, by decide +kernel, by decide⟩
theorem ykX1_init : Ym (iX1_init, yX1_init, cX1_init, none) := ⟨rfl, by decide +kernel, wcX1_init, wi_1, by decide +kernel, rfl, by decide +kernel, by decide⟩
theorem ykX1_draw : Ym (iX1_draw, yX1_draw, cX1_draw, none) := ⟨rfl, by decide +kernel, wcX1_draw, wi_1, by decide +kernel, rfl, by decide +kernel, by decide⟩
theorem ykX1_lay : Ym (iX1_lay, yX1_lay, cX1_lay, none) := ⟨rfl, by decide +kernel, wcX1_lay, wi_1, by decide +kernel, rfl, by decide +kernel, by decide⟩
theorem ykX1_entryFor : Ym (iX1_entryFor, yX1_entryFor, cX1_entryFor, (some .int)) := ⟨rfl, by decide +kernel, wcX1_entryFor, wi_1, by decide +kernel, rfl, by decide +kernel, by decide⟩
theorem ykX1_holeFor : Ym (iX1_holeFor, yX1_holeFor, cX1_holeFor, (some .int)) := ⟨rfl, by decide +kernel, wcX1_holeFor, wi_1, by decide +kernel, rfl, by decide +kernel, by decide⟩
theorem ykX1_digitsFor : Ym (iX1_digitsFor, yX1_digitsFor, cX1_digitsFor, (some .int)) := ⟨rfl, by decide +kernel, wcX1_digitsFor, wi_1, by decide +kernel, rfl, by decide +kernel, by decide⟩
theorem ykX1_howManyTo : Ym (iX1_howManyTo, yX1_howManyTo, cX1_howManyTo, (some .int)) := ⟨rfl, by decide +kernel, wcX1_howManyTo, wi_1, by decide +kernel, rfl, by decide +kernel, by decide⟩
theorem ykX1_leastTo : Ym (iX1_leastTo, yX1_leastTo, cX1_leastTo, (some .int)) := ⟨rfl, by decide +kernel, wcX1_leastTo, wi_1, by decide +kernel, rfl, by decide +kernel, by decide⟩
theorem ykX1_takeReading : Ym (iX1_takeReading, yX1_takeReading, cX1_takeReading, (some .boolean)) := ⟨rfl, by decide +kernel, wcX1_takeReading, wi_1, by decide +kernel, rfl, by decide +kernel, by decide⟩
theorem ykX1_isMeant : Ym (iX1_isMeant, yX1_isMeant, cX1_isMeant, (some .boolean)) := ⟨rfl, by decide +kernel, wcX1_isMeant, wi_1, by decide +kernel, rfl, by decide +kernel, by decide⟩
theorem ykX1_meantHoles : Ym (iX1_meantHoles, yX1_meantHoles, cX1_meantHoles, (some .int)) := ⟨rfl, by decide +kernel, wcX1_meantHoles, wi_1, by decide +kernel, rfl, by decide +kernel, by decide⟩
theorem ykX1_setToRead : Ym (iX1_setToRead, yX1_setToRead, cX1_setToRead, (some .int)) := ⟨rfl, by decide +kernel, wcX1_setToRead, wi_1, by decide +kernel, rfl, by decide +kernel, by decide⟩
theorem ykX1_decides : Ym (iX1_decides, yX1_decides, cX1_decides, (some .boolean)) := ⟨rfl, by decide +kernel, wcX1_decides, wi_1, by decide +kernel, rfl, by decide +kernel, by decide⟩
theorem ykX1_slipsOf : Ym (iX1_slipsOf, yX1_slipsOf, cX1_slipsOf, (some .int)) := ⟨rfl, by decide +kernel, wcX1_slipsOf, wi_1, by decide +kernel, rfl, by decide +kernel, by decide⟩
theorem ykX1_mostSlipping : Ym (iX1_mostSlipping, yX1_mostSlipping, cX1_mostSlipping, (some .int)) := ⟨rfl, by decide +kernel, wcX1_mostSlipping, wi_1, by decide +kernel, rfl, by decide +kernel, by decide⟩
theorem ykX1_idleEntries : Ym (iX1_idleEntries, yX1_idleEntries, cX1_idleEntries, (some .int)) := ⟨rfl, by decide +kernel, wcX1_idleEntries, wi_1, by decide +kernel, rfl, by decide +kernel, by decide⟩
theorem ykX1_fewestEntries : Ym (iX1_fewestEntries, yX1_fewestEntries, cX1_fewestEntries, (some .int)) := ⟨rfl, by decide +kernel, wcX1_fewestEntries, wi_1, by decide +kernel, rfl, by decide +kernel, by decide⟩
theorem ykX1_joinCosts : Ym (iX1_joinCosts, yX1_joinCosts, cX1_joinCosts, none) := ⟨rfl, by decide +kernel, wcX1_joinCosts, wi_1, by decide +kernel, rfl, by decide +kernel, by decide⟩
theorem ykX2_init : Ym (iX2_init, yX2_init, cX2_init, none) := ⟨rfl, by decide +kernel, wcX2_init, wi_2, by decide +kernel, rfl, by decide +kernel, by decide⟩
theorem ykX2_take : Ym (iX2_take, yX2_take, cX2_take, none) := ⟨rfl, by decide +kernel, wcX2_take, wi_2, by decide +kernel, rfl, by decide +kernel, by decide⟩
theorem ykX2_copyFrom : Ym (iX2_copyFrom, yX2_copyFrom, cX2_copyFrom, none) := ⟨rfl, by decide +kernel, wcX2_copyFrom, wi_2, by decide +kernel, rfl, by decide +kernel, by decide⟩
theorem ykX2_addNote : Ym (iX2_addNote, yX2_addNote, cX2_addNote, none) := ⟨rfl, by decide +kernel, wcX2_addNote, wi_2, by decide +kernel, rfl, by decide +kernel, by decide⟩
theorem ykX2_lastNotedTurn : Ym (iX2_lastNotedTurn, yX2_lastNotedTurn, cX2_lastNotedTurn, (some .int)) := ⟨rfl, by decide +kernel, wcX2_lastNotedTurn, wi_2, by decide +kernel, rfl, by decide +kernel, by decide⟩
theorem ykX2_notesHold : Ym (iX2_notesHold, yX2_notesHold, cX2_notesHold, (some .boolean)) := ⟨rfl, by decide +kernel, wcX2_notesHold, wi_2, by decide +kernel, rfl, by decide +kernel, by decide⟩
theorem ykX3_init : Ym (iX3_init, yX3_init, cX3_init, none) := ⟨rfl, by decide +kernel, wcX3_init, wi_3, by decide +kernel, rfl, by decide +kernel, by decide⟩
theorem ykX3_parse : Ym (iX3_parse, yX3_parse, cX3_parse, (some .int)) := ⟨rfl, by decide +kernel, wcX3_parse, wi_3, by decide +kernel, rfl, by decide +kernel, by decide⟩
theorem ykX3_takeClause : Ym (iX3_takeClause, yX3_takeClause, cX3_takeClause, (some .boolean)) := ⟨rfl, by decide +kernel, wcX3_takeClause, wi_3, by decide +kernel, rfl, by decide +kernel, by decide⟩
theorem ykX3_takeKind : Ym (iX3_takeKind, yX3_takeKind, cX3_takeKind, (some .int)) := ⟨rfl, by decide +kernel, wcX3_takeKind, wi_3, by decide +kernel, rfl, by decide +kernel, by decide⟩
theorem ykX3_tooMany : Ym (iX3_tooMany, yX3_tooMany, cX3_tooMany, (some .boolean)) := ⟨rfl, by decide +kernel, wcX3_tooMany, wi_3, by decide +kernel, rfl, by decide +kernel, by decide⟩
theorem ykX3_takeShape : Ym (iX3_takeShape, yX3_takeShape, cX3_takeShape, (some .boolean)) := ⟨rfl, by decide +kernel, wcX3_takeShape, wi_3, by decide +kernel, rfl, by decide +kernel, by decide⟩
theorem ykX3_takeRoom : Ym (iX3_takeRoom, yX3_takeRoom, cX3_takeRoom, (some .boolean)) := ⟨rfl, by decide +kernel, wcX3_takeRoom, wi_3, by decide +kernel, rfl, by decide +kernel, by decide⟩
theorem ykX3_takeEntry : Ym (iX3_takeEntry, yX3_takeEntry, cX3_takeEntry, (some .boolean)) := ⟨rfl, by decide +kernel, wcX3_takeEntry, wi_3, by decide +kernel, rfl, by decide +kernel, by decide⟩
theorem ykX3_takeLetter : Ym (iX3_takeLetter, yX3_takeLetter, cX3_takeLetter, (some .boolean)) := ⟨rfl, by decide +kernel, wcX3_takeLetter, wi_3, by decide +kernel, rfl, by decide +kernel, by decide⟩
theorem ykX4_init : Ym (iX4_init, yX4_init, cX4_init, none) := ⟨rfl, by decide +kernel, wcX4_init, wi_4, by decide +kernel, rfl, by decide +kernel, by decide⟩
theorem ykX4_copyFrom : Ym (iX4_copyFrom, yX4_copyFrom, cX4_copyFrom, none) := ⟨rfl, by decide +kernel, wcX4_copyFrom, wi_4, by decide +kernel, rfl, by decide +kernel, by decide⟩
theorem ykX4_has : Ym (iX4_has, yX4_has, cX4_has, (some .boolean)) := ⟨rfl, by decide +kernel, wcX4_has, wi_4, by decide +kernel, rfl, by decide +kernel, by decide⟩
theorem ykX4_find : Ym (iX4_find, yX4_find, cX4_find, (some .int)) := ⟨rfl, by decide +kernel, wcX4_find, wi_4, by decide +kernel, rfl, by decide +kernel, by decide⟩
theorem ykX4_canTake : Ym (iX4_canTake, yX4_canTake, cX4_canTake, (some .boolean)) := ⟨rfl, by decide +kernel, wcX4_canTake, wi_4, by decide +kernel, rfl, by decide +kernel, by decide⟩
theorem ykX4_put : Ym (iX4_put, yX4_put, cX4_put, (some .int)) := ⟨rfl, by decide +kernel, wcX4_put, wi_4, by decide +kernel, rfl, by decide +kernel, by decide⟩
theorem ykX4_drop : Ym (iX4_drop, yX4_drop, cX4_drop, none) := ⟨rfl, by decide +kernel, wcX4_drop, wi_4, by decide +kernel, rfl, by decide +kernel, by decide⟩
theorem ykX5_init : Ym (iX5_init, yX5_init, cX5_init, none) := ⟨rfl, by decide +kernel, wcX5_init, wi_5, by decide +kernel, rfl, by decide +kernel, by decide⟩
theorem ykX5_worth : Ym (iX5_worth, yX5_worth, cX5_worth, (some .long)) := ⟨rfl, by decide +kernel, wcX5_worth, wi_5, by decide +kernel, rfl, by decide +kernel, by decide⟩
theorem ykX5_run : Ym (iX5_run, yX5_run, cX5_run, (some .long)) := ⟨rfl, by decide +kernel, wcX5_run, wi_5, by decide +kernel, rfl, by decide +kernel, by decide⟩
theorem ykX5_join : Ym (iX5_join, yX5_join, cX5_join, (some .long)) := ⟨rfl, by decide +kernel, wcX5_join, wi_5, by decide +kernel, rfl, by decide +kernel, by decide⟩
theorem ykX6_init : Ym (iX6_init, yX6_init, cX6_init, none) := ⟨rfl, by decide +kernel, wcX6_init, wi_6, by decide +kernel, rfl, by decide +kernel, by decide⟩
theorem ykX6_parse : Ym (iX6_parse, yX6_parse, cX6_parse, (some .int)) := ⟨rfl, by decide +kernel, wcX6_parse, wi_6, by decide +kernel, rfl, by decide +kernel, by decide⟩
theorem ykX6_takeTest : Ym (iX6_takeTest, yX6_takeTest, cX6_takeTest, (some .boolean)) := ⟨rfl, by decide +kernel, wcX6_takeTest, wi_6, by decide +kernel, rfl, by decide +kernel, by decide⟩
theorem ykX6_takeFact : Ym (iX6_takeFact, yX6_takeFact, cX6_takeFact, (some .boolean)) := ⟨rfl, by decide +kernel, wcX6_takeFact, wi_6, by decide +kernel, rfl, by decide +kernel, by decide⟩
theorem ykX6_takeComparison : Ym (iX6_takeComparison, yX6_takeComparison, cX6_takeComparison, (some .int)) := ⟨rfl, by decide +kernel, wcX6_takeComparison, wi_6, by decide +kernel, rfl, by decide +kernel, by decide⟩
theorem ykX6_takeSum : Ym (iX6_takeSum, yX6_takeSum, cX6_takeSum, (some .boolean)) := ⟨rfl, by decide +kernel, wcX6_takeSum, wi_6, by decide +kernel, rfl, by decide +kernel, by decide⟩
theorem ykX6_takeValue : Ym (iX6_takeValue, yX6_takeValue, cX6_takeValue, (some .boolean)) := ⟨rfl, by decide +kernel, wcX6_takeValue, wi_6, by decide +kernel, rfl, by decide +kernel, by decide⟩
theorem ykX6_countPart : Ym (iX6_countPart, yX6_countPart, cX6_countPart, (some .boolean)) := ⟨rfl, by decide +kernel, wcX6_countPart, wi_6, by decide +kernel, rfl, by decide +kernel, by decide⟩
theorem ykX6_put : Ym (iX6_put, yX6_put, cX6_put, (some .boolean)) := ⟨rfl, by decide +kernel, wcX6_put, wi_6, by decide +kernel, rfl, by decide +kernel, by decide⟩
theorem ykX6_joinOf : Ym (iX6_joinOf, yX6_joinOf, cX6_joinOf, (some .int)) := ⟨rfl, by decide +kernel, wcX6_joinOf, wi_6, by decide +kernel, rfl, by decide +kernel, by decide⟩
theorem ykX6_textOf : Ym (iX6_textOf, yX6_textOf, cX6_textOf, (some (.object "java/lang/String"))) := ⟨rfl, by decide +kernel, wcX6_textOf, wi_6, by decide +kernel, rfl, by decide +kernel, by decide⟩
theorem ykX7_init : Ym (iX7_init, yX7_init, cX7_init, none) := ⟨rfl, by decide +kernel, wcX7_init, wi_7, by decide +kernel, rfl, by decide +kernel, by decide⟩
theorem ykX7_start : Ym (iX7_start, yX7_start, cX7_start, none) := ⟨rfl, by decide +kernel, wcX7_start, wi_7, by decide +kernel, rfl, by decide +kernel, by decide⟩
theorem ykX7_step : Ym (iX7_step, yX7_step, cX7_step, (some .int)) := ⟨rfl, by decide +kernel, wcX7_step, wi_7, by decide +kernel, rfl, by decide +kernel, by decide⟩
theorem ykX7_lay : Ym (iX7_lay, yX7_lay, cX7_lay, none) := ⟨rfl, by decide +kernel, wcX7_lay, wi_7, by decide +kernel, rfl, by decide +kernel, by decide⟩
theorem ykX7_choose : Ym (iX7_choose, yX7_choose, cX7_choose, (some .int)) := ⟨rfl, by decide +kernel, wcX7_choose, wi_7, by decide +kernel, rfl, by decide +kernel, by decide⟩
theorem ykX7_describe : Ym (iX7_describe, yX7_describe, cX7_describe, none) := ⟨rfl, by decide +kernel, wcX7_describe, wi_7, by decide +kernel, rfl, by decide +kernel, by decide⟩
theorem ykX7_steps : Ym (iX7_steps, yX7_steps, cX7_steps, none) := ⟨rfl, by decide +kernel, wcX7_steps, wi_7, by decide +kernel, rfl, by decide +kernel, by decide⟩
theorem ykX7_turnOfSorting : Ym (iX7_turnOfSorting, yX7_turnOfSorting, cX7_turnOfSorting, (some .int)) := ⟨rfl, by decide +kernel, wcX7_turnOfSorting, wi_7, by decide +kernel, rfl, by decide +kernel, by decide⟩
theorem ykX7_turnOfTying : Ym (iX7_turnOfTying, yX7_turnOfTying, cX7_turnOfTying, (some .int)) := ⟨rfl, by decide +kernel, wcX7_turnOfTying, wi_7, by decide +kernel, rfl, by decide +kernel, by decide⟩
theorem ykX7_agrees : Ym (iX7_agrees, yX7_agrees, cX7_agrees, (some .boolean)) := ⟨rfl, by decide +kernel, wcX7_agrees, wi_7, by decide +kernel, rfl, by decide +kernel, by decide⟩
theorem ykX7_stepsWithPosts : Ym (iX7_stepsWithPosts, yX7_stepsWithPosts, cX7_stepsWithPosts, none) := ⟨rfl, by decide +kernel, wcX7_stepsWithPosts, wi_7, by decide +kernel, rfl, by decide +kernel, by decide⟩
theorem ykX7_draw : Ym (iX7_draw, yX7_draw, cX7_draw, (some .int)) := ⟨rfl, by decide +kernel, wcX7_draw, wi_7, by decide +kernel, rfl, by decide +kernel, by decide⟩
theorem ykX8_init : Ym (iX8_init, yX8_init, cX8_init, none) := ⟨rfl, by decide +kernel, wcX8_init, wi_8, by decide +kernel, rfl, by decide +kernel, by decide⟩
theorem ykX8_lay : Ym (iX8_lay, yX8_lay, cX8_lay, none) := ⟨rfl, by decide +kernel, wcX8_lay, wi_8, by decide +kernel, rfl, by decide +kernel, by decide⟩
theorem ykX8_copyFrom : Ym (iX8_copyFrom, yX8_copyFrom, cX8_copyFrom, none) := ⟨rfl, by decide +kernel, wcX8_copyFrom, wi_8, by decide +kernel, rfl, by decide +kernel, by decide⟩
theorem ykX8_hasHole : Ym (iX8_hasHole, yX8_hasHole, cX8_hasHole, (some .boolean)) := ⟨rfl, by decide +kernel, wcX8_hasHole, wi_8, by decide +kernel, rfl, by decide +kernel, by decide⟩
theorem ykX8_hasCode : Ym (iX8_hasCode, yX8_hasCode, cX8_hasCode, (some .boolean)) := ⟨rfl, by decide +kernel, wcX8_hasCode, wi_8, by decide +kernel, rfl, by decide +kernel, by decide⟩
theorem ykX8_hasPrefix : Ym (iX8_hasPrefix, yX8_hasPrefix, cX8_hasPrefix, (some .boolean)) := ⟨rfl, by decide +kernel, wcX8_hasPrefix, wi_8, by decide +kernel, rfl, by decide +kernel, by decide⟩
theorem ykX8_prefixesOf : Ym (iX8_prefixesOf, yX8_prefixesOf, cX8_prefixesOf, (some .int)) := ⟨rfl, by decide +kernel, wcX8_prefixesOf, wi_8, by decide +kernel, rfl, by decide +kernel, by decide⟩
theorem ykX8_spanOf : Ym (iX8_spanOf, yX8_spanOf, cX8_spanOf, (some .int)) := ⟨rfl, by decide +kernel, wcX8_spanOf, wi_8, by decide +kernel, rfl, by decide +kernel, by decide⟩
theorem ykX8_prefixOf : Ym (iX8_prefixOf, yX8_prefixOf, cX8_prefixOf, (some .int)) := ⟨rfl, by decide +kernel, wcX8_prefixOf, wi_8, by decide +kernel, rfl, by decide +kernel, by decide⟩
theorem ykX8_digitOf : Ym (iX8_digitOf, yX8_digitOf, cX8_digitOf, (some .int)) := ⟨rfl, by decide +kernel, wcX8_digitOf, wi_8, by decide +kernel, rfl, by decide +kernel, by decide⟩
theorem ykX9_init : Ym (iX9_init, yX9_init, cX9_init, none) := ⟨rfl, by decide +kernel, wcX9_init, wi_9, by decide +kernel, rfl, by decide +kernel, by decide⟩
theorem ykX9_add : Ym (iX9_add, yX9_add, cX9_add, none) := ⟨rfl, by decide +kernel, wcX9_add, wi_9, by decide +kernel, rfl, by decide +kernel, by decide⟩
theorem ykX9_rewind : Ym (iX9_rewind, yX9_rewind, cX9_rewind, none) := ⟨rfl, by decide +kernel, wcX9_rewind, wi_9, by decide +kernel, rfl, by decide +kernel, by decide⟩
theorem ykX9_fail : Ym (iX9_fail, yX9_fail, cX9_fail, (some .boolean)) := ⟨rfl, by decide +kernel, wcX9_fail, wi_9, by decide +kernel, rfl, by decide +kernel, by decide⟩
theorem ykX9_byteAt : Ym (iX9_byteAt, yX9_byteAt, cX9_byteAt, (some .int)) := ⟨rfl, by decide +kernel, wcX9_byteAt, wi_9, by decide +kernel, rfl, by decide +kernel, by decide⟩
theorem ykX9_next : Ym (iX9_next, yX9_next, cX9_next, (some .int)) := ⟨rfl, by decide +kernel, wcX9_next, wi_9, by decide +kernel, rfl, by decide +kernel, by decide⟩
theorem ykX9_takeByte : Ym (iX9_takeByte, yX9_takeByte, cX9_takeByte, (some .boolean)) := ⟨rfl, by decide +kernel, wcX9_takeByte, wi_9, by decide +kernel, rfl, by decide +kernel, by decide⟩
theorem ykX9_takeWord : Ym (iX9_takeWord, yX9_takeWord, cX9_takeWord, (some .boolean)) := ⟨rfl, by decide +kernel, wcX9_takeWord, wi_9, by decide +kernel, rfl, by decide +kernel, by decide⟩
theorem ykX9_takeNumber : Ym (iX9_takeNumber, yX9_takeNumber, cX9_takeNumber, (some .int)) := ⟨rfl, by decide +kernel, wcX9_takeNumber, wi_9, by decide +kernel, rfl, by decide +kernel, by decide⟩
theorem ykX9_takeSemicolon : Ym (iX9_takeSemicolon, yX9_takeSemicolon, cX9_takeSemicolon, (some .boolean)) := ⟨rfl, by decide +kernel, wcX9_takeSemicolon, wi_9, by decide +kernel, rfl, by decide +kernel, by decide⟩
theorem ykX9_isDigit : Ym (iX9_isDigit, yX9_isDigit, cX9_isDigit, (some .boolean)) := ⟨rfl, by decide +kernel, wcX9_isDigit, wi_9, by decide +kernel, rfl, by decide +kernel, by decide⟩
theorem ykX10_init : Ym (iX10_init, yX10_init, cX10_init, none) := ⟨rfl, by decide +kernel, wcX10_init, wi_10, by decide +kernel, rfl, by decide +kernel, by decide⟩
theorem ykX10_clear : Ym (iX10_clear, yX10_clear, cX10_clear, none) := ⟨rfl, by decide +kernel, wcX10_clear, wi_10, by decide +kernel, rfl, by decide +kernel, by decide⟩
theorem ykX10_copyFrom : Ym (iX10_copyFrom, yX10_copyFrom, cX10_copyFrom, none) := ⟨rfl, by decide +kernel, wcX10_copyFrom, wi_10, by decide +kernel, rfl, by decide +kernel, by decide⟩
theorem ykX10_queue : Ym (iX10_queue, yX10_queue, cX10_queue, none) := ⟨rfl, by decide +kernel, wcX10_queue, wi_10, by decide +kernel, rfl, by decide +kernel, by decide⟩
theorem ykX10_takeOut : Ym (iX10_takeOut, yX10_takeOut, cX10_takeOut, (some .int)) := ⟨rfl, by decide +kernel, wcX10_takeOut, wi_10, by decide +kernel, rfl, by decide +kernel, by decide⟩
theorem ykX10_bagUp : Ym (iX10_bagUp, yX10_bagUp, cX10_bagUp, none) := ⟨rfl, by decide +kernel, wcX10_bagUp, wi_10, by decide +kernel, rfl, by decide +kernel, by decide⟩
theorem ykX10_lyingInAll : Ym (iX10_lyingInAll, yX10_lyingInAll, cX10_lyingInAll, (some .int)) := ⟨rfl, by decide +kernel, wcX10_lyingInAll, wi_10, by decide +kernel, rfl, by decide +kernel, by decide⟩
theorem ykX10_bagsOfAll : Ym (iX10_bagsOfAll, yX10_bagsOfAll, cX10_bagsOfAll, (some .int)) := ⟨rfl, by decide +kernel, wcX10_bagsOfAll, wi_10, by decide +kernel, rfl, by decide +kernel, by decide⟩
theorem ykX10_shareOf : Ym (iX10_shareOf, yX10_shareOf, cX10_shareOf, (some .int)) := ⟨rfl, by decide +kernel, wcX10_shareOf, wi_10, by decide +kernel, rfl, by decide +kernel, by decide⟩
theorem ykX10_sumOf : Ym (iX10_sumOf, yX10_sumOf, cX10_sumOf, (some .int)) := ⟨rfl, by decide +kernel, wcX10_sumOf, wi_10, by decide +kernel, rfl, by decide +kernel, by decide⟩
theorem ykX11_init : Ym (iX11_init, yX11_init, cX11_init, none) := ⟨rfl, by decide +kernel, wcX11_init, wi_11, by decide +kernel, rfl, by decide +kernel, by decide⟩
theorem ykX11_feed : Ym (iX11_feed, yX11_feed, cX11_feed, (some .int)) := ⟨rfl, by decide +kernel, wcX11_feed, wi_11, by decide +kernel, rfl, by decide +kernel, by decide⟩
theorem ykX11_end : Ym (iX11_end, yX11_end, cX11_end, (some .int)) := ⟨rfl, by decide +kernel, wcX11_end, wi_11, by decide +kernel, rfl, by decide +kernel, by decide⟩
theorem ykX11_frame : Ym (iX11_frame, yX11_frame, cX11_frame, (some .int)) := ⟨rfl, by decide +kernel, wcX11_frame, wi_11, by decide +kernel, rfl, by decide +kernel, by decide⟩
theorem ykX11_rule : Ym (iX11_rule, yX11_rule, cX11_rule, (some .int)) := ⟨rfl, by decide +kernel, wcX11_rule, wi_11, by decide +kernel, rfl, by decide +kernel, by decide⟩
theorem ykX11_force : Ym (iX11_force, yX11_force, cX11_force, (some .int)) := ⟨rfl, by decide +kernel, wcX11_force, wi_11, by decide +kernel, rfl, by decide +kernel, by decide⟩
theorem ykX11_hole : Ym (iX11_hole, yX11_hole, cX11_hole, (some .int)) := ⟨rfl, by decide +kernel, wcX11_hole, wi_11, by decide +kernel, rfl, by decide +kernel, by decide⟩
theorem ykX11_entry : Ym (iX11_entry, yX11_entry, cX11_entry, (some .int)) := ⟨rfl, by decide +kernel, wcX11_entry, wi_11, by decide +kernel, rfl, by decide +kernel, by decide⟩
theorem ykX11_waits : Ym (iX11_waits, yX11_waits, cX11_waits, (some .int)) := ⟨rfl, by decide +kernel, wcX11_waits, wi_11, by decide +kernel, rfl, by decide +kernel, by decide⟩
theorem ykX11_count : Ym (iX11_count, yX11_count, cX11_count, (some .int)) := ⟨rfl, by decide +kernel, wcX11_count, wi_11, by decide +kernel, rfl, by decide +kernel, by decide⟩
theorem ykX11_turn : Ym (iX11_turn, yX11_turn, cX11_turn, (some .int)) := ⟨rfl, by decide +kernel, wcX11_turn, wi_11, by decide +kernel, rfl, by decide +kernel, by decide⟩
theorem ykX11_post : Ym (iX11_post, yX11_post, cX11_post, (some .int)) := ⟨rfl, by decide +kernel, wcX11_post, wi_11, by decide +kernel, rfl, by decide +kernel, by decide⟩
theorem ykX11_tie : Ym (iX11_tie, yX11_tie, cX11_tie, (some .int)) := ⟨rfl, by decide +kernel, wcX11_tie, wi_11, by decide +kernel, rfl, by decide +kernel, by decide⟩
theorem ykX11_enter : Ym (iX11_enter, yX11_enter, cX11_enter, (some .int)) := ⟨rfl, by decide +kernel, wcX11_enter, wi_11, by decide +kernel, rfl, by decide +kernel, by decide⟩
theorem ykX11_strike : Ym (iX11_strike, yX11_strike, cX11_strike, (some .int)) := ⟨rfl, by decide +kernel, wcX11_strike, wi_11, by decide +kernel, rfl, by decide +kernel, by decide⟩
theorem ykX11_undo : Ym (iX11_undo, yX11_undo, cX11_undo, (some .int)) := ⟨rfl, by decide +kernel, wcX11_undo, wi_11, by decide +kernel, rfl, by decide +kernel, by decide⟩
theorem ykX11_where : Ym (iX11_where, yX11_where, cX11_where, (some .int)) := ⟨rfl, by decide +kernel, wcX11_where, wi_11, by decide +kernel, rfl, by decide +kernel, by decide⟩
theorem ykX11_may : Ym (iX11_may, yX11_may, cX11_may, (some .int)) := ⟨rfl, by decide +kernel, wcX11_may, wi_11, by decide +kernel, rfl, by decide +kernel, by decide⟩
theorem ykX11_read : Ym (iX11_read, yX11_read, cX11_read, (some .int)) := ⟨rfl, by decide +kernel, wcX11_read, wi_11, by decide +kernel, rfl, by decide +kernel, by decide⟩
theorem ykX11_codes : Ym (iX11_codes, yX11_codes, cX11_codes, (some .int)) := ⟨rfl, by decide +kernel, wcX11_codes, wi_11, by decide +kernel, rfl, by decide +kernel, by decide⟩
theorem ykX11_slips : Ym (iX11_slips, yX11_slips, cX11_slips, (some .int)) := ⟨rfl, by decide +kernel, wcX11_slips, wi_11, by decide +kernel, rfl, by decide +kernel, by decide⟩
theorem ykX11_worst : Ym (iX11_worst, yX11_worst, cX11_worst, (some .int)) := ⟨rfl, by decide +kernel, wcX11_worst, wi_11, by decide +kernel, rfl, by decide +kernel, by decide⟩
theorem ykX11_idle : Ym (iX11_idle, yX11_idle, cX11_idle, (some .int)) := ⟨rfl, by decide +kernel, wcX11_idle, wi_11, by decide +kernel, rfl, by decide +kernel, by decide⟩
theorem ykX11_least : Ym (iX11_least, yX11_least, cX11_least, (some .int)) := ⟨rfl, by decide +kernel, wcX11_least, wi_11, by decide +kernel, rfl, by decide +kernel, by decide⟩
theorem ykX11_one : Ym (iX11_one, yX11_one, cX11_one, (some .int)) := ⟨rfl, by decide +kernel, wcX11_one, wi_11, by decide +kernel, rfl, by decide +kernel, by decide⟩
theorem ykX11_change : Ym (iX11_change, yX11_change, cX11_change, (some .int)) := ⟨rfl, by decide +kernel, wcX11_change, wi_11, by decide +kernel, rfl, by decide +kernel, by decide⟩
theorem ykX11_ahead : Ym (iX11_ahead, yX11_ahead, cX11_ahead, (some .int)) := ⟨rfl, by decide +kernel, wcX11_ahead, wi_11, by decide +kernel, rfl, by decide +kernel, by decide⟩
theorem ykX11_sorted : Ym (iX11_sorted, yX11_sorted, cX11_sorted, (some .int)) := ⟨rfl, by decide +kernel, wcX11_sorted, wi_11, by decide +kernel, rfl, by decide +kernel, by decide⟩
theorem ykX11_tied : Ym (iX11_tied, yX11_tied, cX11_tied, (some .int)) := ⟨rfl, by decide +kernel, wcX11_tied, wi_11, by decide +kernel, rfl, by decide +kernel, by decide⟩
theorem ykX11_enough : Ym (iX11_enough, yX11_enough, cX11_enough, (some .int)) := ⟨rfl, by decide +kernel, wcX11_enough, wi_11, by decide +kernel, rfl, by decide +kernel, by decide⟩
theorem ykX11_said : Ym (iX11_said, yX11_said, cX11_said, (some .int)) := ⟨rfl, by decide +kernel, wcX11_said, wi_11, by decide +kernel, rfl, by decide +kernel, by decide⟩
theorem ykX11_sent : Ym (iX11_sent, yX11_sent, cX11_sent, (some .int)) := ⟨rfl, by decide +kernel, wcX11_sent, wi_11, by decide +kernel, rfl, by decide +kernel, by decide⟩
theorem ykX11_pence : Ym (iX11_pence, yX11_pence, cX11_pence, (some .int)) := ⟨rfl, by decide +kernel, wcX11_pence, wi_11, by decide +kernel, rfl, by decide +kernel, by decide⟩
theorem ykX11_note : Ym (iX11_note, yX11_note, cX11_note, (some .int)) := ⟨rfl, by decide +kernel, wcX11_note, wi_11, by decide +kernel, rfl, by decide +kernel, by decide⟩
theorem ykX11_ruled : Ym (iX11_ruled, yX11_ruled, cX11_ruled, (some .int)) := ⟨rfl, by decide +kernel, wcX11_ruled, wi_11, by decide +kernel, rfl, by decide +kernel, by decide⟩
theorem ykX11_look : Ym (iX11_look, yX11_look, cX11_look, (some .int)) := ⟨rfl, by decide +kernel, wcX11_look, wi_11, by decide +kernel, rfl, by decide +kernel, by decide⟩
theorem ykX11_seed : Ym (iX11_seed, yX11_seed, cX11_seed, (some .int)) := ⟨rfl, by decide +kernel, wcX11_seed, wi_11, by decide +kernel, rfl, by decide +kernel, by decide⟩
theorem ykX11_posts : Ym (iX11_posts, yX11_posts, cX11_posts, (some .int)) := ⟨rfl, by decide +kernel, wcX11_posts, wi_11, by decide +kernel, rfl, by decide +kernel, by decide⟩
theorem ykX11_image : Ym (iX11_image, yX11_image, cX11_image, (some .int)) := ⟨rfl, by decide +kernel, wcX11_image, wi_11, by decide +kernel, rfl, by decide +kernel, by decide⟩
theorem ykX11_back : Ym (iX11_back, yX11_back, cX11_back, (some .int)) := ⟨rfl, by decide +kernel, wcX11_back, wi_11, by decide +kernel, rfl, by decide +kernel, by decide⟩
theorem ykX11_hasFrame : Ym (iX11_hasFrame, yX11_hasFrame, cX11_hasFrame, (some .boolean)) := ⟨rfl, by decide +kernel, wcX11_hasFrame, wi_11, by decide +kernel, rfl, by decide +kernel, by decide⟩
theorem ykX11_ruleAt : Ym (iX11_ruleAt, yX11_ruleAt, cX11_ruleAt, (some (.object "PostFrame$Rule"))) := ⟨rfl, by decide +kernel, wcX11_ruleAt, wi_11, by decide +kernel, rfl, by decide +kernel, by decide⟩
theorem ykX11_ruleInForce : Ym (iX11_ruleInForce, yX11_ruleInForce, cX11_ruleInForce, (some (.object "PostFrame$Rule"))) := ⟨rfl, by decide +kernel, wcX11_ruleInForce, wi_11, by decide +kernel, rfl, by decide +kernel, by decide⟩
theorem ykX11_remember : Ym (iX11_remember, yX11_remember, cX11_remember, none) := ⟨rfl, by decide +kernel, wcX11_remember, wi_11, by decide +kernel, rfl, by decide +kernel, by decide⟩
theorem ykX11_drawNow : Ym (iX11_drawNow, yX11_drawNow, cX11_drawNow, none) := ⟨rfl, by decide +kernel, wcX11_drawNow, wi_11, by decide +kernel, rfl, by decide +kernel, by decide⟩
theorem ykX11_startFromNow : Ym (iX11_startFromNow, yX11_startFromNow, cX11_startFromNow, none) := ⟨rfl, by decide +kernel, wcX11_startFromNow, wi_11, by decide +kernel, rfl, by decide +kernel, by decide⟩
theorem ykX12_init : Ym (iX12_init, yX12_init, cX12_init, none) := ⟨rfl, by decide +kernel, wcX12_init, wi_12, by decide +kernel, rfl, by decide +kernel, by decide⟩
theorem ykX12_in : Ym (iX12_in, yX12_in, cX12_in, (some .boolean)) := ⟨rfl, by decide +kernel, wcX12_in, wi_12, by decide +kernel, rfl, by decide +kernel, by decide⟩
theorem ykX12_isOf : Ym (iX12_isOf, yX12_isOf, cX12_isOf, (some .boolean)) := ⟨rfl, by decide +kernel, wcX12_isOf, wi_12, by decide +kernel, rfl, by decide +kernel, by decide⟩
theorem ykX12_bits : Ym (iX12_bits, yX12_bits, cX12_bits, (some .int)) := ⟨rfl, by decide +kernel, wcX12_bits, wi_12, by decide +kernel, rfl, by decide +kernel, by decide⟩
theorem ykX12_power : Ym (iX12_power, yX12_power, cX12_power, (some .int)) := ⟨rfl, by decide +kernel, wcX12_power, wi_12, by decide +kernel, rfl, by decide +kernel, by decide⟩
theorem ykX12_four : Ym (iX12_four, yX12_four, cX12_four, none) := ⟨rfl, by decide +kernel, wcX12_four, wi_12, by decide +kernel, rfl, by decide +kernel, by decide⟩
theorem ykX12_feed : Ym (iX12_feed, yX12_feed, cX12_feed, (some .int)) := ⟨rfl, by decide +kernel, wcX12_feed, wi_12, by decide +kernel, rfl, by decide +kernel, by decide⟩
theorem ykX12_end : Ym (iX12_end, yX12_end, cX12_end, (some .int)) := ⟨rfl, by decide +kernel, wcX12_end, wi_12, by decide +kernel, rfl, by decide +kernel, by decide⟩
theorem ykX12_fails : Ym (iX12_fails, yX12_fails, cX12_fails, (some .boolean)) := ⟨rfl, by decide +kernel, wcX12_fails, wi_12, by decide +kernel, rfl, by decide +kernel, by decide⟩
theorem ykX12_see : Ym (iX12_see, yX12_see, cX12_see, (some .int)) := ⟨rfl, by decide +kernel, wcX12_see, wi_12, by decide +kernel, rfl, by decide +kernel, by decide⟩
theorem ykX12_isDigit : Ym (iX12_isDigit, yX12_isDigit, cX12_isDigit, (some .boolean)) := ⟨rfl, by decide +kernel, wcX12_isDigit, wi_12, by decide +kernel, rfl, by decide +kernel, by decide⟩
theorem ykX12_isLetter : Ym (iX12_isLetter, yX12_isLetter, cX12_isLetter, (some .boolean)) := ⟨rfl, by decide +kernel, wcX12_isLetter, wi_12, by decide +kernel, rfl, by decide +kernel, by decide⟩
theorem ykX12_isWord : Ym (iX12_isWord, yX12_isWord, cX12_isWord, (some .boolean)) := ⟨rfl, by decide +kernel, wcX12_isWord, wi_12, by decide +kernel, rfl, by decide +kernel, by decide⟩
theorem ykX12_passWord : Ym (iX12_passWord, yX12_passWord, cX12_passWord, none) := ⟨rfl, by decide +kernel, wcX12_passWord, wi_12, by decide +kernel, rfl, by decide +kernel, by decide⟩
theorem ykX12_takesWord : Ym (iX12_takesWord, yX12_takesWord, cX12_takesWord, (some .boolean)) := ⟨rfl, by decide +kernel, wcX12_takesWord, wi_12, by decide +kernel, rfl, by decide +kernel, by decide⟩
theorem ykX12_numberHere : Ym (iX12_numberHere, yX12_numberHere, cX12_numberHere, (some .boolean)) := ⟨rfl, by decide +kernel, wcX12_numberHere, wi_12, by decide +kernel, rfl, by decide +kernel, by decide⟩
theorem ykX12_wordHere : Ym (iX12_wordHere, yX12_wordHere, cX12_wordHere, (some .int)) := ⟨rfl, by decide +kernel, wcX12_wordHere, wi_12, by decide +kernel, rfl, by decide +kernel, by decide⟩
theorem ykX12_puts : Ym (iX12_puts, yX12_puts, cX12_puts, none) := ⟨rfl, by decide +kernel, wcX12_puts, wi_12, by decide +kernel, rfl, by decide +kernel, by decide⟩
theorem ykX12_makes : Ym (iX12_makes, yX12_makes, cX12_makes, (some .boolean)) := ⟨rfl, by decide +kernel, wcX12_makes, wi_12, by decide +kernel, rfl, by decide +kernel, by decide⟩
theorem ykX12_opens : Ym (iX12_opens, yX12_opens, cX12_opens, (some .boolean)) := ⟨rfl, by decide +kernel, wcX12_opens, wi_12, by decide +kernel, rfl, by decide +kernel, by decide⟩
theorem ykX12_strength : Ym (iX12_strength, yX12_strength, cX12_strength, (some .int)) := ⟨rfl, by decide +kernel, wcX12_strength, wi_12, by decide +kernel, rfl, by decide +kernel, by decide⟩
theorem ykX12_layDown : Ym (iX12_layDown, yX12_layDown, cX12_layDown, none) := ⟨rfl, by decide +kernel, wcX12_layDown, wi_12, by decide +kernel, rfl, by decide +kernel, by decide⟩
theorem ykX12_value : Ym (iX12_value, yX12_value, cX12_value, (some .boolean)) := ⟨rfl, by decide +kernel, wcX12_value, wi_12, by decide +kernel, rfl, by decide +kernel, by decide⟩
theorem ykX12_term : Ym (iX12_term, yX12_term, cX12_term, (some .boolean)) := ⟨rfl, by decide +kernel, wcX12_term, wi_12, by decide +kernel, rfl, by decide +kernel, by decide⟩
theorem ykX12_sum : Ym (iX12_sum, yX12_sum, cX12_sum, (some .boolean)) := ⟨rfl, by decide +kernel, wcX12_sum, wi_12, by decide +kernel, rfl, by decide +kernel, by decide⟩
theorem ykX12_compare : Ym (iX12_compare, yX12_compare, cX12_compare, (some .boolean)) := ⟨rfl, by decide +kernel, wcX12_compare, wi_12, by decide +kernel, rfl, by decide +kernel, by decide⟩
theorem ykX12_fact : Ym (iX12_fact, yX12_fact, cX12_fact, (some .boolean)) := ⟨rfl, by decide +kernel, wcX12_fact, wi_12, by decide +kernel, rfl, by decide +kernel, by decide⟩
theorem ykX12_isInside : Ym (iX12_isInside, yX12_isInside, cX12_isInside, (some .boolean)) := ⟨rfl, by decide +kernel, wcX12_isInside, wi_12, by decide +kernel, rfl, by decide +kernel, by decide⟩
theorem ykX12_closes : Ym (iX12_closes, yX12_closes, cX12_closes, none) := ⟨rfl, by decide +kernel, wcX12_closes, wi_12, by decide +kernel, rfl, by decide +kernel, by decide⟩
theorem ykX12_tested : Ym (iX12_tested, yX12_tested, cX12_tested, (some .boolean)) := ⟨rfl, by decide +kernel, wcX12_tested, wi_12, by decide +kernel, rfl, by decide +kernel, by decide⟩
theorem ykX12_isTakeHere : Ym (iX12_isTakeHere, yX12_isTakeHere, cX12_isTakeHere, (some .boolean)) := ⟨rfl, by decide +kernel, wcX12_isTakeHere, wi_12, by decide +kernel, rfl, by decide +kernel, by decide⟩
theorem ykX12_cellHere : Ym (iX12_cellHere, yX12_cellHere, cX12_cellHere, (some .boolean)) := ⟨rfl, by decide +kernel, wcX12_cellHere, wi_12, by decide +kernel, rfl, by decide +kernel, by decide⟩
theorem ykX12_isFrameHere : Ym (iX12_isFrameHere, yX12_isFrameHere, cX12_isFrameHere, (some .boolean)) := ⟨rfl, by decide +kernel, wcX12_isFrameHere, wi_12, by decide +kernel, rfl, by decide +kernel, by decide⟩
theorem ykX12_isRoomHere : Ym (iX12_isRoomHere, yX12_isRoomHere, cX12_isRoomHere, (some .boolean)) := ⟨rfl, by decide +kernel, wcX12_isRoomHere, wi_12, by decide +kernel, rfl, by decide +kernel, by decide⟩
theorem ykX12_isPlanHere : Ym (iX12_isPlanHere, yX12_isPlanHere, cX12_isPlanHere, (some .boolean)) := ⟨rfl, by decide +kernel, wcX12_isPlanHere, wi_12, by decide +kernel, rfl, by decide +kernel, by decide⟩
theorem ykX12_isLetterToldHere : Ym (iX12_isLetterToldHere, yX12_isLetterToldHere, cX12_isLetterToldHere, (some .boolean)) := ⟨rfl, by decide +kernel, wcX12_isLetterToldHere, wi_12, by decide +kernel, rfl, by decide +kernel, by decide⟩
theorem ykX12_frameLineHere : Ym (iX12_frameLineHere, yX12_frameLineHere, cX12_frameLineHere, (some .boolean)) := ⟨rfl, by decide +kernel, wcX12_frameLineHere, wi_12, by decide +kernel, rfl, by decide +kernel, by decide⟩
theorem ykX12_isFrameWord : Ym (iX12_isFrameWord, yX12_isFrameWord, cX12_isFrameWord, (some .boolean)) := ⟨rfl, by decide +kernel, wcX12_isFrameWord, wi_12, by decide +kernel, rfl, by decide +kernel, by decide⟩
theorem ykX12_clauseHere : Ym (iX12_clauseHere, yX12_clauseHere, cX12_clauseHere, (some .boolean)) := ⟨rfl, by decide +kernel, wcX12_clauseHere, wi_12, by decide +kernel, rfl, by decide +kernel, by decide⟩
theorem ykX12_readsAll : Ym (iX12_readsAll, yX12_readsAll, cX12_readsAll, (some .boolean)) := ⟨rfl, by decide +kernel, wcX12_readsAll, wi_12, by decide +kernel, rfl, by decide +kernel, by decide⟩
theorem ykX12_rule : Ym (iX12_rule, yX12_rule, cX12_rule, (some .int)) := ⟨rfl, by decide +kernel, wcX12_rule, wi_12, by decide +kernel, rfl, by decide +kernel, by decide⟩
theorem ykX12_frame : Ym (iX12_frame, yX12_frame, cX12_frame, (some .int)) := ⟨rfl, by decide +kernel, wcX12_frame, wi_12, by decide +kernel, rfl, by decide +kernel, by decide⟩
theorem ykX12_isRule : Ym (iX12_isRule, yX12_isRule, cX12_isRule, (some .boolean)) := ⟨rfl, by decide +kernel, wcX12_isRule, wi_12, by decide +kernel, rfl, by decide +kernel, by decide⟩
theorem ykX12_push : Ym (iX12_push, yX12_push, cX12_push, none) := ⟨rfl, by decide +kernel, wcX12_push, wi_12, by decide +kernel, rfl, by decide +kernel, by decide⟩
theorem ykX12_pop : Ym (iX12_pop, yX12_pop, cX12_pop, (some .long)) := ⟨rfl, by decide +kernel, wcX12_pop, wi_12, by decide +kernel, rfl, by decide +kernel, by decide⟩
theorem ykX12_sumOfTwo : Ym (iX12_sumOfTwo, yX12_sumOfTwo, cX12_sumOfTwo, (some .long)) := ⟨rfl, by decide +kernel, wcX12_sumOfTwo, wi_12, by decide +kernel, rfl, by decide +kernel, by decide⟩
theorem ykX12_reckons : Ym (iX12_reckons, yX12_reckons, cX12_reckons, (some .long)) := ⟨rfl, by decide +kernel, wcX12_reckons, wi_12, by decide +kernel, rfl, by decide +kernel, by decide⟩
theorem ykX12_isFrame : Ym (iX12_isFrame, yX12_isFrame, cX12_isFrame, (some .boolean)) := ⟨rfl, by decide +kernel, wcX12_isFrame, wi_12, by decide +kernel, rfl, by decide +kernel, by decide⟩
theorem ykX12_codesMany : Ym (iX12_codesMany, yX12_codesMany, cX12_codesMany, (some .int)) := ⟨rfl, by decide +kernel, wcX12_codesMany, wi_12, by decide +kernel, rfl, by decide +kernel, by decide⟩
theorem ykX12_isHole : Ym (iX12_isHole, yX12_isHole, cX12_isHole, (some .boolean)) := ⟨rfl, by decide +kernel, wcX12_isHole, wi_12, by decide +kernel, rfl, by decide +kernel, by decide⟩
theorem ykX12_isEntry : Ym (iX12_isEntry, yX12_isEntry, cX12_isEntry, (some .boolean)) := ⟨rfl, by decide +kernel, wcX12_isEntry, wi_12, by decide +kernel, rfl, by decide +kernel, by decide⟩
theorem ykX12_isCode : Ym (iX12_isCode, yX12_isCode, cX12_isCode, (some .boolean)) := ⟨rfl, by decide +kernel, wcX12_isCode, wi_12, by decide +kernel, rfl, by decide +kernel, by decide⟩
theorem ykX12_prefixOf : Ym (iX12_prefixOf, yX12_prefixOf, cX12_prefixOf, (some .int)) := ⟨rfl, by decide +kernel, wcX12_prefixOf, wi_12, by decide +kernel, rfl, by decide +kernel, by decide⟩
theorem ykX12_entryOf : Ym (iX12_entryOf, yX12_entryOf, cX12_entryOf, (some .int)) := ⟨rfl, by decide +kernel, wcX12_entryOf, wi_12, by decide +kernel, rfl, by decide +kernel, by decide⟩
theorem ykX12_holeOf : Ym (iX12_holeOf, yX12_holeOf, cX12_holeOf, (some .int)) := ⟨rfl, by decide +kernel, wcX12_holeOf, wi_12, by decide +kernel, rfl, by decide +kernel, by decide⟩
theorem ykX12_sumOver : Ym (iX12_sumOver, yX12_sumOver, cX12_sumOver, (some .int)) := ⟨rfl, by decide +kernel, wcX12_sumOver, wi_12, by decide +kernel, rfl, by decide +kernel, by decide⟩
theorem ykX12_begins : Ym (iX12_begins, yX12_begins, cX12_begins, none) := ⟨rfl, by decide +kernel, wcX12_begins, wi_12, by decide +kernel, rfl, by decide +kernel, by decide⟩
theorem ykX12_force : Ym (iX12_force, yX12_force, cX12_force, (some .int)) := ⟨rfl, by decide +kernel, wcX12_force, wi_12, by decide +kernel, rfl, by decide +kernel, by decide⟩
theorem ykX12_hole : Ym (iX12_hole, yX12_hole, cX12_hole, (some .int)) := ⟨rfl, by decide +kernel, wcX12_hole, wi_12, by decide +kernel, rfl, by decide +kernel, by decide⟩
theorem ykX12_entry : Ym (iX12_entry, yX12_entry, cX12_entry, (some .int)) := ⟨rfl, by decide +kernel, wcX12_entry, wi_12, by decide +kernel, rfl, by decide +kernel, by decide⟩
theorem ykX12_waits : Ym (iX12_waits, yX12_waits, cX12_waits, (some .int)) := ⟨rfl, by decide +kernel, wcX12_waits, wi_12, by decide +kernel, rfl, by decide +kernel, by decide⟩
theorem ykX12_summedBy : Ym (iX12_summedBy, yX12_summedBy, cX12_summedBy, (some .long)) := ⟨rfl, by decide +kernel, wcX12_summedBy, wi_12, by decide +kernel, rfl, by decide +kernel, by decide⟩
theorem ykX12_sumOf : Ym (iX12_sumOf, yX12_sumOf, cX12_sumOf, (some .long)) := ⟨rfl, by decide +kernel, wcX12_sumOf, wi_12, by decide +kernel, rfl, by decide +kernel, by decide⟩
theorem ykX12_choice : Ym (iX12_choice, yX12_choice, cX12_choice, (some .int)) := ⟨rfl, by decide +kernel, wcX12_choice, wi_12, by decide +kernel, rfl, by decide +kernel, by decide⟩
theorem ykX12_ties : Ym (iX12_ties, yX12_ties, cX12_ties, none) := ⟨rfl, by decide +kernel, wcX12_ties, wi_12, by decide +kernel, rfl, by decide +kernel, by decide⟩
theorem ykX12_sorts : Ym (iX12_sorts, yX12_sorts, cX12_sorts, none) := ⟨rfl, by decide +kernel, wcX12_sorts, wi_12, by decide +kernel, rfl, by decide +kernel, by decide⟩
theorem ykX12_leaves : Ym (iX12_leaves, yX12_leaves, cX12_leaves, (some .int)) := ⟨rfl, by decide +kernel, wcX12_leaves, wi_12, by decide +kernel, rfl, by decide +kernel, by decide⟩
theorem ykX12_passes : Ym (iX12_passes, yX12_passes, cX12_passes, (some .int)) := ⟨rfl, by decide +kernel, wcX12_passes, wi_12, by decide +kernel, rfl, by decide +kernel, by decide⟩
theorem ykX12_passesAll : Ym (iX12_passesAll, yX12_passesAll, cX12_passesAll, none) := ⟨rfl, by decide +kernel, wcX12_passesAll, wi_12, by decide +kernel, rfl, by decide +kernel, by decide⟩
theorem ykX12_keepsAct : Ym (iX12_keepsAct, yX12_keepsAct, cX12_keepsAct, none) := ⟨rfl, by decide +kernel, wcX12_keepsAct, wi_12, by decide +kernel, rfl, by decide +kernel, by decide⟩
theorem ykX12_undo : Ym (iX12_undo, yX12_undo, cX12_undo, (some .int)) := ⟨rfl, by decide +kernel, wcX12_undo, wi_12, by decide +kernel, rfl, by decide +kernel, by decide⟩
theorem ykX12_turn : Ym (iX12_turn, yX12_turn, cX12_turn, (some .int)) := ⟨rfl, by decide +kernel, wcX12_turn, wi_12, by decide +kernel, rfl, by decide +kernel, by decide⟩
theorem ykX12_comes : Ym (iX12_comes, yX12_comes, cX12_comes, none) := ⟨rfl, by decide +kernel, wcX12_comes, wi_12, by decide +kernel, rfl, by decide +kernel, by decide⟩
theorem ykX12_post : Ym (iX12_post, yX12_post, cX12_post, (some .int)) := ⟨rfl, by decide +kernel, wcX12_post, wi_12, by decide +kernel, rfl, by decide +kernel, by decide⟩
theorem ykX12_tie : Ym (iX12_tie, yX12_tie, cX12_tie, (some .int)) := ⟨rfl, by decide +kernel, wcX12_tie, wi_12, by decide +kernel, rfl, by decide +kernel, by decide⟩
theorem ykX12_numberOf : Ym (iX12_numberOf, yX12_numberOf, cX12_numberOf, (some .int)) := ⟨rfl, by decide +kernel, wcX12_numberOf, wi_12, by decide +kernel, rfl, by decide +kernel, by decide⟩
theorem ykX12_canEnter : Ym (iX12_canEnter, yX12_canEnter, cX12_canEnter, (some .boolean)) := ⟨rfl, by decide +kernel, wcX12_canEnter, wi_12, by decide +kernel, rfl, by decide +kernel, by decide⟩
theorem ykX12_enters : Ym (iX12_enters, yX12_enters, cX12_enters, (some .int)) := ⟨rfl, by decide +kernel, wcX12_enters, wi_12, by decide +kernel, rfl, by decide +kernel, by decide⟩
theorem ykX12_enter : Ym (iX12_enter, yX12_enter, cX12_enter, (some .int)) := ⟨rfl, by decide +kernel, wcX12_enter, wi_12, by decide +kernel, rfl, by decide +kernel, by decide⟩
theorem ykX12_strike : Ym (iX12_strike, yX12_strike, cX12_strike, (some .int)) := ⟨rfl, by decide +kernel, wcX12_strike, wi_12, by decide +kernel, rfl, by decide +kernel, by decide⟩
theorem ykX12_where : Ym (iX12_where, yX12_where, cX12_where, (some .int)) := ⟨rfl, by decide +kernel, wcX12_where, wi_12, by decide +kernel, rfl, by decide +kernel, by decide⟩
theorem ykX12_isReading : Ym (iX12_isReading, yX12_isReading, cX12_isReading, (some .boolean)) := ⟨rfl, by decide +kernel, wcX12_isReading, wi_12, by decide +kernel, rfl, by decide +kernel, by decide⟩
theorem ykX12_digitOf : Ym (iX12_digitOf, yX12_digitOf, cX12_digitOf, (some .int)) := ⟨rfl, by decide +kernel, wcX12_digitOf, wi_12, by decide +kernel, rfl, by decide +kernel, by decide⟩
theorem ykX12_canMean : Ym (iX12_canMean, yX12_canMean, cX12_canMean, (some .boolean)) := ⟨rfl, by decide +kernel, wcX12_canMean, wi_12, by decide +kernel, rfl, by decide +kernel, by decide⟩
theorem ykX12_may : Ym (iX12_may, yX12_may, cX12_may, (some .int)) := ⟨rfl, by decide +kernel, wcX12_may, wi_12, by decide +kernel, rfl, by decide +kernel, by decide⟩
theorem ykX12_areLike : Ym (iX12_areLike, yX12_areLike, cX12_areLike, (some .boolean)) := ⟨rfl, by decide +kernel, wcX12_areLike, wi_12, by decide +kernel, rfl, by decide +kernel, by decide⟩
theorem ykX12_isEnough : Ym (iX12_isEnough, yX12_isEnough, cX12_isEnough, (some .boolean)) := ⟨rfl, by decide +kernel, wcX12_isEnough, wi_12, by decide +kernel, rfl, by decide +kernel, by decide⟩
theorem ykX12_fillsGoes : Ym (iX12_fillsGoes, yX12_fillsGoes, cX12_fillsGoes, none) := ⟨rfl, by decide +kernel, wcX12_fillsGoes, wi_12, by decide +kernel, rfl, by decide +kernel, by decide⟩
theorem ykX12_read : Ym (iX12_read, yX12_read, cX12_read, (some .int)) := ⟨rfl, by decide +kernel, wcX12_read, wi_12, by decide +kernel, rfl, by decide +kernel, by decide⟩
theorem ykX12_codes : Ym (iX12_codes, yX12_codes, cX12_codes, (some .int)) := ⟨rfl, by decide +kernel, wcX12_codes, wi_12, by decide +kernel, rfl, by decide +kernel, by decide⟩
theorem ykX12_slipsOf : Ym (iX12_slipsOf, yX12_slipsOf, cX12_slipsOf, (some .int)) := ⟨rfl, by decide +kernel, wcX12_slipsOf, wi_12, by decide +kernel, rfl, by decide +kernel, by decide⟩
theorem ykX12_slips : Ym (iX12_slips, yX12_slips, cX12_slips, (some .int)) := ⟨rfl, by decide +kernel, wcX12_slips, wi_12, by decide +kernel, rfl, by decide +kernel, by decide⟩
theorem ykX12_worst : Ym (iX12_worst, yX12_worst, cX12_worst, (some .int)) := ⟨rfl, by decide +kernel, wcX12_worst, wi_12, by decide +kernel, rfl, by decide +kernel, by decide⟩
theorem ykX12_idle : Ym (iX12_idle, yX12_idle, cX12_idle, (some .int)) := ⟨rfl, by decide +kernel, wcX12_idle, wi_12, by decide +kernel, rfl, by decide +kernel, by decide⟩
theorem ykX12_needsOfCodes : Ym (iX12_needsOfCodes, yX12_needsOfCodes, cX12_needsOfCodes, none) := ⟨rfl, by decide +kernel, wcX12_needsOfCodes, wi_12, by decide +kernel, rfl, by decide +kernel, by decide⟩
theorem ykX12_needBelow : Ym (iX12_needBelow, yX12_needBelow, cX12_needBelow, (some .int)) := ⟨rfl, by decide +kernel, wcX12_needBelow, wi_12, by decide +kernel, rfl, by decide +kernel, by decide⟩
theorem ykX12_needsOf : Ym (iX12_needsOf, yX12_needsOf, cX12_needsOf, none) := ⟨rfl, by decide +kernel, wcX12_needsOf, wi_12, by decide +kernel, rfl, by decide +kernel, by decide⟩
theorem ykX12_least : Ym (iX12_least, yX12_least, cX12_least, (some .int)) := ⟨rfl, by decide +kernel, wcX12_least, wi_12, by decide +kernel, rfl, by decide +kernel, by decide⟩
theorem ykX12_keeps : Ym (iX12_keeps, yX12_keeps, cX12_keeps, none) := ⟨rfl, by decide +kernel, wcX12_keeps, wi_12, by decide +kernel, rfl, by decide +kernel, by decide⟩
theorem ykX12_laysBack : Ym (iX12_laysBack, yX12_laysBack, cX12_laysBack, none) := ⟨rfl, by decide +kernel, wcX12_laysBack, wi_12, by decide +kernel, rfl, by decide +kernel, by decide⟩
theorem ykX12_sortsAll : Ym (iX12_sortsAll, yX12_sortsAll, cX12_sortsAll, none) := ⟨rfl, by decide +kernel, wcX12_sortsAll, wi_12, by decide +kernel, rfl, by decide +kernel, by decide⟩
theorem ykX12_triesEntry : Ym (iX12_triesEntry, yX12_triesEntry, cX12_triesEntry, none) := ⟨rfl, by decide +kernel, wcX12_triesEntry, wi_12, by decide +kernel, rfl, by decide +kernel, by decide⟩
theorem ykX12_one : Ym (iX12_one, yX12_one, cX12_one, (some .int)) := ⟨rfl, by decide +kernel, wcX12_one, wi_12, by decide +kernel, rfl, by decide +kernel, by decide⟩
theorem ykX12_changes : Ym (iX12_changes, yX12_changes, cX12_changes, none) := ⟨rfl, by decide +kernel, wcX12_changes, wi_12, by decide +kernel, rfl, by decide +kernel, by decide⟩
theorem ykX12_change : Ym (iX12_change, yX12_change, cX12_change, (some .int)) := ⟨rfl, by decide +kernel, wcX12_change, wi_12, by decide +kernel, rfl, by decide +kernel, by decide⟩
theorem ykX12_ahead : Ym (iX12_ahead, yX12_ahead, cX12_ahead, (some .int)) := ⟨rfl, by decide +kernel, wcX12_ahead, wi_12, by decide +kernel, rfl, by decide +kernel, by decide⟩
theorem ykX12_sorted : Ym (iX12_sorted, yX12_sorted, cX12_sorted, (some .int)) := ⟨rfl, by decide +kernel, wcX12_sorted, wi_12, by decide +kernel, rfl, by decide +kernel, by decide⟩
theorem ykX12_tied : Ym (iX12_tied, yX12_tied, cX12_tied, (some .int)) := ⟨rfl, by decide +kernel, wcX12_tied, wi_12, by decide +kernel, rfl, by decide +kernel, by decide⟩
theorem ykX12_isTiedIn : Ym (iX12_isTiedIn, yX12_isTiedIn, cX12_isTiedIn, (some .boolean)) := ⟨rfl, by decide +kernel, wcX12_isTiedIn, wi_12, by decide +kernel, rfl, by decide +kernel, by decide⟩
theorem ykX12_enough : Ym (iX12_enough, yX12_enough, cX12_enough, (some .int)) := ⟨rfl, by decide +kernel, wcX12_enough, wi_12, by decide +kernel, rfl, by decide +kernel, by decide⟩
theorem ykX12_pence : Ym (iX12_pence, yX12_pence, cX12_pence, (some .int)) := ⟨rfl, by decide +kernel, wcX12_pence, wi_12, by decide +kernel, rfl, by decide +kernel, by decide⟩
theorem ykX12_note : Ym (iX12_note, yX12_note, cX12_note, (some .int)) := ⟨rfl, by decide +kernel, wcX12_note, wi_12, by decide +kernel, rfl, by decide +kernel, by decide⟩
theorem ykX12_areNotesSo : Ym (iX12_areNotesSo, yX12_areNotesSo, cX12_areNotesSo, (some .boolean)) := ⟨rfl, by decide +kernel, wcX12_areNotesSo, wi_12, by decide +kernel, rfl, by decide +kernel, by decide⟩
theorem ykX12_areAllSo : Ym (iX12_areAllSo, yX12_areAllSo, cX12_areAllSo, (some .boolean)) := ⟨rfl, by decide +kernel, wcX12_areAllSo, wi_12, by decide +kernel, rfl, by decide +kernel, by decide⟩
theorem ykX12_fillsFits : Ym (iX12_fillsFits, yX12_fillsFits, cX12_fillsFits, none) := ⟨rfl, by decide +kernel, wcX12_fillsFits, wi_12, by decide +kernel, rfl, by decide +kernel, by decide⟩
theorem ykX12_ruled : Ym (iX12_ruled, yX12_ruled, cX12_ruled, (some .int)) := ⟨rfl, by decide +kernel, wcX12_ruled, wi_12, by decide +kernel, rfl, by decide +kernel, by decide⟩
theorem ykX12_alikeAt : Ym (iX12_alikeAt, yX12_alikeAt, cX12_alikeAt, (some .int)) := ⟨rfl, by decide +kernel, wcX12_alikeAt, wi_12, by decide +kernel, rfl, by decide +kernel, by decide⟩
theorem ykX12_look : Ym (iX12_look, yX12_look, cX12_look, (some .int)) := ⟨rfl, by decide +kernel, wcX12_look, wi_12, by decide +kernel, rfl, by decide +kernel, by decide⟩
theorem ykX12_fillsCanBe : Ym (iX12_fillsCanBe, yX12_fillsCanBe, cX12_fillsCanBe, none) := ⟨rfl, by decide +kernel, wcX12_fillsCanBe, wi_12, by decide +kernel, rfl, by decide +kernel, by decide⟩
theorem ykX12_said : Ym (iX12_said, yX12_said, cX12_said, (some .int)) := ⟨rfl, by decide +kernel, wcX12_said, wi_12, by decide +kernel, rfl, by decide +kernel, by decide⟩
theorem ykX12_sent : Ym (iX12_sent, yX12_sent, cX12_sent, (some .int)) := ⟨rfl, by decide +kernel, wcX12_sent, wi_12, by decide +kernel, rfl, by decide +kernel, by decide⟩
theorem ykX12_seed : Ym (iX12_seed, yX12_seed, cX12_seed, (some .int)) := ⟨rfl, by decide +kernel, wcX12_seed, wi_12, by decide +kernel, rfl, by decide +kernel, by decide⟩
theorem ykX12_draw : Ym (iX12_draw, yX12_draw, cX12_draw, (some .int)) := ⟨rfl, by decide +kernel, wcX12_draw, wi_12, by decide +kernel, rfl, by decide +kernel, by decide⟩
theorem ykX12_posts : Ym (iX12_posts, yX12_posts, cX12_posts, (some .int)) := ⟨rfl, by decide +kernel, wcX12_posts, wi_12, by decide +kernel, rfl, by decide +kernel, by decide⟩
theorem ykX12_count : Ym (iX12_count, yX12_count, cX12_count, (some .int)) := ⟨rfl, by decide +kernel, wcX12_count, wi_12, by decide +kernel, rfl, by decide +kernel, by decide⟩
theorem ykX12_image : Ym (iX12_image, yX12_image, cX12_image, (some .int)) := ⟨rfl, by decide +kernel, wcX12_image, wi_12, by decide +kernel, rfl, by decide +kernel, by decide⟩
theorem ykX12_back : Ym (iX12_back, yX12_back, cX12_back, (some .int)) := ⟨rfl, by decide +kernel, wcX12_back, wi_12, by decide +kernel, rfl, by decide +kernel, by decide⟩
theorem ykJ6_bitCount_0f7a4 : Ym (iJ6_bitCount_0f7a4, yJ6_bitCount_0f7a4, cJ6_bitCount_0f7a4, (some .int)) := ⟨rfl, by decide +kernel, wcJ6_bitCount_0f7a4, wi_14, by decide +kernel, rfl, by decide +kernel, by decide⟩
set_option maxRecDepth 20000 in
theorem lkV_0_0 : LkV 0 (46, 81) := ⟨ykX8_hasHole, tb_5 53 (by rfl) (by rfl), wkX8_hasHole, weX8_hasHole, by decide +kernel, by decide, _, rfl⟩
set_option maxRecDepth 20000 in
theorem lkV_0_1 : LkV 0 (58, 15) := ⟨ykX1_holeFor, tb_5 47 (by rfl) (by rfl), wkX1_holeFor, weX1_holeFor, by decide +kernel, by decide, _, rfl⟩
set_option maxRecDepth 20000 in
theorem lkV_0_2 : LkV 0 (64, 1) := ⟨ykX0_tryGoals, tb_5 48 (by rfl) (by rfl), wkX0_tryGoals, weX0_tryGoals, by decide +kernel, by decide, _, rfl⟩
set_option maxRecDepth 20000 in
theorem lkV_0_3 : LkV 0 (86, 2) := ⟨ykX0_tryAsIs, tb_5 43 (by rfl) (by rfl), wkX0_tryAsIs, weX0_tryAsIs, by decide +kernel, by decide, _, rfl⟩
set_option maxRecDepth 20000 in
theorem lkV_0_4 : LkV 0 (90, 84) := ⟨ykX8_prefixesOf, tb_5 54 (by rfl) (by rfl), wkX8_prefixesOf, weX8_prefixesOf, by decide +kernel, by decide, _, rfl⟩
set_option maxRecDepth 20000 in
theorem lkV_0_5 : LkV 0 (97, 48) := ⟨ykX4_canTake, tb_5 55 (by rfl) (by rfl), wkX4_canTake, weX4_canTake, by decide +kernel, by decide, _, rfl⟩
set_option maxRecDepth 20000 in
theorem lkV_0_6 : LkV 0 (103, 4) := ⟨ykX0_tryPrefix, tb_5 56 (by rfl) (by rfl), wkX0_tryPrefix, weX0_tryPrefix, by decide +kernel, by decide, _, rfl⟩
set_option maxRecDepth 20000 in
theorem lkV_0_7 : LkV 0 (110, 5) := ⟨ykX0_sendByEntry, tb_5 60 (by rfl) (by rfl), wkX0_sendByEntry, weX0_sendByEntry, by decide +kernel, by decide, _, rfl⟩
set_option maxRecDepth 20000 in
theorem lkV_0_8 : LkV 0 (114, 86) := ⟨ykX8_prefixOf, tb_5 64 (by rfl) (by rfl), wkX8_prefixOf, weX8_prefixOf, by decide +kernel, by decide, _, rfl⟩
set_option maxRecDepth 20000 in
theorem lkV_0_9 : LkV 0 (118, 16) := ⟨ykX1_digitsFor, tb_5 68 (by rfl) (by rfl), wkX1_digitsFor, weX1_digitsFor, by decide +kernel, by decide, _, rfl⟩
set_option maxRecDepth 20000 in
theorem lkV_0_10 : LkV 0 (121, 7) := ⟨ykX0_sendChanged, tb_5 77 (by rfl) (by rfl), wkX0_sendChanged, weX0_sendChanged, by decide +kernel, by decide, _, rfl⟩
set_option maxRecDepth 20000 in
theorem lkV_0_11 : LkV 0 (128, 10) := ⟨ykX0_mostAlike, tb_5 166 (by rfl) (by rfl), wkX0_mostAlike, weX0_mostAlike, by decide +kernel, by decide, _, rfl⟩
theorem lkV_0 : ∀ x ∈ (m_M 0).1, LkV 0 x := List.forall_mem_cons.mpr ⟨lkV_0_0, List.forall_mem_cons.mpr ⟨lkV_0_1, List.forall_mem_cons.mpr ⟨lkV_0_2, List.forall_mem_cons.mpr ⟨lkV_0_3, List.forall_mem_cons.mpr ⟨lkV_0_4, List.forall_mem_cons.mpr ⟨lkV_0_5, List.forall_mem_cons.mpr ⟨lkV_0_6, List.forall_mem_cons.mpr ⟨lkV_0_7, List.forall_mem_cons.mpr ⟨lkV_0_8, List.forall_mem_cons.mpr ⟨lkV_0_9, List.forall_mem_cons.mpr ⟨lkV_0_10, List.forall_mem_cons.mpr ⟨lkV_0_11, fun _ h => absurd h List.not_mem_nil⟩⟩⟩⟩⟩⟩⟩⟩⟩⟩⟩⟩
set_option maxRecDepth 20000 in
theorem lkS_0_0 : LkS 0 (37, 1001) := Or.inl ⟨rfl, tb_5 52 (by rfl) (by rfl)⟩
set_option maxRecDepth 20000 in
theorem lkS_0_1 : LkS 0 (134, 1004) := Or.inr (Or.inl ⟨rfl, tb_5 170 (by rfl) (by rfl)⟩)
theorem lkS_0 : ∀ x ∈ (m_M 0).2.1, LkS 0 x := List.forall_mem_cons.mpr ⟨lkS_0_0, List.forall_mem_cons.mpr ⟨lkS_0_1, fun _ h => absurd h List.not_mem_nil⟩⟩
set_option maxRecDepth 20000 in
theorem lkI_0_0 : LkI 0 (3, 1000) := ⟨rfl, tb_2 105 (by rfl) (by rfl)⟩
theorem lkI_0 : ∀ x ∈ (m_M 0).2.2, LkI 0 x := List.forall_mem_cons.mpr ⟨lkI_0_0, fun _ h => absurd h List.not_mem_nil⟩
set_option maxRecDepth 20000 in
theorem lkV_1_0 : LkV 1 (50, 13) := ⟨ykX1_lay, tb_4 55 (by rfl) (by rfl), wkX1_lay, weX1_lay, by decide +kernel, by decide, _, rfl⟩
set_option maxRecDepth 20000 in
theorem lkV_1_1 : LkV 1 (54, 85) := ⟨ykX8_spanOf, tb_4 59 (by rfl) (by rfl), wkX8_spanOf, weX8_spanOf, by decide +kernel, by decide, _, rfl⟩
set_option maxRecDepth 20000 in
theorem lkV_1_2 : LkV 1 (61, 82) := ⟨ykX8_hasCode, tb_4 88 (by rfl) (by rfl), wkX8_hasCode, weX8_hasCode, by decide +kernel, by decide, _, rfl⟩
set_option maxRecDepth 20000 in
theorem lkV_1_3 : LkV 1 (65, 46) := ⟨ykX4_has, tb_4 92 (by rfl) (by rfl), wkX4_has, weX4_has, by decide +kernel, by decide, _, rfl⟩
set_option maxRecDepth 20000 in
theorem lkV_1_4 : LkV 1 (68, 14) := ⟨ykX1_entryFor, tb_4 117 (by rfl) (by rfl), wkX1_entryFor, weX1_entryFor, by decide +kernel, by decide, _, rfl⟩
set_option maxRecDepth 20000 in
theorem lkV_1_5 : LkV 1 (74, 15) := ⟨ykX1_holeFor, tb_4 205 (by rfl) (by rfl), wkX1_holeFor, weX1_holeFor, by decide +kernel, by decide, _, rfl⟩
set_option maxRecDepth 20000 in
theorem lkV_1_6 : LkV 1 (80, 87) := ⟨ykX8_digitOf, tb_4 204 (by rfl) (by rfl), wkX8_digitOf, weX8_digitOf, by decide +kernel, by decide, _, rfl⟩
set_option maxRecDepth 20000 in
theorem lkV_1_7 : LkV 1 (84, 20) := ⟨ykX1_isMeant, tb_4 200 (by rfl) (by rfl), wkX1_isMeant, weX1_isMeant, by decide +kernel, by decide, _, rfl⟩
set_option maxRecDepth 20000 in
theorem lkV_1_8 : LkV 1 (87, 23) := ⟨ykX1_decides, tb_4 214 (by rfl) (by rfl), wkX1_decides, weX1_decides, by decide +kernel, by decide, _, rfl⟩
set_option maxRecDepth 20000 in
theorem lkV_1_9 : LkV 1 (90, 24) := ⟨ykX1_slipsOf, tb_5 12 (by rfl) (by rfl), wkX1_slipsOf, weX1_slipsOf, by decide +kernel, by decide, _, rfl⟩
set_option maxRecDepth 20000 in
theorem lkV_1_10 : LkV 1 (93, 84) := ⟨ykX8_prefixesOf, tb_5 29 (by rfl) (by rfl), wkX8_prefixesOf, weX8_prefixesOf, by decide +kernel, by decide, _, rfl⟩
set_option maxRecDepth 20000 in
theorem lkV_1_11 : LkV 1 (96, 28) := ⟨ykX1_joinCosts, tb_5 30 (by rfl) (by rfl), wkX1_joinCosts, weX1_joinCosts, by decide +kernel, by decide, _, rfl⟩
theorem lkV_1 : ∀ x ∈ (m_M 1).1, LkV 1 x := List.forall_mem_cons.mpr ⟨lkV_1_0, List.forall_mem_cons.mpr ⟨lkV_1_1, List.forall_mem_cons.mpr ⟨lkV_1_2, List.forall_mem_cons.mpr ⟨lkV_1_3, List.forall_mem_cons.mpr ⟨lkV_1_4, List.forall_mem_cons.mpr ⟨lkV_1_5, List.forall_mem_cons.mpr ⟨lkV_1_6, List.forall_mem_cons.mpr ⟨lkV_1_7, List.forall_mem_cons.mpr ⟨lkV_1_8, List.forall_mem_cons.mpr ⟨lkV_1_9, List.forall_mem_cons.mpr ⟨lkV_1_10, List.forall_mem_cons.mpr ⟨lkV_1_11, fun _ h => absurd h List.not_mem_nil⟩⟩⟩⟩⟩⟩⟩⟩⟩⟩⟩⟩
set_option maxRecDepth 20000 in
theorem lkS_1_0 : LkS 1 (99, 1005) := Or.inr (Or.inr ⟨rfl, tb_5 34 (by rfl) (by rfl)⟩)
theorem lkS_1 : ∀ x ∈ (m_M 1).2.1, LkS 1 x := List.forall_mem_cons.mpr ⟨lkS_1_0, fun _ h => absurd h List.not_mem_nil⟩
set_option maxRecDepth 20000 in
theorem lkI_1_0 : LkI 1 (3, 1000) := ⟨rfl, tb_2 42 (by rfl) (by rfl)⟩
set_option maxRecDepth 20000 in
theorem lkI_1_1 : LkI 1 (11, 78) := ⟨ykX8_init, Or.inr (by decide +kernel), wkX8_init, rfl, rfl, by decide +kernel, by decide⟩
set_option maxRecDepth 20000 in
theorem lkI_1_2 : LkI 1 (20, 44) := ⟨ykX4_init, Or.inr (by decide +kernel), wkX4_init, rfl, rfl, by decide +kernel, by decide⟩
theorem lkI_1 : ∀ x ∈ (m_M 1).2.2, LkI 1 x := List.forall_mem_cons.mpr ⟨lkI_1_0, List.forall_mem_cons.mpr ⟨lkI_1_1, List.forall_mem_cons.mpr ⟨lkI_1_2, fun _ h => absurd h List.not_mem_nil⟩⟩⟩
set_option maxRecDepth 20000 in
theorem lkV_2_0 : LkV 2 (42, 80) := ⟨ykX8_copyFrom, tb_3 132 (by rfl) (by rfl), wkX8_copyFrom, weX8_copyFrom, by decide +kernel, by decide, _, rfl⟩
set_option maxRecDepth 20000 in
theorem lkV_2_1 : LkV 2 (46, 101) := ⟨ykX10_copyFrom, tb_3 139 (by rfl) (by rfl), wkX10_copyFrom, weX10_copyFrom, by decide +kernel, by decide, _, rfl⟩
theorem lkV_2 : ∀ x ∈ (m_M 2).1, LkV 2 x := List.forall_mem_cons.mpr ⟨lkV_2_0, List.forall_mem_cons.mpr ⟨lkV_2_1, fun _ h => absurd h List.not_mem_nil⟩⟩
set_option maxRecDepth 20000 in
theorem lkS_2_0 : LkS 2 (55, 1001) := Or.inl ⟨rfl, tb_5 200 (by rfl) (by rfl)⟩
set_option maxRecDepth 20000 in
theorem lkS_2_1 : LkS 2 (61, 1004) := Or.inr (Or.inl ⟨rfl, tb_5 122 (by rfl) (by rfl)⟩)
theorem lkS_2 : ∀ x ∈ (m_M 2).2.1, LkS 2 x := List.forall_mem_cons.mpr ⟨lkS_2_0, List.forall_mem_cons.mpr ⟨lkS_2_1, fun _ h => absurd h List.not_mem_nil⟩⟩
set_option maxRecDepth 20000 in
theorem lkI_2_0 : LkI 2 (3, 1000) := ⟨rfl, tb_1 234 (by rfl) (by rfl)⟩
set_option maxRecDepth 20000 in
theorem lkI_2_1 : LkI 2 (11, 78) := ⟨ykX8_init, Or.inr (by decide +kernel), wkX8_init, rfl, rfl, by decide +kernel, by decide⟩
set_option maxRecDepth 20000 in
theorem lkI_2_2 : LkI 2 (20, 99) := ⟨ykX10_init, Or.inr (by decide +kernel), wkX10_init, rfl, rfl, by decide +kernel, by decide⟩
theorem lkI_2 : ∀ x ∈ (m_M 2).2.2, LkI 2 x := List.forall_mem_cons.mpr ⟨lkI_2_0, List.forall_mem_cons.mpr ⟨lkI_2_1, List.forall_mem_cons.mpr ⟨lkI_2_2, fun _ h => absurd h List.not_mem_nil⟩⟩⟩
set_option maxRecDepth 20000 in
theorem lkV_3_0 : LkV 3 (29, 90) := ⟨ykX9_rewind, tb_2 222 (by rfl) (by rfl), wkX9_rewind, weX9_rewind, by decide +kernel, by decide, _, rfl⟩
set_option maxRecDepth 20000 in
theorem lkV_3_1 : LkV 3 (34, 100) := ⟨ykX10_clear, tb_2 226 (by rfl) (by rfl), wkX10_clear, weX10_clear, by decide +kernel, by decide, _, rfl⟩
set_option maxRecDepth 20000 in
theorem lkV_3_2 : LkV 3 (37, 37) := ⟨ykX3_takeClause, tb_2 230 (by rfl) (by rfl), wkX3_takeClause, weX3_takeClause, by decide +kernel, by decide, _, rfl⟩
set_option maxRecDepth 20000 in
theorem lkV_3_3 : LkV 3 (41, 97) := ⟨ykX9_takeSemicolon, tb_3 120 (by rfl) (by rfl), wkX9_takeSemicolon, weX9_takeSemicolon, by decide +kernel, by decide, _, rfl⟩
set_option maxRecDepth 20000 in
theorem lkV_3_4 : LkV 3 (49, 93) := ⟨ykX9_next, tb_2 234 (by rfl) (by rfl), wkX9_next, weX9_next, by decide +kernel, by decide, _, rfl⟩
set_option maxRecDepth 20000 in
theorem lkV_3_5 : LkV 3 (56, 38) := ⟨ykX3_takeKind, tb_2 238 (by rfl) (by rfl), wkX3_takeKind, weX3_takeKind, by decide +kernel, by decide, _, rfl⟩
set_option maxRecDepth 20000 in
theorem lkV_3_6 : LkV 3 (59, 91) := ⟨ykX9_fail, tb_3 63 (by rfl) (by rfl), wkX9_fail, weX9_fail, by decide +kernel, by decide, _, rfl⟩
set_option maxRecDepth 20000 in
theorem lkV_3_7 : LkV 3 (63, 39) := ⟨ykX3_tooMany, tb_3 67 (by rfl) (by rfl), wkX3_tooMany, weX3_tooMany, by decide +kernel, by decide, _, rfl⟩
set_option maxRecDepth 20000 in
theorem lkV_3_8 : LkV 3 (66, 40) := ⟨ykX3_takeShape, tb_3 71 (by rfl) (by rfl), wkX3_takeShape, weX3_takeShape, by decide +kernel, by decide, _, rfl⟩
set_option maxRecDepth 20000 in
theorem lkV_3_9 : LkV 3 (69, 41) := ⟨ykX3_takeRoom, tb_3 91 (by rfl) (by rfl), wkX3_takeRoom, weX3_takeRoom, by decide +kernel, by decide, _, rfl⟩
set_option maxRecDepth 20000 in
theorem lkV_3_10 : LkV 3 (72, 42) := ⟨ykX3_takeEntry, tb_3 99 (by rfl) (by rfl), wkX3_takeEntry, weX3_takeEntry, by decide +kernel, by decide, _, rfl⟩
set_option maxRecDepth 20000 in
theorem lkV_3_11 : LkV 3 (75, 43) := ⟨ykX3_takeLetter, tb_3 112 (by rfl) (by rfl), wkX3_takeLetter, weX3_takeLetter, by decide +kernel, by decide, _, rfl⟩
set_option maxRecDepth 20000 in
theorem lkV_3_12 : LkV 3 (80, 95) := ⟨ykX9_takeWord, tb_3 3 (by rfl) (by rfl), wkX9_takeWord, weX9_takeWord, by decide +kernel, by decide, _, rfl⟩
set_option maxRecDepth 20000 in
theorem lkV_3_13 : LkV 3 (101, 96) := ⟨ykX9_takeNumber, tb_3 75 (by rfl) (by rfl), wkX9_takeNumber, weX9_takeNumber, by decide +kernel, by decide, _, rfl⟩
set_option maxRecDepth 20000 in
theorem lkV_3_14 : LkV 3 (105, 79) := ⟨ykX8_lay, tb_3 83 (by rfl) (by rfl), wkX8_lay, weX8_lay, by decide +kernel, by decide, _, rfl⟩
set_option maxRecDepth 20000 in
theorem lkV_3_15 : LkV 3 (112, 81) := ⟨ykX8_hasHole, tb_3 95 (by rfl) (by rfl), wkX8_hasHole, weX8_hasHole, by decide +kernel, by decide, _, rfl⟩
set_option maxRecDepth 20000 in
theorem lkV_3_16 : LkV 3 (121, 84) := ⟨ykX8_prefixesOf, tb_3 103 (by rfl) (by rfl), wkX8_prefixesOf, weX8_prefixesOf, by decide +kernel, by decide, _, rfl⟩
set_option maxRecDepth 20000 in
theorem lkV_3_17 : LkV 3 (125, 49) := ⟨ykX4_put, tb_3 104 (by rfl) (by rfl), wkX4_put, weX4_put, by decide +kernel, by decide, _, rfl⟩
set_option maxRecDepth 20000 in
theorem lkV_3_18 : LkV 3 (132, 102) := ⟨ykX10_queue, tb_3 116 (by rfl) (by rfl), wkX10_queue, weX10_queue, by decide +kernel, by decide, _, rfl⟩
theorem lkV_3 : ∀ x ∈ (m_M 3).1, LkV 3 x := List.forall_mem_cons.mpr ⟨lkV_3_0, List.forall_mem_cons.mpr ⟨lkV_3_1, List.forall_mem_cons.mpr ⟨lkV_3_2, List.forall_mem_cons.mpr ⟨lkV_3_3, List.forall_mem_cons.mpr ⟨lkV_3_4, List.forall_mem_cons.mpr ⟨lkV_3_5, List.forall_mem_cons.mpr ⟨lkV_3_6, List.forall_mem_cons.mpr ⟨lkV_3_7, List.forall_mem_cons.mpr ⟨lkV_3_8, List.forall_mem_cons.mpr ⟨lkV_3_9, List.forall_mem_cons.mpr ⟨lkV_3_10, List.forall_mem_cons.mpr ⟨lkV_3_11, List.forall_mem_cons.mpr ⟨lkV_3_12, List.forall_mem_cons.mpr ⟨lkV_3_13, List.forall_mem_cons.mpr ⟨lkV_3_14, List.forall_mem_cons.mpr ⟨lkV_3_15, List.forall_mem_cons.mpr ⟨lkV_3_16, List.forall_mem_cons.mpr ⟨lkV_3_17, List.forall_mem_cons.mpr ⟨lkV_3_18, fun _ h => absurd h List.not_mem_nil⟩⟩⟩⟩⟩⟩⟩⟩⟩⟩⟩⟩⟩⟩⟩⟩⟩⟩⟩
theorem lkS_3 : ∀ x ∈ (m_M 3).2.1, LkS 3 x := fun _ h => absurd h List.not_mem_nil
set_option maxRecDepth 20000 in
theorem lkI_3_0 : LkI 3 (3, 1000) := ⟨rfl, tb_1 59 (by rfl) (by rfl)⟩
set_option maxRecDepth 20000 in
theorem lkI_3_1 : LkI 3 (11, 78) := ⟨ykX8_init, Or.inr (by decide +kernel), wkX8_init, rfl, rfl, by decide +kernel, by decide⟩
set_option maxRecDepth 20000 in
theorem lkI_3_2 : LkI 3 (20, 99) := ⟨ykX10_init, Or.inr (by decide +kernel), wkX10_init, rfl, rfl, by decide +kernel, by decide⟩
theorem lkI_3 : ∀ x ∈ (m_M 3).2.2, LkI 3 x := List.forall_mem_cons.mpr ⟨lkI_3_0, List.forall_mem_cons.mpr ⟨lkI_3_1, List.forall_mem_cons.mpr ⟨lkI_3_2, fun _ h => absurd h List.not_mem_nil⟩⟩⟩
set_option maxRecDepth 20000 in
theorem lkV_4_0 : LkV 4 (31, 47) := ⟨ykX4_find, tb_3 108 (by rfl) (by rfl), wkX4_find, weX4_find, by decide +kernel, by decide, _, rfl⟩
set_option maxRecDepth 20000 in
theorem lkV_4_1 : LkV 4 (35, 46) := ⟨ykX4_has, tb_4 168 (by rfl) (by rfl), wkX4_has, weX4_has, by decide +kernel, by decide, _, rfl⟩
theorem lkV_4 : ∀ x ∈ (m_M 4).1, LkV 4 x := List.forall_mem_cons.mpr ⟨lkV_4_0, List.forall_mem_cons.mpr ⟨lkV_4_1, fun _ h => absurd h List.not_mem_nil⟩⟩
set_option maxRecDepth 20000 in
theorem lkS_4_0 : LkS 4 (25, 1001) := Or.inl ⟨rfl, tb_3 147 (by rfl) (by rfl)⟩
theorem lkS_4 : ∀ x ∈ (m_M 4).2.1, LkS 4 x := List.forall_mem_cons.mpr ⟨lkS_4_0, fun _ h => absurd h List.not_mem_nil⟩
set_option maxRecDepth 20000 in
theorem lkI_4_0 : LkI 4 (3, 1000) := ⟨rfl, tb_1 115 (by rfl) (by rfl)⟩
theorem lkI_4 : ∀ x ∈ (m_M 4).2.2, LkI 4 x := List.forall_mem_cons.mpr ⟨lkI_4_0, fun _ h => absurd h List.not_mem_nil⟩
set_option maxRecDepth 20000 in
theorem lkV_5_0 : LkV 5 (43, 53) := ⟨ykX5_run, tb_4 102 (by rfl) (by rfl), wkX5_run, weX5_run, by decide +kernel, by decide, _, rfl⟩
theorem lkV_5 : ∀ x ∈ (m_M 5).1, LkV 5 x := List.forall_mem_cons.mpr ⟨lkV_5_0, fun _ h => absurd h List.not_mem_nil⟩
set_option maxRecDepth 20000 in
theorem lkS_5_0 : LkS 5 (35, 1001) := Or.inl ⟨rfl, tb_3 223 (by rfl) (by rfl)⟩
set_option maxRecDepth 20000 in
theorem lkS_5_1 : LkS 5 (47, 54) := ⟨ykX5_join, tb_4 106 (by rfl) (by rfl), wkX5_join, by decide +kernel⟩
theorem lkS_5 : ∀ x ∈ (m_M 5).2.1, LkS 5 x := List.forall_mem_cons.mpr ⟨lkS_5_0, List.forall_mem_cons.mpr ⟨lkS_5_1, fun _ h => absurd h List.not_mem_nil⟩⟩
set_option maxRecDepth 20000 in
theorem lkI_5_0 : LkI 5 (3, 1000) := ⟨rfl, tb_3 222 (by rfl) (by rfl)⟩
theorem lkI_5 : ∀ x ∈ (m_M 5).2.2, LkI 5 x := List.forall_mem_cons.mpr ⟨lkI_5_0, fun _ h => absurd h List.not_mem_nil⟩
set_option maxRecDepth 20000 in
theorem lkV_6_0 : LkV 6 (25, 90) := ⟨ykX9_rewind, tb_3 158 (by rfl) (by rfl), wkX9_rewind, weX9_rewind, by decide +kernel, by decide, _, rfl⟩
set_option maxRecDepth 20000 in
theorem lkV_6_1 : LkV 6 (40, 93) := ⟨ykX9_next, tb_3 159 (by rfl) (by rfl), wkX9_next, weX9_next, by decide +kernel, by decide, _, rfl⟩
set_option maxRecDepth 20000 in
theorem lkV_6_2 : LkV 6 (49, 95) := ⟨ykX9_takeWord, tb_3 161 (by rfl) (by rfl), wkX9_takeWord, weX9_takeWord, by decide +kernel, by decide, _, rfl⟩
set_option maxRecDepth 20000 in
theorem lkV_6_3 : LkV 6 (53, 91) := ⟨ykX9_fail, tb_3 162 (by rfl) (by rfl), wkX9_fail, weX9_fail, by decide +kernel, by decide, _, rfl⟩
set_option maxRecDepth 20000 in
theorem lkV_6_4 : LkV 6 (57, 60) := ⟨ykX6_takeSum, tb_3 163 (by rfl) (by rfl), wkX6_takeSum, weX6_takeSum, by decide +kernel, by decide, _, rfl⟩
set_option maxRecDepth 20000 in
theorem lkV_6_5 : LkV 6 (63, 57) := ⟨ykX6_takeTest, tb_3 200 (by rfl) (by rfl), wkX6_takeTest, weX6_takeTest, by decide +kernel, by decide, _, rfl⟩
set_option maxRecDepth 20000 in
theorem lkV_6_6 : LkV 6 (70, 97) := ⟨ykX9_takeSemicolon, tb_3 217 (by rfl) (by rfl), wkX9_takeSemicolon, weX9_takeSemicolon, by decide +kernel, by decide, _, rfl⟩
set_option maxRecDepth 20000 in
theorem lkV_6_7 : LkV 6 (73, 58) := ⟨ykX6_takeFact, tb_3 204 (by rfl) (by rfl), wkX6_takeFact, weX6_takeFact, by decide +kernel, by decide, _, rfl⟩
set_option maxRecDepth 20000 in
theorem lkV_6_8 : LkV 6 (78, 63) := ⟨ykX6_put, tb_3 178 (by rfl) (by rfl), wkX6_put, weX6_put, by decide +kernel, by decide, _, rfl⟩
set_option maxRecDepth 20000 in
theorem lkV_6_9 : LkV 6 (85, 94) := ⟨ykX9_takeByte, tb_3 209 (by rfl) (by rfl), wkX9_takeByte, weX9_takeByte, by decide +kernel, by decide, _, rfl⟩
set_option maxRecDepth 20000 in
theorem lkV_6_10 : LkV 6 (88, 59) := ⟨ykX6_takeComparison, tb_3 210 (by rfl) (by rfl), wkX6_takeComparison, weX6_takeComparison, by decide +kernel, by decide, _, rfl⟩
set_option maxRecDepth 20000 in
theorem lkV_6_11 : LkV 6 (91, 62) := ⟨ykX6_countPart, tb_3 174 (by rfl) (by rfl), wkX6_countPart, weX6_countPart, by decide +kernel, by decide, _, rfl⟩
set_option maxRecDepth 20000 in
theorem lkV_6_12 : LkV 6 (94, 92) := ⟨ykX9_byteAt, tb_3 214 (by rfl) (by rfl), wkX9_byteAt, weX9_byteAt, by decide +kernel, by decide, _, rfl⟩
set_option maxRecDepth 20000 in
theorem lkV_6_13 : LkV 6 (98, 61) := ⟨ykX6_takeValue, tb_3 167 (by rfl) (by rfl), wkX6_takeValue, weX6_takeValue, by decide +kernel, by decide, _, rfl⟩
set_option maxRecDepth 20000 in
theorem lkV_6_14 : LkV 6 (108, 96) := ⟨ykX9_takeNumber, tb_3 173 (by rfl) (by rfl), wkX9_takeNumber, weX9_takeNumber, by decide +kernel, by decide, _, rfl⟩
theorem lkV_6 : ∀ x ∈ (m_M 6).1, LkV 6 x := List.forall_mem_cons.mpr ⟨lkV_6_0, List.forall_mem_cons.mpr ⟨lkV_6_1, List.forall_mem_cons.mpr ⟨lkV_6_2, List.forall_mem_cons.mpr ⟨lkV_6_3, List.forall_mem_cons.mpr ⟨lkV_6_4, List.forall_mem_cons.mpr ⟨lkV_6_5, List.forall_mem_cons.mpr ⟨lkV_6_6, List.forall_mem_cons.mpr ⟨lkV_6_7, List.forall_mem_cons.mpr ⟨lkV_6_8, List.forall_mem_cons.mpr ⟨lkV_6_9, List.forall_mem_cons.mpr ⟨lkV_6_10, List.forall_mem_cons.mpr ⟨lkV_6_11, List.forall_mem_cons.mpr ⟨lkV_6_12, List.forall_mem_cons.mpr ⟨lkV_6_13, List.forall_mem_cons.mpr ⟨lkV_6_14, fun _ h => absurd h List.not_mem_nil⟩⟩⟩⟩⟩⟩⟩⟩⟩⟩⟩⟩⟩⟩⟩
set_option maxRecDepth 20000 in
theorem lkS_6_0 : LkS 6 (101, 64) := ⟨ykX6_joinOf, tb_3 196 (by rfl) (by rfl), wkX6_joinOf, by decide +kernel⟩
set_option maxRecDepth 20000 in
theorem lkS_6_1 : LkS 6 (104, 98) := ⟨ykX9_isDigit, tb_3 171 (by rfl) (by rfl), wkX9_isDigit, by decide +kernel⟩
set_option maxRecDepth 20000 in
theorem lkS_6_2 : LkS 6 (112, 65) := ⟨ykX6_textOf, tb_3 182 (by rfl) (by rfl), wkX6_textOf, by decide +kernel⟩
theorem lkS_6 : ∀ x ∈ (m_M 6).2.1, LkS 6 x := List.forall_mem_cons.mpr ⟨lkS_6_0, List.forall_mem_cons.mpr ⟨lkS_6_1, List.forall_mem_cons.mpr ⟨lkS_6_2, fun _ h => absurd h List.not_mem_nil⟩⟩⟩
set_option maxRecDepth 20000 in
theorem lkI_6_0 : LkI 6 (3, 1000) := ⟨rfl, tb_1 199 (by rfl) (by rfl)⟩
theorem lkI_6 : ∀ x ∈ (m_M 6).2.2, LkI 6 x := List.forall_mem_cons.mpr ⟨lkI_6_0, fun _ h => absurd h List.not_mem_nil⟩
set_option maxRecDepth 20000 in
theorem lkV_7_0 : LkV 7 (37, 80) := ⟨ykX8_copyFrom, tb_4 49 (by rfl) (by rfl), wkX8_copyFrom, weX8_copyFrom, by decide +kernel, by decide, _, rfl⟩
set_option maxRecDepth 20000 in
theorem lkV_7_1 : LkV 7 (41, 101) := ⟨ykX10_copyFrom, tb_4 50 (by rfl) (by rfl), wkX10_copyFrom, weX10_copyFrom, by decide +kernel, by decide, _, rfl⟩
set_option maxRecDepth 20000 in
theorem lkV_7_2 : LkV 7 (48, 12) := ⟨ykX1_draw, tb_4 51 (by rfl) (by rfl), wkX1_draw, weX1_draw, by decide +kernel, by decide, _, rfl⟩
set_option maxRecDepth 20000 in
theorem lkV_7_3 : LkV 7 (54, 70) := ⟨ykX7_choose, tb_4 75 (by rfl) (by rfl), wkX7_choose, weX7_choose, by decide +kernel, by decide, _, rfl⟩
set_option maxRecDepth 20000 in
theorem lkV_7_4 : LkV 7 (58, 103) := ⟨ykX10_takeOut, tb_4 109 (by rfl) (by rfl), wkX10_takeOut, weX10_takeOut, by decide +kernel, by decide, _, rfl⟩
set_option maxRecDepth 20000 in
theorem lkV_7_5 : LkV 7 (65, 15) := ⟨ykX1_holeFor, tb_4 113 (by rfl) (by rfl), wkX1_holeFor, weX1_holeFor, by decide +kernel, by decide, _, rfl⟩
set_option maxRecDepth 20000 in
theorem lkV_7_6 : LkV 7 (68, 69) := ⟨ykX7_lay, tb_4 118 (by rfl) (by rfl), wkX7_lay, weX7_lay, by decide +kernel, by decide, _, rfl⟩
set_option maxRecDepth 20000 in
theorem lkV_7_7 : LkV 7 (72, 81) := ⟨ykX8_hasHole, tb_4 122 (by rfl) (by rfl), wkX8_hasHole, weX8_hasHole, by decide +kernel, by decide, _, rfl⟩
set_option maxRecDepth 20000 in
theorem lkV_7_8 : LkV 7 (86, 104) := ⟨ykX10_bagUp, tb_4 123 (by rfl) (by rfl), wkX10_bagUp, weX10_bagUp, by decide +kernel, by decide, _, rfl⟩
set_option maxRecDepth 20000 in
theorem lkV_7_9 : LkV 7 (92, 106) := ⟨ykX10_bagsOfAll, tb_4 79 (by rfl) (by rfl), wkX10_bagsOfAll, weX10_bagsOfAll, by decide +kernel, by decide, _, rfl⟩
set_option maxRecDepth 20000 in
theorem lkV_7_10 : LkV 7 (96, 71) := ⟨ykX7_describe, tb_4 80 (by rfl) (by rfl), wkX7_describe, weX7_describe, by decide +kernel, by decide, _, rfl⟩
set_option maxRecDepth 20000 in
theorem lkV_7_11 : LkV 7 (99, 52) := ⟨ykX5_worth, tb_4 98 (by rfl) (by rfl), wkX5_worth, weX5_worth, by decide +kernel, by decide, _, rfl⟩
set_option maxRecDepth 20000 in
theorem lkV_7_12 : LkV 7 (108, 14) := ⟨ykX1_entryFor, tb_4 84 (by rfl) (by rfl), wkX1_entryFor, weX1_entryFor, by decide +kernel, by decide, _, rfl⟩
set_option maxRecDepth 20000 in
theorem lkV_7_13 : LkV 7 (116, 87) := ⟨ykX8_digitOf, tb_4 93 (by rfl) (by rfl), wkX8_digitOf, weX8_digitOf, by decide +kernel, by decide, _, rfl⟩
set_option maxRecDepth 20000 in
theorem lkV_7_14 : LkV 7 (125, 68) := ⟨ykX7_step, tb_5 89 (by rfl) (by rfl), wkX7_step, weX7_step, by decide +kernel, by decide, _, rfl⟩
set_option maxRecDepth 20000 in
theorem lkV_7_15 : LkV 7 (128, 33) := ⟨ykX2_lastNotedTurn, tb_5 118 (by rfl) (by rfl), wkX2_lastNotedTurn, weX2_lastNotedTurn, by decide +kernel, by decide, _, rfl⟩
set_option maxRecDepth 20000 in
theorem lkV_7_16 : LkV 7 (133, 34) := ⟨ykX2_notesHold, tb_5 125 (by rfl) (by rfl), wkX2_notesHold, weX2_notesHold, by decide +kernel, by decide, _, rfl⟩
set_option maxRecDepth 20000 in
theorem lkV_7_17 : LkV 7 (137, 77) := ⟨ykX7_draw, tb_5 183 (by rfl) (by rfl), wkX7_draw, weX7_draw, by decide +kernel, by decide, _, rfl⟩
set_option maxRecDepth 20000 in
theorem lkV_7_18 : LkV 7 (142, 102) := ⟨ykX10_queue, tb_5 191 (by rfl) (by rfl), wkX10_queue, weX10_queue, by decide +kernel, by decide, _, rfl⟩
theorem lkV_7 : ∀ x ∈ (m_M 7).1, LkV 7 x := List.forall_mem_cons.mpr ⟨lkV_7_0, List.forall_mem_cons.mpr ⟨lkV_7_1, List.forall_mem_cons.mpr ⟨lkV_7_2, List.forall_mem_cons.mpr ⟨lkV_7_3, List.forall_mem_cons.mpr ⟨lkV_7_4, List.forall_mem_cons.mpr ⟨lkV_7_5, List.forall_mem_cons.mpr ⟨lkV_7_6, List.forall_mem_cons.mpr ⟨lkV_7_7, List.forall_mem_cons.mpr ⟨lkV_7_8, List.forall_mem_cons.mpr ⟨lkV_7_9, List.forall_mem_cons.mpr ⟨lkV_7_10, List.forall_mem_cons.mpr ⟨lkV_7_11, List.forall_mem_cons.mpr ⟨lkV_7_12, List.forall_mem_cons.mpr ⟨lkV_7_13, List.forall_mem_cons.mpr ⟨lkV_7_14, List.forall_mem_cons.mpr ⟨lkV_7_15, List.forall_mem_cons.mpr ⟨lkV_7_16, List.forall_mem_cons.mpr ⟨lkV_7_17, List.forall_mem_cons.mpr ⟨lkV_7_18, fun _ h => absurd h List.not_mem_nil⟩⟩⟩⟩⟩⟩⟩⟩⟩⟩⟩⟩⟩⟩⟩⟩⟩⟩⟩
theorem lkS_7 : ∀ x ∈ (m_M 7).2.1, LkS 7 x := fun _ h => absurd h List.not_mem_nil
set_option maxRecDepth 20000 in
theorem lkI_7_0 : LkI 7 (3, 1000) := ⟨rfl, tb_2 72 (by rfl) (by rfl)⟩
set_option maxRecDepth 20000 in
theorem lkI_7_1 : LkI 7 (11, 78) := ⟨ykX8_init, Or.inr (by decide +kernel), wkX8_init, rfl, rfl, by decide +kernel, by decide⟩
set_option maxRecDepth 20000 in
theorem lkI_7_2 : LkI 7 (20, 99) := ⟨ykX10_init, Or.inr (by decide +kernel), wkX10_init, rfl, rfl, by decide +kernel, by decide⟩
theorem lkI_7 : ∀ x ∈ (m_M 7).2.2, LkI 7 x := List.forall_mem_cons.mpr ⟨lkI_7_0, List.forall_mem_cons.mpr ⟨lkI_7_1, List.forall_mem_cons.mpr ⟨lkI_7_2, fun _ h => absurd h List.not_mem_nil⟩⟩⟩
set_option maxRecDepth 20000 in
theorem lkV_8_0 : LkV 8 (28, 84) := ⟨ykX8_prefixesOf, tb_3 87 (by rfl) (by rfl), wkX8_prefixesOf, weX8_prefixesOf, by decide +kernel, by decide, _, rfl⟩
set_option maxRecDepth 20000 in
theorem lkV_8_1 : LkV 8 (41, 85) := ⟨ykX8_spanOf, tb_4 97 (by rfl) (by rfl), wkX8_spanOf, weX8_spanOf, by decide +kernel, by decide, _, rfl⟩
theorem lkV_8 : ∀ x ∈ (m_M 8).1, LkV 8 x := List.forall_mem_cons.mpr ⟨lkV_8_0, List.forall_mem_cons.mpr ⟨lkV_8_1, fun _ h => absurd h List.not_mem_nil⟩⟩
set_option maxRecDepth 20000 in
theorem lkS_8_0 : LkS 8 (35, 1001) := Or.inl ⟨rfl, tb_3 136 (by rfl) (by rfl)⟩
theorem lkS_8 : ∀ x ∈ (m_M 8).2.1, LkS 8 x := List.forall_mem_cons.mpr ⟨lkS_8_0, fun _ h => absurd h List.not_mem_nil⟩
set_option maxRecDepth 20000 in
theorem lkI_8_0 : LkI 8 (3, 1000) := ⟨rfl, tb_1 65 (by rfl) (by rfl)⟩
theorem lkI_8 : ∀ x ∈ (m_M 8).2.2, LkI 8 x := List.forall_mem_cons.mpr ⟨lkI_8_0, fun _ h => absurd h List.not_mem_nil⟩
set_option maxRecDepth 20000 in
theorem lkV_9_0 : LkV 9 (25, 93) := ⟨ykX9_next, tb_3 7 (by rfl) (by rfl), wkX9_next, weX9_next, by decide +kernel, by decide, _, rfl⟩
set_option maxRecDepth 20000 in
theorem lkV_9_1 : LkV 9 (29, 91) := ⟨ykX9_fail, tb_3 82 (by rfl) (by rfl), wkX9_fail, weX9_fail, by decide +kernel, by decide, _, rfl⟩
set_option maxRecDepth 20000 in
theorem lkV_9_2 : LkV 9 (33, 1002) := Or.inl ⟨rfl, tb_3 8 (by rfl) (by rfl)⟩
set_option maxRecDepth 20000 in
theorem lkV_9_3 : LkV 9 (38, 92) := ⟨ykX9_byteAt, tb_3 18 (by rfl) (by rfl), wkX9_byteAt, weX9_byteAt, by decide +kernel, by decide, _, rfl⟩
set_option maxRecDepth 20000 in
theorem lkV_9_4 : LkV 9 (42, 1003) := Or.inr ⟨rfl, tb_3 22 (by rfl) (by rfl)⟩
set_option maxRecDepth 20000 in
theorem lkV_9_5 : LkV 9 (50, 94) := ⟨ykX9_takeByte, tb_3 124 (by rfl) (by rfl), wkX9_takeByte, weX9_takeByte, by decide +kernel, by decide, _, rfl⟩
theorem lkV_9 : ∀ x ∈ (m_M 9).1, LkV 9 x := List.forall_mem_cons.mpr ⟨lkV_9_0, List.forall_mem_cons.mpr ⟨lkV_9_1, List.forall_mem_cons.mpr ⟨lkV_9_2, List.forall_mem_cons.mpr ⟨lkV_9_3, List.forall_mem_cons.mpr ⟨lkV_9_4, List.forall_mem_cons.mpr ⟨lkV_9_5, fun _ h => absurd h List.not_mem_nil⟩⟩⟩⟩⟩⟩
set_option maxRecDepth 20000 in
theorem lkS_9_0 : LkS 9 (46, 98) := ⟨ykX9_isDigit, tb_3 79 (by rfl) (by rfl), wkX9_isDigit, by decide +kernel⟩
theorem lkS_9 : ∀ x ∈ (m_M 9).2.1, LkS 9 x := List.forall_mem_cons.mpr ⟨lkS_9_0, fun _ h => absurd h List.not_mem_nil⟩
set_option maxRecDepth 20000 in
theorem lkI_9_0 : LkI 9 (3, 1000) := ⟨rfl, tb_1 34 (by rfl) (by rfl)⟩
theorem lkI_9 : ∀ x ∈ (m_M 9).2.2, LkI 9 x := List.forall_mem_cons.mpr ⟨lkI_9_0, fun _ h => absurd h List.not_mem_nil⟩
set_option maxRecDepth 20000 in
theorem lkV_10_0 : LkV 10 (41, 45) := ⟨ykX4_copyFrom, tb_3 143 (by rfl) (by rfl), wkX4_copyFrom, weX4_copyFrom, by decide +kernel, by decide, _, rfl⟩
set_option maxRecDepth 20000 in
theorem lkV_10_1 : LkV 10 (61, 106) := ⟨ykX10_bagsOfAll, tb_5 141 (by rfl) (by rfl), wkX10_bagsOfAll, weX10_bagsOfAll, by decide +kernel, by decide, _, rfl⟩
theorem lkV_10 : ∀ x ∈ (m_M 10).1, LkV 10 x := List.forall_mem_cons.mpr ⟨lkV_10_0, List.forall_mem_cons.mpr ⟨lkV_10_1, fun _ h => absurd h List.not_mem_nil⟩⟩
set_option maxRecDepth 20000 in
theorem lkS_10_0 : LkS 10 (45, 1001) := Or.inl ⟨rfl, tb_3 148 (by rfl) (by rfl)⟩
set_option maxRecDepth 20000 in
theorem lkS_10_1 : LkS 10 (51, 1005) := Or.inr (Or.inr ⟨rfl, tb_4 127 (by rfl) (by rfl)⟩)
set_option maxRecDepth 20000 in
theorem lkS_10_2 : LkS 10 (57, 108) := ⟨ykX10_sumOf, tb_4 26 (by rfl) (by rfl), wkX10_sumOf, by decide +kernel⟩
theorem lkS_10 : ∀ x ∈ (m_M 10).2.1, LkS 10 x := List.forall_mem_cons.mpr ⟨lkS_10_0, List.forall_mem_cons.mpr ⟨lkS_10_1, List.forall_mem_cons.mpr ⟨lkS_10_2, fun _ h => absurd h List.not_mem_nil⟩⟩⟩
set_option maxRecDepth 20000 in
theorem lkI_10_0 : LkI 10 (3, 1000) := ⟨rfl, tb_1 109 (by rfl) (by rfl)⟩
set_option maxRecDepth 20000 in
theorem lkI_10_1 : LkI 10 (11, 44) := ⟨ykX4_init, Or.inr (by decide +kernel), wkX4_init, rfl, rfl, by decide +kernel, by decide⟩
theorem lkI_10 : ∀ x ∈ (m_M 10).2.2, LkI 10 x := List.forall_mem_cons.mpr ⟨lkI_10_0, List.forall_mem_cons.mpr ⟨lkI_10_1, fun _ h => absurd h List.not_mem_nil⟩⟩
set_option maxRecDepth 20000 in
theorem lkV_11_0 : LkV 11 (87, 89) := ⟨ykX9_add, tb_2 206 (by rfl) (by rfl), wkX9_add, weX9_add, by decide +kernel, by decide, _, rfl⟩
set_option maxRecDepth 20000 in
theorem lkV_11_1 : LkV 11 (91, 36) := ⟨ykX3_parse, tb_2 218 (by rfl) (by rfl), wkX3_parse, weX3_parse, by decide +kernel, by decide, _, rfl⟩
set_option maxRecDepth 20000 in
theorem lkV_11_2 : LkV 11 (103, 30) := ⟨ykX2_take, tb_3 128 (by rfl) (by rfl), wkX2_take, weX2_take, by decide +kernel, by decide, _, rfl⟩
set_option maxRecDepth 20000 in
theorem lkV_11_3 : LkV 11 (123, 56) := ⟨ykX6_parse, tb_3 154 (by rfl) (by rfl), wkX6_parse, weX6_parse, by decide +kernel, by decide, _, rfl⟩
set_option maxRecDepth 20000 in
theorem lkV_11_4 : LkV 11 (131, 81) := ⟨ykX8_hasHole, tb_4 5 (by rfl) (by rfl), wkX8_hasHole, weX8_hasHole, by decide +kernel, by decide, _, rfl⟩
set_option maxRecDepth 20000 in
theorem lkV_11_5 : LkV 11 (147, 46) := ⟨ykX4_has, tb_4 10 (by rfl) (by rfl), wkX4_has, weX4_has, by decide +kernel, by decide, _, rfl⟩
set_option maxRecDepth 20000 in
theorem lkV_11_6 : LkV 11 (176, 105) := ⟨ykX10_lyingInAll, tb_4 22 (by rfl) (by rfl), wkX10_lyingInAll, weX10_lyingInAll, by decide +kernel, by decide, _, rfl⟩
set_option maxRecDepth 20000 in
theorem lkV_11_7 : LkV 11 (179, 106) := ⟨ykX10_bagsOfAll, tb_4 29 (by rfl) (by rfl), wkX10_bagsOfAll, weX10_bagsOfAll, by decide +kernel, by decide, _, rfl⟩
set_option maxRecDepth 20000 in
theorem lkV_11_8 : LkV 11 (191, 149) := ⟨ykX11_hasFrame, tb_4 37 (by rfl) (by rfl), wkX11_hasFrame, weX11_hasFrame, by decide +kernel, by decide, _, rfl⟩
set_option maxRecDepth 20000 in
theorem lkV_11_9 : LkV 11 (195, 154) := ⟨ykX11_startFromNow, tb_4 41 (by rfl) (by rfl), wkX11_startFromNow, weX11_startFromNow, by decide +kernel, by decide, _, rfl⟩
set_option maxRecDepth 20000 in
theorem lkV_11_10 : LkV 11 (198, 151) := ⟨ykX11_ruleInForce, tb_4 63 (by rfl) (by rfl), wkX11_ruleInForce, weX11_ruleInForce, by decide +kernel, by decide, _, rfl⟩
set_option maxRecDepth 20000 in
theorem lkV_11_11 : LkV 11 (202, 68) := ⟨ykX7_step, tb_4 71 (by rfl) (by rfl), wkX7_step, weX7_step, by decide +kernel, by decide, _, rfl⟩
set_option maxRecDepth 20000 in
theorem lkV_11_12 : LkV 11 (206, 152) := ⟨ykX11_remember, tb_4 130 (by rfl) (by rfl), wkX11_remember, weX11_remember, by decide +kernel, by decide, _, rfl⟩
set_option maxRecDepth 20000 in
theorem lkV_11_13 : LkV 11 (212, 101) := ⟨ykX10_copyFrom, tb_4 134 (by rfl) (by rfl), wkX10_copyFrom, weX10_copyFrom, by decide +kernel, by decide, _, rfl⟩
set_option maxRecDepth 20000 in
theorem lkV_11_14 : LkV 11 (216, 82) := ⟨ykX8_hasCode, tb_4 140 (by rfl) (by rfl), wkX8_hasCode, weX8_hasCode, by decide +kernel, by decide, _, rfl⟩
set_option maxRecDepth 20000 in
theorem lkV_11_15 : LkV 11 (219, 102) := ⟨ykX10_queue, tb_4 141 (by rfl) (by rfl), wkX10_queue, weX10_queue, by decide +kernel, by decide, _, rfl⟩
set_option maxRecDepth 20000 in
theorem lkV_11_16 : LkV 11 (222, 104) := ⟨ykX10_bagUp, tb_4 146 (by rfl) (by rfl), wkX10_bagUp, weX10_bagUp, by decide +kernel, by decide, _, rfl⟩
set_option maxRecDepth 20000 in
theorem lkV_11_17 : LkV 11 (225, 83) := ⟨ykX8_hasPrefix, tb_4 151 (by rfl) (by rfl), wkX8_hasPrefix, weX8_hasPrefix, by decide +kernel, by decide, _, rfl⟩
set_option maxRecDepth 20000 in
theorem lkV_11_18 : LkV 11 (229, 48) := ⟨ykX4_canTake, tb_4 155 (by rfl) (by rfl), wkX4_canTake, weX4_canTake, by decide +kernel, by decide, _, rfl⟩
set_option maxRecDepth 20000 in
theorem lkV_11_19 : LkV 11 (232, 49) := ⟨ykX4_put, tb_4 159 (by rfl) (by rfl), wkX4_put, weX4_put, by decide +kernel, by decide, _, rfl⟩
set_option maxRecDepth 20000 in
theorem lkV_11_20 : LkV 11 (236, 50) := ⟨ykX4_drop, tb_4 164 (by rfl) (by rfl), wkX4_drop, weX4_drop, by decide +kernel, by decide, _, rfl⟩
set_option maxRecDepth 20000 in
theorem lkV_11_21 : LkV 11 (242, 153) := ⟨ykX11_drawNow, tb_4 177 (by rfl) (by rfl), wkX11_drawNow, weX11_drawNow, by decide +kernel, by decide, _, rfl⟩
set_option maxRecDepth 20000 in
theorem lkV_11_22 : LkV 11 (245, 14) := ⟨ykX1_entryFor, tb_4 182 (by rfl) (by rfl), wkX1_entryFor, weX1_entryFor, by decide +kernel, by decide, _, rfl⟩
set_option maxRecDepth 20000 in
theorem lkV_11_23 : LkV 11 (249, 15) := ⟨ykX1_holeFor, tb_4 183 (by rfl) (by rfl), wkX1_holeFor, weX1_holeFor, by decide +kernel, by decide, _, rfl⟩
set_option maxRecDepth 20000 in
theorem lkV_11_24 : LkV 11 (252, 16) := ⟨ykX1_digitsFor, tb_4 184 (by rfl) (by rfl), wkX1_digitsFor, weX1_digitsFor, by decide +kernel, by decide, _, rfl⟩
set_option maxRecDepth 20000 in
theorem lkV_11_25 : LkV 11 (255, 19) := ⟨ykX1_takeReading, tb_4 192 (by rfl) (by rfl), wkX1_takeReading, weX1_takeReading, by decide +kernel, by decide, _, rfl⟩
set_option maxRecDepth 20000 in
theorem lkV_11_26 : LkV 11 (258, 21) := ⟨ykX1_meantHoles, tb_4 196 (by rfl) (by rfl), wkX1_meantHoles, weX1_meantHoles, by decide +kernel, by decide, _, rfl⟩
set_option maxRecDepth 20000 in
theorem lkV_11_27 : LkV 11 (261, 22) := ⟨ykX1_setToRead, tb_4 210 (by rfl) (by rfl), wkX1_setToRead, weX1_setToRead, by decide +kernel, by decide, _, rfl⟩
set_option maxRecDepth 20000 in
theorem lkV_11_28 : LkV 11 (269, 17) := ⟨ykX1_howManyTo, tb_4 228 (by rfl) (by rfl), wkX1_howManyTo, weX1_howManyTo, by decide +kernel, by decide, _, rfl⟩
set_option maxRecDepth 20000 in
theorem lkV_11_29 : LkV 11 (272, 18) := ⟨ykX1_leastTo, tb_4 232 (by rfl) (by rfl), wkX1_leastTo, weX1_leastTo, by decide +kernel, by decide, _, rfl⟩
set_option maxRecDepth 20000 in
theorem lkV_11_30 : LkV 11 (275, 24) := ⟨ykX1_slipsOf, tb_5 0 (by rfl) (by rfl), wkX1_slipsOf, weX1_slipsOf, by decide +kernel, by decide, _, rfl⟩
set_option maxRecDepth 20000 in
theorem lkV_11_31 : LkV 11 (278, 25) := ⟨ykX1_mostSlipping, tb_5 8 (by rfl) (by rfl), wkX1_mostSlipping, weX1_mostSlipping, by decide +kernel, by decide, _, rfl⟩
set_option maxRecDepth 20000 in
theorem lkV_11_32 : LkV 11 (281, 26) := ⟨ykX1_idleEntries, tb_5 17 (by rfl) (by rfl), wkX1_idleEntries, weX1_idleEntries, by decide +kernel, by decide, _, rfl⟩
set_option maxRecDepth 20000 in
theorem lkV_11_33 : LkV 11 (284, 27) := ⟨ykX1_fewestEntries, tb_5 25 (by rfl) (by rfl), wkX1_fewestEntries, weX1_fewestEntries, by decide +kernel, by decide, _, rfl⟩
set_option maxRecDepth 20000 in
theorem lkV_11_34 : LkV 11 (287, 3) := ⟨ykX0_seekEntry, tb_5 39 (by rfl) (by rfl), wkX0_seekEntry, weX0_seekEntry, by decide +kernel, by decide, _, rfl⟩
set_option maxRecDepth 20000 in
theorem lkV_11_35 : LkV 11 (298, 6) := ⟨ykX0_seekChange, tb_5 73 (by rfl) (by rfl), wkX0_seekChange, weX0_seekChange, by decide +kernel, by decide, _, rfl⟩
set_option maxRecDepth 20000 in
theorem lkV_11_36 : LkV 11 (304, 72) := ⟨ykX7_steps, tb_5 85 (by rfl) (by rfl), wkX7_steps, weX7_steps, by decide +kernel, by decide, _, rfl⟩
set_option maxRecDepth 20000 in
theorem lkV_11_37 : LkV 11 (308, 73) := ⟨ykX7_turnOfSorting, tb_5 94 (by rfl) (by rfl), wkX7_turnOfSorting, weX7_turnOfSorting, by decide +kernel, by decide, _, rfl⟩
set_option maxRecDepth 20000 in
theorem lkV_11_38 : LkV 11 (311, 74) := ⟨ykX7_turnOfTying, tb_5 102 (by rfl) (by rfl), wkX7_turnOfTying, weX7_turnOfTying, by decide +kernel, by decide, _, rfl⟩
set_option maxRecDepth 20000 in
theorem lkV_11_39 : LkV 11 (317, 67) := ⟨ykX7_start, tb_4 45 (by rfl) (by rfl), wkX7_start, weX7_start, by decide +kernel, by decide, _, rfl⟩
set_option maxRecDepth 20000 in
theorem lkV_11_40 : LkV 11 (323, 75) := ⟨ykX7_agrees, tb_5 114 (by rfl) (by rfl), wkX7_agrees, weX7_agrees, by decide +kernel, by decide, _, rfl⟩
set_option maxRecDepth 20000 in
theorem lkV_11_41 : LkV 11 (327, 107) := ⟨ykX10_shareOf, tb_5 137 (by rfl) (by rfl), wkX10_shareOf, weX10_shareOf, by decide +kernel, by decide, _, rfl⟩
set_option maxRecDepth 20000 in
theorem lkV_11_42 : LkV 11 (331, 32) := ⟨ykX2_addNote, tb_5 146 (by rfl) (by rfl), wkX2_addNote, weX2_addNote, by decide +kernel, by decide, _, rfl⟩
set_option maxRecDepth 20000 in
theorem lkV_11_43 : LkV 11 (335, 150) := ⟨ykX11_ruleAt, tb_4 67 (by rfl) (by rfl), wkX11_ruleAt, weX11_ruleAt, by decide +kernel, by decide, _, rfl⟩
set_option maxRecDepth 20000 in
theorem lkV_11_44 : LkV 11 (342, 8) := ⟨ykX0_addSight, tb_5 158 (by rfl) (by rfl), wkX0_addSight, weX0_addSight, by decide +kernel, by decide, _, rfl⟩
set_option maxRecDepth 20000 in
theorem lkV_11_45 : LkV 11 (346, 9) := ⟨ykX0_seekSight, tb_5 162 (by rfl) (by rfl), wkX0_seekSight, weX0_seekSight, by decide +kernel, by decide, _, rfl⟩
set_option maxRecDepth 20000 in
theorem lkV_11_46 : LkV 11 (353, 76) := ⟨ykX7_stepsWithPosts, tb_5 179 (by rfl) (by rfl), wkX7_stepsWithPosts, weX7_stepsWithPosts, by decide +kernel, by decide, _, rfl⟩
set_option maxRecDepth 20000 in
theorem lkV_11_47 : LkV 11 (357, 31) := ⟨ykX2_copyFrom, tb_5 196 (by rfl) (by rfl), wkX2_copyFrom, weX2_copyFrom, by decide +kernel, by decide, _, rfl⟩
set_option maxRecDepth 20000 in
theorem lkV_11_48 : LkV 11 (365, 12) := ⟨ykX1_draw, tb_4 181 (by rfl) (by rfl), wkX1_draw, weX1_draw, by decide +kernel, by decide, _, rfl⟩
theorem lkV_11 : ∀ x ∈ (m_M 11).1, LkV 11 x := List.forall_mem_cons.mpr ⟨lkV_11_0, List.forall_mem_cons.mpr ⟨lkV_11_1, List.forall_mem_cons.mpr ⟨lkV_11_2, List.forall_mem_cons.mpr ⟨lkV_11_3, List.forall_mem_cons.mpr ⟨lkV_11_4, List.forall_mem_cons.mpr ⟨lkV_11_5, List.forall_mem_cons.mpr ⟨lkV_11_6, List.forall_mem_cons.mpr ⟨lkV_11_7, List.forall_mem_cons.mpr ⟨lkV_11_8, List.forall_mem_cons.mpr ⟨lkV_11_9, List.forall_mem_cons.mpr ⟨lkV_11_10, List.forall_mem_cons.mpr ⟨lkV_11_11, List.forall_mem_cons.mpr ⟨lkV_11_12, List.forall_mem_cons.mpr ⟨lkV_11_13, List.forall_mem_cons.mpr ⟨lkV_11_14, List.forall_mem_cons.mpr ⟨lkV_11_15, List.forall_mem_cons.mpr ⟨lkV_11_16, List.forall_mem_cons.mpr ⟨lkV_11_17, List.forall_mem_cons.mpr ⟨lkV_11_18, List.forall_mem_cons.mpr ⟨lkV_11_19, List.forall_mem_cons.mpr ⟨lkV_11_20, List.forall_mem_cons.mpr ⟨lkV_11_21, List.forall_mem_cons.mpr ⟨lkV_11_22, List.forall_mem_cons.mpr ⟨lkV_11_23, List.forall_mem_cons.mpr ⟨lkV_11_24, List.forall_mem_cons.mpr ⟨lkV_11_25, List.forall_mem_cons.mpr ⟨lkV_11_26, List.forall_mem_cons.mpr ⟨lkV_11_27, List.forall_mem_cons.mpr ⟨lkV_11_28, List.forall_mem_cons.mpr ⟨lkV_11_29, List.forall_mem_cons.mpr ⟨lkV_11_30, List.forall_mem_cons.mpr ⟨lkV_11_31, List.forall_mem_cons.mpr ⟨lkV_11_32, List.forall_mem_cons.mpr ⟨lkV_11_33, List.forall_mem_cons.mpr ⟨lkV_11_34, List.forall_mem_cons.mpr ⟨lkV_11_35, List.forall_mem_cons.mpr ⟨lkV_11_36, List.forall_mem_cons.mpr ⟨lkV_11_37, List.forall_mem_cons.mpr ⟨lkV_11_38, List.forall_mem_cons.mpr ⟨lkV_11_39, List.forall_mem_cons.mpr ⟨lkV_11_40, List.forall_mem_cons.mpr ⟨lkV_11_41, List.forall_mem_cons.mpr ⟨lkV_11_42, List.forall_mem_cons.mpr ⟨lkV_11_43, List.forall_mem_cons.mpr ⟨lkV_11_44, List.forall_mem_cons.mpr ⟨lkV_11_45, List.forall_mem_cons.mpr ⟨lkV_11_46, List.forall_mem_cons.mpr ⟨lkV_11_47, List.forall_mem_cons.mpr ⟨lkV_11_48, fun _ h => absurd h List.not_mem_nil⟩⟩⟩⟩⟩⟩⟩⟩⟩⟩⟩⟩⟩⟩⟩⟩⟩⟩⟩⟩⟩⟩⟩⟩⟩⟩⟩⟩⟩⟩⟩⟩⟩⟩⟩⟩⟩⟩⟩⟩⟩⟩⟩⟩⟩⟩⟩⟩⟩
set_option maxRecDepth 20000 in
theorem lkS_11_0 : LkS 11 (264, 282) := ⟨ykJ6_bitCount_0f7a4, tb_4 218 (by rfl) (by rfl), wkJ6_bitCount_0f7a4, by decide +kernel⟩
set_option maxRecDepth 20000 in
theorem lkS_11_1 : LkS 11 (360, 1005) := Or.inr (Or.inr ⟨rfl, tb_4 135 (by rfl) (by rfl)⟩)
theorem lkS_11 : ∀ x ∈ (m_M 11).2.1, LkS 11 x := List.forall_mem_cons.mpr ⟨lkS_11_0, List.forall_mem_cons.mpr ⟨lkS_11_1, fun _ h => absurd h List.not_mem_nil⟩⟩
set_option maxRecDepth 20000 in
theorem lkI_11_0 : LkI 11 (1, 1000) := ⟨rfl, tb_1 26 (by rfl) (by rfl)⟩
set_option maxRecDepth 20000 in
theorem lkI_11_1 : LkI 11 (9, 88) := ⟨ykX9_init, Or.inr (by decide +kernel), wkX9_init, rfl, rfl, by decide +kernel, by decide⟩
set_option maxRecDepth 20000 in
theorem lkI_11_2 : LkI 11 (18, 35) := ⟨ykX3_init, Or.inl (tb_1 56 (by rfl) (by rfl)), wkX3_init, rfl, rfl, by decide +kernel, by decide⟩
set_option maxRecDepth 20000 in
theorem lkI_11_3 : LkI 11 (27, 55) := ⟨ykX6_init, Or.inl (tb_1 196 (by rfl) (by rfl)), wkX6_init, rfl, rfl, by decide +kernel, by decide⟩
set_option maxRecDepth 20000 in
theorem lkI_11_4 : LkI 11 (40, 29) := ⟨ykX2_init, Or.inr (by decide +kernel), wkX2_init, rfl, rfl, by decide +kernel, by decide⟩
set_option maxRecDepth 20000 in
theorem lkI_11_5 : LkI 11 (59, 99) := ⟨ykX10_init, Or.inr (by decide +kernel), wkX10_init, rfl, rfl, by decide +kernel, by decide⟩
set_option maxRecDepth 20000 in
theorem lkI_11_6 : LkI 11 (62, 11) := ⟨ykX1_init, Or.inr (by decide +kernel), wkX1_init, rfl, rfl, by decide +kernel, by decide⟩
set_option maxRecDepth 20000 in
theorem lkI_11_7 : LkI 11 (69, 66) := ⟨ykX7_init, Or.inl (tb_2 69 (by rfl) (by rfl)), wkX7_init, rfl, rfl, by decide +kernel, by decide⟩
set_option maxRecDepth 20000 in
theorem lkI_11_8 : LkI 11 (78, 0) := ⟨ykX0_init, Or.inl (tb_2 102 (by rfl) (by rfl)), wkX0_init, rfl, rfl, by decide +kernel, by decide⟩
set_option maxRecDepth 20000 in
theorem lkI_11_9 : LkI 11 (124, 51) := ⟨ykX5_init, Or.inl (tb_3 219 (by rfl) (by rfl)), wkX5_init, rfl, rfl, by decide +kernel, by decide⟩
theorem lkI_11 : ∀ x ∈ (m_M 11).2.2, LkI 11 x := List.forall_mem_cons.mpr ⟨lkI_11_0, List.forall_mem_cons.mpr ⟨lkI_11_1, List.forall_mem_cons.mpr ⟨lkI_11_2, List.forall_mem_cons.mpr ⟨lkI_11_3, List.forall_mem_cons.mpr ⟨lkI_11_4, List.forall_mem_cons.mpr ⟨lkI_11_5, List.forall_mem_cons.mpr ⟨lkI_11_6, List.forall_mem_cons.mpr ⟨lkI_11_7, List.forall_mem_cons.mpr ⟨lkI_11_8, List.forall_mem_cons.mpr ⟨lkI_11_9, fun _ h => absurd h List.not_mem_nil⟩⟩⟩⟩⟩⟩⟩⟩⟩⟩
set_option maxRecDepth 20000 in
theorem lkV_12_0 : LkV 12 (92, 160) := ⟨ykX12_four, tb_6 102 (by rfl) (by rfl), wkX12_four, weX12_four, by decide +kernel, by decide, _, rfl⟩
set_option maxRecDepth 20000 in
theorem lkV_12_1 : LkV 12 (102, 164) := ⟨ykX12_see, tb_6 122 (by rfl) (by rfl), wkX12_see, weX12_see, by decide +kernel, by decide, _, rfl⟩
set_option maxRecDepth 20000 in
theorem lkV_12_2 : LkV 12 (106, 166) := ⟨ykX12_isLetter, tb_6 135 (by rfl) (by rfl), wkX12_isLetter, weX12_isLetter, by decide +kernel, by decide, _, rfl⟩
set_option maxRecDepth 20000 in
theorem lkV_12_3 : LkV 12 (110, 167) := ⟨ykX12_isWord, tb_6 131 (by rfl) (by rfl), wkX12_isWord, weX12_isWord, by decide +kernel, by decide, _, rfl⟩
set_option maxRecDepth 20000 in
theorem lkV_12_4 : LkV 12 (114, 168) := ⟨ykX12_passWord, tb_6 155 (by rfl) (by rfl), wkX12_passWord, weX12_passWord, by decide +kernel, by decide, _, rfl⟩
set_option maxRecDepth 20000 in
theorem lkV_12_5 : LkV 12 (117, 165) := ⟨ykX12_isDigit, tb_6 167 (by rfl) (by rfl), wkX12_isDigit, weX12_isDigit, by decide +kernel, by decide, _, rfl⟩
set_option maxRecDepth 20000 in
theorem lkV_12_6 : LkV 12 (120, 163) := ⟨ykX12_fails, tb_6 143 (by rfl) (by rfl), wkX12_fails, weX12_fails, by decide +kernel, by decide, _, rfl⟩
set_option maxRecDepth 20000 in
theorem lkV_12_7 : LkV 12 (169, 172) := ⟨ykX12_puts, tb_6 210 (by rfl) (by rfl), wkX12_puts, weX12_puts, by decide +kernel, by decide, _, rfl⟩
set_option maxRecDepth 20000 in
theorem lkV_12_8 : LkV 12 (174, 170) := ⟨ykX12_numberHere, tb_6 163 (by rfl) (by rfl), wkX12_numberHere, weX12_numberHere, by decide +kernel, by decide, _, rfl⟩
set_option maxRecDepth 20000 in
theorem lkV_12_9 : LkV 12 (177, 173) := ⟨ykX12_makes, tb_6 206 (by rfl) (by rfl), wkX12_makes, weX12_makes, by decide +kernel, by decide, _, rfl⟩
set_option maxRecDepth 20000 in
theorem lkV_12_10 : LkV 12 (180, 171) := ⟨ykX12_wordHere, tb_6 214 (by rfl) (by rfl), wkX12_wordHere, weX12_wordHere, by decide +kernel, by decide, _, rfl⟩
set_option maxRecDepth 20000 in
theorem lkV_12_11 : LkV 12 (183, 177) := ⟨ykX12_value, tb_6 201 (by rfl) (by rfl), wkX12_value, weX12_value, by decide +kernel, by decide, _, rfl⟩
set_option maxRecDepth 20000 in
theorem lkV_12_12 : LkV 12 (187, 178) := ⟨ykX12_term, tb_6 197 (by rfl) (by rfl), wkX12_term, weX12_term, by decide +kernel, by decide, _, rfl⟩
set_option maxRecDepth 20000 in
theorem lkV_12_13 : LkV 12 (190, 179) := ⟨ykX12_sum, tb_6 193 (by rfl) (by rfl), wkX12_sum, weX12_sum, by decide +kernel, by decide, _, rfl⟩
set_option maxRecDepth 20000 in
theorem lkV_12_14 : LkV 12 (195, 174) := ⟨ykX12_opens, tb_7 2 (by rfl) (by rfl), wkX12_opens, weX12_opens, by decide +kernel, by decide, _, rfl⟩
set_option maxRecDepth 20000 in
theorem lkV_12_15 : LkV 12 (198, 180) := ⟨ykX12_compare, tb_7 6 (by rfl) (by rfl), wkX12_compare, weX12_compare, by decide +kernel, by decide, _, rfl⟩
set_option maxRecDepth 20000 in
theorem lkV_12_16 : LkV 12 (201, 176) := ⟨ykX12_layDown, tb_7 14 (by rfl) (by rfl), wkX12_layDown, weX12_layDown, by decide +kernel, by decide, _, rfl⟩
set_option maxRecDepth 20000 in
theorem lkV_12_17 : LkV 12 (204, 182) := ⟨ykX12_isInside, tb_7 21 (by rfl) (by rfl), wkX12_isInside, weX12_isInside, by decide +kernel, by decide, _, rfl⟩
set_option maxRecDepth 20000 in
theorem lkV_12_18 : LkV 12 (207, 181) := ⟨ykX12_fact, tb_6 237 (by rfl) (by rfl), wkX12_fact, weX12_fact, by decide +kernel, by decide, _, rfl⟩
set_option maxRecDepth 20000 in
theorem lkV_12_19 : LkV 12 (210, 183) := ⟨ykX12_closes, tb_7 10 (by rfl) (by rfl), wkX12_closes, weX12_closes, by decide +kernel, by decide, _, rfl⟩
set_option maxRecDepth 20000 in
theorem lkV_12_20 : LkV 12 (219, 169) := ⟨ykX12_takesWord, tb_6 229 (by rfl) (by rfl), wkX12_takesWord, weX12_takesWord, by decide +kernel, by decide, _, rfl⟩
set_option maxRecDepth 20000 in
theorem lkV_12_21 : LkV 12 (222, 184) := ⟨ykX12_tested, tb_6 233 (by rfl) (by rfl), wkX12_tested, weX12_tested, by decide +kernel, by decide, _, rfl⟩
set_option maxRecDepth 20000 in
theorem lkV_12_22 : LkV 12 (225, 186) := ⟨ykX12_cellHere, tb_6 159 (by rfl) (by rfl), wkX12_cellHere, weX12_cellHere, by decide +kernel, by decide, _, rfl⟩
set_option maxRecDepth 20000 in
theorem lkV_12_23 : LkV 12 (235, 187) := ⟨ykX12_isFrameHere, tb_6 151 (by rfl) (by rfl), wkX12_isFrameHere, weX12_isFrameHere, by decide +kernel, by decide, _, rfl⟩
set_option maxRecDepth 20000 in
theorem lkV_12_24 : LkV 12 (238, 188) := ⟨ykX12_isRoomHere, tb_6 174 (by rfl) (by rfl), wkX12_isRoomHere, weX12_isRoomHere, by decide +kernel, by decide, _, rfl⟩
set_option maxRecDepth 20000 in
theorem lkV_12_25 : LkV 12 (243, 189) := ⟨ykX12_isPlanHere, tb_6 178 (by rfl) (by rfl), wkX12_isPlanHere, weX12_isPlanHere, by decide +kernel, by decide, _, rfl⟩
set_option maxRecDepth 20000 in
theorem lkV_12_26 : LkV 12 (246, 190) := ⟨ykX12_isLetterToldHere, tb_6 185 (by rfl) (by rfl), wkX12_isLetterToldHere, weX12_isLetterToldHere, by decide +kernel, by decide, _, rfl⟩
set_option maxRecDepth 20000 in
theorem lkV_12_27 : LkV 12 (251, 192) := ⟨ykX12_isFrameWord, tb_6 126 (by rfl) (by rfl), wkX12_isFrameWord, weX12_isFrameWord, by decide +kernel, by decide, _, rfl⟩
set_option maxRecDepth 20000 in
theorem lkV_12_28 : LkV 12 (259, 191) := ⟨ykX12_frameLineHere, tb_6 147 (by rfl) (by rfl), wkX12_frameLineHere, weX12_frameLineHere, by decide +kernel, by decide, _, rfl⟩
set_option maxRecDepth 20000 in
theorem lkV_12_29 : LkV 12 (262, 185) := ⟨ykX12_isTakeHere, tb_6 189 (by rfl) (by rfl), wkX12_isTakeHere, weX12_isTakeHere, by decide +kernel, by decide, _, rfl⟩
set_option maxRecDepth 20000 in
theorem lkV_12_30 : LkV 12 (265, 193) := ⟨ykX12_clauseHere, tb_6 118 (by rfl) (by rfl), wkX12_clauseHere, weX12_clauseHere, by decide +kernel, by decide, _, rfl⟩
set_option maxRecDepth 20000 in
theorem lkV_12_31 : LkV 12 (271, 194) := ⟨ykX12_readsAll, tb_6 114 (by rfl) (by rfl), wkX12_readsAll, weX12_readsAll, by decide +kernel, by decide, _, rfl⟩
set_option maxRecDepth 20000 in
theorem lkV_12_32 : LkV 12 (274, 211) := ⟨ykX12_begins, tb_7 31 (by rfl) (by rfl), wkX12_begins, weX12_begins, by decide +kernel, by decide, _, rfl⟩
set_option maxRecDepth 20000 in
theorem lkV_12_33 : LkV 12 (283, 198) := ⟨ykX12_push, tb_7 116 (by rfl) (by rfl), wkX12_push, weX12_push, by decide +kernel, by decide, _, rfl⟩
set_option maxRecDepth 20000 in
theorem lkV_12_34 : LkV 12 (287, 199) := ⟨ykX12_pop, tb_7 120 (by rfl) (by rfl), wkX12_pop, weX12_pop, by decide +kernel, by decide, _, rfl⟩
set_option maxRecDepth 20000 in
theorem lkV_12_35 : LkV 12 (295, 202) := ⟨ykX12_isFrame, tb_7 72 (by rfl) (by rfl), wkX12_isFrame, weX12_isFrame, by decide +kernel, by decide, _, rfl⟩
set_option maxRecDepth 20000 in
theorem lkV_12_36 : LkV 12 (298, 203) := ⟨ykX12_codesMany, tb_7 147 (by rfl) (by rfl), wkX12_codesMany, weX12_codesMany, by decide +kernel, by decide, _, rfl⟩
set_option maxRecDepth 20000 in
theorem lkV_12_37 : LkV 12 (301, 207) := ⟨ykX12_prefixOf, tb_7 96 (by rfl) (by rfl), wkX12_prefixOf, weX12_prefixOf, by decide +kernel, by decide, _, rfl⟩
set_option maxRecDepth 20000 in
theorem lkV_12_38 : LkV 12 (304, 208) := ⟨ykX12_entryOf, tb_7 92 (by rfl) (by rfl), wkX12_entryOf, weX12_entryOf, by decide +kernel, by decide, _, rfl⟩
set_option maxRecDepth 20000 in
theorem lkV_12_39 : LkV 12 (307, 197) := ⟨ykX12_isRule, tb_7 39 (by rfl) (by rfl), wkX12_isRule, weX12_isRule, by decide +kernel, by decide, _, rfl⟩
set_option maxRecDepth 20000 in
theorem lkV_12_40 : LkV 12 (310, 204) := ⟨ykX12_isHole, tb_7 47 (by rfl) (by rfl), wkX12_isHole, weX12_isHole, by decide +kernel, by decide, _, rfl⟩
set_option maxRecDepth 20000 in
theorem lkV_12_41 : LkV 12 (315, 205) := ⟨ykX12_isEntry, tb_7 56 (by rfl) (by rfl), wkX12_isEntry, weX12_isEntry, by decide +kernel, by decide, _, rfl⟩
set_option maxRecDepth 20000 in
theorem lkV_12_42 : LkV 12 (318, 201) := ⟨ykX12_reckons, tb_7 112 (by rfl) (by rfl), wkX12_reckons, weX12_reckons, by decide +kernel, by decide, _, rfl⟩
set_option maxRecDepth 20000 in
theorem lkV_12_43 : LkV 12 (322, 209) := ⟨ykX12_holeOf, tb_7 100 (by rfl) (by rfl), wkX12_holeOf, weX12_holeOf, by decide +kernel, by decide, _, rfl⟩
set_option maxRecDepth 20000 in
theorem lkV_12_44 : LkV 12 (325, 210) := ⟨ykX12_sumOver, tb_7 104 (by rfl) (by rfl), wkX12_sumOver, weX12_sumOver, by decide +kernel, by decide, _, rfl⟩
set_option maxRecDepth 20000 in
theorem lkV_12_45 : LkV 12 (328, 216) := ⟨ykX12_summedBy, tb_7 108 (by rfl) (by rfl), wkX12_summedBy, weX12_summedBy, by decide +kernel, by decide, _, rfl⟩
set_option maxRecDepth 20000 in
theorem lkV_12_46 : LkV 12 (332, 217) := ⟨ykX12_sumOf, tb_7 88 (by rfl) (by rfl), wkX12_sumOf, weX12_sumOf, by decide +kernel, by decide, _, rfl⟩
set_option maxRecDepth 20000 in
theorem lkV_12_47 : LkV 12 (338, 219) := ⟨ykX12_ties, tb_7 135 (by rfl) (by rfl), wkX12_ties, weX12_ties, by decide +kernel, by decide, _, rfl⟩
set_option maxRecDepth 20000 in
theorem lkV_12_48 : LkV 12 (341, 218) := ⟨ykX12_choice, tb_7 84 (by rfl) (by rfl), wkX12_choice, weX12_choice, by decide +kernel, by decide, _, rfl⟩
set_option maxRecDepth 20000 in
theorem lkV_12_49 : LkV 12 (344, 221) := ⟨ykX12_leaves, tb_7 127 (by rfl) (by rfl), wkX12_leaves, weX12_leaves, by decide +kernel, by decide, _, rfl⟩
set_option maxRecDepth 20000 in
theorem lkV_12_50 : LkV 12 (347, 220) := ⟨ykX12_sorts, tb_7 131 (by rfl) (by rfl), wkX12_sorts, weX12_sorts, by decide +kernel, by decide, _, rfl⟩
set_option maxRecDepth 20000 in
theorem lkV_12_51 : LkV 12 (350, 222) := ⟨ykX12_passes, tb_7 80 (by rfl) (by rfl), wkX12_passes, weX12_passes, by decide +kernel, by decide, _, rfl⟩
set_option maxRecDepth 20000 in
theorem lkV_12_52 : LkV 12 (353, 224) := ⟨ykX12_keepsAct, tb_7 76 (by rfl) (by rfl), wkX12_keepsAct, weX12_keepsAct, by decide +kernel, by decide, _, rfl⟩
set_option maxRecDepth 20000 in
theorem lkV_12_53 : LkV 12 (356, 206) := ⟨ykX12_isCode, tb_7 143 (by rfl) (by rfl), wkX12_isCode, weX12_isCode, by decide +kernel, by decide, _, rfl⟩
set_option maxRecDepth 20000 in
theorem lkV_12_54 : LkV 12 (359, 227) := ⟨ykX12_comes, tb_7 151 (by rfl) (by rfl), wkX12_comes, weX12_comes, by decide +kernel, by decide, _, rfl⟩
set_option maxRecDepth 20000 in
theorem lkV_12_55 : LkV 12 (362, 230) := ⟨ykX12_numberOf, tb_7 167 (by rfl) (by rfl), wkX12_numberOf, weX12_numberOf, by decide +kernel, by decide, _, rfl⟩
set_option maxRecDepth 20000 in
theorem lkV_12_56 : LkV 12 (365, 231) := ⟨ykX12_canEnter, tb_7 163 (by rfl) (by rfl), wkX12_canEnter, weX12_canEnter, by decide +kernel, by decide, _, rfl⟩
set_option maxRecDepth 20000 in
theorem lkV_12_57 : LkV 12 (368, 232) := ⟨ykX12_enters, tb_7 171 (by rfl) (by rfl), wkX12_enters, weX12_enters, by decide +kernel, by decide, _, rfl⟩
set_option maxRecDepth 20000 in
theorem lkV_12_58 : LkV 12 (372, 237) := ⟨ykX12_digitOf, tb_7 195 (by rfl) (by rfl), wkX12_digitOf, weX12_digitOf, by decide +kernel, by decide, _, rfl⟩
set_option maxRecDepth 20000 in
theorem lkV_12_59 : LkV 12 (375, 236) := ⟨ykX12_isReading, tb_7 187 (by rfl) (by rfl), wkX12_isReading, weX12_isReading, by decide +kernel, by decide, _, rfl⟩
set_option maxRecDepth 20000 in
theorem lkV_12_60 : LkV 12 (378, 238) := ⟨ykX12_canMean, tb_7 191 (by rfl) (by rfl), wkX12_canMean, weX12_canMean, by decide +kernel, by decide, _, rfl⟩
set_option maxRecDepth 20000 in
theorem lkV_12_61 : LkV 12 (384, 240) := ⟨ykX12_areLike, tb_7 214 (by rfl) (by rfl), wkX12_areLike, weX12_areLike, by decide +kernel, by decide, _, rfl⟩
set_option maxRecDepth 20000 in
theorem lkV_12_62 : LkV 12 (387, 242) := ⟨ykX12_fillsGoes, tb_7 203 (by rfl) (by rfl), wkX12_fillsGoes, weX12_fillsGoes, by decide +kernel, by decide, _, rfl⟩
set_option maxRecDepth 20000 in
theorem lkV_12_63 : LkV 12 (393, 241) := ⟨ykX12_isEnough, tb_7 210 (by rfl) (by rfl), wkX12_isEnough, weX12_isEnough, by decide +kernel, by decide, _, rfl⟩
set_option maxRecDepth 20000 in
theorem lkV_12_64 : LkV 12 (396, 245) := ⟨ykX12_slipsOf, tb_7 229 (by rfl) (by rfl), wkX12_slipsOf, weX12_slipsOf, by decide +kernel, by decide, _, rfl⟩
set_option maxRecDepth 20000 in
theorem lkV_12_65 : LkV 12 (399, 250) := ⟨ykX12_needBelow, tb_8 13 (by rfl) (by rfl), wkX12_needBelow, weX12_needBelow, by decide +kernel, by decide, _, rfl⟩
set_option maxRecDepth 20000 in
theorem lkV_12_66 : LkV 12 (402, 249) := ⟨ykX12_needsOfCodes, tb_8 5 (by rfl) (by rfl), wkX12_needsOfCodes, weX12_needsOfCodes, by decide +kernel, by decide, _, rfl⟩
set_option maxRecDepth 20000 in
theorem lkV_12_67 : LkV 12 (405, 251) := ⟨ykX12_needsOf, tb_8 9 (by rfl) (by rfl), wkX12_needsOf, weX12_needsOf, by decide +kernel, by decide, _, rfl⟩
set_option maxRecDepth 20000 in
theorem lkV_12_68 : LkV 12 (414, 254) := ⟨ykX12_laysBack, tb_8 30 (by rfl) (by rfl), wkX12_laysBack, weX12_laysBack, by decide +kernel, by decide, _, rfl⟩
set_option maxRecDepth 20000 in
theorem lkV_12_69 : LkV 12 (417, 255) := ⟨ykX12_sortsAll, tb_8 26 (by rfl) (by rfl), wkX12_sortsAll, weX12_sortsAll, by decide +kernel, by decide, _, rfl⟩
set_option maxRecDepth 20000 in
theorem lkV_12_70 : LkV 12 (422, 253) := ⟨ykX12_keeps, tb_8 22 (by rfl) (by rfl), wkX12_keeps, weX12_keeps, by decide +kernel, by decide, _, rfl⟩
set_option maxRecDepth 20000 in
theorem lkV_12_71 : LkV 12 (425, 256) := ⟨ykX12_triesEntry, tb_8 34 (by rfl) (by rfl), wkX12_triesEntry, weX12_triesEntry, by decide +kernel, by decide, _, rfl⟩
set_option maxRecDepth 20000 in
theorem lkV_12_72 : LkV 12 (429, 258) := ⟨ykX12_changes, tb_8 42 (by rfl) (by rfl), wkX12_changes, weX12_changes, by decide +kernel, by decide, _, rfl⟩
set_option maxRecDepth 20000 in
theorem lkV_12_73 : LkV 12 (436, 223) := ⟨ykX12_passesAll, tb_8 52 (by rfl) (by rfl), wkX12_passesAll, weX12_passesAll, by decide +kernel, by decide, _, rfl⟩
set_option maxRecDepth 20000 in
theorem lkV_12_74 : LkV 12 (441, 263) := ⟨ykX12_isTiedIn, tb_8 69 (by rfl) (by rfl), wkX12_isTiedIn, weX12_isTiedIn, by decide +kernel, by decide, _, rfl⟩
set_option maxRecDepth 20000 in
theorem lkV_12_75 : LkV 12 (450, 267) := ⟨ykX12_areNotesSo, tb_8 96 (by rfl) (by rfl), wkX12_areNotesSo, weX12_areNotesSo, by decide +kernel, by decide, _, rfl⟩
set_option maxRecDepth 20000 in
theorem lkV_12_76 : LkV 12 (453, 268) := ⟨ykX12_areAllSo, tb_8 92 (by rfl) (by rfl), wkX12_areAllSo, weX12_areAllSo, by decide +kernel, by decide, _, rfl⟩
set_option maxRecDepth 20000 in
theorem lkV_12_77 : LkV 12 (456, 269) := ⟨ykX12_fillsFits, tb_8 88 (by rfl) (by rfl), wkX12_fillsFits, weX12_fillsFits, by decide +kernel, by decide, _, rfl⟩
set_option maxRecDepth 20000 in
theorem lkV_12_78 : LkV 12 (459, 271) := ⟨ykX12_alikeAt, tb_8 104 (by rfl) (by rfl), wkX12_alikeAt, weX12_alikeAt, by decide +kernel, by decide, _, rfl⟩
set_option maxRecDepth 20000 in
theorem lkV_12_79 : LkV 12 (462, 273) := ⟨ykX12_fillsCanBe, tb_8 112 (by rfl) (by rfl), wkX12_fillsCanBe, weX12_fillsCanBe, by decide +kernel, by decide, _, rfl⟩
set_option maxRecDepth 20000 in
theorem lkV_12_80 : LkV 12 (482, 277) := ⟨ykX12_draw, tb_8 129 (by rfl) (by rfl), wkX12_draw, weX12_draw, by decide +kernel, by decide, _, rfl⟩
theorem lkV_12 : ∀ x ∈ (m_M 12).1, LkV 12 x := List.forall_mem_cons.mpr ⟨lkV_12_0, List.forall_mem_cons.mpr ⟨lkV_12_1, List.forall_mem_cons.mpr ⟨lkV_12_2, List.forall_mem_cons.mpr ⟨lkV_12_3, List.forall_mem_cons.mpr ⟨lkV_12_4, List.forall_mem_cons.mpr ⟨lkV_12_5, List.forall_mem_cons.mpr ⟨lkV_12_6, List.forall_mem_cons.mpr ⟨lkV_12_7, List.forall_mem_cons.mpr ⟨lkV_12_8, List.forall_mem_cons.mpr ⟨lkV_12_9, List.forall_mem_cons.mpr ⟨lkV_12_10, List.forall_mem_cons.mpr ⟨lkV_12_11, List.forall_mem_cons.mpr ⟨lkV_12_12, List.forall_mem_cons.mpr ⟨lkV_12_13, List.forall_mem_cons.mpr ⟨lkV_12_14, List.forall_mem_cons.mpr ⟨lkV_12_15, List.forall_mem_cons.mpr ⟨lkV_12_16, List.forall_mem_cons.mpr ⟨lkV_12_17, List.forall_mem_cons.mpr ⟨lkV_12_18, List.forall_mem_cons.mpr ⟨lkV_12_19, List.forall_mem_cons.mpr ⟨lkV_12_20, List.forall_mem_cons.mpr ⟨lkV_12_21, List.forall_mem_cons.mpr ⟨lkV_12_22, List.forall_mem_cons.mpr ⟨lkV_12_23, List.forall_mem_cons.mpr ⟨lkV_12_24, List.forall_mem_cons.mpr ⟨lkV_12_25, List.forall_mem_cons.mpr ⟨lkV_12_26, List.forall_mem_cons.mpr ⟨lkV_12_27, List.forall_mem_cons.mpr ⟨lkV_12_28, List.forall_mem_cons.mpr ⟨lkV_12_29, List.forall_mem_cons.mpr ⟨lkV_12_30, List.forall_mem_cons.mpr ⟨lkV_12_31, List.forall_mem_cons.mpr ⟨lkV_12_32, List.forall_mem_cons.mpr ⟨lkV_12_33, List.forall_mem_cons.mpr ⟨lkV_12_34, List.forall_mem_cons.mpr ⟨lkV_12_35, List.forall_mem_cons.mpr ⟨lkV_12_36, List.forall_mem_cons.mpr ⟨lkV_12_37, List.forall_mem_cons.mpr ⟨lkV_12_38, List.forall_mem_cons.mpr ⟨lkV_12_39, List.forall_mem_cons.mpr ⟨lkV_12_40, List.forall_mem_cons.mpr ⟨lkV_12_41, List.forall_mem_cons.mpr ⟨lkV_12_42, List.forall_mem_cons.mpr ⟨lkV_12_43, List.forall_mem_cons.mpr ⟨lkV_12_44, List.forall_mem_cons.mpr ⟨lkV_12_45, List.forall_mem_cons.mpr ⟨lkV_12_46, List.forall_mem_cons.mpr ⟨lkV_12_47, List.forall_mem_cons.mpr ⟨lkV_12_48, List.forall_mem_cons.mpr ⟨lkV_12_49, List.forall_mem_cons.mpr ⟨lkV_12_50, List.forall_mem_cons.mpr ⟨lkV_12_51, List.forall_mem_cons.mpr ⟨lkV_12_52, List.forall_mem_cons.mpr ⟨lkV_12_53, List.forall_mem_cons.mpr ⟨lkV_12_54, List.forall_mem_cons.mpr ⟨lkV_12_55, List.forall_mem_cons.mpr ⟨lkV_12_56, List.forall_mem_cons.mpr ⟨lkV_12_57, List.forall_mem_cons.mpr ⟨lkV_12_58, List.forall_mem_cons.mpr ⟨lkV_12_59, List.forall_mem_cons.mpr ⟨lkV_12_60, List.forall_mem_cons.mpr ⟨lkV_12_61, List.forall_mem_cons.mpr ⟨lkV_12_62, List.forall_mem_cons.mpr ⟨lkV_12_63, List.forall_mem_cons.mpr ⟨lkV_12_64, List.forall_mem_cons.mpr ⟨lkV_12_65, List.forall_mem_cons.mpr ⟨lkV_12_66, List.forall_mem_cons.mpr ⟨lkV_12_67, List.forall_mem_cons.mpr ⟨lkV_12_68, List.forall_mem_cons.mpr ⟨lkV_12_69, List.forall_mem_cons.mpr ⟨lkV_12_70, List.forall_mem_cons.mpr ⟨lkV_12_71, List.forall_mem_cons.mpr ⟨lkV_12_72, List.forall_mem_cons.mpr ⟨lkV_12_73, List.forall_mem_cons.mpr ⟨lkV_12_74, List.forall_mem_cons.mpr ⟨lkV_12_75, List.forall_mem_cons.mpr ⟨lkV_12_76, List.forall_mem_cons.mpr ⟨lkV_12_77, List.forall_mem_cons.mpr ⟨lkV_12_78, List.forall_mem_cons.mpr ⟨lkV_12_79, List.forall_mem_cons.mpr ⟨lkV_12_80, fun _ h => absurd h List.not_mem_nil⟩⟩⟩⟩⟩⟩⟩⟩⟩⟩⟩⟩⟩⟩⟩⟩⟩⟩⟩⟩⟩⟩⟩⟩⟩⟩⟩⟩⟩⟩⟩⟩⟩⟩⟩⟩⟩⟩⟩⟩⟩⟩⟩⟩⟩⟩⟩⟩⟩⟩⟩⟩⟩⟩⟩⟩⟩⟩⟩⟩⟩⟩⟩⟩⟩⟩⟩⟩⟩⟩⟩⟩⟩⟩⟩⟩⟩⟩⟩⟩⟩
set_option maxRecDepth 20000 in
theorem lkS_12_0 : LkS 12 (127, 156) := ⟨ykX12_in, tb_6 171 (by rfl) (by rfl), wkX12_in, by decide +kernel⟩
set_option maxRecDepth 20000 in
theorem lkS_12_1 : LkS 12 (165, 175) := ⟨ykX12_strength, tb_7 18 (by rfl) (by rfl), wkX12_strength, by decide +kernel⟩
set_option maxRecDepth 20000 in
theorem lkS_12_2 : LkS 12 (229, 159) := ⟨ykX12_power, tb_6 182 (by rfl) (by rfl), wkX12_power, by decide +kernel⟩
set_option maxRecDepth 20000 in
theorem lkS_12_3 : LkS 12 (291, 200) := ⟨ykX12_sumOfTwo, tb_7 124 (by rfl) (by rfl), wkX12_sumOfTwo, by decide +kernel⟩
set_option maxRecDepth 20000 in
theorem lkS_12_4 : LkS 12 (381, 157) := ⟨ykX12_isOf, tb_7 218 (by rfl) (by rfl), wkX12_isOf, by decide +kernel⟩
set_option maxRecDepth 20000 in
theorem lkS_12_5 : LkS 12 (390, 158) := ⟨ykX12_bits, tb_7 207 (by rfl) (by rfl), wkX12_bits, by decide +kernel⟩
theorem lkS_12 : ∀ x ∈ (m_M 12).2.1, LkS 12 x := List.forall_mem_cons.mpr ⟨lkS_12_0, List.forall_mem_cons.mpr ⟨lkS_12_1, List.forall_mem_cons.mpr ⟨lkS_12_2, List.forall_mem_cons.mpr ⟨lkS_12_3, List.forall_mem_cons.mpr ⟨lkS_12_4, List.forall_mem_cons.mpr ⟨lkS_12_5, fun _ h => absurd h List.not_mem_nil⟩⟩⟩⟩⟩⟩
set_option maxRecDepth 20000 in
theorem lkI_12_0 : LkI 12 (1, 1000) := ⟨rfl, tb_5 210 (by rfl) (by rfl)⟩
theorem lkI_12 : ∀ x ∈ (m_M 12).2.2, LkI 12 x := List.forall_mem_cons.mpr ⟨lkI_12_0, fun _ h => absurd h List.not_mem_nil⟩
set_option maxRecDepth 20000 in
theorem lkV_13_0 : LkV 13 (13, 110) := ⟨ykX11_feed, tb_2 202 (by rfl) (by rfl), wkX11_feed, weX11_feed, by decide +kernel, by decide, _, rfl⟩
set_option maxRecDepth 20000 in
theorem lkV_13_1 : LkV 13 (17, 161) := ⟨ykX12_feed, tb_6 98 (by rfl) (by rfl), wkX12_feed, weX12_feed, by decide +kernel, by decide, _, rfl⟩
set_option maxRecDepth 20000 in
theorem lkV_13_2 : LkV 13 (18, 111) := ⟨ykX11_end, tb_2 210 (by rfl) (by rfl), wkX11_end, weX11_end, by decide +kernel, by decide, _, rfl⟩
set_option maxRecDepth 20000 in
theorem lkV_13_3 : LkV 13 (22, 162) := ⟨ykX12_end, tb_6 106 (by rfl) (by rfl), wkX12_end, weX12_end, by decide +kernel, by decide, _, rfl⟩
set_option maxRecDepth 20000 in
theorem lkV_13_4 : LkV 13 (23, 112) := ⟨ykX11_frame, tb_2 214 (by rfl) (by rfl), wkX11_frame, weX11_frame, by decide +kernel, by decide, _, rfl⟩
set_option maxRecDepth 20000 in
theorem lkV_13_5 : LkV 13 (27, 196) := ⟨ykX12_frame, tb_7 27 (by rfl) (by rfl), wkX12_frame, weX12_frame, by decide +kernel, by decide, _, rfl⟩
set_option maxRecDepth 20000 in
theorem lkV_13_6 : LkV 13 (28, 113) := ⟨ykX11_rule, tb_3 150 (by rfl) (by rfl), wkX11_rule, weX11_rule, by decide +kernel, by decide, _, rfl⟩
set_option maxRecDepth 20000 in
theorem lkV_13_7 : LkV 13 (31, 195) := ⟨ykX12_rule, tb_6 110 (by rfl) (by rfl), wkX12_rule, weX12_rule, by decide +kernel, by decide, _, rfl⟩
set_option maxRecDepth 20000 in
theorem lkV_13_8 : LkV 13 (32, 114) := ⟨ykX11_force, tb_3 237 (by rfl) (by rfl), wkX11_force, weX11_force, by decide +kernel, by decide, _, rfl⟩
set_option maxRecDepth 20000 in
theorem lkV_13_9 : LkV 13 (35, 212) := ⟨ykX12_force, tb_7 35 (by rfl) (by rfl), wkX12_force, weX12_force, by decide +kernel, by decide, _, rfl⟩
set_option maxRecDepth 20000 in
theorem lkV_13_10 : LkV 13 (36, 115) := ⟨ykX11_hole, tb_4 1 (by rfl) (by rfl), wkX11_hole, weX11_hole, by decide +kernel, by decide, _, rfl⟩
set_option maxRecDepth 20000 in
theorem lkV_13_11 : LkV 13 (40, 213) := ⟨ykX12_hole, tb_7 43 (by rfl) (by rfl), wkX12_hole, weX12_hole, by decide +kernel, by decide, _, rfl⟩
set_option maxRecDepth 20000 in
theorem lkV_13_12 : LkV 13 (41, 116) := ⟨ykX11_entry, tb_4 6 (by rfl) (by rfl), wkX11_entry, weX11_entry, by decide +kernel, by decide, _, rfl⟩
set_option maxRecDepth 20000 in
theorem lkV_13_13 : LkV 13 (44, 214) := ⟨ykX12_entry, tb_7 52 (by rfl) (by rfl), wkX12_entry, weX12_entry, by decide +kernel, by decide, _, rfl⟩
set_option maxRecDepth 20000 in
theorem lkV_13_14 : LkV 13 (45, 117) := ⟨ykX11_waits, tb_4 14 (by rfl) (by rfl), wkX11_waits, weX11_waits, by decide +kernel, by decide, _, rfl⟩
set_option maxRecDepth 20000 in
theorem lkV_13_15 : LkV 13 (48, 215) := ⟨ykX12_waits, tb_7 60 (by rfl) (by rfl), wkX12_waits, weX12_waits, by decide +kernel, by decide, _, rfl⟩
set_option maxRecDepth 20000 in
theorem lkV_13_16 : LkV 13 (49, 119) := ⟨ykX11_turn, tb_4 33 (by rfl) (by rfl), wkX11_turn, weX11_turn, by decide +kernel, by decide, _, rfl⟩
set_option maxRecDepth 20000 in
theorem lkV_13_17 : LkV 13 (52, 226) := ⟨ykX12_turn, tb_7 68 (by rfl) (by rfl), wkX12_turn, weX12_turn, by decide +kernel, by decide, _, rfl⟩
set_option maxRecDepth 20000 in
theorem lkV_13_18 : LkV 13 (53, 120) := ⟨ykX11_post, tb_4 136 (by rfl) (by rfl), wkX11_post, weX11_post, by decide +kernel, by decide, _, rfl⟩
set_option maxRecDepth 20000 in
theorem lkV_13_19 : LkV 13 (56, 228) := ⟨ykX12_post, tb_7 139 (by rfl) (by rfl), wkX12_post, weX12_post, by decide +kernel, by decide, _, rfl⟩
set_option maxRecDepth 20000 in
theorem lkV_13_20 : LkV 13 (57, 121) := ⟨ykX11_tie, tb_4 142 (by rfl) (by rfl), wkX11_tie, weX11_tie, by decide +kernel, by decide, _, rfl⟩
set_option maxRecDepth 20000 in
theorem lkV_13_21 : LkV 13 (60, 229) := ⟨ykX12_tie, tb_7 155 (by rfl) (by rfl), wkX12_tie, weX12_tie, by decide +kernel, by decide, _, rfl⟩
set_option maxRecDepth 20000 in
theorem lkV_13_22 : LkV 13 (61, 122) := ⟨ykX11_enter, tb_4 147 (by rfl) (by rfl), wkX11_enter, weX11_enter, by decide +kernel, by decide, _, rfl⟩
set_option maxRecDepth 20000 in
theorem lkV_13_23 : LkV 13 (65, 233) := ⟨ykX12_enter, tb_7 159 (by rfl) (by rfl), wkX12_enter, weX12_enter, by decide +kernel, by decide, _, rfl⟩
set_option maxRecDepth 20000 in
theorem lkV_13_24 : LkV 13 (66, 123) := ⟨ykX11_strike, tb_4 160 (by rfl) (by rfl), wkX11_strike, weX11_strike, by decide +kernel, by decide, _, rfl⟩
set_option maxRecDepth 20000 in
theorem lkV_13_25 : LkV 13 (69, 234) := ⟨ykX12_strike, tb_7 175 (by rfl) (by rfl), wkX12_strike, weX12_strike, by decide +kernel, by decide, _, rfl⟩
set_option maxRecDepth 20000 in
theorem lkV_13_26 : LkV 13 (70, 124) := ⟨ykX11_undo, tb_4 169 (by rfl) (by rfl), wkX11_undo, weX11_undo, by decide +kernel, by decide, _, rfl⟩
set_option maxRecDepth 20000 in
theorem lkV_13_27 : LkV 13 (73, 225) := ⟨ykX12_undo, tb_7 64 (by rfl) (by rfl), wkX12_undo, weX12_undo, by decide +kernel, by decide, _, rfl⟩
set_option maxRecDepth 20000 in
theorem lkV_13_28 : LkV 13 (74, 125) := ⟨ykX11_where, tb_4 173 (by rfl) (by rfl), wkX11_where, weX11_where, by decide +kernel, by decide, _, rfl⟩
set_option maxRecDepth 20000 in
theorem lkV_13_29 : LkV 13 (77, 235) := ⟨ykX12_where, tb_7 179 (by rfl) (by rfl), wkX12_where, weX12_where, by decide +kernel, by decide, _, rfl⟩
set_option maxRecDepth 20000 in
theorem lkV_13_30 : LkV 13 (78, 126) := ⟨ykX11_may, tb_4 188 (by rfl) (by rfl), wkX11_may, weX11_may, by decide +kernel, by decide, _, rfl⟩
set_option maxRecDepth 20000 in
theorem lkV_13_31 : LkV 13 (81, 239) := ⟨ykX12_may, tb_7 183 (by rfl) (by rfl), wkX12_may, weX12_may, by decide +kernel, by decide, _, rfl⟩
set_option maxRecDepth 20000 in
theorem lkV_13_32 : LkV 13 (82, 127) := ⟨ykX11_read, tb_4 206 (by rfl) (by rfl), wkX11_read, weX11_read, by decide +kernel, by decide, _, rfl⟩
set_option maxRecDepth 20000 in
theorem lkV_13_33 : LkV 13 (85, 243) := ⟨ykX12_read, tb_7 199 (by rfl) (by rfl), wkX12_read, weX12_read, by decide +kernel, by decide, _, rfl⟩
set_option maxRecDepth 20000 in
theorem lkV_13_34 : LkV 13 (86, 128) := ⟨ykX11_codes, tb_4 224 (by rfl) (by rfl), wkX11_codes, weX11_codes, by decide +kernel, by decide, _, rfl⟩
set_option maxRecDepth 20000 in
theorem lkV_13_35 : LkV 13 (89, 244) := ⟨ykX12_codes, tb_7 221 (by rfl) (by rfl), wkX12_codes, weX12_codes, by decide +kernel, by decide, _, rfl⟩
set_option maxRecDepth 20000 in
theorem lkV_13_36 : LkV 13 (90, 129) := ⟨ykX11_slips, tb_4 236 (by rfl) (by rfl), wkX11_slips, weX11_slips, by decide +kernel, by decide, _, rfl⟩
set_option maxRecDepth 20000 in
theorem lkV_13_37 : LkV 13 (93, 246) := ⟨ykX12_slips, tb_7 225 (by rfl) (by rfl), wkX12_slips, weX12_slips, by decide +kernel, by decide, _, rfl⟩
set_option maxRecDepth 20000 in
theorem lkV_13_38 : LkV 13 (94, 130) := ⟨ykX11_worst, tb_5 4 (by rfl) (by rfl), wkX11_worst, weX11_worst, by decide +kernel, by decide, _, rfl⟩
set_option maxRecDepth 20000 in
theorem lkV_13_39 : LkV 13 (97, 247) := ⟨ykX12_worst, tb_7 233 (by rfl) (by rfl), wkX12_worst, weX12_worst, by decide +kernel, by decide, _, rfl⟩
set_option maxRecDepth 20000 in
theorem lkV_13_40 : LkV 13 (98, 131) := ⟨ykX11_idle, tb_5 13 (by rfl) (by rfl), wkX11_idle, weX11_idle, by decide +kernel, by decide, _, rfl⟩
set_option maxRecDepth 20000 in
theorem lkV_13_41 : LkV 13 (101, 248) := ⟨ykX12_idle, tb_7 237 (by rfl) (by rfl), wkX12_idle, weX12_idle, by decide +kernel, by decide, _, rfl⟩
set_option maxRecDepth 20000 in
theorem lkV_13_42 : LkV 13 (102, 132) := ⟨ykX11_least, tb_5 21 (by rfl) (by rfl), wkX11_least, weX11_least, by decide +kernel, by decide, _, rfl⟩
set_option maxRecDepth 20000 in
theorem lkV_13_43 : LkV 13 (105, 252) := ⟨ykX12_least, tb_8 1 (by rfl) (by rfl), wkX12_least, weX12_least, by decide +kernel, by decide, _, rfl⟩
set_option maxRecDepth 20000 in
theorem lkV_13_44 : LkV 13 (106, 133) := ⟨ykX11_one, tb_5 35 (by rfl) (by rfl), wkX11_one, weX11_one, by decide +kernel, by decide, _, rfl⟩
set_option maxRecDepth 20000 in
theorem lkV_13_45 : LkV 13 (109, 257) := ⟨ykX12_one, tb_8 17 (by rfl) (by rfl), wkX12_one, weX12_one, by decide +kernel, by decide, _, rfl⟩
set_option maxRecDepth 20000 in
theorem lkV_13_46 : LkV 13 (110, 134) := ⟨ykX11_change, tb_5 69 (by rfl) (by rfl), wkX11_change, weX11_change, by decide +kernel, by decide, _, rfl⟩
set_option maxRecDepth 20000 in
theorem lkV_13_47 : LkV 13 (113, 259) := ⟨ykX12_change, tb_8 38 (by rfl) (by rfl), wkX12_change, weX12_change, by decide +kernel, by decide, _, rfl⟩
set_option maxRecDepth 20000 in
theorem lkV_13_48 : LkV 13 (114, 135) := ⟨ykX11_ahead, tb_5 81 (by rfl) (by rfl), wkX11_ahead, weX11_ahead, by decide +kernel, by decide, _, rfl⟩
set_option maxRecDepth 20000 in
theorem lkV_13_49 : LkV 13 (117, 260) := ⟨ykX12_ahead, tb_8 46 (by rfl) (by rfl), wkX12_ahead, weX12_ahead, by decide +kernel, by decide, _, rfl⟩
set_option maxRecDepth 20000 in
theorem lkV_13_50 : LkV 13 (118, 136) := ⟨ykX11_sorted, tb_5 90 (by rfl) (by rfl), wkX11_sorted, weX11_sorted, by decide +kernel, by decide, _, rfl⟩
set_option maxRecDepth 20000 in
theorem lkV_13_51 : LkV 13 (121, 261) := ⟨ykX12_sorted, tb_8 56 (by rfl) (by rfl), wkX12_sorted, weX12_sorted, by decide +kernel, by decide, _, rfl⟩
set_option maxRecDepth 20000 in
theorem lkV_13_52 : LkV 13 (122, 137) := ⟨ykX11_tied, tb_5 98 (by rfl) (by rfl), wkX11_tied, weX11_tied, by decide +kernel, by decide, _, rfl⟩
set_option maxRecDepth 20000 in
theorem lkV_13_53 : LkV 13 (125, 262) := ⟨ykX12_tied, tb_8 60 (by rfl) (by rfl), wkX12_tied, weX12_tied, by decide +kernel, by decide, _, rfl⟩
set_option maxRecDepth 20000 in
theorem lkV_13_54 : LkV 13 (126, 138) := ⟨ykX11_enough, tb_5 106 (by rfl) (by rfl), wkX11_enough, weX11_enough, by decide +kernel, by decide, _, rfl⟩
set_option maxRecDepth 20000 in
theorem lkV_13_55 : LkV 13 (129, 264) := ⟨ykX12_enough, tb_8 64 (by rfl) (by rfl), wkX12_enough, weX12_enough, by decide +kernel, by decide, _, rfl⟩
set_option maxRecDepth 20000 in
theorem lkV_13_56 : LkV 13 (130, 139) := ⟨ykX11_said, tb_5 110 (by rfl) (by rfl), wkX11_said, weX11_said, by decide +kernel, by decide, _, rfl⟩
set_option maxRecDepth 20000 in
theorem lkV_13_57 : LkV 13 (133, 274) := ⟨ykX12_said, tb_8 108 (by rfl) (by rfl), wkX12_said, weX12_said, by decide +kernel, by decide, _, rfl⟩
set_option maxRecDepth 20000 in
theorem lkV_13_58 : LkV 13 (134, 140) := ⟨ykX11_sent, tb_5 129 (by rfl) (by rfl), wkX11_sent, weX11_sent, by decide +kernel, by decide, _, rfl⟩
set_option maxRecDepth 20000 in
theorem lkV_13_59 : LkV 13 (137, 275) := ⟨ykX12_sent, tb_8 116 (by rfl) (by rfl), wkX12_sent, weX12_sent, by decide +kernel, by decide, _, rfl⟩
set_option maxRecDepth 20000 in
theorem lkV_13_60 : LkV 13 (138, 141) := ⟨ykX11_pence, tb_5 133 (by rfl) (by rfl), wkX11_pence, weX11_pence, by decide +kernel, by decide, _, rfl⟩
set_option maxRecDepth 20000 in
theorem lkV_13_61 : LkV 13 (141, 265) := ⟨ykX12_pence, tb_8 73 (by rfl) (by rfl), wkX12_pence, weX12_pence, by decide +kernel, by decide, _, rfl⟩
set_option maxRecDepth 20000 in
theorem lkV_13_62 : LkV 13 (142, 142) := ⟨ykX11_note, tb_5 142 (by rfl) (by rfl), wkX11_note, weX11_note, by decide +kernel, by decide, _, rfl⟩
set_option maxRecDepth 20000 in
theorem lkV_13_63 : LkV 13 (145, 266) := ⟨ykX12_note, tb_8 78 (by rfl) (by rfl), wkX12_note, weX12_note, by decide +kernel, by decide, _, rfl⟩
set_option maxRecDepth 20000 in
theorem lkV_13_64 : LkV 13 (146, 143) := ⟨ykX11_ruled, tb_5 150 (by rfl) (by rfl), wkX11_ruled, weX11_ruled, by decide +kernel, by decide, _, rfl⟩
set_option maxRecDepth 20000 in
theorem lkV_13_65 : LkV 13 (149, 270) := ⟨ykX12_ruled, tb_8 84 (by rfl) (by rfl), wkX12_ruled, weX12_ruled, by decide +kernel, by decide, _, rfl⟩
set_option maxRecDepth 20000 in
theorem lkV_13_66 : LkV 13 (150, 144) := ⟨ykX11_look, tb_5 154 (by rfl) (by rfl), wkX11_look, weX11_look, by decide +kernel, by decide, _, rfl⟩
set_option maxRecDepth 20000 in
theorem lkV_13_67 : LkV 13 (153, 272) := ⟨ykX12_look, tb_8 100 (by rfl) (by rfl), wkX12_look, weX12_look, by decide +kernel, by decide, _, rfl⟩
set_option maxRecDepth 20000 in
theorem lkV_13_68 : LkV 13 (154, 145) := ⟨ykX11_seed, tb_5 171 (by rfl) (by rfl), wkX11_seed, weX11_seed, by decide +kernel, by decide, _, rfl⟩
set_option maxRecDepth 20000 in
theorem lkV_13_69 : LkV 13 (157, 276) := ⟨ykX12_seed, tb_8 120 (by rfl) (by rfl), wkX12_seed, weX12_seed, by decide +kernel, by decide, _, rfl⟩
set_option maxRecDepth 20000 in
theorem lkV_13_70 : LkV 13 (158, 146) := ⟨ykX11_posts, tb_5 175 (by rfl) (by rfl), wkX11_posts, weX11_posts, by decide +kernel, by decide, _, rfl⟩
set_option maxRecDepth 20000 in
theorem lkV_13_71 : LkV 13 (162, 278) := ⟨ykX12_posts, tb_8 124 (by rfl) (by rfl), wkX12_posts, weX12_posts, by decide +kernel, by decide, _, rfl⟩
set_option maxRecDepth 20000 in
theorem lkV_13_72 : LkV 13 (163, 118) := ⟨ykX11_count, tb_4 18 (by rfl) (by rfl), wkX11_count, weX11_count, by decide +kernel, by decide, _, rfl⟩
set_option maxRecDepth 20000 in
theorem lkV_13_73 : LkV 13 (166, 279) := ⟨ykX12_count, tb_8 137 (by rfl) (by rfl), wkX12_count, weX12_count, by decide +kernel, by decide, _, rfl⟩
set_option maxRecDepth 20000 in
theorem lkV_13_74 : LkV 13 (167, 147) := ⟨ykX11_image, tb_5 192 (by rfl) (by rfl), wkX11_image, weX11_image, by decide +kernel, by decide, _, rfl⟩
set_option maxRecDepth 20000 in
theorem lkV_13_75 : LkV 13 (170, 280) := ⟨ykX12_image, tb_8 141 (by rfl) (by rfl), wkX12_image, weX12_image, by decide +kernel, by decide, _, rfl⟩
set_option maxRecDepth 20000 in
theorem lkV_13_76 : LkV 13 (171, 148) := ⟨ykX11_back, tb_5 201 (by rfl) (by rfl), wkX11_back, weX11_back, by decide +kernel, by decide, _, rfl⟩
set_option maxRecDepth 20000 in
theorem lkV_13_77 : LkV 13 (174, 281) := ⟨ykX12_back, tb_8 145 (by rfl) (by rfl), wkX12_back, weX12_back, by decide +kernel, by decide, _, rfl⟩
theorem lkV_13 : ∀ x ∈ (m_M 13).1, LkV 13 x := List.forall_mem_cons.mpr ⟨lkV_13_0, List.forall_mem_cons.mpr ⟨lkV_13_1, List.forall_mem_cons.mpr ⟨lkV_13_2, List.forall_mem_cons.mpr ⟨lkV_13_3, List.forall_mem_cons.mpr ⟨lkV_13_4, List.forall_mem_cons.mpr ⟨lkV_13_5, List.forall_mem_cons.mpr ⟨lkV_13_6, List.forall_mem_cons.mpr ⟨lkV_13_7, List.forall_mem_cons.mpr ⟨lkV_13_8, List.forall_mem_cons.mpr ⟨lkV_13_9, List.forall_mem_cons.mpr ⟨lkV_13_10, List.forall_mem_cons.mpr ⟨lkV_13_11, List.forall_mem_cons.mpr ⟨lkV_13_12, List.forall_mem_cons.mpr ⟨lkV_13_13, List.forall_mem_cons.mpr ⟨lkV_13_14, List.forall_mem_cons.mpr ⟨lkV_13_15, List.forall_mem_cons.mpr ⟨lkV_13_16, List.forall_mem_cons.mpr ⟨lkV_13_17, List.forall_mem_cons.mpr ⟨lkV_13_18, List.forall_mem_cons.mpr ⟨lkV_13_19, List.forall_mem_cons.mpr ⟨lkV_13_20, List.forall_mem_cons.mpr ⟨lkV_13_21, List.forall_mem_cons.mpr ⟨lkV_13_22, List.forall_mem_cons.mpr ⟨lkV_13_23, List.forall_mem_cons.mpr ⟨lkV_13_24, List.forall_mem_cons.mpr ⟨lkV_13_25, List.forall_mem_cons.mpr ⟨lkV_13_26, List.forall_mem_cons.mpr ⟨lkV_13_27, List.forall_mem_cons.mpr ⟨lkV_13_28, List.forall_mem_cons.mpr ⟨lkV_13_29, List.forall_mem_cons.mpr ⟨lkV_13_30, List.forall_mem_cons.mpr ⟨lkV_13_31, List.forall_mem_cons.mpr ⟨lkV_13_32, List.forall_mem_cons.mpr ⟨lkV_13_33, List.forall_mem_cons.mpr ⟨lkV_13_34, List.forall_mem_cons.mpr ⟨lkV_13_35, List.forall_mem_cons.mpr ⟨lkV_13_36, List.forall_mem_cons.mpr ⟨lkV_13_37, List.forall_mem_cons.mpr ⟨lkV_13_38, List.forall_mem_cons.mpr ⟨lkV_13_39, List.forall_mem_cons.mpr ⟨lkV_13_40, List.forall_mem_cons.mpr ⟨lkV_13_41, List.forall_mem_cons.mpr ⟨lkV_13_42, List.forall_mem_cons.mpr ⟨lkV_13_43, List.forall_mem_cons.mpr ⟨lkV_13_44, List.forall_mem_cons.mpr ⟨lkV_13_45, List.forall_mem_cons.mpr ⟨lkV_13_46, List.forall_mem_cons.mpr ⟨lkV_13_47, List.forall_mem_cons.mpr ⟨lkV_13_48, List.forall_mem_cons.mpr ⟨lkV_13_49, List.forall_mem_cons.mpr ⟨lkV_13_50, List.forall_mem_cons.mpr ⟨lkV_13_51, List.forall_mem_cons.mpr ⟨lkV_13_52, List.forall_mem_cons.mpr ⟨lkV_13_53, List.forall_mem_cons.mpr ⟨lkV_13_54, List.forall_mem_cons.mpr ⟨lkV_13_55, List.forall_mem_cons.mpr ⟨lkV_13_56, List.forall_mem_cons.mpr ⟨lkV_13_57, List.forall_mem_cons.mpr ⟨lkV_13_58, List.forall_mem_cons.mpr ⟨lkV_13_59, List.forall_mem_cons.mpr ⟨lkV_13_60, List.forall_mem_cons.mpr ⟨lkV_13_61, List.forall_mem_cons.mpr ⟨lkV_13_62, List.forall_mem_cons.mpr ⟨lkV_13_63, List.forall_mem_cons.mpr ⟨lkV_13_64, List.forall_mem_cons.mpr ⟨lkV_13_65, List.forall_mem_cons.mpr ⟨lkV_13_66, List.forall_mem_cons.mpr ⟨lkV_13_67, List.forall_mem_cons.mpr ⟨lkV_13_68, List.forall_mem_cons.mpr ⟨lkV_13_69, List.forall_mem_cons.mpr ⟨lkV_13_70, List.forall_mem_cons.mpr ⟨lkV_13_71, List.forall_mem_cons.mpr ⟨lkV_13_72, List.forall_mem_cons.mpr ⟨lkV_13_73, List.forall_mem_cons.mpr ⟨lkV_13_74, List.forall_mem_cons.mpr ⟨lkV_13_75, List.forall_mem_cons.mpr ⟨lkV_13_76, List.forall_mem_cons.mpr ⟨lkV_13_77, fun _ h => absurd h List.not_mem_nil⟩⟩⟩⟩⟩⟩⟩⟩⟩⟩⟩⟩⟩⟩⟩⟩⟩⟩⟩⟩⟩⟩⟩⟩⟩⟩⟩⟩⟩⟩⟩⟩⟩⟩⟩⟩⟩⟩⟩⟩⟩⟩⟩⟩⟩⟩⟩⟩⟩⟩⟩⟩⟩⟩⟩⟩⟩⟩⟩⟩⟩⟩⟩⟩⟩⟩⟩⟩⟩⟩⟩⟩⟩⟩⟩⟩⟩⟩
theorem lkS_13 : ∀ x ∈ (m_M 13).2.1, LkS 13 x := fun _ h => absurd h List.not_mem_nil
set_option maxRecDepth 20000 in
theorem lkI_13_0 : LkI 13 (9, 109) := ⟨ykX11_init, Or.inl (tb_1 23 (by rfl) (by rfl)), wkX11_init, rfl, rfl, by decide +kernel, by decide⟩
set_option maxRecDepth 20000 in
theorem lkI_13_1 : LkI 13 (12, 155) := ⟨ykX12_init, Or.inl (tb_5 207 (by rfl) (by rfl)), wkX12_init, rfl, rfl, by decide +kernel, by decide⟩
theorem lkI_13 : ∀ x ∈ (m_M 13).2.2, LkI 13 x := List.forall_mem_cons.mpr ⟨lkI_13_0, List.forall_mem_cons.mpr ⟨lkI_13_1, fun _ h => absurd h List.not_mem_nil⟩⟩
theorem lkV_14 : ∀ x ∈ (m_M 14).1, LkV 14 x := fun _ h => absurd h List.not_mem_nil
theorem lkS_14 : ∀ x ∈ (m_M 14).2.1, LkS 14 x := fun _ h => absurd h List.not_mem_nil
theorem lkI_14 : ∀ x ∈ (m_M 14).2.2, LkI 14 x := fun _ h => absurd h List.not_mem_nil
theorem lkV_all (own : Nat) : ∀ x ∈ (m_M own).1, LkV own x := by
  match own with
  | 0 => exact lkV_0
  | 1 => exact lkV_1
  | 2 => exact lkV_2
  | 3 => exact lkV_3
  | 4 => exact lkV_4
  | 5 => exact lkV_5
  | 6 => exact lkV_6
  | 7 => exact lkV_7
  | 8 => exact lkV_8
  | 9 => exact lkV_9
  | 10 => exact lkV_10
  | 11 => exact lkV_11
  | 12 => exact lkV_12
  | 13 => exact lkV_13
  | 14 => exact lkV_14
  | n + 15 => exact fun _ h => absurd h List.not_mem_nil
theorem lkS_all (own : Nat) : ∀ x ∈ (m_M own).2.1, LkS own x := by
  match own with
  | 0 => exact lkS_0
  | 1 => exact lkS_1
  | 2 => exact lkS_2
  | 3 => exact lkS_3
  | 4 => exact lkS_4
  | 5 => exact lkS_5
  | 6 => exact lkS_6
  | 7 => exact lkS_7
  | 8 => exact lkS_8
  | 9 => exact lkS_9
  | 10 => exact lkS_10
  | 11 => exact lkS_11
  | 12 => exact lkS_12
  | 13 => exact lkS_13
  | 14 => exact lkS_14
  | n + 15 => exact fun _ h => absurd h List.not_mem_nil
theorem lkI_all (own : Nat) : ∀ x ∈ (m_M own).2.2, LkI own x := by
  match own with
  | 0 => exact lkI_0
  | 1 => exact lkI_1
  | 2 => exact lkI_2
  | 3 => exact lkI_3
  | 4 => exact lkI_4
  | 5 => exact lkI_5
  | 6 => exact lkI_6
  | 7 => exact lkI_7
  | 8 => exact lkI_8
  | 9 => exact lkI_9
  | 10 => exact lkI_10
  | 11 => exact lkI_11
  | 12 => exact lkI_12
  | 13 => exact lkI_13
  | 14 => exact lkI_14
  | n + 15 => exact fun _ h => absurd h List.not_mem_nil
