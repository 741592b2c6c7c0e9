/-! Blocks of Parser, Script and the face, laid by gen.py. -/
theorem inX10_adoptSetup_RX10 : ∀ x ∈ u_ws RX10 TX10 10, x ∈ wsX10_adoptSetup := by decide +kernel
theorem inX10_adoptSetup_RX8 : ∀ x ∈ u_ws RX8 TX8 2, x ∈ wsX10_adoptSetup := by decide +kernel
theorem inX10_append_RX10 : ∀ x ∈ u_ws RX10 TX10 10, x ∈ wsX10_append := by decide +kernel
theorem inX10_append_RX8 : ∀ x ∈ u_ws RX8 TX8 2, x ∈ wsX10_append := by decide +kernel
theorem inX10_bestFirst_RX10 : ∀ x ∈ u_ws RX10 TX10 10, x ∈ wsX10_bestFirst := by decide +kernel
theorem inX10_bestLeastWelfare_RX10 : ∀ x ∈ u_ws RX10 TX10 10, x ∈ wsX10_bestLeastWelfare := by decide +kernel
theorem inX10_cellCount_RX1 : ∀ x ∈ u_ws RX1 TX1 6, x ∈ wsX10_cellCount := by decide +kernel
theorem inX10_cellCount_RX10 : ∀ x ∈ u_ws RX10 TX10 10, x ∈ wsX10_cellCount := by decide +kernel
theorem inX10_cutCount_RX1 : ∀ x ∈ u_ws RX1 TX1 6, x ∈ wsX10_cutCount := by decide +kernel
theorem inX10_cutCount_RX10 : ∀ x ∈ u_ws RX10 TX10 10, x ∈ wsX10_cutCount := by decide +kernel
theorem inX10_cutFor_RX10 : ∀ x ∈ u_ws RX10 TX10 10, x ∈ wsX10_cutFor := by decide +kernel
theorem inX10_divideAndChoose_RX10 : ∀ x ∈ u_ws RX10 TX10 10, x ∈ wsX10_divideAndChoose := by decide +kernel
theorem inX10_envies_RX10 : ∀ x ∈ u_ws RX10 TX10 10, x ∈ wsX10_envies := by decide +kernel
theorem inX10_envyCount_RX10 : ∀ x ∈ u_ws RX10 TX10 10, x ∈ wsX10_envyCount := by decide +kernel
theorem inX10_envyCycleLength_RX10 : ∀ x ∈ u_ws RX10 TX10 10, x ∈ wsX10_envyCycleLength := by decide +kernel
theorem inX10_envyCycleMember_RX10 : ∀ x ∈ u_ws RX10 TX10 10, x ∈ wsX10_envyCycleMember.map nse_fix := by decide +kernel
theorem inX10_envyCycleMember_RX3 : ∀ x ∈ u_ws RX3 TX3 4, x ∈ wsX10_envyCycleMember.map nse_fix := by decide +kernel
theorem inX10_errorCode_RX10 : ∀ x ∈ u_ws RX10 TX10 10, x ∈ wsX10_errorCode := by decide +kernel
theorem inX10_errorCode_RX5 : ∀ x ∈ u_ws RX5 TX5 7, x ∈ wsX10_errorCode := by decide +kernel
theorem inX10_errorPosition_RX10 : ∀ x ∈ u_ws RX10 TX10 10, x ∈ wsX10_errorPosition := by decide +kernel
theorem inX10_errorPosition_RX5 : ∀ x ∈ u_ws RX5 TX5 7, x ∈ wsX10_errorPosition := by decide +kernel
theorem inX10_favouriteFreeCell_RX1 : ∀ x ∈ u_ws RX1 TX1 6, x ∈ wsX10_favouriteFreeCell := by decide +kernel
theorem inX10_favouriteFreeCell_RX10 : ∀ x ∈ u_ws RX10 TX10 10, x ∈ wsX10_favouriteFreeCell := by decide +kernel
theorem inX10_findSibling_RX10 : ∀ x ∈ u_ws RX10 TX10 10, x ∈ wsX10_findSibling.map nse_fix := by decide +kernel
theorem inX10_findSibling_RX8 : ∀ x ∈ u_ws RX8 TX8 2, x ∈ wsX10_findSibling.map nse_fix := by decide +kernel
theorem inX10_freeCount_RX10 : ∀ x ∈ u_ws RX10 TX10 10, x ∈ wsX10_freeCount := by decide +kernel
theorem inX10_give_RX1 : ∀ x ∈ u_ws RX1 TX1 6, x ∈ wsX10_give := by decide +kernel
theorem inX10_give_RX10 : ∀ x ∈ u_ws RX10 TX10 10, x ∈ wsX10_give := by decide +kernel
theorem inX10_greatestContiguousWelfare_RX10 : ∀ x ∈ u_ws RX10 TX10 10, x ∈ wsX10_greatestContiguousWelfare := by decide +kernel
theorem inX10_greatestTotalWelfare_RX1 : ∀ x ∈ u_ws RX1 TX1 6, x ∈ wsX10_greatestTotalWelfare := by decide +kernel
theorem inX10_greatestTotalWelfare_RX10 : ∀ x ∈ u_ws RX10 TX10 10, x ∈ wsX10_greatestTotalWelfare := by decide +kernel
theorem inX10_inconsistencies_RX1 : ∀ x ∈ u_ws RX1 TX1 6, x ∈ wsX10_inconsistencies := by decide +kernel
theorem inX10_inconsistencies_RX10 : ∀ x ∈ u_ws RX10 TX10 10, x ∈ wsX10_inconsistencies := by decide +kernel
theorem inX10_isMild_RX10 : ∀ x ∈ u_ws RX10 TX10 10, x ∈ wsX10_isMild := by decide +kernel
theorem inX10_isSatisfied_RX10 : ∀ x ∈ u_ws RX10 TX10 10, x ∈ wsX10_isSatisfied := by decide +kernel
theorem inX10_leastWelfare_RX1 : ∀ x ∈ u_ws RX1 TX1 6, x ∈ wsX10_leastWelfare := by decide +kernel
theorem inX10_leastWelfare_RX10 : ∀ x ∈ u_ws RX10 TX10 10, x ∈ wsX10_leastWelfare := by decide +kernel
theorem inX10_load_RX1 : ∀ x ∈ u_ws RX1 TX1 6, x ∈ wsX10_load := by decide +kernel
theorem inX10_load_RX10 : ∀ x ∈ u_ws RX10 TX10 10, x ∈ wsX10_load := by decide +kernel
theorem inX10_mark_RX10 : ∀ x ∈ u_ws RX10 TX10 10, x ∈ wsX10_mark := by decide +kernel
theorem inX10_meanPieces_RX1 : ∀ x ∈ u_ws RX1 TX1 6, x ∈ wsX10_meanPieces := by decide +kernel
theorem inX10_meanPieces_RX10 : ∀ x ∈ u_ws RX10 TX10 10, x ∈ wsX10_meanPieces := by decide +kernel
theorem inX10_mostEnvied_RX10 : ∀ x ∈ u_ws RX10 TX10 10, x ∈ wsX10_mostEnvied := by decide +kernel
theorem inX10_movingKnife_RX1 : ∀ x ∈ u_ws RX1 TX1 6, x ∈ wsX10_movingKnife := by decide +kernel
theorem inX10_movingKnife_RX10 : ∀ x ∈ u_ws RX10 TX10 10, x ∈ wsX10_movingKnife := by decide +kernel
theorem inX10_nameByte_RX1 : ∀ x ∈ u_ws RX1 TX1 6, x ∈ wsX10_nameByte := by decide +kernel
theorem inX10_nameByte_RX10 : ∀ x ∈ u_ws RX10 TX10 10, x ∈ wsX10_nameByte := by decide +kernel
theorem inX10_outputByte_RX10 : ∀ x ∈ u_ws RX10 TX10 10, x ∈ wsX10_outputByte := by decide +kernel
theorem inX10_outputByte_RX8 : ∀ x ∈ u_ws RX8 TX8 2, x ∈ wsX10_outputByte := by decide +kernel
theorem inX10_owner_RX1 : ∀ x ∈ u_ws RX1 TX1 6, x ∈ wsX10_owner := by decide +kernel
theorem inX10_owner_RX10 : ∀ x ∈ u_ws RX10 TX10 10, x ∈ wsX10_owner := by decide +kernel
theorem inX10_pieceCount_RX10 : ∀ x ∈ u_ws RX10 TX10 10, x ∈ wsX10_pieceCount := by decide +kernel
theorem inX10_release_RX1 : ∀ x ∈ u_ws RX1 TX1 6, x ∈ wsX10_release := by decide +kernel
theorem inX10_release_RX10 : ∀ x ∈ u_ws RX10 TX10 10, x ∈ wsX10_release := by decide +kernel
theorem inX10_requireCell_RX10 : ∀ x ∈ u_ws RX10 TX10 10, x ∈ wsX10_requireCell := by decide +kernel
theorem inX10_requireRun_RX10 : ∀ x ∈ u_ws RX10 TX10 10, x ∈ wsX10_requireRun := by decide +kernel
theorem inX10_requireSibling_RX10 : ∀ x ∈ u_ws RX10 TX10 10, x ∈ wsX10_requireSibling := by decide +kernel
theorem inX10_restore_RX10 : ∀ x ∈ u_ws RX10 TX10 10, x ∈ wsX10_restore := by decide +kernel
theorem inX10_restore_RX4 : ∀ x ∈ u_ws RX4 TX4 5, x ∈ wsX10_restore := by decide +kernel
theorem inX10_rotate_RX10 : ∀ x ∈ u_ws RX10 TX10 10, x ∈ wsX10_rotate := by decide +kernel
theorem inX10_roundRobin_RX1 : ∀ x ∈ u_ws RX1 TX1 6, x ∈ wsX10_roundRobin := by decide +kernel
theorem inX10_roundRobin_RX10 : ∀ x ∈ u_ws RX10 TX10 10, x ∈ wsX10_roundRobin := by decide +kernel
theorem inX10_runScript_RX10 : ∀ x ∈ u_ws RX10 TX10 10, x ∈ wsX10_runScript.map nse_fix := by decide +kernel
theorem inX10_runScript_RX8 : ∀ x ∈ u_ws RX8 TX8 2, x ∈ wsX10_runScript.map nse_fix := by decide +kernel
theorem inX10_satisfaction_RX10 : ∀ x ∈ u_ws RX10 TX10 10, x ∈ wsX10_satisfaction := by decide +kernel
theorem inX10_satisfiedCount_RX10 : ∀ x ∈ u_ws RX10 TX10 10, x ∈ wsX10_satisfiedCount := by decide +kernel
theorem inX10_save_RX10 : ∀ x ∈ u_ws RX10 TX10 10, x ∈ wsX10_save := by decide +kernel
theorem inX10_setValue_RX10 : ∀ x ∈ u_ws RX10 TX10 10, x ∈ wsX10_setValue := by decide +kernel
theorem inX10_shareSize_RX10 : ∀ x ∈ u_ws RX10 TX10 10, x ∈ wsX10_shareSize := by decide +kernel
theorem inX10_siblingCount_RX1 : ∀ x ∈ u_ws RX1 TX1 6, x ∈ wsX10_siblingCount := by decide +kernel
theorem inX10_siblingCount_RX10 : ∀ x ∈ u_ws RX10 TX10 10, x ∈ wsX10_siblingCount := by decide +kernel
theorem inX10_strongEnvyCount_RX10 : ∀ x ∈ u_ws RX10 TX10 10, x ∈ wsX10_strongEnvyCount := by decide +kernel
theorem inX10_swapShares_RX10 : ∀ x ∈ u_ws RX10 TX10 10, x ∈ wsX10_swapShares := by decide +kernel
theorem inX10_total_RX10 : ∀ x ∈ u_ws RX10 TX10 10, x ∈ wsX10_total := by decide +kernel
theorem inX10_totalWelfare_RX1 : ∀ x ∈ u_ws RX1 TX1 6, x ∈ wsX10_totalWelfare := by decide +kernel
theorem inX10_totalWelfare_RX10 : ∀ x ∈ u_ws RX10 TX10 10, x ∈ wsX10_totalWelfare := by decide +kernel
theorem inX10_truncate_RX10 : ∀ x ∈ u_ws RX10 TX10 10, x ∈ wsX10_truncate := by decide +kernel
theorem inX10_truncate_RX8 : ∀ x ∈ u_ws RX8 TX8 2, x ∈ wsX10_truncate := by decide +kernel
theorem inX10_undo_RX10 : ∀ x ∈ u_ws RX10 TX10 10, x ∈ wsX10_undo := by decide +kernel
theorem inX10_undo_RX4 : ∀ x ∈ u_ws RX4 TX4 5, x ∈ wsX10_undo := by decide +kernel
theorem inX10_value_RX10 : ∀ x ∈ u_ws RX10 TX10 10, x ∈ wsX10_value := by decide +kernel
theorem inX10_welfareByKnife_RX10 : ∀ x ∈ u_ws RX10 TX10 10, x ∈ wsX10_welfareByKnife := by decide +kernel
theorem inX10_welfareByRobin_RX10 : ∀ x ∈ u_ws RX10 TX10 10, x ∈ wsX10_welfareByRobin := by decide +kernel
theorem inX10_welfareProduct_RX1 : ∀ x ∈ u_ws RX1 TX1 6, x ∈ wsX10_welfareProduct := by decide +kernel
theorem inX10_welfareProduct_RX10 : ∀ x ∈ u_ws RX10 TX10 10, x ∈ wsX10_welfareProduct := by decide +kernel
theorem inX10_worth_RX10 : ∀ x ∈ u_ws RX10 TX10 10, x ∈ wsX10_worth := by decide +kernel
theorem inX10_worthOfShare_RX1 : ∀ x ∈ u_ws RX1 TX1 6, x ∈ wsX10_worthOfShare := by decide +kernel
theorem inX10_worthOfShare_RX10 : ∀ x ∈ u_ws RX10 TX10 10, x ∈ wsX10_worthOfShare := by decide +kernel
theorem inX10_wouldSwap_RX10 : ∀ x ∈ u_ws RX10 TX10 10, x ∈ wsX10_wouldSwap := by decide +kernel
theorem inX10_writeOwners_RX1 : ∀ x ∈ u_ws RX1 TX1 6, x ∈ wsX10_writeOwners := by decide +kernel
theorem inX10_writeOwners_RX10 : ∀ x ∈ u_ws RX10 TX10 10, x ∈ wsX10_writeOwners := by decide +kernel
theorem inX10_writeOwners_RX8 : ∀ x ∈ u_ws RX8 TX8 2, x ∈ wsX10_writeOwners := by decide +kernel
theorem inX10_writePiece_RX1 : ∀ x ∈ u_ws RX1 TX1 6, x ∈ wsX10_writePiece := by decide +kernel
theorem inX10_writePiece_RX10 : ∀ x ∈ u_ws RX10 TX10 10, x ∈ wsX10_writePiece := by decide +kernel
theorem inX5_advance_RX5 : ∀ x ∈ u_ws RX5 TX5 7, x ∈ wsX5_advance := by decide +kernel
theorem inX5_advance_RX8 : ∀ x ∈ u_ws RX8 TX8 2, x ∈ wsX5_advance := by decide +kernel
theorem inX5_begin_RX5 : ∀ x ∈ u_ws RX5 TX5 7, x ∈ wsX5_begin := by decide +kernel
theorem inX5_numberOfToken_RX5 : ∀ x ∈ u_ws RX5 TX5 7, x ∈ wsX5_numberOfToken := by decide +kernel
theorem inX5_numberOfToken_RX8 : ∀ x ∈ u_ws RX8 TX8 2, x ∈ wsX5_numberOfToken := by decide +kernel
theorem inX5_readCommand_RX5 : ∀ x ∈ u_ws RX5 TX5 7, x ∈ wsX5_readCommand := by decide +kernel
theorem inX5_readScript_RX5 : ∀ x ∈ u_ws RX5 TX5 7, x ∈ wsX5_readScript := by decide +kernel
theorem inX5_readSetup_RX1 : ∀ x ∈ u_ws RX1 TX1 6, x ∈ wsX5_readSetup := by decide +kernel
theorem inX5_readSetup_RX5 : ∀ x ∈ u_ws RX5 TX5 7, x ∈ wsX5_readSetup := by decide +kernel
theorem inX5_readSibling_RX1 : ∀ x ∈ u_ws RX1 TX1 6, x ∈ wsX5_readSibling := by decide +kernel
theorem inX5_readSibling_RX5 : ∀ x ∈ u_ws RX5 TX5 7, x ∈ wsX5_readSibling := by decide +kernel
theorem inX5_refuse_RX5 : ∀ x ∈ u_ws RX5 TX5 7, x ∈ wsX5_refuse := by decide +kernel
theorem inX5_takeKnownName_RX5 : ∀ x ∈ u_ws RX5 TX5 7, x ∈ wsX5_takeKnownName := by decide +kernel
theorem inX5_takeNewName_RX5 : ∀ x ∈ u_ws RX5 TX5 7, x ∈ wsX5_takeNewName := by decide +kernel
theorem inX5_takeNumber_RX5 : ∀ x ∈ u_ws RX5 TX5 7, x ∈ wsX5_takeNumber := by decide +kernel
theorem inX5_takeSemicolon_RX5 : ∀ x ∈ u_ws RX5 TX5 7, x ∈ wsX5_takeSemicolon := by decide +kernel
theorem inX7_clear_RX7 : ∀ x ∈ u_ws RX7 TX7 6, x ∈ wsX7_clear := by decide +kernel
theorem inX7_putArgument_RX7 : ∀ x ∈ u_ws RX7 TX7 6, x ∈ wsX7_putArgument := by decide +kernel
theorem inX7_execute_RX7 : ∀ x ∈ u_ws RX7 TX7 6, x ∈ wsX7_execute.map nse_fix := by decide +kernel
theorem inX7_addVerb_RX7 : ∀ x ∈ u_ws RX7 TX7 6, x ∈ wsX7_addVerb := by decide +kernel
theorem inX5_isWord_RX5 : ∀ x ∈ u_ws RX5 TX5 7, x ∈ wsX5_isWord := by decide +kernel
theorem inX5_isWord_RX8 : ∀ x ∈ u_ws RX8 TX8 2, x ∈ wsX5_isWord := by decide +kernel
theorem inX7_isAllowed_RX7 : ∀ x ∈ u_ws RX7 TX7 6, x ∈ wsX7_isAllowed.map nse_fix := by decide +kernel
theorem inX7_carryOut_RX1 : ∀ x ∈ u_ws RX1 TX1 6, x ∈ wsX7_carryOut.map nse_fix := by decide +kernel
theorem inX7_carryOut_RX7 : ∀ x ∈ u_ws RX7 TX7 6, x ∈ wsX7_carryOut.map nse_fix := by decide +kernel
set_option maxRecDepth 20000 in
set_option maxHeartbeats 4000000 in
theorem eX10_adoptSetup_0 {K : cw_K} {r : Option Value} {J0 I : cw_M} (h : (∃ (v_8 : Int32) (J_8 : cw_M), cw_C (cc_w K) mX5_readSetup [.ref (cw_a (cc_w K) 15), .ref (cw_a (cc_w K) 10)] I (some (.int v_8)) J_8 ∧ ((v_8 = 0 → ((v_8 = 0 ∨ v_8 = 1) ∧ (r = some (.int v_8) ∧ J0 = cw_st J_8 1 1 0))) ∧ (¬ v_8 = 0 → (∃ J_32 : cw_M, cw_C (cc_w K) mX1_become [.ref (cw_a (cc_w K) 5), .ref (cw_a (cc_w K) 10)] (cw_st J_8 1 1 0) none J_32 ∧ (∃ J_39 : cw_M, cw_C (cc_w K) mX4_forgetAll [.ref (cw_a (cc_w K) 28)] J_32 none J_39 ∧ ((v_8 = 0 ∨ v_8 = 1) ∧ (r = some (.int v_8) ∧ J0 = J_39)))))))) : cw_C (cc_w K) mX10_adoptSetup [.ref (cw_a (cc_w K) 0)] I r J0 := by
  refine cw_entry okX10_adoptSetup (Nat.le_of_ble_eq_true rfl) (show cw_B (cc_w K) mX10_adoptSetup (cw_Z (cc_w K) r J0) 0 0 I 0 [(0, .ref (cw_a (cc_w K) 0))] [] from ?_)
  refine cw_aload_n dX10_adoptSetup_0 0 rfl rfl ?_
  refine cw_getf (C := RX10) (T := TX10) (N := 10) (ci := 8) inX10_adoptSetup_RX10 0 (show 0 < 32 by decide) rfl rfl 4 (by decide) (by decide +kernel) rfl dX10_adoptSetup_1 ?_
  refine cw_aload_n dX10_adoptSetup_4 0 rfl rfl ?_
  refine cw_getf (C := RX10) (T := TX10) (N := 10) (ci := 8) inX10_adoptSetup_RX10 0 (show 0 < 32 by decide) rfl rfl 3 (by decide) (by decide +kernel) rfl dX10_adoptSetup_5 ?_
  obtain ⟨v_8, J_8, hc_8, h⟩ := h
  refine cw_callV (o := 15) (As := [.ref (cw_a (cc_w K) 10)]) hc_8 okX5_readSetup rfl gX10_adoptSetup_X5_readSetup (by decide) (show 15 < 32 by decide) rfl (ci := 4) rfl rfl (Nat.le_of_ble_eq_true rfl) dX10_adoptSetup_8 ?_
  refine cw_istore_n dX10_adoptSetup_11 rfl (by decide) rfl ?_
  refine cw_aload_n dX10_adoptSetup_12 1 rfl rfl ?_
  refine cw_getf (C := RX10) (T := TX10) (N := 10) (ci := 8) inX10_adoptSetup_RX10 0 (show 0 < 32 by decide) rfl rfl 0 (by decide) (by decide +kernel) rfl dX10_adoptSetup_13 ?_
  refine cw_iconst (v := 0) dX10_adoptSetup_16 (by decide) ?_
  refine cw_putf (C := RX8) (T := TX8) (N := 2) (ci := 7) inX10_adoptSetup_RX8 tyX8 tyX8_ok nmX8 1 (show 1 < 32 by decide) rfl rfl 1 (by decide) (by decide +kernel) rfl rfl (show 1 < 2 by decide) rfl dX10_adoptSetup_17 ?_
  refine cw_iload_n dX10_adoptSetup_20 0 rfl rfl ?_
  refine cw_if_eq (tgt := 42) dX10_adoptSetup_21 (by decide) (fun q => ?_) (fun q => ?_)
  · have h := h.1 q
    refine cw_iload_n dX10_adoptSetup_42 0 rfl rfl ?_
    exact cw_bret rfl dX10_adoptSetup_43 h.1 h.2
  · have h := h.2 q
    refine cw_aload_n dX10_adoptSetup_24 1 rfl rfl ?_
    refine cw_getf (C := RX10) (T := TX10) (N := 10) (ci := 8) inX10_adoptSetup_RX10 0 (show 0 < 32 by decide) rfl rfl 2 (by decide) (by decide +kernel) rfl dX10_adoptSetup_25 ?_
    refine cw_aload_n dX10_adoptSetup_28 1 rfl rfl ?_
    refine cw_getf (C := RX10) (T := TX10) (N := 10) (ci := 8) inX10_adoptSetup_RX10 0 (show 0 < 32 by decide) rfl rfl 3 (by decide) (by decide +kernel) rfl dX10_adoptSetup_29 ?_
    obtain ⟨J_32, hc_32, h⟩ := h
    refine cw_callV (o := 5) (As := [.ref (cw_a (cc_w K) 10)]) hc_32 okX1_become rfl gX10_adoptSetup_X1_become (by decide) (show 5 < 32 by decide) rfl (ci := 0) rfl rfl (Nat.le_of_ble_eq_true rfl) dX10_adoptSetup_32 ?_
    refine cw_aload_n dX10_adoptSetup_35 1 rfl rfl ?_
    refine cw_getf (C := RX10) (T := TX10) (N := 10) (ci := 8) inX10_adoptSetup_RX10 0 (show 0 < 32 by decide) rfl rfl 9 (by decide) (by decide +kernel) rfl dX10_adoptSetup_36 ?_
    obtain ⟨J_39, hc_39, h⟩ := h
    refine cw_callV (o := 28) (As := []) hc_39 okX4_forgetAll rfl gX10_adoptSetup_X4_forgetAll (by decide) (show 28 < 32 by decide) rfl (ci := 3) rfl rfl (Nat.le_of_ble_eq_true rfl) dX10_adoptSetup_39 ?_
    refine cw_iload_n dX10_adoptSetup_42 0 rfl rfl ?_
    exact cw_bret rfl dX10_adoptSetup_43 h.1 h.2
set_option maxRecDepth 20000 in
set_option maxHeartbeats 4000000 in
theorem eX10_append_0 {K : cw_K} {r : Option Value} {J0 I : cw_M} {x1 : Int32} {x2 : Int32} {x3 : Int32} {x4 : Int32} {x5 : Int32} (h : ((((I 1 1) + 20) ≤ 600 → (∃ J_31 : cw_M, cw_C (cc_w K) mX8_addFourBytes [.ref (cw_a (cc_w K) 1), .int x1] I none J_31 ∧ (∃ J_39 : cw_M, cw_C (cc_w K) mX8_addFourBytes [.ref (cw_a (cc_w K) 1), .int x2] J_31 none J_39 ∧ (∃ J_47 : cw_M, cw_C (cc_w K) mX8_addFourBytes [.ref (cw_a (cc_w K) 1), .int x3] J_39 none J_47 ∧ (∃ J_56 : cw_M, cw_C (cc_w K) mX8_addFourBytes [.ref (cw_a (cc_w K) 1), .int x4] J_47 none J_56 ∧ (∃ J_65 : cw_M, cw_C (cc_w K) mX8_addFourBytes [.ref (cw_a (cc_w K) 1), .int x5] J_56 none J_65 ∧ (r = some (.int (J_65 1 1)) ∧ J0 = J_65))))))) ∧ (¬ ((I 1 1) + 20) ≤ 600 → False))) : cw_C (cc_w K) mX10_append [.ref (cw_a (cc_w K) 0), .int x1, .int x2, .int x3, .int x4, .int x5] I r J0 := by
  refine cw_entry okX10_append (Nat.le_of_ble_eq_true rfl) (show cw_B (cc_w K) mX10_append (cw_Z (cc_w K) r J0) 0 0 I 0 [(0, .ref (cw_a (cc_w K) 0)), (1, .int x1), (2, .int x2), (3, .int x3), (4, .int x4), (5, .int x5)] [] from ?_)
  refine cw_aload_n dX10_append_0 0 rfl rfl ?_
  refine cw_getf (C := RX10) (T := TX10) (N := 10) (ci := 8) inX10_append_RX10 0 (show 0 < 32 by decide) rfl rfl 0 (by decide) (by decide +kernel) rfl dX10_append_1 ?_
  refine cw_getf (C := RX8) (T := TX8) (N := 2) (ci := 7) inX10_append_RX8 1 (show 1 < 32 by decide) rfl rfl 1 (by decide) (by decide +kernel) rfl dX10_append_4 ?_
  refine cw_bipush (v := 20) dX10_append_7 (by decide) ?_
  refine cw_iadd dX10_append_9 ?_
  refine cw_sipush (v := 600) dX10_append_10 (by decide) ?_
  refine cw_icmp_le (tgt := 26) dX10_append_13 (by decide) (fun q => ?_) (fun q => ?_)
  · have h := h.1 q
    refine cw_aload_n dX10_append_26 0 rfl rfl ?_
    refine cw_getf (C := RX10) (T := TX10) (N := 10) (ci := 8) inX10_append_RX10 0 (show 0 < 32 by decide) rfl rfl 0 (by decide) (by decide +kernel) rfl dX10_append_27 ?_
    refine cw_iload_n dX10_append_30 1 rfl rfl ?_
    obtain ⟨J_31, hc_31, h⟩ := h
    refine cw_callV (o := 1) (As := [.int x1]) hc_31 okX8_addFourBytes rfl gX10_append_X8_addFourBytes (by decide) (show 1 < 32 by decide) rfl (ci := 7) rfl rfl (Nat.le_of_ble_eq_true rfl) dX10_append_31 ?_
    refine cw_aload_n dX10_append_34 0 rfl rfl ?_
    refine cw_getf (C := RX10) (T := TX10) (N := 10) (ci := 8) inX10_append_RX10 0 (show 0 < 32 by decide) rfl rfl 0 (by decide) (by decide +kernel) rfl dX10_append_35 ?_
    refine cw_iload_n dX10_append_38 2 rfl rfl ?_
    obtain ⟨J_39, hc_39, h⟩ := h
    refine cw_callV (o := 1) (As := [.int x2]) hc_39 okX8_addFourBytes rfl gX10_append_X8_addFourBytes (by decide) (show 1 < 32 by decide) rfl (ci := 7) rfl rfl (Nat.le_of_ble_eq_true rfl) dX10_append_39 ?_
    refine cw_aload_n dX10_append_42 0 rfl rfl ?_
    refine cw_getf (C := RX10) (T := TX10) (N := 10) (ci := 8) inX10_append_RX10 0 (show 0 < 32 by decide) rfl rfl 0 (by decide) (by decide +kernel) rfl dX10_append_43 ?_
    refine cw_iload_n dX10_append_46 3 rfl rfl ?_
    obtain ⟨J_47, hc_47, h⟩ := h
    refine cw_callV (o := 1) (As := [.int x3]) hc_47 okX8_addFourBytes rfl gX10_append_X8_addFourBytes (by decide) (show 1 < 32 by decide) rfl (ci := 7) rfl rfl (Nat.le_of_ble_eq_true rfl) dX10_append_47 ?_
    refine cw_aload_n dX10_append_50 0 rfl rfl ?_
    refine cw_getf (C := RX10) (T := TX10) (N := 10) (ci := 8) inX10_append_RX10 0 (show 0 < 32 by decide) rfl rfl 0 (by decide) (by decide +kernel) rfl dX10_append_51 ?_
    refine cw_iload dX10_append_54 4 rfl ?_
    obtain ⟨J_56, hc_56, h⟩ := h
    refine cw_callV (o := 1) (As := [.int x4]) hc_56 okX8_addFourBytes rfl gX10_append_X8_addFourBytes (by decide) (show 1 < 32 by decide) rfl (ci := 7) rfl rfl (Nat.le_of_ble_eq_true rfl) dX10_append_56 ?_
    refine cw_aload_n dX10_append_59 0 rfl rfl ?_
    refine cw_getf (C := RX10) (T := TX10) (N := 10) (ci := 8) inX10_append_RX10 0 (show 0 < 32 by decide) rfl rfl 0 (by decide) (by decide +kernel) rfl dX10_append_60 ?_
    refine cw_iload dX10_append_63 5 rfl ?_
    obtain ⟨J_65, hc_65, h⟩ := h
    refine cw_callV (o := 1) (As := [.int x5]) hc_65 okX8_addFourBytes rfl gX10_append_X8_addFourBytes (by decide) (show 1 < 32 by decide) rfl (ci := 7) rfl rfl (Nat.le_of_ble_eq_true rfl) dX10_append_65 ?_
    refine cw_aload_n dX10_append_68 0 rfl rfl ?_
    refine cw_getf (C := RX10) (T := TX10) (N := 10) (ci := 8) inX10_append_RX10 0 (show 0 < 32 by decide) rfl rfl 0 (by decide) (by decide +kernel) rfl dX10_append_69 ?_
    refine cw_getf (C := RX8) (T := TX8) (N := 2) (ci := 7) inX10_append_RX8 1 (show 1 < 32 by decide) rfl rfl 1 (by decide) (by decide +kernel) rfl dX10_append_72 ?_
    exact cw_iret rfl dX10_append_75 h
  · have h := h.2 q
    exact h.elim
set_option maxRecDepth 20000 in
set_option maxHeartbeats 4000000 in
theorem eX10_bestFirst_0 {K : cw_K} {r : Option Value} {J0 I : cw_M} (h : (∃ (v_4 : Int32) (J_4 : cw_M), cw_C (cc_w K) mX6_findBestFirst [.ref (cw_a (cc_w K) 20)] I (some (.int v_4)) J_4 ∧ (r = some (.int v_4) ∧ J0 = J_4))) : cw_C (cc_w K) mX10_bestFirst [.ref (cw_a (cc_w K) 0)] I r J0 := by
  refine cw_entry okX10_bestFirst (Nat.le_of_ble_eq_true rfl) (show cw_B (cc_w K) mX10_bestFirst (cw_Z (cc_w K) r J0) 0 0 I 0 [(0, .ref (cw_a (cc_w K) 0))] [] from ?_)
  refine cw_aload_n dX10_bestFirst_0 0 rfl rfl ?_
  refine cw_getf (C := RX10) (T := TX10) (N := 10) (ci := 8) inX10_bestFirst_RX10 0 (show 0 < 32 by decide) rfl rfl 6 (by decide) (by decide +kernel) rfl dX10_bestFirst_1 ?_
  obtain ⟨v_4, J_4, hc_4, h⟩ := h
  refine cw_callV (o := 20) (As := []) hc_4 okX6_findBestFirst rfl gX10_bestFirst_X6_findBestFirst (by decide) (show 20 < 32 by decide) rfl (ci := 5) rfl rfl (Nat.le_of_ble_eq_true rfl) dX10_bestFirst_4 ?_
  exact cw_iret rfl dX10_bestFirst_7 h
set_option maxRecDepth 20000 in
set_option maxHeartbeats 4000000 in
theorem eX10_bestLeastWelfare_0 {K : cw_K} {r : Option Value} {J0 I : cw_M} (h : (∃ (v_4 : Int32) (J_4 : cw_M), cw_C (cc_w K) mX2_findGreatestLeast [.ref (cw_a (cc_w K) 22)] I (some (.int v_4)) J_4 ∧ (r = some (.int v_4) ∧ J0 = J_4))) : cw_C (cc_w K) mX10_bestLeastWelfare [.ref (cw_a (cc_w K) 0)] I r J0 := by
  refine cw_entry okX10_bestLeastWelfare (Nat.le_of_ble_eq_true rfl) (show cw_B (cc_w K) mX10_bestLeastWelfare (cw_Z (cc_w K) r J0) 0 0 I 0 [(0, .ref (cw_a (cc_w K) 0))] [] from ?_)
  refine cw_aload_n dX10_bestLeastWelfare_0 0 rfl rfl ?_
  refine cw_getf (C := RX10) (T := TX10) (N := 10) (ci := 8) inX10_bestLeastWelfare_RX10 0 (show 0 < 32 by decide) rfl rfl 7 (by decide) (by decide +kernel) rfl dX10_bestLeastWelfare_1 ?_
  obtain ⟨v_4, J_4, hc_4, h⟩ := h
  refine cw_callV (o := 22) (As := []) hc_4 okX2_findGreatestLeast rfl gX10_bestLeastWelfare_X2_findGreatestLeast (by decide) (show 22 < 32 by decide) rfl (ci := 1) rfl rfl (Nat.le_of_ble_eq_true rfl) dX10_bestLeastWelfare_4 ?_
  exact cw_iret rfl dX10_bestLeastWelfare_7 h
set_option maxRecDepth 20000 in
set_option maxHeartbeats 4000000 in
theorem eX10_cellCount_0 {K : cw_K} {r : Option Value} {J0 I : cw_M} (h : (r = some (.int (I 5 0)) ∧ J0 = I)) : cw_C (cc_w K) mX10_cellCount [.ref (cw_a (cc_w K) 0)] I r J0 := by
  refine cw_entry okX10_cellCount (Nat.le_of_ble_eq_true rfl) (show cw_B (cc_w K) mX10_cellCount (cw_Z (cc_w K) r J0) 0 0 I 0 [(0, .ref (cw_a (cc_w K) 0))] [] from ?_)
  refine cw_aload_n dX10_cellCount_0 0 rfl rfl ?_
  refine cw_getf (C := RX10) (T := TX10) (N := 10) (ci := 8) inX10_cellCount_RX10 0 (show 0 < 32 by decide) rfl rfl 2 (by decide) (by decide +kernel) rfl dX10_cellCount_1 ?_
  refine cw_getf (C := RX1) (T := TX1) (N := 6) (ci := 0) inX10_cellCount_RX1 5 (show 5 < 32 by decide) rfl rfl 0 (by decide) (by decide +kernel) rfl dX10_cellCount_4 ?_
  exact cw_iret rfl dX10_cellCount_7 h
abbrev bX10_cutCount_0_4 (K : cw_K) (r : Option Value) (J0 : cw_M) (x1 : Int32) (x2 : Int32) (I : cw_M) : Prop := cw_B (cc_w K) mX10_cutCount (cw_Z (cc_w K) r J0) 0 0 I 4 [(0, .ref (cw_a (cc_w K) 0)), (1, .int x1), (2, .int x2)] []
set_option maxRecDepth 20000 in
set_option maxHeartbeats 4000000 in
theorem eX10_cutCount_0 {K : cw_K} {r : Option Value} {J0 I : cw_M} (h : bX10_cutCount_0_4 K r J0 0 0 I) : cw_C (cc_w K) mX10_cutCount [.ref (cw_a (cc_w K) 0)] I r J0 := by
  refine cw_entry okX10_cutCount (Nat.le_of_ble_eq_true rfl) (show cw_B (cc_w K) mX10_cutCount (cw_Z (cc_w K) r J0) 0 0 I 0 [(0, .ref (cw_a (cc_w K) 0))] [] from ?_)
  refine cw_iconst (v := 0) dX10_cutCount_0 (by decide) ?_
  refine cw_istore_n dX10_cutCount_1 rfl (by decide) rfl ?_
  refine cw_iconst (v := 0) dX10_cutCount_2 (by decide) ?_
  refine cw_istore_n dX10_cutCount_3 rfl (by decide) rfl ?_
  refine cw_sub [2, 1, 0] rfl ?_
  exact h
set_option maxRecDepth 20000 in
set_option maxHeartbeats 4000000 in
theorem tbX10_cutCount_0_4 {K : cw_K} {r : Option Value} {J0 I : cw_M} {x1 : Int32} {x2 : Int32} (h : ((((I 5 0) - 1) ≤ x2 → (r = some (.int x1) ∧ J0 = I)) ∧ (¬ ((I 5 0) - 1) ≤ x2 → (∃ (v_22 : Int32) (J_22 : cw_M), cw_C (cc_w K) mX1_endsPiece [.ref (cw_a (cc_w K) 5), .int x2] I (some (.int v_22)) J_22 ∧ ((v_22 = 0 → bX10_cutCount_0_4 K r J0 x1 (x2 + 1) J_22) ∧ (¬ v_22 = 0 → bX10_cutCount_0_4 K r J0 (x1 + 1) (x2 + 1) J_22)))))) : bX10_cutCount_0_4 K r J0 x1 x2 I := by
  refine cw_iload_n dX10_cutCount_4 2 rfl rfl ?_
  refine cw_aload_n dX10_cutCount_5 0 rfl rfl ?_
  refine cw_getf (C := RX10) (T := TX10) (N := 10) (ci := 8) inX10_cutCount_RX10 0 (show 0 < 32 by decide) rfl rfl 2 (by decide) (by decide +kernel) rfl dX10_cutCount_6 ?_
  refine cw_getf (C := RX1) (T := TX1) (N := 6) (ci := 0) inX10_cutCount_RX1 5 (show 5 < 32 by decide) rfl rfl 0 (by decide) (by decide +kernel) rfl dX10_cutCount_9 ?_
  refine cw_iconst (v := 1) dX10_cutCount_12 (by decide) ?_
  refine cw_isub dX10_cutCount_13 ?_
  refine cw_icmp_ge (tgt := 37) dX10_cutCount_14 (by decide) (fun q => ?_) (fun q => ?_)
  · have h := h.1 q
    refine cw_iload_n dX10_cutCount_37 1 rfl rfl ?_
    exact cw_iret rfl dX10_cutCount_38 h
  · have h := h.2 q
    refine cw_aload_n dX10_cutCount_17 0 rfl rfl ?_
    refine cw_getf (C := RX10) (T := TX10) (N := 10) (ci := 8) inX10_cutCount_RX10 0 (show 0 < 32 by decide) rfl rfl 2 (by decide) (by decide +kernel) rfl dX10_cutCount_18 ?_
    refine cw_iload_n dX10_cutCount_21 2 rfl rfl ?_
    obtain ⟨v_22, J_22, hc_22, h⟩ := h
    refine cw_callV (o := 5) (As := [.int x2]) hc_22 okX1_endsPiece rfl gX10_cutCount_X1_endsPiece (by decide) (show 5 < 32 by decide) rfl (ci := 0) rfl rfl (Nat.le_of_ble_eq_true rfl) dX10_cutCount_22 ?_
    refine cw_if_eq (tgt := 31) dX10_cutCount_25 (by decide) (fun q => ?_) (fun q => ?_)
    · have h := h.1 q
      refine cw_iinc (v := x2 + 1) dX10_cutCount_31 (j := 2) rfl rfl (by decide) rfl ?_
      refine cw_goto (tgt := 4) dX10_cutCount_34 (by decide) ?_
      refine cw_sub [1, 2, 0] rfl ?_
      exact h
    · have h := h.2 q
      refine cw_iinc (v := x1 + 1) dX10_cutCount_28 (j := 1) rfl rfl (by decide) rfl ?_
      refine cw_iinc (v := x2 + 1) dX10_cutCount_31 (j := 2) rfl rfl (by decide) rfl ?_
      refine cw_goto (tgt := 4) dX10_cutCount_34 (by decide) ?_
      refine cw_sub [2, 1, 0] rfl ?_
      exact h
set_option maxRecDepth 20000 in
set_option maxHeartbeats 4000000 in
theorem eX10_cutFor_0 {K : cw_K} {r : Option Value} {J0 I : cw_M} {x1 : Int32} (h : (∃ J_2 : cw_M, cw_C (cc_w K) mX10_requireSibling [.ref (cw_a (cc_w K) 0), .int x1] I none J_2 ∧ (∃ (v_10 : Int32) (J_10 : cw_M), cw_C (cc_w K) mX6_cutOf [.ref (cw_a (cc_w K) 20), .int x1] J_2 (some (.int v_10)) J_10 ∧ (r = some (.int v_10) ∧ J0 = J_10)))) : cw_C (cc_w K) mX10_cutFor [.ref (cw_a (cc_w K) 0), .int x1] I r J0 := by
  refine cw_entry okX10_cutFor (Nat.le_of_ble_eq_true rfl) (show cw_B (cc_w K) mX10_cutFor (cw_Z (cc_w K) r J0) 0 0 I 0 [(0, .ref (cw_a (cc_w K) 0)), (1, .int x1)] [] from ?_)
  refine cw_aload_n dX10_cutFor_0 0 rfl rfl ?_
  refine cw_iload_n dX10_cutFor_1 1 rfl rfl ?_
  obtain ⟨J_2, hc_2, h⟩ := h
  refine cw_callV (o := 0) (As := [.int x1]) hc_2 okX10_requireSibling rfl gX10_cutFor_X10_requireSibling (by decide) (show 0 < 32 by decide) rfl (ci := 8) rfl rfl (Nat.le_of_ble_eq_true rfl) dX10_cutFor_2 ?_
  refine cw_aload_n dX10_cutFor_5 0 rfl rfl ?_
  refine cw_getf (C := RX10) (T := TX10) (N := 10) (ci := 8) inX10_cutFor_RX10 0 (show 0 < 32 by decide) rfl rfl 6 (by decide) (by decide +kernel) rfl dX10_cutFor_6 ?_
  refine cw_iload_n dX10_cutFor_9 1 rfl rfl ?_
  obtain ⟨v_10, J_10, hc_10, h⟩ := h
  refine cw_callV (o := 20) (As := [.int x1]) hc_10 okX6_cutOf rfl gX10_cutFor_X6_cutOf (by decide) (show 20 < 32 by decide) rfl (ci := 5) rfl rfl (Nat.le_of_ble_eq_true rfl) dX10_cutFor_10 ?_
  exact cw_iret rfl dX10_cutFor_13 h
set_option maxRecDepth 20000 in
set_option maxHeartbeats 4000000 in
theorem eX10_divideAndChoose_0 {K : cw_K} {r : Option Value} {J0 I : cw_M} {x1 : Int32} {x2 : Int32} (h : (∃ J_2 : cw_M, cw_C (cc_w K) mX10_requireSibling [.ref (cw_a (cc_w K) 0), .int x1] I none J_2 ∧ (∃ J_7 : cw_M, cw_C (cc_w K) mX10_requireSibling [.ref (cw_a (cc_w K) 0), .int x2] J_2 none J_7 ∧ (∃ J_13 : cw_M, cw_C (cc_w K) mX10_requireDifferent [.ref (cw_a (cc_w K) 0), .int x1, .int x2] J_7 none J_13 ∧ (∃ J_24 : cw_M, cw_C (cc_w K) mX4_rememberForUndo [.ref (cw_a (cc_w K) 28), .ref (cw_a (cc_w K) 5)] J_13 none J_24 ∧ (∃ (v_33 : Int32) (J_33 : cw_M), cw_C (cc_w K) mX6_cutAndChoose [.ref (cw_a (cc_w K) 20), .int x1, .int x2] J_24 (some (.int v_33)) J_33 ∧ (r = some (.int v_33) ∧ J0 = J_33))))))) : cw_C (cc_w K) mX10_divideAndChoose [.ref (cw_a (cc_w K) 0), .int x1, .int x2] I r J0 := by
  refine cw_entry okX10_divideAndChoose (Nat.le_of_ble_eq_true rfl) (show cw_B (cc_w K) mX10_divideAndChoose (cw_Z (cc_w K) r J0) 0 0 I 0 [(0, .ref (cw_a (cc_w K) 0)), (1, .int x1), (2, .int x2)] [] from ?_)
  refine cw_aload_n dX10_divideAndChoose_0 0 rfl rfl ?_
  refine cw_iload_n dX10_divideAndChoose_1 1 rfl rfl ?_
  obtain ⟨J_2, hc_2, h⟩ := h
  refine cw_callV (o := 0) (As := [.int x1]) hc_2 okX10_requireSibling rfl gX10_divideAndChoose_X10_requireSibling (by decide) (show 0 < 32 by decide) rfl (ci := 8) rfl rfl (Nat.le_of_ble_eq_true rfl) dX10_divideAndChoose_2 ?_
  refine cw_aload_n dX10_divideAndChoose_5 0 rfl rfl ?_
  refine cw_iload_n dX10_divideAndChoose_6 2 rfl rfl ?_
  obtain ⟨J_7, hc_7, h⟩ := h
  refine cw_callV (o := 0) (As := [.int x2]) hc_7 okX10_requireSibling rfl gX10_divideAndChoose_X10_requireSibling (by decide) (show 0 < 32 by decide) rfl (ci := 8) rfl rfl (Nat.le_of_ble_eq_true rfl) dX10_divideAndChoose_7 ?_
  refine cw_aload_n dX10_divideAndChoose_10 0 rfl rfl ?_
  refine cw_iload_n dX10_divideAndChoose_11 1 rfl rfl ?_
  refine cw_iload_n dX10_divideAndChoose_12 2 rfl rfl ?_
  obtain ⟨J_13, hc_13, h⟩ := h
  refine cw_callV (o := 0) (As := [.int x1, .int x2]) hc_13 okX10_requireDifferent rfl gX10_divideAndChoose_X10_requireDifferent (by decide) (show 0 < 32 by decide) rfl (ci := 8) rfl rfl (Nat.le_of_ble_eq_true rfl) dX10_divideAndChoose_13 ?_
  refine cw_aload_n dX10_divideAndChoose_16 0 rfl rfl ?_
  refine cw_getf (C := RX10) (T := TX10) (N := 10) (ci := 8) inX10_divideAndChoose_RX10 0 (show 0 < 32 by decide) rfl rfl 9 (by decide) (by decide +kernel) rfl dX10_divideAndChoose_17 ?_
  refine cw_aload_n dX10_divideAndChoose_20 0 rfl rfl ?_
  refine cw_getf (C := RX10) (T := TX10) (N := 10) (ci := 8) inX10_divideAndChoose_RX10 0 (show 0 < 32 by decide) rfl rfl 2 (by decide) (by decide +kernel) rfl dX10_divideAndChoose_21 ?_
  obtain ⟨J_24, hc_24, h⟩ := h
  refine cw_callV (o := 28) (As := [.ref (cw_a (cc_w K) 5)]) hc_24 okX4_rememberForUndo rfl gX10_divideAndChoose_X4_rememberForUndo (by decide) (show 28 < 32 by decide) rfl (ci := 3) rfl rfl (Nat.le_of_ble_eq_true rfl) dX10_divideAndChoose_24 ?_
  refine cw_aload_n dX10_divideAndChoose_27 0 rfl rfl ?_
  refine cw_getf (C := RX10) (T := TX10) (N := 10) (ci := 8) inX10_divideAndChoose_RX10 0 (show 0 < 32 by decide) rfl rfl 6 (by decide) (by decide +kernel) rfl dX10_divideAndChoose_28 ?_
  refine cw_iload_n dX10_divideAndChoose_31 1 rfl rfl ?_
  refine cw_iload_n dX10_divideAndChoose_32 2 rfl rfl ?_
  obtain ⟨v_33, J_33, hc_33, h⟩ := h
  refine cw_callV (o := 20) (As := [.int x1, .int x2]) hc_33 okX6_cutAndChoose rfl gX10_divideAndChoose_X6_cutAndChoose (by decide) (show 20 < 32 by decide) rfl (ci := 5) rfl rfl (Nat.le_of_ble_eq_true rfl) dX10_divideAndChoose_33 ?_
  exact cw_iret rfl dX10_divideAndChoose_36 h
set_option maxRecDepth 20000 in
set_option maxHeartbeats 4000000 in
theorem eX10_envies_0 {K : cw_K} {r : Option Value} {J0 I : cw_M} {x1 : Int32} {x2 : Int32} (h : (∃ J_2 : cw_M, cw_C (cc_w K) mX10_requireSibling [.ref (cw_a (cc_w K) 0), .int x1] I none J_2 ∧ (∃ J_7 : cw_M, cw_C (cc_w K) mX10_requireSibling [.ref (cw_a (cc_w K) 0), .int x2] J_2 none J_7 ∧ (∃ (v_16 : Int32) (J_16 : cw_M), cw_C (cc_w K) mX3_hasEnvy [.ref (cw_a (cc_w K) 16), .int x1, .int x2] J_7 (some (.int v_16)) J_16 ∧ ((v_16 = 0 ∨ v_16 = 1) ∧ (r = some (.int v_16) ∧ J0 = J_16)))))) : cw_C (cc_w K) mX10_envies [.ref (cw_a (cc_w K) 0), .int x1, .int x2] I r J0 := by
  refine cw_entry okX10_envies (Nat.le_of_ble_eq_true rfl) (show cw_B (cc_w K) mX10_envies (cw_Z (cc_w K) r J0) 0 0 I 0 [(0, .ref (cw_a (cc_w K) 0)), (1, .int x1), (2, .int x2)] [] from ?_)
  refine cw_aload_n dX10_envies_0 0 rfl rfl ?_
  refine cw_iload_n dX10_envies_1 1 rfl rfl ?_
  obtain ⟨J_2, hc_2, h⟩ := h
  refine cw_callV (o := 0) (As := [.int x1]) hc_2 okX10_requireSibling rfl gX10_envies_X10_requireSibling (by decide) (show 0 < 32 by decide) rfl (ci := 8) rfl rfl (Nat.le_of_ble_eq_true rfl) dX10_envies_2 ?_
  refine cw_aload_n dX10_envies_5 0 rfl rfl ?_
  refine cw_iload_n dX10_envies_6 2 rfl rfl ?_
  obtain ⟨J_7, hc_7, h⟩ := h
  refine cw_callV (o := 0) (As := [.int x2]) hc_7 okX10_requireSibling rfl gX10_envies_X10_requireSibling (by decide) (show 0 < 32 by decide) rfl (ci := 8) rfl rfl (Nat.le_of_ble_eq_true rfl) dX10_envies_7 ?_
  refine cw_aload_n dX10_envies_10 0 rfl rfl ?_
  refine cw_getf (C := RX10) (T := TX10) (N := 10) (ci := 8) inX10_envies_RX10 0 (show 0 < 32 by decide) rfl rfl 5 (by decide) (by decide +kernel) rfl dX10_envies_11 ?_
  refine cw_iload_n dX10_envies_14 1 rfl rfl ?_
  refine cw_iload_n dX10_envies_15 2 rfl rfl ?_
  obtain ⟨v_16, J_16, hc_16, h⟩ := h
  refine cw_callV (o := 16) (As := [.int x1, .int x2]) hc_16 okX3_hasEnvy rfl gX10_envies_X3_hasEnvy (by decide) (show 16 < 32 by decide) rfl (ci := 2) rfl rfl (Nat.le_of_ble_eq_true rfl) dX10_envies_16 ?_
  exact cw_bret rfl dX10_envies_19 h.1 h.2
set_option maxRecDepth 20000 in
set_option maxHeartbeats 4000000 in
theorem eX10_envyCount_0 {K : cw_K} {r : Option Value} {J0 I : cw_M} (h : (∃ (v_4 : Int32) (J_4 : cw_M), cw_C (cc_w K) mX3_countEnvies [.ref (cw_a (cc_w K) 16)] I (some (.int v_4)) J_4 ∧ (r = some (.int v_4) ∧ J0 = J_4))) : cw_C (cc_w K) mX10_envyCount [.ref (cw_a (cc_w K) 0)] I r J0 := by
  refine cw_entry okX10_envyCount (Nat.le_of_ble_eq_true rfl) (show cw_B (cc_w K) mX10_envyCount (cw_Z (cc_w K) r J0) 0 0 I 0 [(0, .ref (cw_a (cc_w K) 0))] [] from ?_)
  refine cw_aload_n dX10_envyCount_0 0 rfl rfl ?_
  refine cw_getf (C := RX10) (T := TX10) (N := 10) (ci := 8) inX10_envyCount_RX10 0 (show 0 < 32 by decide) rfl rfl 5 (by decide) (by decide +kernel) rfl dX10_envyCount_1 ?_
  obtain ⟨v_4, J_4, hc_4, h⟩ := h
  refine cw_callV (o := 16) (As := []) hc_4 okX3_countEnvies rfl gX10_envyCount_X3_countEnvies (by decide) (show 16 < 32 by decide) rfl (ci := 2) rfl rfl (Nat.le_of_ble_eq_true rfl) dX10_envyCount_4 ?_
  exact cw_iret rfl dX10_envyCount_7 h
set_option maxRecDepth 20000 in
set_option maxHeartbeats 4000000 in
theorem eX10_envyCycleLength_0 {K : cw_K} {r : Option Value} {J0 I : cw_M} {x1 : Int32} (h : (∃ J_2 : cw_M, cw_C (cc_w K) mX10_requireSibling [.ref (cw_a (cc_w K) 0), .int x1] I none J_2 ∧ (∃ (v_10 : Int32) (J_10 : cw_M), cw_C (cc_w K) mX3_findCycle [.ref (cw_a (cc_w K) 16), .int x1] J_2 (some (.int v_10)) J_10 ∧ (r = some (.int v_10) ∧ J0 = J_10)))) : cw_C (cc_w K) mX10_envyCycleLength [.ref (cw_a (cc_w K) 0), .int x1] I r J0 := by
  refine cw_entry okX10_envyCycleLength (Nat.le_of_ble_eq_true rfl) (show cw_B (cc_w K) mX10_envyCycleLength (cw_Z (cc_w K) r J0) 0 0 I 0 [(0, .ref (cw_a (cc_w K) 0)), (1, .int x1)] [] from ?_)
  refine cw_aload_n dX10_envyCycleLength_0 0 rfl rfl ?_
  refine cw_iload_n dX10_envyCycleLength_1 1 rfl rfl ?_
  obtain ⟨J_2, hc_2, h⟩ := h
  refine cw_callV (o := 0) (As := [.int x1]) hc_2 okX10_requireSibling rfl gX10_envyCycleLength_X10_requireSibling (by decide) (show 0 < 32 by decide) rfl (ci := 8) rfl rfl (Nat.le_of_ble_eq_true rfl) dX10_envyCycleLength_2 ?_
  refine cw_aload_n dX10_envyCycleLength_5 0 rfl rfl ?_
  refine cw_getf (C := RX10) (T := TX10) (N := 10) (ci := 8) inX10_envyCycleLength_RX10 0 (show 0 < 32 by decide) rfl rfl 5 (by decide) (by decide +kernel) rfl dX10_envyCycleLength_6 ?_
  refine cw_iload_n dX10_envyCycleLength_9 1 rfl rfl ?_
  obtain ⟨v_10, J_10, hc_10, h⟩ := h
  refine cw_callV (o := 16) (As := [.int x1]) hc_10 okX3_findCycle rfl gX10_envyCycleLength_X3_findCycle (by decide) (show 16 < 32 by decide) rfl (ci := 2) rfl rfl (Nat.le_of_ble_eq_true rfl) dX10_envyCycleLength_10 ?_
  exact cw_iret rfl dX10_envyCycleLength_13 h
set_option maxRecDepth 20000 in
set_option maxHeartbeats 4000000 in
theorem eX10_envyCycleMember_0 {K : cw_K} {r : Option Value} {J0 I : cw_M} {x1 : Int32} {x2 : Int32} (h : (∃ J_2 : cw_M, cw_C (cc_w K) mX10_requireSibling [.ref (cw_a (cc_w K) 0), .int x1] I none J_2 ∧ ((x2 < 0 → False) ∧ (¬ x2 < 0 → (∃ (v_15 : Int32) (J_15 : cw_M), cw_C (cc_w K) mX3_findCycle [.ref (cw_a (cc_w K) 16), .int x1] J_2 (some (.int v_15)) J_15 ∧ ((x2 < v_15 → (vp_in x2 6 ∧ (r = some (.int (J_15 17 x2.toNatClampNeg)) ∧ J0 = J_15))) ∧ (¬ x2 < v_15 → False))))))) : cw_C (cc_w K) mX10_envyCycleMember [.ref (cw_a (cc_w K) 0), .int x1, .int x2] I r J0 := by
  refine cw_entry okX10_envyCycleMember (Nat.le_of_ble_eq_true rfl) (show cw_B (cc_w K) mX10_envyCycleMember (cw_Z (cc_w K) r J0) 0 0 I 0 [(0, .ref (cw_a (cc_w K) 0)), (1, .int x1), (2, .int x2)] [] from ?_)
  refine cw_aload_n dX10_envyCycleMember_0 0 rfl rfl ?_
  refine cw_iload_n dX10_envyCycleMember_1 1 rfl rfl ?_
  obtain ⟨J_2, hc_2, h⟩ := h
  refine cw_callV (o := 0) (As := [.int x1]) hc_2 okX10_requireSibling rfl (nse_gi gX10_envyCycleMember_X10_requireSibling (by decide +kernel)) (by decide) (show 0 < 32 by decide) rfl (ci := 8) rfl rfl (Nat.le_of_ble_eq_true rfl) dX10_envyCycleMember_2 ?_
  refine cw_iload_n dX10_envyCycleMember_5 2 rfl rfl ?_
  refine cw_if_lt (tgt := 21) dX10_envyCycleMember_6 (by decide) (fun q => ?_) (fun q => ?_)
  · have h := h.1 q
    exact h.elim
  · have h := h.2 q
    refine cw_iload_n dX10_envyCycleMember_9 2 rfl rfl ?_
    refine cw_aload_n dX10_envyCycleMember_10 0 rfl rfl ?_
    refine cw_getf (C := RX10) (T := TX10) (N := 10) (ci := 8) inX10_envyCycleMember_RX10 0 (show 0 < 32 by decide) rfl rfl 5 (by decide) (by decide +kernel) rfl dX10_envyCycleMember_11 ?_
    refine cw_iload_n dX10_envyCycleMember_14 1 rfl rfl ?_
    obtain ⟨v_15, J_15, hc_15, h⟩ := h
    refine cw_callV (o := 16) (As := [.int x1]) hc_15 okX3_findCycle rfl (nse_gi gX10_envyCycleMember_X3_findCycle (by decide +kernel)) (by decide) (show 16 < 32 by decide) rfl (ci := 2) rfl rfl (Nat.le_of_ble_eq_true rfl) dX10_envyCycleMember_15 ?_
    refine cw_icmp_lt (tgt := 31) dX10_envyCycleMember_18 (by decide) (fun q => ?_) (fun q => ?_)
    · have h := h.1 q
      refine cw_aload_n dX10_envyCycleMember_31 0 rfl rfl ?_
      refine cw_getf (C := RX10) (T := TX10) (N := 10) (ci := 8) inX10_envyCycleMember_RX10 0 (show 0 < 32 by decide) rfl rfl 5 (by decide) (by decide +kernel) rfl dX10_envyCycleMember_32 ?_
      refine cw_getf (C := RX3) (T := TX3) (N := 4) (ci := 2) inX10_envyCycleMember_RX3 16 (show 16 < 32 by decide) rfl rfl 0 (by decide) (by decide +kernel) rfl dX10_envyCycleMember_35 ?_
      refine cw_iload_n dX10_envyCycleMember_38 2 rfl rfl ?_
      obtain ⟨g_39, h⟩ := h
      refine cw_iald 17 (show 17 < 32 by decide) rfl 0 rfl dX10_envyCycleMember_39 g_39 ?_
      exact cw_iret rfl dX10_envyCycleMember_40 h
    · have h := h.2 q
      exact h.elim
set_option maxRecDepth 20000 in
set_option maxHeartbeats 4000000 in
theorem eX10_errorCode_0 {K : cw_K} {r : Option Value} {J0 I : cw_M} (h : (r = some (.int (I 15 0)) ∧ J0 = I)) : cw_C (cc_w K) mX10_errorCode [.ref (cw_a (cc_w K) 0)] I r J0 := by
  refine cw_entry okX10_errorCode (Nat.le_of_ble_eq_true rfl) (show cw_B (cc_w K) mX10_errorCode (cw_Z (cc_w K) r J0) 0 0 I 0 [(0, .ref (cw_a (cc_w K) 0))] [] from ?_)
  refine cw_aload_n dX10_errorCode_0 0 rfl rfl ?_
  refine cw_getf (C := RX10) (T := TX10) (N := 10) (ci := 8) inX10_errorCode_RX10 0 (show 0 < 32 by decide) rfl rfl 4 (by decide) (by decide +kernel) rfl dX10_errorCode_1 ?_
  refine cw_getf (C := RX5) (T := TX5) (N := 7) (ci := 4) inX10_errorCode_RX5 15 (show 15 < 32 by decide) rfl rfl 0 (by decide) (by decide +kernel) rfl dX10_errorCode_4 ?_
  exact cw_iret rfl dX10_errorCode_7 h
set_option maxRecDepth 20000 in
set_option maxHeartbeats 4000000 in
theorem eX10_errorPosition_0 {K : cw_K} {r : Option Value} {J0 I : cw_M} (h : (r = some (.int (I 15 1)) ∧ J0 = I)) : cw_C (cc_w K) mX10_errorPosition [.ref (cw_a (cc_w K) 0)] I r J0 := by
  refine cw_entry okX10_errorPosition (Nat.le_of_ble_eq_true rfl) (show cw_B (cc_w K) mX10_errorPosition (cw_Z (cc_w K) r J0) 0 0 I 0 [(0, .ref (cw_a (cc_w K) 0))] [] from ?_)
  refine cw_aload_n dX10_errorPosition_0 0 rfl rfl ?_
  refine cw_getf (C := RX10) (T := TX10) (N := 10) (ci := 8) inX10_errorPosition_RX10 0 (show 0 < 32 by decide) rfl rfl 4 (by decide) (by decide +kernel) rfl dX10_errorPosition_1 ?_
  refine cw_getf (C := RX5) (T := TX5) (N := 7) (ci := 4) inX10_errorPosition_RX5 15 (show 15 < 32 by decide) rfl rfl 1 (by decide) (by decide +kernel) rfl dX10_errorPosition_4 ?_
  exact cw_iret rfl dX10_errorPosition_7 h
set_option maxRecDepth 20000 in
set_option maxHeartbeats 4000000 in
theorem eX10_favouriteFreeCell_0 {K : cw_K} {r : Option Value} {J0 I : cw_M} {x1 : Int32} (h : (∃ J_2 : cw_M, cw_C (cc_w K) mX10_requireSibling [.ref (cw_a (cc_w K) 0), .int x1] I none J_2 ∧ (∃ (v_17 : Int32) (J_17 : cw_M), cw_C (cc_w K) mX6_favouriteOf [.ref (cw_a (cc_w K) 20), .ref (cw_a (cc_w K) 9), .int x1] J_2 (some (.int v_17)) J_17 ∧ (r = some (.int v_17) ∧ J0 = J_17)))) : cw_C (cc_w K) mX10_favouriteFreeCell [.ref (cw_a (cc_w K) 0), .int x1] I r J0 := by
  refine cw_entry okX10_favouriteFreeCell (Nat.le_of_ble_eq_true rfl) (show cw_B (cc_w K) mX10_favouriteFreeCell (cw_Z (cc_w K) r J0) 0 0 I 0 [(0, .ref (cw_a (cc_w K) 0)), (1, .int x1)] [] from ?_)
  refine cw_aload_n dX10_favouriteFreeCell_0 0 rfl rfl ?_
  refine cw_iload_n dX10_favouriteFreeCell_1 1 rfl rfl ?_
  obtain ⟨J_2, hc_2, h⟩ := h
  refine cw_callV (o := 0) (As := [.int x1]) hc_2 okX10_requireSibling rfl gX10_favouriteFreeCell_X10_requireSibling (by decide) (show 0 < 32 by decide) rfl (ci := 8) rfl rfl (Nat.le_of_ble_eq_true rfl) dX10_favouriteFreeCell_2 ?_
  refine cw_aload_n dX10_favouriteFreeCell_5 0 rfl rfl ?_
  refine cw_getf (C := RX10) (T := TX10) (N := 10) (ci := 8) inX10_favouriteFreeCell_RX10 0 (show 0 < 32 by decide) rfl rfl 6 (by decide) (by decide +kernel) rfl dX10_favouriteFreeCell_6 ?_
  refine cw_aload_n dX10_favouriteFreeCell_9 0 rfl rfl ?_
  refine cw_getf (C := RX10) (T := TX10) (N := 10) (ci := 8) inX10_favouriteFreeCell_RX10 0 (show 0 < 32 by decide) rfl rfl 2 (by decide) (by decide +kernel) rfl dX10_favouriteFreeCell_10 ?_
  refine cw_getf (C := RX1) (T := TX1) (N := 6) (ci := 0) inX10_favouriteFreeCell_RX1 5 (show 5 < 32 by decide) rfl rfl 5 (by decide) (by decide +kernel) rfl dX10_favouriteFreeCell_13 ?_
  refine cw_iload_n dX10_favouriteFreeCell_16 1 rfl rfl ?_
  obtain ⟨v_17, J_17, hc_17, h⟩ := h
  refine cw_callV (o := 20) (As := [.ref (cw_a (cc_w K) 9), .int x1]) hc_17 okX6_favouriteOf rfl gX10_favouriteFreeCell_X6_favouriteOf (by decide) (show 20 < 32 by decide) rfl (ci := 5) rfl rfl (Nat.le_of_ble_eq_true rfl) dX10_favouriteFreeCell_17 ?_
  exact cw_iret rfl dX10_favouriteFreeCell_20 h
set_option maxRecDepth 20000 in
set_option maxHeartbeats 4000000 in
theorem eX10_findSibling_0 {K : cw_K} {r : Option Value} {J0 I : cw_M} (h : (∃ (v_16 : Int32) (J_16 : cw_M), cw_C (cc_w K) mX1_findName [.ref (cw_a (cc_w K) 5), .ref (cw_a (cc_w K) 1), .int 0, .int (I 1 1)] I (some (.int v_16)) J_16 ∧ ((¬ v_16 = (-1) → (r = some (.int v_16) ∧ J0 = J_16)) ∧ (v_16 = (-1) → False)))) : cw_C (cc_w K) mX10_findSibling [.ref (cw_a (cc_w K) 0)] I r J0 := by
  refine cw_entry okX10_findSibling (Nat.le_of_ble_eq_true rfl) (show cw_B (cc_w K) mX10_findSibling (cw_Z (cc_w K) r J0) 0 0 I 0 [(0, .ref (cw_a (cc_w K) 0))] [] from ?_)
  refine cw_aload_n dX10_findSibling_0 0 rfl rfl ?_
  refine cw_getf (C := RX10) (T := TX10) (N := 10) (ci := 8) inX10_findSibling_RX10 0 (show 0 < 32 by decide) rfl rfl 2 (by decide) (by decide +kernel) rfl dX10_findSibling_1 ?_
  refine cw_aload_n dX10_findSibling_4 0 rfl rfl ?_
  refine cw_getf (C := RX10) (T := TX10) (N := 10) (ci := 8) inX10_findSibling_RX10 0 (show 0 < 32 by decide) rfl rfl 0 (by decide) (by decide +kernel) rfl dX10_findSibling_5 ?_
  refine cw_iconst (v := 0) dX10_findSibling_8 (by decide) ?_
  refine cw_aload_n dX10_findSibling_9 0 rfl rfl ?_
  refine cw_getf (C := RX10) (T := TX10) (N := 10) (ci := 8) inX10_findSibling_RX10 0 (show 0 < 32 by decide) rfl rfl 0 (by decide) (by decide +kernel) rfl dX10_findSibling_10 ?_
  refine cw_getf (C := RX8) (T := TX8) (N := 2) (ci := 7) inX10_findSibling_RX8 1 (show 1 < 32 by decide) rfl rfl 1 (by decide) (by decide +kernel) rfl dX10_findSibling_13 ?_
  obtain ⟨v_16, J_16, hc_16, h⟩ := h
  refine cw_callV (o := 5) (As := [.ref (cw_a (cc_w K) 1), .int 0, .int (I 1 1)]) hc_16 okX1_findName rfl (nse_gi gX10_findSibling_X1_findName (by decide +kernel)) (by decide) (show 5 < 32 by decide) rfl (ci := 0) rfl rfl (Nat.le_of_ble_eq_true rfl) dX10_findSibling_16 ?_
  refine cw_istore_n dX10_findSibling_19 rfl (by decide) rfl ?_
  refine cw_iload_n dX10_findSibling_20 0 rfl rfl ?_
  refine cw_iconst (v := (-1)) dX10_findSibling_21 (by decide) ?_
  refine cw_icmp_ne (tgt := 35) dX10_findSibling_22 (by decide) (fun q => ?_) (fun q => ?_)
  · have h := h.1 q
    refine cw_iload_n dX10_findSibling_35 0 rfl rfl ?_
    exact cw_iret rfl dX10_findSibling_36 h
  · have h := h.2 q
    exact h.elim
set_option maxRecDepth 20000 in
set_option maxHeartbeats 4000000 in
theorem eX10_freeCount_0 {K : cw_K} {r : Option Value} {J0 I : cw_M} (h : (∃ (v_5 : Int32) (J_5 : cw_M), cw_C (cc_w K) mX1_countOwned [.ref (cw_a (cc_w K) 5), .int (-1)] I (some (.int v_5)) J_5 ∧ (r = some (.int v_5) ∧ J0 = J_5))) : cw_C (cc_w K) mX10_freeCount [.ref (cw_a (cc_w K) 0)] I r J0 := by
  refine cw_entry okX10_freeCount (Nat.le_of_ble_eq_true rfl) (show cw_B (cc_w K) mX10_freeCount (cw_Z (cc_w K) r J0) 0 0 I 0 [(0, .ref (cw_a (cc_w K) 0))] [] from ?_)
  refine cw_aload_n dX10_freeCount_0 0 rfl rfl ?_
  refine cw_getf (C := RX10) (T := TX10) (N := 10) (ci := 8) inX10_freeCount_RX10 0 (show 0 < 32 by decide) rfl rfl 2 (by decide) (by decide +kernel) rfl dX10_freeCount_1 ?_
  refine cw_iconst (v := (-1)) dX10_freeCount_4 (by decide) ?_
  obtain ⟨v_5, J_5, hc_5, h⟩ := h
  refine cw_callV (o := 5) (As := [.int (-1)]) hc_5 okX1_countOwned rfl gX10_freeCount_X1_countOwned (by decide) (show 5 < 32 by decide) rfl (ci := 0) rfl rfl (Nat.le_of_ble_eq_true rfl) dX10_freeCount_5 ?_
  exact cw_iret rfl dX10_freeCount_8 h
set_option maxRecDepth 20000 in
set_option maxHeartbeats 4000000 in
theorem eX10_give_0 {K : cw_K} {r : Option Value} {J0 I : cw_M} {x1 : Int32} {x2 : Int32} {x3 : Int32} (h : (∃ J_2 : cw_M, cw_C (cc_w K) mX10_requireSibling [.ref (cw_a (cc_w K) 0), .int x1] I none J_2 ∧ (∃ J_8 : cw_M, cw_C (cc_w K) mX10_requireRun [.ref (cw_a (cc_w K) 0), .int x2, .int x3] J_2 none J_8 ∧ (∃ J_19 : cw_M, cw_C (cc_w K) mX4_rememberForUndo [.ref (cw_a (cc_w K) 28), .ref (cw_a (cc_w K) 5)] J_8 none J_19 ∧ (∃ J_38 : cw_M, cw_C (cc_w K) mX1_assign [.ref (cw_a (cc_w K) 5), .ref (cw_a (cc_w K) 9), .int x1, .int x2, .int (x3 + 1)] J_19 none J_38 ∧ (∃ (v_46 : Int32) (J_46 : cw_M), cw_C (cc_w K) mX1_welfareOf [.ref (cw_a (cc_w K) 5), .int x1] J_38 (some (.int v_46)) J_46 ∧ (r = some (.int v_46) ∧ J0 = J_46))))))) : cw_C (cc_w K) mX10_give [.ref (cw_a (cc_w K) 0), .int x1, .int x2, .int x3] I r J0 := by
  refine cw_entry okX10_give (Nat.le_of_ble_eq_true rfl) (show cw_B (cc_w K) mX10_give (cw_Z (cc_w K) r J0) 0 0 I 0 [(0, .ref (cw_a (cc_w K) 0)), (1, .int x1), (2, .int x2), (3, .int x3)] [] from ?_)
  refine cw_aload_n dX10_give_0 0 rfl rfl ?_
  refine cw_iload_n dX10_give_1 1 rfl rfl ?_
  obtain ⟨J_2, hc_2, h⟩ := h
  refine cw_callV (o := 0) (As := [.int x1]) hc_2 okX10_requireSibling rfl gX10_give_X10_requireSibling (by decide) (show 0 < 32 by decide) rfl (ci := 8) rfl rfl (Nat.le_of_ble_eq_true rfl) dX10_give_2 ?_
  refine cw_aload_n dX10_give_5 0 rfl rfl ?_
  refine cw_iload_n dX10_give_6 2 rfl rfl ?_
  refine cw_iload_n dX10_give_7 3 rfl rfl ?_
  obtain ⟨J_8, hc_8, h⟩ := h
  refine cw_callV (o := 0) (As := [.int x2, .int x3]) hc_8 okX10_requireRun rfl gX10_give_X10_requireRun (by decide) (show 0 < 32 by decide) rfl (ci := 8) rfl rfl (Nat.le_of_ble_eq_true rfl) dX10_give_8 ?_
  refine cw_aload_n dX10_give_11 0 rfl rfl ?_
  refine cw_getf (C := RX10) (T := TX10) (N := 10) (ci := 8) inX10_give_RX10 0 (show 0 < 32 by decide) rfl rfl 9 (by decide) (by decide +kernel) rfl dX10_give_12 ?_
  refine cw_aload_n dX10_give_15 0 rfl rfl ?_
  refine cw_getf (C := RX10) (T := TX10) (N := 10) (ci := 8) inX10_give_RX10 0 (show 0 < 32 by decide) rfl rfl 2 (by decide) (by decide +kernel) rfl dX10_give_16 ?_
  obtain ⟨J_19, hc_19, h⟩ := h
  refine cw_callV (o := 28) (As := [.ref (cw_a (cc_w K) 5)]) hc_19 okX4_rememberForUndo rfl gX10_give_X4_rememberForUndo (by decide) (show 28 < 32 by decide) rfl (ci := 3) rfl rfl (Nat.le_of_ble_eq_true rfl) dX10_give_19 ?_
  refine cw_aload_n dX10_give_22 0 rfl rfl ?_
  refine cw_getf (C := RX10) (T := TX10) (N := 10) (ci := 8) inX10_give_RX10 0 (show 0 < 32 by decide) rfl rfl 2 (by decide) (by decide +kernel) rfl dX10_give_23 ?_
  refine cw_aload_n dX10_give_26 0 rfl rfl ?_
  refine cw_getf (C := RX10) (T := TX10) (N := 10) (ci := 8) inX10_give_RX10 0 (show 0 < 32 by decide) rfl rfl 2 (by decide) (by decide +kernel) rfl dX10_give_27 ?_
  refine cw_getf (C := RX1) (T := TX1) (N := 6) (ci := 0) inX10_give_RX1 5 (show 5 < 32 by decide) rfl rfl 5 (by decide) (by decide +kernel) rfl dX10_give_30 ?_
  refine cw_iload_n dX10_give_33 1 rfl rfl ?_
  refine cw_iload_n dX10_give_34 2 rfl rfl ?_
  refine cw_iload_n dX10_give_35 3 rfl rfl ?_
  refine cw_iconst (v := 1) dX10_give_36 (by decide) ?_
  refine cw_iadd dX10_give_37 ?_
  obtain ⟨J_38, hc_38, h⟩ := h
  refine cw_callV (o := 5) (As := [.ref (cw_a (cc_w K) 9), .int x1, .int x2, .int (x3 + 1)]) hc_38 okX1_assign rfl gX10_give_X1_assign (by decide) (show 5 < 32 by decide) rfl (ci := 0) rfl rfl (Nat.le_of_ble_eq_true rfl) dX10_give_38 ?_
  refine cw_aload_n dX10_give_41 0 rfl rfl ?_
  refine cw_getf (C := RX10) (T := TX10) (N := 10) (ci := 8) inX10_give_RX10 0 (show 0 < 32 by decide) rfl rfl 2 (by decide) (by decide +kernel) rfl dX10_give_42 ?_
  refine cw_iload_n dX10_give_45 1 rfl rfl ?_
  obtain ⟨v_46, J_46, hc_46, h⟩ := h
  refine cw_callV (o := 5) (As := [.int x1]) hc_46 okX1_welfareOf rfl gX10_give_X1_welfareOf (by decide) (show 5 < 32 by decide) rfl (ci := 0) rfl rfl (Nat.le_of_ble_eq_true rfl) dX10_give_46 ?_
  exact cw_iret rfl dX10_give_49 h
set_option maxRecDepth 20000 in
set_option maxHeartbeats 4000000 in
theorem eX10_greatestContiguousWelfare_0 {K : cw_K} {r : Option Value} {J0 I : cw_M} (h : (∃ (v_4 : Int32) (J_4 : cw_M), cw_C (cc_w K) mX2_findGreatestSum [.ref (cw_a (cc_w K) 22)] I (some (.int v_4)) J_4 ∧ (r = some (.int v_4) ∧ J0 = J_4))) : cw_C (cc_w K) mX10_greatestContiguousWelfare [.ref (cw_a (cc_w K) 0)] I r J0 := by
  refine cw_entry okX10_greatestContiguousWelfare (Nat.le_of_ble_eq_true rfl) (show cw_B (cc_w K) mX10_greatestContiguousWelfare (cw_Z (cc_w K) r J0) 0 0 I 0 [(0, .ref (cw_a (cc_w K) 0))] [] from ?_)
  refine cw_aload_n dX10_greatestContiguousWelfare_0 0 rfl rfl ?_
  refine cw_getf (C := RX10) (T := TX10) (N := 10) (ci := 8) inX10_greatestContiguousWelfare_RX10 0 (show 0 < 32 by decide) rfl rfl 7 (by decide) (by decide +kernel) rfl dX10_greatestContiguousWelfare_1 ?_
  obtain ⟨v_4, J_4, hc_4, h⟩ := h
  refine cw_callV (o := 22) (As := []) hc_4 okX2_findGreatestSum rfl gX10_greatestContiguousWelfare_X2_findGreatestSum (by decide) (show 22 < 32 by decide) rfl (ci := 1) rfl rfl (Nat.le_of_ble_eq_true rfl) dX10_greatestContiguousWelfare_4 ?_
  exact cw_iret rfl dX10_greatestContiguousWelfare_7 h
abbrev bX10_greatestTotalWelfare_0_4 (K : cw_K) (r : Option Value) (J0 : cw_M) (x1 : Int32) (x2 : Int32) (I : cw_M) : Prop := cw_B (cc_w K) mX10_greatestTotalWelfare (cw_Z (cc_w K) r J0) 0 0 I 4 [(0, .ref (cw_a (cc_w K) 0)), (1, .int x1), (2, .int x2)] []
set_option maxRecDepth 20000 in
set_option maxHeartbeats 4000000 in
theorem eX10_greatestTotalWelfare_0 {K : cw_K} {r : Option Value} {J0 I : cw_M} (h : bX10_greatestTotalWelfare_0_4 K r J0 0 0 I) : cw_C (cc_w K) mX10_greatestTotalWelfare [.ref (cw_a (cc_w K) 0)] I r J0 := by
  refine cw_entry okX10_greatestTotalWelfare (Nat.le_of_ble_eq_true rfl) (show cw_B (cc_w K) mX10_greatestTotalWelfare (cw_Z (cc_w K) r J0) 0 0 I 0 [(0, .ref (cw_a (cc_w K) 0))] [] from ?_)
  refine cw_iconst (v := 0) dX10_greatestTotalWelfare_0 (by decide) ?_
  refine cw_istore_n dX10_greatestTotalWelfare_1 rfl (by decide) rfl ?_
  refine cw_iconst (v := 0) dX10_greatestTotalWelfare_2 (by decide) ?_
  refine cw_istore_n dX10_greatestTotalWelfare_3 rfl (by decide) rfl ?_
  refine cw_sub [2, 1, 0] rfl ?_
  exact h
set_option maxRecDepth 20000 in
set_option maxHeartbeats 4000000 in
theorem tbX10_greatestTotalWelfare_0_4 {K : cw_K} {r : Option Value} {J0 I : cw_M} {x1 : Int32} {x2 : Int32} (h : (((I 5 0) ≤ x2 → (r = some (.int x1) ∧ J0 = I)) ∧ (¬ (I 5 0) ≤ x2 → (∃ (v_21 : Int32) (J_21 : cw_M), cw_C (cc_w K) mX1_greatestValueOf [.ref (cw_a (cc_w K) 5), .int x2] I (some (.int v_21)) J_21 ∧ bX10_greatestTotalWelfare_0_4 K r J0 (x1 + v_21) (x2 + 1) J_21)))) : bX10_greatestTotalWelfare_0_4 K r J0 x1 x2 I := by
  refine cw_iload_n dX10_greatestTotalWelfare_4 2 rfl rfl ?_
  refine cw_aload_n dX10_greatestTotalWelfare_5 0 rfl rfl ?_
  refine cw_getf (C := RX10) (T := TX10) (N := 10) (ci := 8) inX10_greatestTotalWelfare_RX10 0 (show 0 < 32 by decide) rfl rfl 2 (by decide) (by decide +kernel) rfl dX10_greatestTotalWelfare_6 ?_
  refine cw_getf (C := RX1) (T := TX1) (N := 6) (ci := 0) inX10_greatestTotalWelfare_RX1 5 (show 5 < 32 by decide) rfl rfl 0 (by decide) (by decide +kernel) rfl dX10_greatestTotalWelfare_9 ?_
  refine cw_icmp_ge (tgt := 32) dX10_greatestTotalWelfare_12 (by decide) (fun q => ?_) (fun q => ?_)
  · have h := h.1 q
    refine cw_iload_n dX10_greatestTotalWelfare_32 1 rfl rfl ?_
    exact cw_iret rfl dX10_greatestTotalWelfare_33 h
  · have h := h.2 q
    refine cw_iload_n dX10_greatestTotalWelfare_15 1 rfl rfl ?_
    refine cw_aload_n dX10_greatestTotalWelfare_16 0 rfl rfl ?_
    refine cw_getf (C := RX10) (T := TX10) (N := 10) (ci := 8) inX10_greatestTotalWelfare_RX10 0 (show 0 < 32 by decide) rfl rfl 2 (by decide) (by decide +kernel) rfl dX10_greatestTotalWelfare_17 ?_
    refine cw_iload_n dX10_greatestTotalWelfare_20 2 rfl rfl ?_
    obtain ⟨v_21, J_21, hc_21, h⟩ := h
    refine cw_callV (o := 5) (As := [.int x2]) hc_21 okX1_greatestValueOf rfl gX10_greatestTotalWelfare_X1_greatestValueOf (by decide) (show 5 < 32 by decide) rfl (ci := 0) rfl rfl (Nat.le_of_ble_eq_true rfl) dX10_greatestTotalWelfare_21 ?_
    refine cw_iadd dX10_greatestTotalWelfare_24 ?_
    refine cw_istore_n dX10_greatestTotalWelfare_25 rfl (by decide) rfl ?_
    refine cw_iinc (v := x2 + 1) dX10_greatestTotalWelfare_26 (j := 2) rfl rfl (by decide) rfl ?_
    refine cw_goto (tgt := 4) dX10_greatestTotalWelfare_29 (by decide) ?_
    refine cw_sub [2, 1, 0] rfl ?_
    exact h
abbrev bX10_inconsistencies_0_19 (K : cw_K) (r : Option Value) (J0 : cw_M) (x1 : Int32) (x2 : Int32) (I : cw_M) : Prop := cw_B (cc_w K) mX10_inconsistencies (cw_Z (cc_w K) r J0) 0 0 I 19 [(0, .ref (cw_a (cc_w K) 0)), (1, .int x1), (2, .int x2)] []
set_option maxRecDepth 20000 in
set_option maxHeartbeats 4000000 in
theorem eX10_inconsistencies_0 {K : cw_K} {r : Option Value} {J0 I : cw_M} (h : (∃ (v_12 : Int32) (J_12 : cw_M), cw_C (cc_w K) mX1_countOwned [.ref (cw_a (cc_w K) 5), .int (-1)] I (some (.int v_12)) J_12 ∧ bX10_inconsistencies_0_19 K r J0 ((I 5 0) - v_12) 0 J_12)) : cw_C (cc_w K) mX10_inconsistencies [.ref (cw_a (cc_w K) 0)] I r J0 := by
  refine cw_entry okX10_inconsistencies (Nat.le_of_ble_eq_true rfl) (show cw_B (cc_w K) mX10_inconsistencies (cw_Z (cc_w K) r J0) 0 0 I 0 [(0, .ref (cw_a (cc_w K) 0))] [] from ?_)
  refine cw_aload_n dX10_inconsistencies_0 0 rfl rfl ?_
  refine cw_getf (C := RX10) (T := TX10) (N := 10) (ci := 8) inX10_inconsistencies_RX10 0 (show 0 < 32 by decide) rfl rfl 2 (by decide) (by decide +kernel) rfl dX10_inconsistencies_1 ?_
  refine cw_getf (C := RX1) (T := TX1) (N := 6) (ci := 0) inX10_inconsistencies_RX1 5 (show 5 < 32 by decide) rfl rfl 0 (by decide) (by decide +kernel) rfl dX10_inconsistencies_4 ?_
  refine cw_aload_n dX10_inconsistencies_7 0 rfl rfl ?_
  refine cw_getf (C := RX10) (T := TX10) (N := 10) (ci := 8) inX10_inconsistencies_RX10 0 (show 0 < 32 by decide) rfl rfl 2 (by decide) (by decide +kernel) rfl dX10_inconsistencies_8 ?_
  refine cw_iconst (v := (-1)) dX10_inconsistencies_11 (by decide) ?_
  obtain ⟨v_12, J_12, hc_12, h⟩ := h
  refine cw_callV (o := 5) (As := [.int (-1)]) hc_12 okX1_countOwned rfl gX10_inconsistencies_X1_countOwned (by decide) (show 5 < 32 by decide) rfl (ci := 0) rfl rfl (Nat.le_of_ble_eq_true rfl) dX10_inconsistencies_12 ?_
  refine cw_isub dX10_inconsistencies_15 ?_
  refine cw_istore_n dX10_inconsistencies_16 rfl (by decide) rfl ?_
  refine cw_iconst (v := 0) dX10_inconsistencies_17 (by decide) ?_
  refine cw_istore_n dX10_inconsistencies_18 rfl (by decide) rfl ?_
  refine cw_sub [2, 1, 0] rfl ?_
  exact h
set_option maxRecDepth 20000 in
set_option maxHeartbeats 4000000 in
theorem tbX10_inconsistencies_0_19 {K : cw_K} {r : Option Value} {J0 I : cw_M} {x1 : Int32} {x2 : Int32} (h : (((I 5 1) ≤ x2 → (r = some (.int x1) ∧ J0 = I)) ∧ (¬ (I 5 1) ≤ x2 → (∃ (v_36 : Int32) (J_36 : cw_M), cw_C (cc_w K) mX1_countOwned [.ref (cw_a (cc_w K) 5), .int x2] I (some (.int v_36)) J_36 ∧ (∃ (v_47 : Int32) (J_47 : cw_M), cw_C (cc_w K) mX3_hasEnvy [.ref (cw_a (cc_w K) 16), .int x2, .int x2] J_36 (some (.int v_47)) J_47 ∧ ((v_47 = 0 → bX10_inconsistencies_0_19 K r J0 (x1 - v_36) (x2 + 1) J_47) ∧ (¬ v_47 = 0 → bX10_inconsistencies_0_19 K r J0 ((x1 - v_36) + 1) (x2 + 1) J_47))))))) : bX10_inconsistencies_0_19 K r J0 x1 x2 I := by
  refine cw_iload_n dX10_inconsistencies_19 2 rfl rfl ?_
  refine cw_aload_n dX10_inconsistencies_20 0 rfl rfl ?_
  refine cw_getf (C := RX10) (T := TX10) (N := 10) (ci := 8) inX10_inconsistencies_RX10 0 (show 0 < 32 by decide) rfl rfl 2 (by decide) (by decide +kernel) rfl dX10_inconsistencies_21 ?_
  refine cw_getf (C := RX1) (T := TX1) (N := 6) (ci := 0) inX10_inconsistencies_RX1 5 (show 5 < 32 by decide) rfl rfl 1 (by decide) (by decide +kernel) rfl dX10_inconsistencies_24 ?_
  refine cw_icmp_ge (tgt := 62) dX10_inconsistencies_27 (by decide) (fun q => ?_) (fun q => ?_)
  · have h := h.1 q
    refine cw_iload_n dX10_inconsistencies_62 1 rfl rfl ?_
    exact cw_iret rfl dX10_inconsistencies_63 h
  · have h := h.2 q
    refine cw_iload_n dX10_inconsistencies_30 1 rfl rfl ?_
    refine cw_aload_n dX10_inconsistencies_31 0 rfl rfl ?_
    refine cw_getf (C := RX10) (T := TX10) (N := 10) (ci := 8) inX10_inconsistencies_RX10 0 (show 0 < 32 by decide) rfl rfl 2 (by decide) (by decide +kernel) rfl dX10_inconsistencies_32 ?_
    refine cw_iload_n dX10_inconsistencies_35 2 rfl rfl ?_
    obtain ⟨v_36, J_36, hc_36, h⟩ := h
    refine cw_callV (o := 5) (As := [.int x2]) hc_36 okX1_countOwned rfl gX10_inconsistencies_X1_countOwned (by decide) (show 5 < 32 by decide) rfl (ci := 0) rfl rfl (Nat.le_of_ble_eq_true rfl) dX10_inconsistencies_36 ?_
    refine cw_isub dX10_inconsistencies_39 ?_
    refine cw_istore_n dX10_inconsistencies_40 rfl (by decide) rfl ?_
    refine cw_aload_n dX10_inconsistencies_41 1 rfl rfl ?_
    refine cw_getf (C := RX10) (T := TX10) (N := 10) (ci := 8) inX10_inconsistencies_RX10 0 (show 0 < 32 by decide) rfl rfl 5 (by decide) (by decide +kernel) rfl dX10_inconsistencies_42 ?_
    refine cw_iload_n dX10_inconsistencies_45 2 rfl rfl ?_
    refine cw_iload_n dX10_inconsistencies_46 2 rfl rfl ?_
    obtain ⟨v_47, J_47, hc_47, h⟩ := h
    refine cw_callV (o := 16) (As := [.int x2, .int x2]) hc_47 okX3_hasEnvy rfl gX10_inconsistencies_X3_hasEnvy (by decide) (show 16 < 32 by decide) rfl (ci := 2) rfl rfl (Nat.le_of_ble_eq_true rfl) dX10_inconsistencies_47 ?_
    refine cw_if_eq (tgt := 56) dX10_inconsistencies_50 (by decide) (fun q => ?_) (fun q => ?_)
    · have h := h.1 q
      refine cw_iinc (v := x2 + 1) dX10_inconsistencies_56 (j := 2) rfl rfl (by decide) rfl ?_
      refine cw_goto (tgt := 19) dX10_inconsistencies_59 (by decide) ?_
      refine cw_sub [2, 1, 0] rfl ?_
      exact h
    · have h := h.2 q
      refine cw_iinc (v := (x1 - v_36) + 1) dX10_inconsistencies_53 (j := 0) rfl rfl (by decide) rfl ?_
      refine cw_iinc (v := x2 + 1) dX10_inconsistencies_56 (j := 2) rfl rfl (by decide) rfl ?_
      refine cw_goto (tgt := 19) dX10_inconsistencies_59 (by decide) ?_
      refine cw_sub [2, 1, 0] rfl ?_
      exact h
set_option maxRecDepth 20000 in
set_option maxHeartbeats 4000000 in
theorem eX10_isMild_0 {K : cw_K} {r : Option Value} {J0 I : cw_M} {x1 : Int32} {x2 : Int32} (h : (∃ J_2 : cw_M, cw_C (cc_w K) mX10_requireSibling [.ref (cw_a (cc_w K) 0), .int x1] I none J_2 ∧ (∃ J_7 : cw_M, cw_C (cc_w K) mX10_requireSibling [.ref (cw_a (cc_w K) 0), .int x2] J_2 none J_7 ∧ (∃ (v_16 : Int32) (J_16 : cw_M), cw_C (cc_w K) mX3_hasEnvy [.ref (cw_a (cc_w K) 16), .int x1, .int x2] J_7 (some (.int v_16)) J_16 ∧ ((¬ v_16 = 0 → (∃ (v_38 : Int32) (J_38 : cw_M), cw_C (cc_w K) mX3_hasStrongEnvy [.ref (cw_a (cc_w K) 16), .int x1, .int x2] J_16 (some (.int v_38)) J_38 ∧ ((¬ v_38 = 0 → (r = some (.int 0) ∧ J0 = J_38)) ∧ (v_38 = 0 → (r = some (.int 1) ∧ J0 = J_38))))) ∧ (v_16 = 0 → False)))))) : cw_C (cc_w K) mX10_isMild [.ref (cw_a (cc_w K) 0), .int x1, .int x2] I r J0 := by
  refine cw_entry okX10_isMild (Nat.le_of_ble_eq_true rfl) (show cw_B (cc_w K) mX10_isMild (cw_Z (cc_w K) r J0) 0 0 I 0 [(0, .ref (cw_a (cc_w K) 0)), (1, .int x1), (2, .int x2)] [] from ?_)
  refine cw_aload_n dX10_isMild_0 0 rfl rfl ?_
  refine cw_iload_n dX10_isMild_1 1 rfl rfl ?_
  obtain ⟨J_2, hc_2, h⟩ := h
  refine cw_callV (o := 0) (As := [.int x1]) hc_2 okX10_requireSibling rfl gX10_isMild_X10_requireSibling (by decide) (show 0 < 32 by decide) rfl (ci := 8) rfl rfl (Nat.le_of_ble_eq_true rfl) dX10_isMild_2 ?_
  refine cw_aload_n dX10_isMild_5 0 rfl rfl ?_
  refine cw_iload_n dX10_isMild_6 2 rfl rfl ?_
  obtain ⟨J_7, hc_7, h⟩ := h
  refine cw_callV (o := 0) (As := [.int x2]) hc_7 okX10_requireSibling rfl gX10_isMild_X10_requireSibling (by decide) (show 0 < 32 by decide) rfl (ci := 8) rfl rfl (Nat.le_of_ble_eq_true rfl) dX10_isMild_7 ?_
  refine cw_aload_n dX10_isMild_10 0 rfl rfl ?_
  refine cw_getf (C := RX10) (T := TX10) (N := 10) (ci := 8) inX10_isMild_RX10 0 (show 0 < 32 by decide) rfl rfl 5 (by decide) (by decide +kernel) rfl dX10_isMild_11 ?_
  refine cw_iload_n dX10_isMild_14 1 rfl rfl ?_
  refine cw_iload_n dX10_isMild_15 2 rfl rfl ?_
  obtain ⟨v_16, J_16, hc_16, h⟩ := h
  refine cw_callV (o := 16) (As := [.int x1, .int x2]) hc_16 okX3_hasEnvy rfl gX10_isMild_X3_hasEnvy (by decide) (show 16 < 32 by decide) rfl (ci := 2) rfl rfl (Nat.le_of_ble_eq_true rfl) dX10_isMild_16 ?_
  refine cw_if_ne (tgt := 32) dX10_isMild_19 (by decide) (fun q => ?_) (fun q => ?_)
  · have h := h.1 q
    refine cw_aload_n dX10_isMild_32 0 rfl rfl ?_
    refine cw_getf (C := RX10) (T := TX10) (N := 10) (ci := 8) inX10_isMild_RX10 0 (show 0 < 32 by decide) rfl rfl 5 (by decide) (by decide +kernel) rfl dX10_isMild_33 ?_
    refine cw_iload_n dX10_isMild_36 1 rfl rfl ?_
    refine cw_iload_n dX10_isMild_37 2 rfl rfl ?_
    obtain ⟨v_38, J_38, hc_38, h⟩ := h
    refine cw_callV (o := 16) (As := [.int x1, .int x2]) hc_38 okX3_hasStrongEnvy rfl gX10_isMild_X3_hasStrongEnvy (by decide) (show 16 < 32 by decide) rfl (ci := 2) rfl rfl (Nat.le_of_ble_eq_true rfl) dX10_isMild_38 ?_
    refine cw_if_ne (tgt := 48) dX10_isMild_41 (by decide) (fun q => ?_) (fun q => ?_)
    · have h := h.1 q
      refine cw_iconst (v := 0) dX10_isMild_48 (by decide) ?_
      exact cw_bret rfl dX10_isMild_49 (by decide) h
    · have h := h.2 q
      refine cw_iconst (v := 1) dX10_isMild_44 (by decide) ?_
      refine cw_goto (tgt := 49) dX10_isMild_45 (by decide) ?_
      exact cw_bret rfl dX10_isMild_49 (by decide) h
  · have h := h.2 q
    exact h.elim
set_option maxRecDepth 20000 in
set_option maxHeartbeats 4000000 in
theorem eX10_isSatisfied_0 {K : cw_K} {r : Option Value} {J0 I : cw_M} {x1 : Int32} (h : (∃ J_2 : cw_M, cw_C (cc_w K) mX10_requireSibling [.ref (cw_a (cc_w K) 0), .int x1] I none J_2 ∧ (∃ (v_10 : Int32) (J_10 : cw_M), cw_C (cc_w K) mX3_hasFairShare [.ref (cw_a (cc_w K) 16), .int x1] J_2 (some (.int v_10)) J_10 ∧ ((v_10 = 0 ∨ v_10 = 1) ∧ (r = some (.int v_10) ∧ J0 = J_10))))) : cw_C (cc_w K) mX10_isSatisfied [.ref (cw_a (cc_w K) 0), .int x1] I r J0 := by
  refine cw_entry okX10_isSatisfied (Nat.le_of_ble_eq_true rfl) (show cw_B (cc_w K) mX10_isSatisfied (cw_Z (cc_w K) r J0) 0 0 I 0 [(0, .ref (cw_a (cc_w K) 0)), (1, .int x1)] [] from ?_)
  refine cw_aload_n dX10_isSatisfied_0 0 rfl rfl ?_
  refine cw_iload_n dX10_isSatisfied_1 1 rfl rfl ?_
  obtain ⟨J_2, hc_2, h⟩ := h
  refine cw_callV (o := 0) (As := [.int x1]) hc_2 okX10_requireSibling rfl gX10_isSatisfied_X10_requireSibling (by decide) (show 0 < 32 by decide) rfl (ci := 8) rfl rfl (Nat.le_of_ble_eq_true rfl) dX10_isSatisfied_2 ?_
  refine cw_aload_n dX10_isSatisfied_5 0 rfl rfl ?_
  refine cw_getf (C := RX10) (T := TX10) (N := 10) (ci := 8) inX10_isSatisfied_RX10 0 (show 0 < 32 by decide) rfl rfl 5 (by decide) (by decide +kernel) rfl dX10_isSatisfied_6 ?_
  refine cw_iload_n dX10_isSatisfied_9 1 rfl rfl ?_
  obtain ⟨v_10, J_10, hc_10, h⟩ := h
  refine cw_callV (o := 16) (As := [.int x1]) hc_10 okX3_hasFairShare rfl gX10_isSatisfied_X3_hasFairShare (by decide) (show 16 < 32 by decide) rfl (ci := 2) rfl rfl (Nat.le_of_ble_eq_true rfl) dX10_isSatisfied_10 ?_
  exact cw_bret rfl dX10_isSatisfied_13 h.1 h.2
set_option maxRecDepth 20000 in
set_option maxHeartbeats 4000000 in
theorem eX10_leastWelfare_0 {K : cw_K} {r : Option Value} {J0 I : cw_M} (h : (∃ (v_11 : Int32) (J_11 : cw_M), cw_C (cc_w K) mX1_leastWelfareAmong [.ref (cw_a (cc_w K) 5), .ref (cw_a (cc_w K) 9)] I (some (.int v_11)) J_11 ∧ (r = some (.int v_11) ∧ J0 = J_11))) : cw_C (cc_w K) mX10_leastWelfare [.ref (cw_a (cc_w K) 0)] I r J0 := by
  refine cw_entry okX10_leastWelfare (Nat.le_of_ble_eq_true rfl) (show cw_B (cc_w K) mX10_leastWelfare (cw_Z (cc_w K) r J0) 0 0 I 0 [(0, .ref (cw_a (cc_w K) 0))] [] from ?_)
  refine cw_aload_n dX10_leastWelfare_0 0 rfl rfl ?_
  refine cw_getf (C := RX10) (T := TX10) (N := 10) (ci := 8) inX10_leastWelfare_RX10 0 (show 0 < 32 by decide) rfl rfl 2 (by decide) (by decide +kernel) rfl dX10_leastWelfare_1 ?_
  refine cw_aload_n dX10_leastWelfare_4 0 rfl rfl ?_
  refine cw_getf (C := RX10) (T := TX10) (N := 10) (ci := 8) inX10_leastWelfare_RX10 0 (show 0 < 32 by decide) rfl rfl 2 (by decide) (by decide +kernel) rfl dX10_leastWelfare_5 ?_
  refine cw_getf (C := RX1) (T := TX1) (N := 6) (ci := 0) inX10_leastWelfare_RX1 5 (show 5 < 32 by decide) rfl rfl 5 (by decide) (by decide +kernel) rfl dX10_leastWelfare_8 ?_
  obtain ⟨v_11, J_11, hc_11, h⟩ := h
  refine cw_callV (o := 5) (As := [.ref (cw_a (cc_w K) 9)]) hc_11 okX1_leastWelfareAmong rfl gX10_leastWelfare_X1_leastWelfareAmong (by decide) (show 5 < 32 by decide) rfl (ci := 0) rfl rfl (Nat.le_of_ble_eq_true rfl) dX10_leastWelfare_11 ?_
  exact cw_iret rfl dX10_leastWelfare_14 h
set_option maxRecDepth 20000 in
set_option maxHeartbeats 4000000 in
theorem eX10_load_0 {K : cw_K} {r : Option Value} {J0 I : cw_M} (h : (∃ (v_1 : Int32) (J_1 : cw_M), cw_C (cc_w K) mX10_adoptSetup [.ref (cw_a (cc_w K) 0)] I (some (.int v_1)) J_1 ∧ ((¬ v_1 = 0 → (r = some (.int (J_1 5 1)) ∧ J0 = J_1)) ∧ (v_1 = 0 → False)))) : cw_C (cc_w K) mX10_load [.ref (cw_a (cc_w K) 0)] I r J0 := by
  refine cw_entry okX10_load (Nat.le_of_ble_eq_true rfl) (show cw_B (cc_w K) mX10_load (cw_Z (cc_w K) r J0) 0 0 I 0 [(0, .ref (cw_a (cc_w K) 0))] [] from ?_)
  refine cw_aload_n dX10_load_0 0 rfl rfl ?_
  obtain ⟨v_1, J_1, hc_1, h⟩ := h
  refine cw_callV (o := 0) (As := []) hc_1 okX10_adoptSetup rfl gX10_load_X10_adoptSetup (by decide) (show 0 < 32 by decide) rfl (ci := 8) rfl rfl (Nat.le_of_ble_eq_true rfl) dX10_load_1 ?_
  refine cw_if_ne (tgt := 17) dX10_load_4 (by decide) (fun q => ?_) (fun q => ?_)
  · have h := h.1 q
    refine cw_aload_n dX10_load_17 0 rfl rfl ?_
    refine cw_getf (C := RX10) (T := TX10) (N := 10) (ci := 8) inX10_load_RX10 0 (show 0 < 32 by decide) rfl rfl 2 (by decide) (by decide +kernel) rfl dX10_load_18 ?_
    refine cw_getf (C := RX1) (T := TX1) (N := 6) (ci := 0) inX10_load_RX1 5 (show 5 < 32 by decide) rfl rfl 1 (by decide) (by decide +kernel) rfl dX10_load_21 ?_
    exact cw_iret rfl dX10_load_24 h
  · have h := h.2 q
    exact h.elim
set_option maxRecDepth 20000 in
set_option maxHeartbeats 4000000 in
theorem eX10_mark_0 {K : cw_K} {r : Option Value} {J0 I : cw_M} {x1 : Int32} {x2 : Int32} {x3 : Int32} (h : (∃ J_2 : cw_M, cw_C (cc_w K) mX10_requireSibling [.ref (cw_a (cc_w K) 0), .int x1] I none J_2 ∧ (∃ J_7 : cw_M, cw_C (cc_w K) mX10_requireCell [.ref (cw_a (cc_w K) 0), .int x2] J_2 none J_7 ∧ ((x3 < 1 → False) ∧ (¬ x3 < 1 → ((x3 ≤ 24 → (∃ (v_38 : Int32) (J_38 : cw_M), cw_C (cc_w K) mX6_markOf [.ref (cw_a (cc_w K) 20), .int x1, .int x2, .int x3] J_7 (some (.int v_38)) J_38 ∧ (r = some (.int v_38) ∧ J0 = J_38))) ∧ (¬ x3 ≤ 24 → False))))))) : cw_C (cc_w K) mX10_mark [.ref (cw_a (cc_w K) 0), .int x1, .int x2, .int x3] I r J0 := by
  refine cw_entry okX10_mark (Nat.le_of_ble_eq_true rfl) (show cw_B (cc_w K) mX10_mark (cw_Z (cc_w K) r J0) 0 0 I 0 [(0, .ref (cw_a (cc_w K) 0)), (1, .int x1), (2, .int x2), (3, .int x3)] [] from ?_)
  refine cw_aload_n dX10_mark_0 0 rfl rfl ?_
  refine cw_iload_n dX10_mark_1 1 rfl rfl ?_
  obtain ⟨J_2, hc_2, h⟩ := h
  refine cw_callV (o := 0) (As := [.int x1]) hc_2 okX10_requireSibling rfl gX10_mark_X10_requireSibling (by decide) (show 0 < 32 by decide) rfl (ci := 8) rfl rfl (Nat.le_of_ble_eq_true rfl) dX10_mark_2 ?_
  refine cw_aload_n dX10_mark_5 0 rfl rfl ?_
  refine cw_iload_n dX10_mark_6 2 rfl rfl ?_
  obtain ⟨J_7, hc_7, h⟩ := h
  refine cw_callV (o := 0) (As := [.int x2]) hc_7 okX10_requireCell rfl gX10_mark_X10_requireCell (by decide) (show 0 < 32 by decide) rfl (ci := 8) rfl rfl (Nat.le_of_ble_eq_true rfl) dX10_mark_7 ?_
  refine cw_iload_n dX10_mark_10 3 rfl rfl ?_
  refine cw_iconst (v := 1) dX10_mark_11 (by decide) ?_
  refine cw_icmp_lt (tgt := 21) dX10_mark_12 (by decide) (fun q => ?_) (fun q => ?_)
  · have h := h.1 q
    exact h.elim
  · have h := h.2 q
    refine cw_iload_n dX10_mark_15 3 rfl rfl ?_
    refine cw_bipush (v := 24) dX10_mark_16 (by decide) ?_
    refine cw_icmp_le (tgt := 31) dX10_mark_18 (by decide) (fun q => ?_) (fun q => ?_)
    · have h := h.1 q
      refine cw_aload_n dX10_mark_31 0 rfl rfl ?_
      refine cw_getf (C := RX10) (T := TX10) (N := 10) (ci := 8) inX10_mark_RX10 0 (show 0 < 32 by decide) rfl rfl 6 (by decide) (by decide +kernel) rfl dX10_mark_32 ?_
      refine cw_iload_n dX10_mark_35 1 rfl rfl ?_
      refine cw_iload_n dX10_mark_36 2 rfl rfl ?_
      refine cw_iload_n dX10_mark_37 3 rfl rfl ?_
      obtain ⟨v_38, J_38, hc_38, h⟩ := h
      refine cw_callV (o := 20) (As := [.int x1, .int x2, .int x3]) hc_38 okX6_markOf rfl gX10_mark_X6_markOf (by decide) (show 20 < 32 by decide) rfl (ci := 5) rfl rfl (Nat.le_of_ble_eq_true rfl) dX10_mark_38 ?_
      exact cw_iret rfl dX10_mark_41 h
    · have h := h.2 q
      exact h.elim
abbrev bX10_meanPieces_0_4 (K : cw_K) (r : Option Value) (J0 : cw_M) (x1 : Int32) (x2 : Int32) (I : cw_M) : Prop := cw_B (cc_w K) mX10_meanPieces (cw_Z (cc_w K) r J0) 0 0 I 4 [(0, .ref (cw_a (cc_w K) 0)), (1, .int x1), (2, .int x2)] []
set_option maxRecDepth 20000 in
set_option maxHeartbeats 4000000 in
theorem eX10_meanPieces_0 {K : cw_K} {r : Option Value} {J0 I : cw_M} (h : bX10_meanPieces_0_4 K r J0 0 0 I) : cw_C (cc_w K) mX10_meanPieces [.ref (cw_a (cc_w K) 0)] I r J0 := by
  refine cw_entry okX10_meanPieces (Nat.le_of_ble_eq_true rfl) (show cw_B (cc_w K) mX10_meanPieces (cw_Z (cc_w K) r J0) 0 0 I 0 [(0, .ref (cw_a (cc_w K) 0))] [] from ?_)
  refine cw_iconst (v := 0) dX10_meanPieces_0 (by decide) ?_
  refine cw_istore_n dX10_meanPieces_1 rfl (by decide) rfl ?_
  refine cw_iconst (v := 0) dX10_meanPieces_2 (by decide) ?_
  refine cw_istore_n dX10_meanPieces_3 rfl (by decide) rfl ?_
  refine cw_sub [2, 1, 0] rfl ?_
  exact h
set_option maxRecDepth 20000 in
set_option maxHeartbeats 4000000 in
theorem tbX10_meanPieces_0_4 {K : cw_K} {r : Option Value} {J0 I : cw_M} {x1 : Int32} {x2 : Int32} (h : (((I 5 1) ≤ x2 → (vf_n64 (FP.ddiv (FP.i2d x1) (FP.i2d (I 5 1))) ∧ (r = some (.double (FP.ddiv (FP.i2d x1) (FP.i2d (I 5 1)))) ∧ J0 = I))) ∧ (¬ (I 5 1) ≤ x2 → (∃ (v_21 : Int32) (J_21 : cw_M), cw_C (cc_w K) mX1_countPieces [.ref (cw_a (cc_w K) 5), .int x2] I (some (.int v_21)) J_21 ∧ bX10_meanPieces_0_4 K r J0 (x1 + v_21) (x2 + 1) J_21)))) : bX10_meanPieces_0_4 K r J0 x1 x2 I := by
  refine cw_iload_n dX10_meanPieces_4 2 rfl rfl ?_
  refine cw_aload_n dX10_meanPieces_5 0 rfl rfl ?_
  refine cw_getf (C := RX10) (T := TX10) (N := 10) (ci := 8) inX10_meanPieces_RX10 0 (show 0 < 32 by decide) rfl rfl 2 (by decide) (by decide +kernel) rfl dX10_meanPieces_6 ?_
  refine cw_getf (C := RX1) (T := TX1) (N := 6) (ci := 0) inX10_meanPieces_RX1 5 (show 5 < 32 by decide) rfl rfl 1 (by decide) (by decide +kernel) rfl dX10_meanPieces_9 ?_
  refine cw_icmp_ge (tgt := 32) dX10_meanPieces_12 (by decide) (fun q => ?_) (fun q => ?_)
  · have h := h.1 q
    refine cw_iload_n dX10_meanPieces_32 1 rfl rfl ?_
    refine cw_i2d dX10_meanPieces_33 ?_
    refine cw_aload_n dX10_meanPieces_34 0 rfl rfl ?_
    refine cw_getf (C := RX10) (T := TX10) (N := 10) (ci := 8) inX10_meanPieces_RX10 0 (show 0 < 32 by decide) rfl rfl 2 (by decide) (by decide +kernel) rfl dX10_meanPieces_35 ?_
    refine cw_getf (C := RX1) (T := TX1) (N := 6) (ci := 0) inX10_meanPieces_RX1 5 (show 5 < 32 by decide) rfl rfl 1 (by decide) (by decide +kernel) rfl dX10_meanPieces_38 ?_
    refine cw_i2d dX10_meanPieces_41 ?_
    obtain ⟨g_42, h⟩ := h
    refine cw_ddiv dX10_meanPieces_42 g_42 ?_
    exact cw_dret rfl dX10_meanPieces_43 h
  · have h := h.2 q
    refine cw_iload_n dX10_meanPieces_15 1 rfl rfl ?_
    refine cw_aload_n dX10_meanPieces_16 0 rfl rfl ?_
    refine cw_getf (C := RX10) (T := TX10) (N := 10) (ci := 8) inX10_meanPieces_RX10 0 (show 0 < 32 by decide) rfl rfl 2 (by decide) (by decide +kernel) rfl dX10_meanPieces_17 ?_
    refine cw_iload_n dX10_meanPieces_20 2 rfl rfl ?_
    obtain ⟨v_21, J_21, hc_21, h⟩ := h
    refine cw_callV (o := 5) (As := [.int x2]) hc_21 okX1_countPieces rfl gX10_meanPieces_X1_countPieces (by decide) (show 5 < 32 by decide) rfl (ci := 0) rfl rfl (Nat.le_of_ble_eq_true rfl) dX10_meanPieces_21 ?_
    refine cw_iadd dX10_meanPieces_24 ?_
    refine cw_istore_n dX10_meanPieces_25 rfl (by decide) rfl ?_
    refine cw_iinc (v := x2 + 1) dX10_meanPieces_26 (j := 2) rfl rfl (by decide) rfl ?_
    refine cw_goto (tgt := 4) dX10_meanPieces_29 (by decide) ?_
    refine cw_sub [2, 1, 0] rfl ?_
    exact h
set_option maxRecDepth 20000 in
set_option maxHeartbeats 4000000 in
theorem eX10_mostEnvied_0 {K : cw_K} {r : Option Value} {J0 I : cw_M} (h : (∃ (v_4 : Int32) (J_4 : cw_M), cw_C (cc_w K) mX3_findMostEnvied [.ref (cw_a (cc_w K) 16)] I (some (.int v_4)) J_4 ∧ (r = some (.int v_4) ∧ J0 = J_4))) : cw_C (cc_w K) mX10_mostEnvied [.ref (cw_a (cc_w K) 0)] I r J0 := by
  refine cw_entry okX10_mostEnvied (Nat.le_of_ble_eq_true rfl) (show cw_B (cc_w K) mX10_mostEnvied (cw_Z (cc_w K) r J0) 0 0 I 0 [(0, .ref (cw_a (cc_w K) 0))] [] from ?_)
  refine cw_aload_n dX10_mostEnvied_0 0 rfl rfl ?_
  refine cw_getf (C := RX10) (T := TX10) (N := 10) (ci := 8) inX10_mostEnvied_RX10 0 (show 0 < 32 by decide) rfl rfl 5 (by decide) (by decide +kernel) rfl dX10_mostEnvied_1 ?_
  obtain ⟨v_4, J_4, hc_4, h⟩ := h
  refine cw_callV (o := 16) (As := []) hc_4 okX3_findMostEnvied rfl gX10_mostEnvied_X3_findMostEnvied (by decide) (show 16 < 32 by decide) rfl (ci := 2) rfl rfl (Nat.le_of_ble_eq_true rfl) dX10_mostEnvied_4 ?_
  exact cw_iret rfl dX10_mostEnvied_7 h
set_option maxRecDepth 20000 in
set_option maxHeartbeats 4000000 in
theorem eX10_movingKnife_0 {K : cw_K} {r : Option Value} {J0 I : cw_M} (h : (∃ J_8 : cw_M, cw_C (cc_w K) mX4_rememberForUndo [.ref (cw_a (cc_w K) 28), .ref (cw_a (cc_w K) 5)] I none J_8 ∧ (∃ J_22 : cw_M, cw_C (cc_w K) mX6_divideByKnife [.ref (cw_a (cc_w K) 20), .ref (cw_a (cc_w K) 9)] J_8 none J_22 ∧ (∃ (v_29 : Int32) (J_29 : cw_M), cw_C (cc_w K) mX3_countFairShares [.ref (cw_a (cc_w K) 16)] J_22 (some (.int v_29)) J_29 ∧ (r = some (.int v_29) ∧ J0 = J_29))))) : cw_C (cc_w K) mX10_movingKnife [.ref (cw_a (cc_w K) 0)] I r J0 := by
  refine cw_entry okX10_movingKnife (Nat.le_of_ble_eq_true rfl) (show cw_B (cc_w K) mX10_movingKnife (cw_Z (cc_w K) r J0) 0 0 I 0 [(0, .ref (cw_a (cc_w K) 0))] [] from ?_)
  refine cw_aload_n dX10_movingKnife_0 0 rfl rfl ?_
  refine cw_getf (C := RX10) (T := TX10) (N := 10) (ci := 8) inX10_movingKnife_RX10 0 (show 0 < 32 by decide) rfl rfl 9 (by decide) (by decide +kernel) rfl dX10_movingKnife_1 ?_
  refine cw_aload_n dX10_movingKnife_4 0 rfl rfl ?_
  refine cw_getf (C := RX10) (T := TX10) (N := 10) (ci := 8) inX10_movingKnife_RX10 0 (show 0 < 32 by decide) rfl rfl 2 (by decide) (by decide +kernel) rfl dX10_movingKnife_5 ?_
  obtain ⟨J_8, hc_8, h⟩ := h
  refine cw_callV (o := 28) (As := [.ref (cw_a (cc_w K) 5)]) hc_8 okX4_rememberForUndo rfl gX10_movingKnife_X4_rememberForUndo (by decide) (show 28 < 32 by decide) rfl (ci := 3) rfl rfl (Nat.le_of_ble_eq_true rfl) dX10_movingKnife_8 ?_
  refine cw_aload_n dX10_movingKnife_11 0 rfl rfl ?_
  refine cw_getf (C := RX10) (T := TX10) (N := 10) (ci := 8) inX10_movingKnife_RX10 0 (show 0 < 32 by decide) rfl rfl 6 (by decide) (by decide +kernel) rfl dX10_movingKnife_12 ?_
  refine cw_aload_n dX10_movingKnife_15 0 rfl rfl ?_
  refine cw_getf (C := RX10) (T := TX10) (N := 10) (ci := 8) inX10_movingKnife_RX10 0 (show 0 < 32 by decide) rfl rfl 2 (by decide) (by decide +kernel) rfl dX10_movingKnife_16 ?_
  refine cw_getf (C := RX1) (T := TX1) (N := 6) (ci := 0) inX10_movingKnife_RX1 5 (show 5 < 32 by decide) rfl rfl 5 (by decide) (by decide +kernel) rfl dX10_movingKnife_19 ?_
  obtain ⟨J_22, hc_22, h⟩ := h
  refine cw_callV (o := 20) (As := [.ref (cw_a (cc_w K) 9)]) hc_22 okX6_divideByKnife rfl gX10_movingKnife_X6_divideByKnife (by decide) (show 20 < 32 by decide) rfl (ci := 5) rfl rfl (Nat.le_of_ble_eq_true rfl) dX10_movingKnife_22 ?_
  refine cw_aload_n dX10_movingKnife_25 0 rfl rfl ?_
  refine cw_getf (C := RX10) (T := TX10) (N := 10) (ci := 8) inX10_movingKnife_RX10 0 (show 0 < 32 by decide) rfl rfl 5 (by decide) (by decide +kernel) rfl dX10_movingKnife_26 ?_
  obtain ⟨v_29, J_29, hc_29, h⟩ := h
  refine cw_callV (o := 16) (As := []) hc_29 okX3_countFairShares rfl gX10_movingKnife_X3_countFairShares (by decide) (show 16 < 32 by decide) rfl (ci := 2) rfl rfl (Nat.le_of_ble_eq_true rfl) dX10_movingKnife_29 ?_
  exact cw_iret rfl dX10_movingKnife_32 h
set_option maxRecDepth 20000 in
set_option maxHeartbeats 4000000 in
theorem eX10_nameByte_0 {K : cw_K} {r : Option Value} {J0 I : cw_M} {x1 : Int32} {x2 : Int32} (h : (∃ J_2 : cw_M, cw_C (cc_w K) mX10_requireSibling [.ref (cw_a (cc_w K) 0), .int x1] I none J_2 ∧ ((x2 < 0 → False) ∧ (¬ x2 < 0 → (vp_in x1 6 ∧ ((x2 < (J_2 7 x1.toNatClampNeg) → (vp_in ((x1 * 6) + x2) 36 ∧ (r = some (.int (J_2 6 ((x1 * 6) + x2).toNatClampNeg)) ∧ J0 = J_2))) ∧ (¬ x2 < (J_2 7 x1.toNatClampNeg) → False))))))) : cw_C (cc_w K) mX10_nameByte [.ref (cw_a (cc_w K) 0), .int x1, .int x2] I r J0 := by
  refine cw_entry okX10_nameByte (Nat.le_of_ble_eq_true rfl) (show cw_B (cc_w K) mX10_nameByte (cw_Z (cc_w K) r J0) 0 0 I 0 [(0, .ref (cw_a (cc_w K) 0)), (1, .int x1), (2, .int x2)] [] from ?_)
  refine cw_aload_n dX10_nameByte_0 0 rfl rfl ?_
  refine cw_iload_n dX10_nameByte_1 1 rfl rfl ?_
  obtain ⟨J_2, hc_2, h⟩ := h
  refine cw_callV (o := 0) (As := [.int x1]) hc_2 okX10_requireSibling rfl gX10_nameByte_X10_requireSibling (by decide) (show 0 < 32 by decide) rfl (ci := 8) rfl rfl (Nat.le_of_ble_eq_true rfl) dX10_nameByte_2 ?_
  refine cw_iload_n dX10_nameByte_5 2 rfl rfl ?_
  refine cw_if_lt (tgt := 22) dX10_nameByte_6 (by decide) (fun q => ?_) (fun q => ?_)
  · have h := h.1 q
    exact h.elim
  · have h := h.2 q
    refine cw_iload_n dX10_nameByte_9 2 rfl rfl ?_
    refine cw_aload_n dX10_nameByte_10 0 rfl rfl ?_
    refine cw_getf (C := RX10) (T := TX10) (N := 10) (ci := 8) inX10_nameByte_RX10 0 (show 0 < 32 by decide) rfl rfl 2 (by decide) (by decide +kernel) rfl dX10_nameByte_11 ?_
    refine cw_getf (C := RX1) (T := TX1) (N := 6) (ci := 0) inX10_nameByte_RX1 5 (show 5 < 32 by decide) rfl rfl 3 (by decide) (by decide +kernel) rfl dX10_nameByte_14 ?_
    refine cw_iload_n dX10_nameByte_17 1 rfl rfl ?_
    obtain ⟨g_18, h⟩ := h
    refine cw_iald 7 (show 7 < 32 by decide) rfl 0 rfl dX10_nameByte_18 g_18 ?_
    refine cw_icmp_lt (tgt := 32) dX10_nameByte_19 (by decide) (fun q => ?_) (fun q => ?_)
    · have h := h.1 q
      refine cw_aload_n dX10_nameByte_32 0 rfl rfl ?_
      refine cw_getf (C := RX10) (T := TX10) (N := 10) (ci := 8) inX10_nameByte_RX10 0 (show 0 < 32 by decide) rfl rfl 2 (by decide) (by decide +kernel) rfl dX10_nameByte_33 ?_
      refine cw_getf (C := RX1) (T := TX1) (N := 6) (ci := 0) inX10_nameByte_RX1 5 (show 5 < 32 by decide) rfl rfl 2 (by decide) (by decide +kernel) rfl dX10_nameByte_36 ?_
      refine cw_iload_n dX10_nameByte_39 1 rfl rfl ?_
      refine cw_bipush (v := 6) dX10_nameByte_40 (by decide) ?_
      refine cw_imul dX10_nameByte_42 ?_
      refine cw_iload_n dX10_nameByte_43 2 rfl rfl ?_
      refine cw_iadd dX10_nameByte_44 ?_
      obtain ⟨g_45, h⟩ := h
      refine cw_iald 6 (show 6 < 32 by decide) rfl 0 rfl dX10_nameByte_45 g_45 ?_
      exact cw_iret rfl dX10_nameByte_46 h
    · have h := h.2 q
      exact h.elim
set_option maxRecDepth 20000 in
set_option maxHeartbeats 4000000 in
theorem eX10_outputByte_0 {K : cw_K} {r : Option Value} {J0 I : cw_M} {x1 : Int32} (h : ((x1 < 0 → False) ∧ (¬ x1 < 0 → ((x1 < (I 3 1) → (vp_in x1 600 ∧ (r = some (.int (I 4 x1.toNatClampNeg)) ∧ J0 = I))) ∧ (¬ x1 < (I 3 1) → False))))) : cw_C (cc_w K) mX10_outputByte [.ref (cw_a (cc_w K) 0), .int x1] I r J0 := by
  refine cw_entry okX10_outputByte (Nat.le_of_ble_eq_true rfl) (show cw_B (cc_w K) mX10_outputByte (cw_Z (cc_w K) r J0) 0 0 I 0 [(0, .ref (cw_a (cc_w K) 0)), (1, .int x1)] [] from ?_)
  refine cw_iload_n dX10_outputByte_0 1 rfl rfl ?_
  refine cw_if_lt (tgt := 15) dX10_outputByte_1 (by decide) (fun q => ?_) (fun q => ?_)
  · have h := h.1 q
    exact h.elim
  · have h := h.2 q
    refine cw_iload_n dX10_outputByte_4 1 rfl rfl ?_
    refine cw_aload_n dX10_outputByte_5 0 rfl rfl ?_
    refine cw_getf (C := RX10) (T := TX10) (N := 10) (ci := 8) inX10_outputByte_RX10 0 (show 0 < 32 by decide) rfl rfl 1 (by decide) (by decide +kernel) rfl dX10_outputByte_6 ?_
    refine cw_getf (C := RX8) (T := TX8) (N := 2) (ci := 7) inX10_outputByte_RX8 3 (show 3 < 32 by decide) rfl rfl 1 (by decide) (by decide +kernel) rfl dX10_outputByte_9 ?_
    refine cw_icmp_lt (tgt := 26) dX10_outputByte_12 (by decide) (fun q => ?_) (fun q => ?_)
    · have h := h.1 q
      refine cw_aload_n dX10_outputByte_26 0 rfl rfl ?_
      refine cw_getf (C := RX10) (T := TX10) (N := 10) (ci := 8) inX10_outputByte_RX10 0 (show 0 < 32 by decide) rfl rfl 1 (by decide) (by decide +kernel) rfl dX10_outputByte_27 ?_
      refine cw_getf (C := RX8) (T := TX8) (N := 2) (ci := 7) inX10_outputByte_RX8 3 (show 3 < 32 by decide) rfl rfl 0 (by decide) (by decide +kernel) rfl dX10_outputByte_30 ?_
      refine cw_iload_n dX10_outputByte_33 1 rfl rfl ?_
      obtain ⟨g_34, h⟩ := h
      refine cw_iald 4 (show 4 < 32 by decide) rfl 0 rfl dX10_outputByte_34 g_34 ?_
      exact cw_iret rfl dX10_outputByte_35 h
    · have h := h.2 q
      exact h.elim
set_option maxRecDepth 20000 in
set_option maxHeartbeats 4000000 in
theorem eX10_owner_0 {K : cw_K} {r : Option Value} {J0 I : cw_M} {x1 : Int32} (h : (∃ J_2 : cw_M, cw_C (cc_w K) mX10_requireCell [.ref (cw_a (cc_w K) 0), .int x1] I none J_2 ∧ (vp_in x1 24 ∧ (r = some (.int (J_2 9 x1.toNatClampNeg)) ∧ J0 = J_2)))) : cw_C (cc_w K) mX10_owner [.ref (cw_a (cc_w K) 0), .int x1] I r J0 := by
  refine cw_entry okX10_owner (Nat.le_of_ble_eq_true rfl) (show cw_B (cc_w K) mX10_owner (cw_Z (cc_w K) r J0) 0 0 I 0 [(0, .ref (cw_a (cc_w K) 0)), (1, .int x1)] [] from ?_)
  refine cw_aload_n dX10_owner_0 0 rfl rfl ?_
  refine cw_iload_n dX10_owner_1 1 rfl rfl ?_
  obtain ⟨J_2, hc_2, h⟩ := h
  refine cw_callV (o := 0) (As := [.int x1]) hc_2 okX10_requireCell rfl gX10_owner_X10_requireCell (by decide) (show 0 < 32 by decide) rfl (ci := 8) rfl rfl (Nat.le_of_ble_eq_true rfl) dX10_owner_2 ?_
  refine cw_aload_n dX10_owner_5 0 rfl rfl ?_
  refine cw_getf (C := RX10) (T := TX10) (N := 10) (ci := 8) inX10_owner_RX10 0 (show 0 < 32 by decide) rfl rfl 2 (by decide) (by decide +kernel) rfl dX10_owner_6 ?_
  refine cw_getf (C := RX1) (T := TX1) (N := 6) (ci := 0) inX10_owner_RX1 5 (show 5 < 32 by decide) rfl rfl 5 (by decide) (by decide +kernel) rfl dX10_owner_9 ?_
  refine cw_iload_n dX10_owner_12 1 rfl rfl ?_
  obtain ⟨g_13, h⟩ := h
  refine cw_iald 9 (show 9 < 32 by decide) rfl 0 rfl dX10_owner_13 g_13 ?_
  exact cw_iret rfl dX10_owner_14 h
set_option maxRecDepth 20000 in
set_option maxHeartbeats 4000000 in
theorem eX10_pieceCount_0 {K : cw_K} {r : Option Value} {J0 I : cw_M} {x1 : Int32} (h : (∃ J_2 : cw_M, cw_C (cc_w K) mX10_requireSibling [.ref (cw_a (cc_w K) 0), .int x1] I none J_2 ∧ (∃ (v_10 : Int32) (J_10 : cw_M), cw_C (cc_w K) mX1_countPieces [.ref (cw_a (cc_w K) 5), .int x1] J_2 (some (.int v_10)) J_10 ∧ (r = some (.int v_10) ∧ J0 = J_10)))) : cw_C (cc_w K) mX10_pieceCount [.ref (cw_a (cc_w K) 0), .int x1] I r J0 := by
  refine cw_entry okX10_pieceCount (Nat.le_of_ble_eq_true rfl) (show cw_B (cc_w K) mX10_pieceCount (cw_Z (cc_w K) r J0) 0 0 I 0 [(0, .ref (cw_a (cc_w K) 0)), (1, .int x1)] [] from ?_)
  refine cw_aload_n dX10_pieceCount_0 0 rfl rfl ?_
  refine cw_iload_n dX10_pieceCount_1 1 rfl rfl ?_
  obtain ⟨J_2, hc_2, h⟩ := h
  refine cw_callV (o := 0) (As := [.int x1]) hc_2 okX10_requireSibling rfl gX10_pieceCount_X10_requireSibling (by decide) (show 0 < 32 by decide) rfl (ci := 8) rfl rfl (Nat.le_of_ble_eq_true rfl) dX10_pieceCount_2 ?_
  refine cw_aload_n dX10_pieceCount_5 0 rfl rfl ?_
  refine cw_getf (C := RX10) (T := TX10) (N := 10) (ci := 8) inX10_pieceCount_RX10 0 (show 0 < 32 by decide) rfl rfl 2 (by decide) (by decide +kernel) rfl dX10_pieceCount_6 ?_
  refine cw_iload_n dX10_pieceCount_9 1 rfl rfl ?_
  obtain ⟨v_10, J_10, hc_10, h⟩ := h
  refine cw_callV (o := 5) (As := [.int x1]) hc_10 okX1_countPieces rfl gX10_pieceCount_X1_countPieces (by decide) (show 5 < 32 by decide) rfl (ci := 0) rfl rfl (Nat.le_of_ble_eq_true rfl) dX10_pieceCount_10 ?_
  exact cw_iret rfl dX10_pieceCount_13 h
set_option maxRecDepth 20000 in
set_option maxHeartbeats 4000000 in
theorem eX10_release_0 {K : cw_K} {r : Option Value} {J0 I : cw_M} {x1 : Int32} {x2 : Int32} (h : (∃ J_3 : cw_M, cw_C (cc_w K) mX10_requireRun [.ref (cw_a (cc_w K) 0), .int x1, .int x2] I none J_3 ∧ (∃ J_14 : cw_M, cw_C (cc_w K) mX4_rememberForUndo [.ref (cw_a (cc_w K) 28), .ref (cw_a (cc_w K) 5)] J_3 none J_14 ∧ (∃ J_33 : cw_M, cw_C (cc_w K) mX1_assign [.ref (cw_a (cc_w K) 5), .ref (cw_a (cc_w K) 9), .int (-1), .int x1, .int (x2 + 1)] J_14 none J_33 ∧ (∃ (v_41 : Int32) (J_41 : cw_M), cw_C (cc_w K) mX1_countOwned [.ref (cw_a (cc_w K) 5), .int (-1)] J_33 (some (.int v_41)) J_41 ∧ (r = some (.int v_41) ∧ J0 = J_41)))))) : cw_C (cc_w K) mX10_release [.ref (cw_a (cc_w K) 0), .int x1, .int x2] I r J0 := by
  refine cw_entry okX10_release (Nat.le_of_ble_eq_true rfl) (show cw_B (cc_w K) mX10_release (cw_Z (cc_w K) r J0) 0 0 I 0 [(0, .ref (cw_a (cc_w K) 0)), (1, .int x1), (2, .int x2)] [] from ?_)
  refine cw_aload_n dX10_release_0 0 rfl rfl ?_
  refine cw_iload_n dX10_release_1 1 rfl rfl ?_
  refine cw_iload_n dX10_release_2 2 rfl rfl ?_
  obtain ⟨J_3, hc_3, h⟩ := h
  refine cw_callV (o := 0) (As := [.int x1, .int x2]) hc_3 okX10_requireRun rfl gX10_release_X10_requireRun (by decide) (show 0 < 32 by decide) rfl (ci := 8) rfl rfl (Nat.le_of_ble_eq_true rfl) dX10_release_3 ?_
  refine cw_aload_n dX10_release_6 0 rfl rfl ?_
  refine cw_getf (C := RX10) (T := TX10) (N := 10) (ci := 8) inX10_release_RX10 0 (show 0 < 32 by decide) rfl rfl 9 (by decide) (by decide +kernel) rfl dX10_release_7 ?_
  refine cw_aload_n dX10_release_10 0 rfl rfl ?_
  refine cw_getf (C := RX10) (T := TX10) (N := 10) (ci := 8) inX10_release_RX10 0 (show 0 < 32 by decide) rfl rfl 2 (by decide) (by decide +kernel) rfl dX10_release_11 ?_
  obtain ⟨J_14, hc_14, h⟩ := h
  refine cw_callV (o := 28) (As := [.ref (cw_a (cc_w K) 5)]) hc_14 okX4_rememberForUndo rfl gX10_release_X4_rememberForUndo (by decide) (show 28 < 32 by decide) rfl (ci := 3) rfl rfl (Nat.le_of_ble_eq_true rfl) dX10_release_14 ?_
  refine cw_aload_n dX10_release_17 0 rfl rfl ?_
  refine cw_getf (C := RX10) (T := TX10) (N := 10) (ci := 8) inX10_release_RX10 0 (show 0 < 32 by decide) rfl rfl 2 (by decide) (by decide +kernel) rfl dX10_release_18 ?_
  refine cw_aload_n dX10_release_21 0 rfl rfl ?_
  refine cw_getf (C := RX10) (T := TX10) (N := 10) (ci := 8) inX10_release_RX10 0 (show 0 < 32 by decide) rfl rfl 2 (by decide) (by decide +kernel) rfl dX10_release_22 ?_
  refine cw_getf (C := RX1) (T := TX1) (N := 6) (ci := 0) inX10_release_RX1 5 (show 5 < 32 by decide) rfl rfl 5 (by decide) (by decide +kernel) rfl dX10_release_25 ?_
  refine cw_iconst (v := (-1)) dX10_release_28 (by decide) ?_
  refine cw_iload_n dX10_release_29 1 rfl rfl ?_
  refine cw_iload_n dX10_release_30 2 rfl rfl ?_
  refine cw_iconst (v := 1) dX10_release_31 (by decide) ?_
  refine cw_iadd dX10_release_32 ?_
  obtain ⟨J_33, hc_33, h⟩ := h
  refine cw_callV (o := 5) (As := [.ref (cw_a (cc_w K) 9), .int (-1), .int x1, .int (x2 + 1)]) hc_33 okX1_assign rfl gX10_release_X1_assign (by decide) (show 5 < 32 by decide) rfl (ci := 0) rfl rfl (Nat.le_of_ble_eq_true rfl) dX10_release_33 ?_
  refine cw_aload_n dX10_release_36 0 rfl rfl ?_
  refine cw_getf (C := RX10) (T := TX10) (N := 10) (ci := 8) inX10_release_RX10 0 (show 0 < 32 by decide) rfl rfl 2 (by decide) (by decide +kernel) rfl dX10_release_37 ?_
  refine cw_iconst (v := (-1)) dX10_release_40 (by decide) ?_
  obtain ⟨v_41, J_41, hc_41, h⟩ := h
  refine cw_callV (o := 5) (As := [.int (-1)]) hc_41 okX1_countOwned rfl gX10_release_X1_countOwned (by decide) (show 5 < 32 by decide) rfl (ci := 0) rfl rfl (Nat.le_of_ble_eq_true rfl) dX10_release_41 ?_
  exact cw_iret rfl dX10_release_44 h
set_option maxRecDepth 20000 in
set_option maxHeartbeats 4000000 in
theorem eX10_requireCell_0 {K : cw_K} {r : Option Value} {J0 I : cw_M} {x1 : Int32} (h : (∃ (v_5 : Int32) (J_5 : cw_M), cw_C (cc_w K) mX1_hasCell [.ref (cw_a (cc_w K) 5), .int x1] I (some (.int v_5)) J_5 ∧ ((¬ v_5 = 0 → (r = none ∧ J0 = J_5)) ∧ (v_5 = 0 → False)))) : cw_C (cc_w K) mX10_requireCell [.ref (cw_a (cc_w K) 0), .int x1] I r J0 := by
  refine cw_entry okX10_requireCell (Nat.le_of_ble_eq_true rfl) (show cw_B (cc_w K) mX10_requireCell (cw_Z (cc_w K) r J0) 0 0 I 0 [(0, .ref (cw_a (cc_w K) 0)), (1, .int x1)] [] from ?_)
  refine cw_aload_n dX10_requireCell_0 0 rfl rfl ?_
  refine cw_getf (C := RX10) (T := TX10) (N := 10) (ci := 8) inX10_requireCell_RX10 0 (show 0 < 32 by decide) rfl rfl 2 (by decide) (by decide +kernel) rfl dX10_requireCell_1 ?_
  refine cw_iload_n dX10_requireCell_4 1 rfl rfl ?_
  obtain ⟨v_5, J_5, hc_5, h⟩ := h
  refine cw_callV (o := 5) (As := [.int x1]) hc_5 okX1_hasCell rfl gX10_requireCell_X1_hasCell (by decide) (show 5 < 32 by decide) rfl (ci := 0) rfl rfl (Nat.le_of_ble_eq_true rfl) dX10_requireCell_5 ?_
  refine cw_if_ne (tgt := 22) dX10_requireCell_8 (by decide) (fun q => ?_) (fun q => ?_)
  · have h := h.1 q
    exact cw_vret rfl dX10_requireCell_22 h
  · have h := h.2 q
    exact h.elim
set_option maxRecDepth 20000 in
set_option maxHeartbeats 4000000 in
theorem eX10_requireDifferent_0 {K : cw_K} {r : Option Value} {J0 I : cw_M} {x1 : Int32} {x2 : Int32} (h : ((¬ x1 = x2 → (r = none ∧ J0 = I)) ∧ (x1 = x2 → False))) : cw_C (cc_w K) mX10_requireDifferent [.ref (cw_a (cc_w K) 0), .int x1, .int x2] I r J0 := by
  refine cw_entry okX10_requireDifferent (Nat.le_of_ble_eq_true rfl) (show cw_B (cc_w K) mX10_requireDifferent (cw_Z (cc_w K) r J0) 0 0 I 0 [(0, .ref (cw_a (cc_w K) 0)), (1, .int x1), (2, .int x2)] [] from ?_)
  refine cw_iload_n dX10_requireDifferent_0 1 rfl rfl ?_
  refine cw_iload_n dX10_requireDifferent_1 2 rfl rfl ?_
  refine cw_icmp_ne (tgt := 16) dX10_requireDifferent_2 (by decide) (fun q => ?_) (fun q => ?_)
  · have h := h.1 q
    exact cw_vret rfl dX10_requireDifferent_16 h
  · have h := h.2 q
    exact h.elim
set_option maxRecDepth 20000 in
set_option maxHeartbeats 4000000 in
theorem eX10_requireRun_0 {K : cw_K} {r : Option Value} {J0 I : cw_M} {x1 : Int32} {x2 : Int32} (h : (∃ (v_6 : Int32) (J_6 : cw_M), cw_C (cc_w K) mX1_hasRun [.ref (cw_a (cc_w K) 5), .int x1, .int x2] I (some (.int v_6)) J_6 ∧ ((¬ v_6 = 0 → (r = none ∧ J0 = J_6)) ∧ (v_6 = 0 → False)))) : cw_C (cc_w K) mX10_requireRun [.ref (cw_a (cc_w K) 0), .int x1, .int x2] I r J0 := by
  refine cw_entry okX10_requireRun (Nat.le_of_ble_eq_true rfl) (show cw_B (cc_w K) mX10_requireRun (cw_Z (cc_w K) r J0) 0 0 I 0 [(0, .ref (cw_a (cc_w K) 0)), (1, .int x1), (2, .int x2)] [] from ?_)
  refine cw_aload_n dX10_requireRun_0 0 rfl rfl ?_
  refine cw_getf (C := RX10) (T := TX10) (N := 10) (ci := 8) inX10_requireRun_RX10 0 (show 0 < 32 by decide) rfl rfl 2 (by decide) (by decide +kernel) rfl dX10_requireRun_1 ?_
  refine cw_iload_n dX10_requireRun_4 1 rfl rfl ?_
  refine cw_iload_n dX10_requireRun_5 2 rfl rfl ?_
  obtain ⟨v_6, J_6, hc_6, h⟩ := h
  refine cw_callV (o := 5) (As := [.int x1, .int x2]) hc_6 okX1_hasRun rfl gX10_requireRun_X1_hasRun (by decide) (show 5 < 32 by decide) rfl (ci := 0) rfl rfl (Nat.le_of_ble_eq_true rfl) dX10_requireRun_6 ?_
  refine cw_if_ne (tgt := 23) dX10_requireRun_9 (by decide) (fun q => ?_) (fun q => ?_)
  · have h := h.1 q
    exact cw_vret rfl dX10_requireRun_23 h
  · have h := h.2 q
    exact h.elim
set_option maxRecDepth 20000 in
set_option maxHeartbeats 4000000 in
theorem eX10_requireSibling_0 {K : cw_K} {r : Option Value} {J0 I : cw_M} {x1 : Int32} (h : (∃ (v_5 : Int32) (J_5 : cw_M), cw_C (cc_w K) mX1_hasSibling [.ref (cw_a (cc_w K) 5), .int x1] I (some (.int v_5)) J_5 ∧ ((¬ v_5 = 0 → (r = none ∧ J0 = J_5)) ∧ (v_5 = 0 → False)))) : cw_C (cc_w K) mX10_requireSibling [.ref (cw_a (cc_w K) 0), .int x1] I r J0 := by
  refine cw_entry okX10_requireSibling (Nat.le_of_ble_eq_true rfl) (show cw_B (cc_w K) mX10_requireSibling (cw_Z (cc_w K) r J0) 0 0 I 0 [(0, .ref (cw_a (cc_w K) 0)), (1, .int x1)] [] from ?_)
  refine cw_aload_n dX10_requireSibling_0 0 rfl rfl ?_
  refine cw_getf (C := RX10) (T := TX10) (N := 10) (ci := 8) inX10_requireSibling_RX10 0 (show 0 < 32 by decide) rfl rfl 2 (by decide) (by decide +kernel) rfl dX10_requireSibling_1 ?_
  refine cw_iload_n dX10_requireSibling_4 1 rfl rfl ?_
  obtain ⟨v_5, J_5, hc_5, h⟩ := h
  refine cw_callV (o := 5) (As := [.int x1]) hc_5 okX1_hasSibling rfl gX10_requireSibling_X1_hasSibling (by decide) (show 5 < 32 by decide) rfl (ci := 0) rfl rfl (Nat.le_of_ble_eq_true rfl) dX10_requireSibling_5 ?_
  refine cw_if_ne (tgt := 22) dX10_requireSibling_8 (by decide) (fun q => ?_) (fun q => ?_)
  · have h := h.1 q
    exact cw_vret rfl dX10_requireSibling_22 h
  · have h := h.2 q
    exact h.elim
set_option maxRecDepth 20000 in
set_option maxHeartbeats 4000000 in
theorem eX10_requireSlot_0 {K : cw_K} {r : Option Value} {J0 I : cw_M} {x1 : Int32} (h : ((x1 < 0 → False) ∧ (¬ x1 < 0 → ((x1 < 2 → (r = none ∧ J0 = I)) ∧ (¬ x1 < 2 → False))))) : cw_C (cc_w K) mX10_requireSlot [.ref (cw_a (cc_w K) 0), .int x1] I r J0 := by
  refine cw_entry okX10_requireSlot (Nat.le_of_ble_eq_true rfl) (show cw_B (cc_w K) mX10_requireSlot (cw_Z (cc_w K) r J0) 0 0 I 0 [(0, .ref (cw_a (cc_w K) 0)), (1, .int x1)] [] from ?_)
  refine cw_iload_n dX10_requireSlot_0 1 rfl rfl ?_
  refine cw_if_lt (tgt := 9) dX10_requireSlot_1 (by decide) (fun q => ?_) (fun q => ?_)
  · have h := h.1 q
    exact h.elim
  · have h := h.2 q
    refine cw_iload_n dX10_requireSlot_4 1 rfl rfl ?_
    refine cw_iconst (v := 2) dX10_requireSlot_5 (by decide) ?_
    refine cw_icmp_lt (tgt := 20) dX10_requireSlot_6 (by decide) (fun q => ?_) (fun q => ?_)
    · have h := h.1 q
      exact cw_vret rfl dX10_requireSlot_20 h
    · have h := h.2 q
      exact h.elim
set_option maxRecDepth 20000 in
set_option maxHeartbeats 4000000 in
theorem eX10_restore_0 {K : cw_K} {r : Option Value} {J0 I : cw_M} {x1 : Int32} (h : (∃ J_2 : cw_M, cw_C (cc_w K) mX10_requireSlot [.ref (cw_a (cc_w K) 0), .int x1] I none J_2 ∧ (vp_in x1 2 ∧ ((¬ (J_2 29 x1.toNatClampNeg) = 0 → (∃ J_37 : cw_M, cw_C (cc_w K) mX4_restoreFrom [.ref (cw_a (cc_w K) 28), .int x1, .ref (cw_a (cc_w K) 5)] J_2 none J_37 ∧ (∃ (v_45 : Int32) (J_45 : cw_M), cw_C (cc_w K) mX1_countOwned [.ref (cw_a (cc_w K) 5), .int (-1)] J_37 (some (.int v_45)) J_45 ∧ (r = some (.int v_45) ∧ J0 = J_45)))) ∧ ((J_2 29 x1.toNatClampNeg) = 0 → False))))) : cw_C (cc_w K) mX10_restore [.ref (cw_a (cc_w K) 0), .int x1] I r J0 := by
  refine cw_entry okX10_restore (Nat.le_of_ble_eq_true rfl) (show cw_B (cc_w K) mX10_restore (cw_Z (cc_w K) r J0) 0 0 I 0 [(0, .ref (cw_a (cc_w K) 0)), (1, .int x1)] [] from ?_)
  refine cw_aload_n dX10_restore_0 0 rfl rfl ?_
  refine cw_iload_n dX10_restore_1 1 rfl rfl ?_
  obtain ⟨J_2, hc_2, h⟩ := h
  refine cw_callV (o := 0) (As := [.int x1]) hc_2 okX10_requireSlot rfl gX10_restore_X10_requireSlot (by decide) (show 0 < 32 by decide) rfl (ci := 8) rfl rfl (Nat.le_of_ble_eq_true rfl) dX10_restore_2 ?_
  refine cw_aload_n dX10_restore_5 0 rfl rfl ?_
  refine cw_getf (C := RX10) (T := TX10) (N := 10) (ci := 8) inX10_restore_RX10 0 (show 0 < 32 by decide) rfl rfl 9 (by decide) (by decide +kernel) rfl dX10_restore_6 ?_
  refine cw_getf (C := RX4) (T := TX4) (N := 5) (ci := 3) inX10_restore_RX4 28 (show 28 < 32 by decide) rfl rfl 1 (by decide) (by decide +kernel) rfl dX10_restore_9 ?_
  refine cw_iload_n dX10_restore_12 1 rfl rfl ?_
  obtain ⟨g_13, h⟩ := h
  refine cw_zald 29 (show 29 < 32 by decide) rfl 1 rfl dX10_restore_13 g_13 ?_
  refine cw_if_ne (tgt := 28) dX10_restore_14 (by decide) (fun q => ?_) (fun q => ?_)
  · have h := h.1 q
    refine cw_aload_n dX10_restore_28 0 rfl rfl ?_
    refine cw_getf (C := RX10) (T := TX10) (N := 10) (ci := 8) inX10_restore_RX10 0 (show 0 < 32 by decide) rfl rfl 9 (by decide) (by decide +kernel) rfl dX10_restore_29 ?_
    refine cw_iload_n dX10_restore_32 1 rfl rfl ?_
    refine cw_aload_n dX10_restore_33 0 rfl rfl ?_
    refine cw_getf (C := RX10) (T := TX10) (N := 10) (ci := 8) inX10_restore_RX10 0 (show 0 < 32 by decide) rfl rfl 2 (by decide) (by decide +kernel) rfl dX10_restore_34 ?_
    obtain ⟨J_37, hc_37, h⟩ := h
    refine cw_callV (o := 28) (As := [.int x1, .ref (cw_a (cc_w K) 5)]) hc_37 okX4_restoreFrom rfl gX10_restore_X4_restoreFrom (by decide) (show 28 < 32 by decide) rfl (ci := 3) rfl rfl (Nat.le_of_ble_eq_true rfl) dX10_restore_37 ?_
    refine cw_aload_n dX10_restore_40 0 rfl rfl ?_
    refine cw_getf (C := RX10) (T := TX10) (N := 10) (ci := 8) inX10_restore_RX10 0 (show 0 < 32 by decide) rfl rfl 2 (by decide) (by decide +kernel) rfl dX10_restore_41 ?_
    refine cw_iconst (v := (-1)) dX10_restore_44 (by decide) ?_
    obtain ⟨v_45, J_45, hc_45, h⟩ := h
    refine cw_callV (o := 5) (As := [.int (-1)]) hc_45 okX1_countOwned rfl gX10_restore_X1_countOwned (by decide) (show 5 < 32 by decide) rfl (ci := 0) rfl rfl (Nat.le_of_ble_eq_true rfl) dX10_restore_45 ?_
    exact cw_iret rfl dX10_restore_48 h
  · have h := h.2 q
    exact h.elim
set_option maxRecDepth 20000 in
set_option maxHeartbeats 4000000 in
theorem eX10_rotate_0 {K : cw_K} {r : Option Value} {J0 I : cw_M} {x1 : Int32} (h : (∃ J_2 : cw_M, cw_C (cc_w K) mX10_requireSibling [.ref (cw_a (cc_w K) 0), .int x1] I none J_2 ∧ (∃ (v_10 : Int32) (J_10 : cw_M), cw_C (cc_w K) mX3_findCycle [.ref (cw_a (cc_w K) 16), .int x1] J_2 (some (.int v_10)) J_10 ∧ ((¬ v_10 = (-1) → (∃ J_36 : cw_M, cw_C (cc_w K) mX4_rememberForUndo [.ref (cw_a (cc_w K) 28), .ref (cw_a (cc_w K) 5)] J_10 none J_36 ∧ (∃ (v_44 : Int32) (J_44 : cw_M), cw_C (cc_w K) mX3_rotateThrough [.ref (cw_a (cc_w K) 16), .int x1] J_36 (some (.int v_44)) J_44 ∧ (r = some (.int v_44) ∧ J0 = J_44)))) ∧ (v_10 = (-1) → False))))) : cw_C (cc_w K) mX10_rotate [.ref (cw_a (cc_w K) 0), .int x1] I r J0 := by
  refine cw_entry okX10_rotate (Nat.le_of_ble_eq_true rfl) (show cw_B (cc_w K) mX10_rotate (cw_Z (cc_w K) r J0) 0 0 I 0 [(0, .ref (cw_a (cc_w K) 0)), (1, .int x1)] [] from ?_)
  refine cw_aload_n dX10_rotate_0 0 rfl rfl ?_
  refine cw_iload_n dX10_rotate_1 1 rfl rfl ?_
  obtain ⟨J_2, hc_2, h⟩ := h
  refine cw_callV (o := 0) (As := [.int x1]) hc_2 okX10_requireSibling rfl gX10_rotate_X10_requireSibling (by decide) (show 0 < 32 by decide) rfl (ci := 8) rfl rfl (Nat.le_of_ble_eq_true rfl) dX10_rotate_2 ?_
  refine cw_aload_n dX10_rotate_5 0 rfl rfl ?_
  refine cw_getf (C := RX10) (T := TX10) (N := 10) (ci := 8) inX10_rotate_RX10 0 (show 0 < 32 by decide) rfl rfl 5 (by decide) (by decide +kernel) rfl dX10_rotate_6 ?_
  refine cw_iload_n dX10_rotate_9 1 rfl rfl ?_
  obtain ⟨v_10, J_10, hc_10, h⟩ := h
  refine cw_callV (o := 16) (As := [.int x1]) hc_10 okX3_findCycle rfl gX10_rotate_X3_findCycle (by decide) (show 16 < 32 by decide) rfl (ci := 2) rfl rfl (Nat.le_of_ble_eq_true rfl) dX10_rotate_10 ?_
  refine cw_iconst (v := (-1)) dX10_rotate_13 (by decide) ?_
  refine cw_icmp_ne (tgt := 28) dX10_rotate_14 (by decide) (fun q => ?_) (fun q => ?_)
  · have h := h.1 q
    refine cw_aload_n dX10_rotate_28 0 rfl rfl ?_
    refine cw_getf (C := RX10) (T := TX10) (N := 10) (ci := 8) inX10_rotate_RX10 0 (show 0 < 32 by decide) rfl rfl 9 (by decide) (by decide +kernel) rfl dX10_rotate_29 ?_
    refine cw_aload_n dX10_rotate_32 0 rfl rfl ?_
    refine cw_getf (C := RX10) (T := TX10) (N := 10) (ci := 8) inX10_rotate_RX10 0 (show 0 < 32 by decide) rfl rfl 2 (by decide) (by decide +kernel) rfl dX10_rotate_33 ?_
    obtain ⟨J_36, hc_36, h⟩ := h
    refine cw_callV (o := 28) (As := [.ref (cw_a (cc_w K) 5)]) hc_36 okX4_rememberForUndo rfl gX10_rotate_X4_rememberForUndo (by decide) (show 28 < 32 by decide) rfl (ci := 3) rfl rfl (Nat.le_of_ble_eq_true rfl) dX10_rotate_36 ?_
    refine cw_aload_n dX10_rotate_39 0 rfl rfl ?_
    refine cw_getf (C := RX10) (T := TX10) (N := 10) (ci := 8) inX10_rotate_RX10 0 (show 0 < 32 by decide) rfl rfl 5 (by decide) (by decide +kernel) rfl dX10_rotate_40 ?_
    refine cw_iload_n dX10_rotate_43 1 rfl rfl ?_
    obtain ⟨v_44, J_44, hc_44, h⟩ := h
    refine cw_callV (o := 16) (As := [.int x1]) hc_44 okX3_rotateThrough rfl gX10_rotate_X3_rotateThrough (by decide) (show 16 < 32 by decide) rfl (ci := 2) rfl rfl (Nat.le_of_ble_eq_true rfl) dX10_rotate_44 ?_
    exact cw_iret rfl dX10_rotate_47 h
  · have h := h.2 q
    exact h.elim
set_option maxRecDepth 20000 in
set_option maxHeartbeats 4000000 in
theorem eX10_roundRobin_0 {K : cw_K} {r : Option Value} {J0 I : cw_M} {x1 : Int32} (h : (∃ J_2 : cw_M, cw_C (cc_w K) mX10_requireSibling [.ref (cw_a (cc_w K) 0), .int x1] I none J_2 ∧ (∃ J_13 : cw_M, cw_C (cc_w K) mX4_rememberForUndo [.ref (cw_a (cc_w K) 28), .ref (cw_a (cc_w K) 5)] J_2 none J_13 ∧ (∃ (v_28 : Int32) (J_28 : cw_M), cw_C (cc_w K) mX6_divideByRobin [.ref (cw_a (cc_w K) 20), .ref (cw_a (cc_w K) 9), .int x1] J_13 (some (.int v_28)) J_28 ∧ (r = some (.int v_28) ∧ J0 = J_28))))) : cw_C (cc_w K) mX10_roundRobin [.ref (cw_a (cc_w K) 0), .int x1] I r J0 := by
  refine cw_entry okX10_roundRobin (Nat.le_of_ble_eq_true rfl) (show cw_B (cc_w K) mX10_roundRobin (cw_Z (cc_w K) r J0) 0 0 I 0 [(0, .ref (cw_a (cc_w K) 0)), (1, .int x1)] [] from ?_)
  refine cw_aload_n dX10_roundRobin_0 0 rfl rfl ?_
  refine cw_iload_n dX10_roundRobin_1 1 rfl rfl ?_
  obtain ⟨J_2, hc_2, h⟩ := h
  refine cw_callV (o := 0) (As := [.int x1]) hc_2 okX10_requireSibling rfl gX10_roundRobin_X10_requireSibling (by decide) (show 0 < 32 by decide) rfl (ci := 8) rfl rfl (Nat.le_of_ble_eq_true rfl) dX10_roundRobin_2 ?_
  refine cw_aload_n dX10_roundRobin_5 0 rfl rfl ?_
  refine cw_getf (C := RX10) (T := TX10) (N := 10) (ci := 8) inX10_roundRobin_RX10 0 (show 0 < 32 by decide) rfl rfl 9 (by decide) (by decide +kernel) rfl dX10_roundRobin_6 ?_
  refine cw_aload_n dX10_roundRobin_9 0 rfl rfl ?_
  refine cw_getf (C := RX10) (T := TX10) (N := 10) (ci := 8) inX10_roundRobin_RX10 0 (show 0 < 32 by decide) rfl rfl 2 (by decide) (by decide +kernel) rfl dX10_roundRobin_10 ?_
  obtain ⟨J_13, hc_13, h⟩ := h
  refine cw_callV (o := 28) (As := [.ref (cw_a (cc_w K) 5)]) hc_13 okX4_rememberForUndo rfl gX10_roundRobin_X4_rememberForUndo (by decide) (show 28 < 32 by decide) rfl (ci := 3) rfl rfl (Nat.le_of_ble_eq_true rfl) dX10_roundRobin_13 ?_
  refine cw_aload_n dX10_roundRobin_16 0 rfl rfl ?_
  refine cw_getf (C := RX10) (T := TX10) (N := 10) (ci := 8) inX10_roundRobin_RX10 0 (show 0 < 32 by decide) rfl rfl 6 (by decide) (by decide +kernel) rfl dX10_roundRobin_17 ?_
  refine cw_aload_n dX10_roundRobin_20 0 rfl rfl ?_
  refine cw_getf (C := RX10) (T := TX10) (N := 10) (ci := 8) inX10_roundRobin_RX10 0 (show 0 < 32 by decide) rfl rfl 2 (by decide) (by decide +kernel) rfl dX10_roundRobin_21 ?_
  refine cw_getf (C := RX1) (T := TX1) (N := 6) (ci := 0) inX10_roundRobin_RX1 5 (show 5 < 32 by decide) rfl rfl 5 (by decide) (by decide +kernel) rfl dX10_roundRobin_24 ?_
  refine cw_iload_n dX10_roundRobin_27 1 rfl rfl ?_
  obtain ⟨v_28, J_28, hc_28, h⟩ := h
  refine cw_callV (o := 20) (As := [.ref (cw_a (cc_w K) 9), .int x1]) hc_28 okX6_divideByRobin rfl gX10_roundRobin_X6_divideByRobin (by decide) (show 20 < 32 by decide) rfl (ci := 5) rfl rfl (Nat.le_of_ble_eq_true rfl) dX10_roundRobin_28 ?_
  exact cw_iret rfl dX10_roundRobin_31 h
set_option maxRecDepth 20000 in
set_option maxHeartbeats 4000000 in
theorem eX10_runScript_0 {K : cw_K} {r : Option Value} {J0 I : cw_M} (h : (∃ (v_12 : Int32) (J_12 : cw_M), cw_C (cc_w K) mX5_readScript [.ref (cw_a (cc_w K) 15), .ref (cw_a (cc_w K) 25), .ref (cw_a (cc_w K) 5)] I (some (.int v_12)) J_12 ∧ ((¬ v_12 = 0 → (∃ J_47 : cw_M, cw_C (cc_w K) mX4_rememberForUndo [.ref (cw_a (cc_w K) 28), .ref (cw_a (cc_w K) 5)] (cw_st J_12 1 1 0) none J_47 ∧ (∃ (v_54 : Int32) (J_54 : cw_M), cw_C (cc_w K) mX7_execute [.ref (cw_a (cc_w K) 25)] J_47 (some (.int v_54)) J_54 ∧ (r = some (.int v_54) ∧ J0 = J_54)))) ∧ (v_12 = 0 → False)))) : cw_C (cc_w K) mX10_runScript [.ref (cw_a (cc_w K) 0)] I r J0 := by
  refine cw_entry okX10_runScript (Nat.le_of_ble_eq_true rfl) (show cw_B (cc_w K) mX10_runScript (cw_Z (cc_w K) r J0) 0 0 I 0 [(0, .ref (cw_a (cc_w K) 0))] [] from ?_)
  refine cw_aload_n dX10_runScript_0 0 rfl rfl ?_
  refine cw_getf (C := RX10) (T := TX10) (N := 10) (ci := 8) inX10_runScript_RX10 0 (show 0 < 32 by decide) rfl rfl 4 (by decide) (by decide +kernel) rfl dX10_runScript_1 ?_
  refine cw_aload_n dX10_runScript_4 0 rfl rfl ?_
  refine cw_getf (C := RX10) (T := TX10) (N := 10) (ci := 8) inX10_runScript_RX10 0 (show 0 < 32 by decide) rfl rfl 8 (by decide) (by decide +kernel) rfl dX10_runScript_5 ?_
  refine cw_aload_n dX10_runScript_8 0 rfl rfl ?_
  refine cw_getf (C := RX10) (T := TX10) (N := 10) (ci := 8) inX10_runScript_RX10 0 (show 0 < 32 by decide) rfl rfl 2 (by decide) (by decide +kernel) rfl dX10_runScript_9 ?_
  obtain ⟨v_12, J_12, hc_12, h⟩ := h
  refine cw_callV (o := 15) (As := [.ref (cw_a (cc_w K) 25), .ref (cw_a (cc_w K) 5)]) hc_12 okX5_readScript rfl (nse_gi gX10_runScript_X5_readScript (by decide +kernel)) (by decide) (show 15 < 32 by decide) rfl (ci := 4) rfl rfl (Nat.le_of_ble_eq_true rfl) dX10_runScript_12 ?_
  refine cw_istore_n dX10_runScript_15 rfl (by decide) rfl ?_
  refine cw_aload_n dX10_runScript_16 1 rfl rfl ?_
  refine cw_getf (C := RX10) (T := TX10) (N := 10) (ci := 8) inX10_runScript_RX10 0 (show 0 < 32 by decide) rfl rfl 0 (by decide) (by decide +kernel) rfl dX10_runScript_17 ?_
  refine cw_iconst (v := 0) dX10_runScript_20 (by decide) ?_
  refine cw_putf (C := RX8) (T := TX8) (N := 2) (ci := 7) inX10_runScript_RX8 tyX8 tyX8_ok nmX8 1 (show 1 < 32 by decide) rfl rfl 1 (by decide) (by decide +kernel) rfl rfl (show 1 < 2 by decide) rfl dX10_runScript_21 ?_
  refine cw_iload_n dX10_runScript_24 0 rfl rfl ?_
  refine cw_if_ne (tgt := 39) dX10_runScript_25 (by decide) (fun q => ?_) (fun q => ?_)
  · have h := h.1 q
    refine cw_aload_n dX10_runScript_39 1 rfl rfl ?_
    refine cw_getf (C := RX10) (T := TX10) (N := 10) (ci := 8) inX10_runScript_RX10 0 (show 0 < 32 by decide) rfl rfl 9 (by decide) (by decide +kernel) rfl dX10_runScript_40 ?_
    refine cw_aload_n dX10_runScript_43 1 rfl rfl ?_
    refine cw_getf (C := RX10) (T := TX10) (N := 10) (ci := 8) inX10_runScript_RX10 0 (show 0 < 32 by decide) rfl rfl 2 (by decide) (by decide +kernel) rfl dX10_runScript_44 ?_
    obtain ⟨J_47, hc_47, h⟩ := h
    refine cw_callV (o := 28) (As := [.ref (cw_a (cc_w K) 5)]) hc_47 okX4_rememberForUndo rfl (nse_gi gX10_runScript_X4_rememberForUndo (by decide +kernel)) (by decide) (show 28 < 32 by decide) rfl (ci := 3) rfl rfl (Nat.le_of_ble_eq_true rfl) dX10_runScript_47 ?_
    refine cw_aload_n dX10_runScript_50 1 rfl rfl ?_
    refine cw_getf (C := RX10) (T := TX10) (N := 10) (ci := 8) inX10_runScript_RX10 0 (show 0 < 32 by decide) rfl rfl 8 (by decide) (by decide +kernel) rfl dX10_runScript_51 ?_
    obtain ⟨v_54, J_54, hc_54, h⟩ := h
    refine cw_callV (o := 25) (As := []) hc_54 okX7_execute rfl (nse_gv gX10_runScript_X7_execute (by decide +kernel)) (by decide) (show 25 < 32 by decide) rfl (ci := 6) rfl rfl (Nat.le_of_ble_eq_true rfl) dX10_runScript_54 ?_
    exact cw_iret rfl dX10_runScript_57 h
  · have h := h.2 q
    exact h.elim
set_option maxRecDepth 20000 in
set_option maxHeartbeats 4000000 in
theorem eX10_satisfaction_0 {K : cw_K} {r : Option Value} {J0 I : cw_M} {x1 : Int32} (h : (∃ J_2 : cw_M, cw_C (cc_w K) mX10_requireSibling [.ref (cw_a (cc_w K) 0), .int x1] I none J_2 ∧ (∃ (v_10 : Int32) (J_10 : cw_M), cw_C (cc_w K) mX1_worthOfAll [.ref (cw_a (cc_w K) 5), .int x1] J_2 (some (.int v_10)) J_10 ∧ ((¬ v_10 = 0 → (∃ (v_25 : Int32) (J_25 : cw_M), cw_C (cc_w K) mX1_welfareOf [.ref (cw_a (cc_w K) 5), .int x1] J_10 (some (.int v_25)) J_25 ∧ (vf_n32 (FP.fdiv (FP.i2f v_25) (FP.i2f v_10)) ∧ (r = some (.float (FP.fdiv (FP.i2f v_25) (FP.i2f v_10))) ∧ J0 = J_25)))) ∧ (v_10 = 0 → (r = some (.float FP.fconst0) ∧ J0 = J_10)))))) : cw_C (cc_w K) mX10_satisfaction [.ref (cw_a (cc_w K) 0), .int x1] I r J0 := by
  refine cw_entry okX10_satisfaction (Nat.le_of_ble_eq_true rfl) (show cw_B (cc_w K) mX10_satisfaction (cw_Z (cc_w K) r J0) 0 0 I 0 [(0, .ref (cw_a (cc_w K) 0)), (1, .int x1)] [] from ?_)
  refine cw_aload_n dX10_satisfaction_0 0 rfl rfl ?_
  refine cw_iload_n dX10_satisfaction_1 1 rfl rfl ?_
  obtain ⟨J_2, hc_2, h⟩ := h
  refine cw_callV (o := 0) (As := [.int x1]) hc_2 okX10_requireSibling rfl gX10_satisfaction_X10_requireSibling (by decide) (show 0 < 32 by decide) rfl (ci := 8) rfl rfl (Nat.le_of_ble_eq_true rfl) dX10_satisfaction_2 ?_
  refine cw_aload_n dX10_satisfaction_5 0 rfl rfl ?_
  refine cw_getf (C := RX10) (T := TX10) (N := 10) (ci := 8) inX10_satisfaction_RX10 0 (show 0 < 32 by decide) rfl rfl 2 (by decide) (by decide +kernel) rfl dX10_satisfaction_6 ?_
  refine cw_iload_n dX10_satisfaction_9 1 rfl rfl ?_
  obtain ⟨v_10, J_10, hc_10, h⟩ := h
  refine cw_callV (o := 5) (As := [.int x1]) hc_10 okX1_worthOfAll rfl gX10_satisfaction_X1_worthOfAll (by decide) (show 5 < 32 by decide) rfl (ci := 0) rfl rfl (Nat.le_of_ble_eq_true rfl) dX10_satisfaction_10 ?_
  refine cw_istore_n dX10_satisfaction_13 rfl (by decide) rfl ?_
  refine cw_iload_n dX10_satisfaction_14 0 rfl rfl ?_
  refine cw_if_ne (tgt := 20) dX10_satisfaction_15 (by decide) (fun q => ?_) (fun q => ?_)
  · have h := h.1 q
    refine cw_aload_n dX10_satisfaction_20 1 rfl rfl ?_
    refine cw_getf (C := RX10) (T := TX10) (N := 10) (ci := 8) inX10_satisfaction_RX10 0 (show 0 < 32 by decide) rfl rfl 2 (by decide) (by decide +kernel) rfl dX10_satisfaction_21 ?_
    refine cw_iload_n dX10_satisfaction_24 2 rfl rfl ?_
    obtain ⟨v_25, J_25, hc_25, h⟩ := h
    refine cw_callV (o := 5) (As := [.int x1]) hc_25 okX1_welfareOf rfl gX10_satisfaction_X1_welfareOf (by decide) (show 5 < 32 by decide) rfl (ci := 0) rfl rfl (Nat.le_of_ble_eq_true rfl) dX10_satisfaction_25 ?_
    refine cw_i2f dX10_satisfaction_28 ?_
    refine cw_iload_n dX10_satisfaction_29 0 rfl rfl ?_
    refine cw_i2f dX10_satisfaction_30 ?_
    obtain ⟨g_31, h⟩ := h
    refine cw_fdiv dX10_satisfaction_31 g_31 ?_
    exact cw_fret rfl dX10_satisfaction_32 h
  · have h := h.2 q
    refine cw_fconst0 dX10_satisfaction_18 ?_
    exact cw_fret rfl dX10_satisfaction_19 h
set_option maxRecDepth 20000 in
set_option maxHeartbeats 4000000 in
theorem eX10_satisfiedCount_0 {K : cw_K} {r : Option Value} {J0 I : cw_M} (h : (∃ (v_4 : Int32) (J_4 : cw_M), cw_C (cc_w K) mX3_countFairShares [.ref (cw_a (cc_w K) 16)] I (some (.int v_4)) J_4 ∧ (r = some (.int v_4) ∧ J0 = J_4))) : cw_C (cc_w K) mX10_satisfiedCount [.ref (cw_a (cc_w K) 0)] I r J0 := by
  refine cw_entry okX10_satisfiedCount (Nat.le_of_ble_eq_true rfl) (show cw_B (cc_w K) mX10_satisfiedCount (cw_Z (cc_w K) r J0) 0 0 I 0 [(0, .ref (cw_a (cc_w K) 0))] [] from ?_)
  refine cw_aload_n dX10_satisfiedCount_0 0 rfl rfl ?_
  refine cw_getf (C := RX10) (T := TX10) (N := 10) (ci := 8) inX10_satisfiedCount_RX10 0 (show 0 < 32 by decide) rfl rfl 5 (by decide) (by decide +kernel) rfl dX10_satisfiedCount_1 ?_
  obtain ⟨v_4, J_4, hc_4, h⟩ := h
  refine cw_callV (o := 16) (As := []) hc_4 okX3_countFairShares rfl gX10_satisfiedCount_X3_countFairShares (by decide) (show 16 < 32 by decide) rfl (ci := 2) rfl rfl (Nat.le_of_ble_eq_true rfl) dX10_satisfiedCount_4 ?_
  exact cw_iret rfl dX10_satisfiedCount_7 h
set_option maxRecDepth 20000 in
set_option maxHeartbeats 4000000 in
theorem eX10_save_0 {K : cw_K} {r : Option Value} {J0 I : cw_M} {x1 : Int32} (h : (∃ J_2 : cw_M, cw_C (cc_w K) mX10_requireSlot [.ref (cw_a (cc_w K) 0), .int x1] I none J_2 ∧ (∃ J_14 : cw_M, cw_C (cc_w K) mX4_saveTo [.ref (cw_a (cc_w K) 28), .int x1, .ref (cw_a (cc_w K) 5)] J_2 none J_14 ∧ (∃ (v_22 : Int32) (J_22 : cw_M), cw_C (cc_w K) mX1_countOwned [.ref (cw_a (cc_w K) 5), .int (-1)] J_14 (some (.int v_22)) J_22 ∧ (r = some (.int v_22) ∧ J0 = J_22))))) : cw_C (cc_w K) mX10_save [.ref (cw_a (cc_w K) 0), .int x1] I r J0 := by
  refine cw_entry okX10_save (Nat.le_of_ble_eq_true rfl) (show cw_B (cc_w K) mX10_save (cw_Z (cc_w K) r J0) 0 0 I 0 [(0, .ref (cw_a (cc_w K) 0)), (1, .int x1)] [] from ?_)
  refine cw_aload_n dX10_save_0 0 rfl rfl ?_
  refine cw_iload_n dX10_save_1 1 rfl rfl ?_
  obtain ⟨J_2, hc_2, h⟩ := h
  refine cw_callV (o := 0) (As := [.int x1]) hc_2 okX10_requireSlot rfl gX10_save_X10_requireSlot (by decide) (show 0 < 32 by decide) rfl (ci := 8) rfl rfl (Nat.le_of_ble_eq_true rfl) dX10_save_2 ?_
  refine cw_aload_n dX10_save_5 0 rfl rfl ?_
  refine cw_getf (C := RX10) (T := TX10) (N := 10) (ci := 8) inX10_save_RX10 0 (show 0 < 32 by decide) rfl rfl 9 (by decide) (by decide +kernel) rfl dX10_save_6 ?_
  refine cw_iload_n dX10_save_9 1 rfl rfl ?_
  refine cw_aload_n dX10_save_10 0 rfl rfl ?_
  refine cw_getf (C := RX10) (T := TX10) (N := 10) (ci := 8) inX10_save_RX10 0 (show 0 < 32 by decide) rfl rfl 2 (by decide) (by decide +kernel) rfl dX10_save_11 ?_
  obtain ⟨J_14, hc_14, h⟩ := h
  refine cw_callV (o := 28) (As := [.int x1, .ref (cw_a (cc_w K) 5)]) hc_14 okX4_saveTo rfl gX10_save_X4_saveTo (by decide) (show 28 < 32 by decide) rfl (ci := 3) rfl rfl (Nat.le_of_ble_eq_true rfl) dX10_save_14 ?_
  refine cw_aload_n dX10_save_17 0 rfl rfl ?_
  refine cw_getf (C := RX10) (T := TX10) (N := 10) (ci := 8) inX10_save_RX10 0 (show 0 < 32 by decide) rfl rfl 2 (by decide) (by decide +kernel) rfl dX10_save_18 ?_
  refine cw_iconst (v := (-1)) dX10_save_21 (by decide) ?_
  obtain ⟨v_22, J_22, hc_22, h⟩ := h
  refine cw_callV (o := 5) (As := [.int (-1)]) hc_22 okX1_countOwned rfl gX10_save_X1_countOwned (by decide) (show 5 < 32 by decide) rfl (ci := 0) rfl rfl (Nat.le_of_ble_eq_true rfl) dX10_save_22 ?_
  exact cw_iret rfl dX10_save_25 h
set_option maxRecDepth 20000 in
set_option maxHeartbeats 4000000 in
theorem eX10_setValue_0 {K : cw_K} {r : Option Value} {J0 I : cw_M} {x1 : Int32} {x2 : Int32} {x3 : Int32} (h : (∃ J_2 : cw_M, cw_C (cc_w K) mX10_requireSibling [.ref (cw_a (cc_w K) 0), .int x1] I none J_2 ∧ (∃ J_7 : cw_M, cw_C (cc_w K) mX10_requireCell [.ref (cw_a (cc_w K) 0), .int x2] J_2 none J_7 ∧ ((x3 < 0 → False) ∧ (¬ x3 < 0 → ((x3 ≤ 9 → (∃ J_39 : cw_M, cw_C (cc_w K) mX4_rememberForUndo [.ref (cw_a (cc_w K) 28), .ref (cw_a (cc_w K) 5)] J_7 none J_39 ∧ (∃ (v_48 : Int32) (J_48 : cw_M), cw_C (cc_w K) mX1_valueOf [.ref (cw_a (cc_w K) 5), .int x1, .int x2] J_39 (some (.int v_48)) J_48 ∧ (∃ J_60 : cw_M, cw_C (cc_w K) mX1_putValue [.ref (cw_a (cc_w K) 5), .int x1, .int x2, .int x3] J_48 none J_60 ∧ (r = some (.int v_48) ∧ J0 = J_60))))) ∧ (¬ x3 ≤ 9 → False))))))) : cw_C (cc_w K) mX10_setValue [.ref (cw_a (cc_w K) 0), .int x1, .int x2, .int x3] I r J0 := by
  refine cw_entry okX10_setValue (Nat.le_of_ble_eq_true rfl) (show cw_B (cc_w K) mX10_setValue (cw_Z (cc_w K) r J0) 0 0 I 0 [(0, .ref (cw_a (cc_w K) 0)), (1, .int x1), (2, .int x2), (3, .int x3)] [] from ?_)
  refine cw_aload_n dX10_setValue_0 0 rfl rfl ?_
  refine cw_iload_n dX10_setValue_1 1 rfl rfl ?_
  obtain ⟨J_2, hc_2, h⟩ := h
  refine cw_callV (o := 0) (As := [.int x1]) hc_2 okX10_requireSibling rfl gX10_setValue_X10_requireSibling (by decide) (show 0 < 32 by decide) rfl (ci := 8) rfl rfl (Nat.le_of_ble_eq_true rfl) dX10_setValue_2 ?_
  refine cw_aload_n dX10_setValue_5 0 rfl rfl ?_
  refine cw_iload_n dX10_setValue_6 2 rfl rfl ?_
  obtain ⟨J_7, hc_7, h⟩ := h
  refine cw_callV (o := 0) (As := [.int x2]) hc_7 okX10_requireCell rfl gX10_setValue_X10_requireCell (by decide) (show 0 < 32 by decide) rfl (ci := 8) rfl rfl (Nat.le_of_ble_eq_true rfl) dX10_setValue_7 ?_
  refine cw_iload_n dX10_setValue_10 3 rfl rfl ?_
  refine cw_if_lt (tgt := 20) dX10_setValue_11 (by decide) (fun q => ?_) (fun q => ?_)
  · have h := h.1 q
    exact h.elim
  · have h := h.2 q
    refine cw_iload_n dX10_setValue_14 3 rfl rfl ?_
    refine cw_bipush (v := 9) dX10_setValue_15 (by decide) ?_
    refine cw_icmp_le (tgt := 31) dX10_setValue_17 (by decide) (fun q => ?_) (fun q => ?_)
    · have h := h.1 q
      refine cw_aload_n dX10_setValue_31 0 rfl rfl ?_
      refine cw_getf (C := RX10) (T := TX10) (N := 10) (ci := 8) inX10_setValue_RX10 0 (show 0 < 32 by decide) rfl rfl 9 (by decide) (by decide +kernel) rfl dX10_setValue_32 ?_
      refine cw_aload_n dX10_setValue_35 0 rfl rfl ?_
      refine cw_getf (C := RX10) (T := TX10) (N := 10) (ci := 8) inX10_setValue_RX10 0 (show 0 < 32 by decide) rfl rfl 2 (by decide) (by decide +kernel) rfl dX10_setValue_36 ?_
      obtain ⟨J_39, hc_39, h⟩ := h
      refine cw_callV (o := 28) (As := [.ref (cw_a (cc_w K) 5)]) hc_39 okX4_rememberForUndo rfl gX10_setValue_X4_rememberForUndo (by decide) (show 28 < 32 by decide) rfl (ci := 3) rfl rfl (Nat.le_of_ble_eq_true rfl) dX10_setValue_39 ?_
      refine cw_aload_n dX10_setValue_42 0 rfl rfl ?_
      refine cw_getf (C := RX10) (T := TX10) (N := 10) (ci := 8) inX10_setValue_RX10 0 (show 0 < 32 by decide) rfl rfl 2 (by decide) (by decide +kernel) rfl dX10_setValue_43 ?_
      refine cw_iload_n dX10_setValue_46 1 rfl rfl ?_
      refine cw_iload_n dX10_setValue_47 2 rfl rfl ?_
      obtain ⟨v_48, J_48, hc_48, h⟩ := h
      refine cw_callV (o := 5) (As := [.int x1, .int x2]) hc_48 okX1_valueOf rfl gX10_setValue_X1_valueOf (by decide) (show 5 < 32 by decide) rfl (ci := 0) rfl rfl (Nat.le_of_ble_eq_true rfl) dX10_setValue_48 ?_
      refine cw_istore dX10_setValue_51 (by decide) rfl ?_
      refine cw_aload_n dX10_setValue_53 1 rfl rfl ?_
      refine cw_getf (C := RX10) (T := TX10) (N := 10) (ci := 8) inX10_setValue_RX10 0 (show 0 < 32 by decide) rfl rfl 2 (by decide) (by decide +kernel) rfl dX10_setValue_54 ?_
      refine cw_iload_n dX10_setValue_57 2 rfl rfl ?_
      refine cw_iload_n dX10_setValue_58 3 rfl rfl ?_
      refine cw_iload_n dX10_setValue_59 4 rfl rfl ?_
      obtain ⟨J_60, hc_60, h⟩ := h
      refine cw_callV (o := 5) (As := [.int x1, .int x2, .int x3]) hc_60 okX1_putValue rfl gX10_setValue_X1_putValue (by decide) (show 5 < 32 by decide) rfl (ci := 0) rfl rfl (Nat.le_of_ble_eq_true rfl) dX10_setValue_60 ?_
      refine cw_iload dX10_setValue_63 0 rfl ?_
      exact cw_iret rfl dX10_setValue_65 h
    · have h := h.2 q
      exact h.elim
set_option maxRecDepth 20000 in
set_option maxHeartbeats 4000000 in
theorem eX10_shareSize_0 {K : cw_K} {r : Option Value} {J0 I : cw_M} {x1 : Int32} (h : (∃ J_2 : cw_M, cw_C (cc_w K) mX10_requireSibling [.ref (cw_a (cc_w K) 0), .int x1] I none J_2 ∧ (∃ (v_10 : Int32) (J_10 : cw_M), cw_C (cc_w K) mX1_countOwned [.ref (cw_a (cc_w K) 5), .int x1] J_2 (some (.int v_10)) J_10 ∧ (r = some (.int v_10) ∧ J0 = J_10)))) : cw_C (cc_w K) mX10_shareSize [.ref (cw_a (cc_w K) 0), .int x1] I r J0 := by
  refine cw_entry okX10_shareSize (Nat.le_of_ble_eq_true rfl) (show cw_B (cc_w K) mX10_shareSize (cw_Z (cc_w K) r J0) 0 0 I 0 [(0, .ref (cw_a (cc_w K) 0)), (1, .int x1)] [] from ?_)
  refine cw_aload_n dX10_shareSize_0 0 rfl rfl ?_
  refine cw_iload_n dX10_shareSize_1 1 rfl rfl ?_
  obtain ⟨J_2, hc_2, h⟩ := h
  refine cw_callV (o := 0) (As := [.int x1]) hc_2 okX10_requireSibling rfl gX10_shareSize_X10_requireSibling (by decide) (show 0 < 32 by decide) rfl (ci := 8) rfl rfl (Nat.le_of_ble_eq_true rfl) dX10_shareSize_2 ?_
  refine cw_aload_n dX10_shareSize_5 0 rfl rfl ?_
  refine cw_getf (C := RX10) (T := TX10) (N := 10) (ci := 8) inX10_shareSize_RX10 0 (show 0 < 32 by decide) rfl rfl 2 (by decide) (by decide +kernel) rfl dX10_shareSize_6 ?_
  refine cw_iload_n dX10_shareSize_9 1 rfl rfl ?_
  obtain ⟨v_10, J_10, hc_10, h⟩ := h
  refine cw_callV (o := 5) (As := [.int x1]) hc_10 okX1_countOwned rfl gX10_shareSize_X1_countOwned (by decide) (show 5 < 32 by decide) rfl (ci := 0) rfl rfl (Nat.le_of_ble_eq_true rfl) dX10_shareSize_10 ?_
  exact cw_iret rfl dX10_shareSize_13 h
set_option maxRecDepth 20000 in
set_option maxHeartbeats 4000000 in
theorem eX10_siblingCount_0 {K : cw_K} {r : Option Value} {J0 I : cw_M} (h : (r = some (.int (I 5 1)) ∧ J0 = I)) : cw_C (cc_w K) mX10_siblingCount [.ref (cw_a (cc_w K) 0)] I r J0 := by
  refine cw_entry okX10_siblingCount (Nat.le_of_ble_eq_true rfl) (show cw_B (cc_w K) mX10_siblingCount (cw_Z (cc_w K) r J0) 0 0 I 0 [(0, .ref (cw_a (cc_w K) 0))] [] from ?_)
  refine cw_aload_n dX10_siblingCount_0 0 rfl rfl ?_
  refine cw_getf (C := RX10) (T := TX10) (N := 10) (ci := 8) inX10_siblingCount_RX10 0 (show 0 < 32 by decide) rfl rfl 2 (by decide) (by decide +kernel) rfl dX10_siblingCount_1 ?_
  refine cw_getf (C := RX1) (T := TX1) (N := 6) (ci := 0) inX10_siblingCount_RX1 5 (show 5 < 32 by decide) rfl rfl 1 (by decide) (by decide +kernel) rfl dX10_siblingCount_4 ?_
  exact cw_iret rfl dX10_siblingCount_7 h
set_option maxRecDepth 20000 in
set_option maxHeartbeats 4000000 in
theorem eX10_strongEnvyCount_0 {K : cw_K} {r : Option Value} {J0 I : cw_M} (h : (∃ (v_4 : Int32) (J_4 : cw_M), cw_C (cc_w K) mX3_countStrongEnvies [.ref (cw_a (cc_w K) 16)] I (some (.int v_4)) J_4 ∧ (r = some (.int v_4) ∧ J0 = J_4))) : cw_C (cc_w K) mX10_strongEnvyCount [.ref (cw_a (cc_w K) 0)] I r J0 := by
  refine cw_entry okX10_strongEnvyCount (Nat.le_of_ble_eq_true rfl) (show cw_B (cc_w K) mX10_strongEnvyCount (cw_Z (cc_w K) r J0) 0 0 I 0 [(0, .ref (cw_a (cc_w K) 0))] [] from ?_)
  refine cw_aload_n dX10_strongEnvyCount_0 0 rfl rfl ?_
  refine cw_getf (C := RX10) (T := TX10) (N := 10) (ci := 8) inX10_strongEnvyCount_RX10 0 (show 0 < 32 by decide) rfl rfl 5 (by decide) (by decide +kernel) rfl dX10_strongEnvyCount_1 ?_
  obtain ⟨v_4, J_4, hc_4, h⟩ := h
  refine cw_callV (o := 16) (As := []) hc_4 okX3_countStrongEnvies rfl gX10_strongEnvyCount_X3_countStrongEnvies (by decide) (show 16 < 32 by decide) rfl (ci := 2) rfl rfl (Nat.le_of_ble_eq_true rfl) dX10_strongEnvyCount_4 ?_
  exact cw_iret rfl dX10_strongEnvyCount_7 h
set_option maxRecDepth 20000 in
set_option maxHeartbeats 4000000 in
theorem eX10_swapShares_0 {K : cw_K} {r : Option Value} {J0 I : cw_M} {x1 : Int32} {x2 : Int32} (h : (∃ J_2 : cw_M, cw_C (cc_w K) mX10_requireSibling [.ref (cw_a (cc_w K) 0), .int x1] I none J_2 ∧ (∃ J_7 : cw_M, cw_C (cc_w K) mX10_requireSibling [.ref (cw_a (cc_w K) 0), .int x2] J_2 none J_7 ∧ (∃ J_13 : cw_M, cw_C (cc_w K) mX10_requireDifferent [.ref (cw_a (cc_w K) 0), .int x1, .int x2] J_7 none J_13 ∧ (∃ J_24 : cw_M, cw_C (cc_w K) mX4_rememberForUndo [.ref (cw_a (cc_w K) 28), .ref (cw_a (cc_w K) 5)] J_13 none J_24 ∧ (∃ J_33 : cw_M, cw_C (cc_w K) mX1_exchangeShares [.ref (cw_a (cc_w K) 5), .int x1, .int x2] J_24 none J_33 ∧ (∃ (v_40 : Int32) (J_40 : cw_M), cw_C (cc_w K) mX3_countEnvies [.ref (cw_a (cc_w K) 16)] J_33 (some (.int v_40)) J_40 ∧ (r = some (.int v_40) ∧ J0 = J_40)))))))) : cw_C (cc_w K) mX10_swapShares [.ref (cw_a (cc_w K) 0), .int x1, .int x2] I r J0 := by
  refine cw_entry okX10_swapShares (Nat.le_of_ble_eq_true rfl) (show cw_B (cc_w K) mX10_swapShares (cw_Z (cc_w K) r J0) 0 0 I 0 [(0, .ref (cw_a (cc_w K) 0)), (1, .int x1), (2, .int x2)] [] from ?_)
  refine cw_aload_n dX10_swapShares_0 0 rfl rfl ?_
  refine cw_iload_n dX10_swapShares_1 1 rfl rfl ?_
  obtain ⟨J_2, hc_2, h⟩ := h
  refine cw_callV (o := 0) (As := [.int x1]) hc_2 okX10_requireSibling rfl gX10_swapShares_X10_requireSibling (by decide) (show 0 < 32 by decide) rfl (ci := 8) rfl rfl (Nat.le_of_ble_eq_true rfl) dX10_swapShares_2 ?_
  refine cw_aload_n dX10_swapShares_5 0 rfl rfl ?_
  refine cw_iload_n dX10_swapShares_6 2 rfl rfl ?_
  obtain ⟨J_7, hc_7, h⟩ := h
  refine cw_callV (o := 0) (As := [.int x2]) hc_7 okX10_requireSibling rfl gX10_swapShares_X10_requireSibling (by decide) (show 0 < 32 by decide) rfl (ci := 8) rfl rfl (Nat.le_of_ble_eq_true rfl) dX10_swapShares_7 ?_
  refine cw_aload_n dX10_swapShares_10 0 rfl rfl ?_
  refine cw_iload_n dX10_swapShares_11 1 rfl rfl ?_
  refine cw_iload_n dX10_swapShares_12 2 rfl rfl ?_
  obtain ⟨J_13, hc_13, h⟩ := h
  refine cw_callV (o := 0) (As := [.int x1, .int x2]) hc_13 okX10_requireDifferent rfl gX10_swapShares_X10_requireDifferent (by decide) (show 0 < 32 by decide) rfl (ci := 8) rfl rfl (Nat.le_of_ble_eq_true rfl) dX10_swapShares_13 ?_
  refine cw_aload_n dX10_swapShares_16 0 rfl rfl ?_
  refine cw_getf (C := RX10) (T := TX10) (N := 10) (ci := 8) inX10_swapShares_RX10 0 (show 0 < 32 by decide) rfl rfl 9 (by decide) (by decide +kernel) rfl dX10_swapShares_17 ?_
  refine cw_aload_n dX10_swapShares_20 0 rfl rfl ?_
  refine cw_getf (C := RX10) (T := TX10) (N := 10) (ci := 8) inX10_swapShares_RX10 0 (show 0 < 32 by decide) rfl rfl 2 (by decide) (by decide +kernel) rfl dX10_swapShares_21 ?_
  obtain ⟨J_24, hc_24, h⟩ := h
  refine cw_callV (o := 28) (As := [.ref (cw_a (cc_w K) 5)]) hc_24 okX4_rememberForUndo rfl gX10_swapShares_X4_rememberForUndo (by decide) (show 28 < 32 by decide) rfl (ci := 3) rfl rfl (Nat.le_of_ble_eq_true rfl) dX10_swapShares_24 ?_
  refine cw_aload_n dX10_swapShares_27 0 rfl rfl ?_
  refine cw_getf (C := RX10) (T := TX10) (N := 10) (ci := 8) inX10_swapShares_RX10 0 (show 0 < 32 by decide) rfl rfl 2 (by decide) (by decide +kernel) rfl dX10_swapShares_28 ?_
  refine cw_iload_n dX10_swapShares_31 1 rfl rfl ?_
  refine cw_iload_n dX10_swapShares_32 2 rfl rfl ?_
  obtain ⟨J_33, hc_33, h⟩ := h
  refine cw_callV (o := 5) (As := [.int x1, .int x2]) hc_33 okX1_exchangeShares rfl gX10_swapShares_X1_exchangeShares (by decide) (show 5 < 32 by decide) rfl (ci := 0) rfl rfl (Nat.le_of_ble_eq_true rfl) dX10_swapShares_33 ?_
  refine cw_aload_n dX10_swapShares_36 0 rfl rfl ?_
  refine cw_getf (C := RX10) (T := TX10) (N := 10) (ci := 8) inX10_swapShares_RX10 0 (show 0 < 32 by decide) rfl rfl 5 (by decide) (by decide +kernel) rfl dX10_swapShares_37 ?_
  obtain ⟨v_40, J_40, hc_40, h⟩ := h
  refine cw_callV (o := 16) (As := []) hc_40 okX3_countEnvies rfl gX10_swapShares_X3_countEnvies (by decide) (show 16 < 32 by decide) rfl (ci := 2) rfl rfl (Nat.le_of_ble_eq_true rfl) dX10_swapShares_40 ?_
  exact cw_iret rfl dX10_swapShares_43 h
set_option maxRecDepth 20000 in
set_option maxHeartbeats 4000000 in
theorem eX10_total_0 {K : cw_K} {r : Option Value} {J0 I : cw_M} {x1 : Int32} (h : (∃ J_2 : cw_M, cw_C (cc_w K) mX10_requireSibling [.ref (cw_a (cc_w K) 0), .int x1] I none J_2 ∧ (∃ (v_10 : Int32) (J_10 : cw_M), cw_C (cc_w K) mX1_worthOfAll [.ref (cw_a (cc_w K) 5), .int x1] J_2 (some (.int v_10)) J_10 ∧ (r = some (.int v_10) ∧ J0 = J_10)))) : cw_C (cc_w K) mX10_total [.ref (cw_a (cc_w K) 0), .int x1] I r J0 := by
  refine cw_entry okX10_total (Nat.le_of_ble_eq_true rfl) (show cw_B (cc_w K) mX10_total (cw_Z (cc_w K) r J0) 0 0 I 0 [(0, .ref (cw_a (cc_w K) 0)), (1, .int x1)] [] from ?_)
  refine cw_aload_n dX10_total_0 0 rfl rfl ?_
  refine cw_iload_n dX10_total_1 1 rfl rfl ?_
  obtain ⟨J_2, hc_2, h⟩ := h
  refine cw_callV (o := 0) (As := [.int x1]) hc_2 okX10_requireSibling rfl gX10_total_X10_requireSibling (by decide) (show 0 < 32 by decide) rfl (ci := 8) rfl rfl (Nat.le_of_ble_eq_true rfl) dX10_total_2 ?_
  refine cw_aload_n dX10_total_5 0 rfl rfl ?_
  refine cw_getf (C := RX10) (T := TX10) (N := 10) (ci := 8) inX10_total_RX10 0 (show 0 < 32 by decide) rfl rfl 2 (by decide) (by decide +kernel) rfl dX10_total_6 ?_
  refine cw_iload_n dX10_total_9 1 rfl rfl ?_
  obtain ⟨v_10, J_10, hc_10, h⟩ := h
  refine cw_callV (o := 5) (As := [.int x1]) hc_10 okX1_worthOfAll rfl gX10_total_X1_worthOfAll (by decide) (show 5 < 32 by decide) rfl (ci := 0) rfl rfl (Nat.le_of_ble_eq_true rfl) dX10_total_10 ?_
  exact cw_iret rfl dX10_total_13 h
abbrev bX10_totalWelfare_0_4 (K : cw_K) (r : Option Value) (J0 : cw_M) (x1 : Int32) (x2 : Int32) (I : cw_M) : Prop := cw_B (cc_w K) mX10_totalWelfare (cw_Z (cc_w K) r J0) 0 0 I 4 [(0, .ref (cw_a (cc_w K) 0)), (1, .int x1), (2, .int x2)] []
set_option maxRecDepth 20000 in
set_option maxHeartbeats 4000000 in
theorem eX10_totalWelfare_0 {K : cw_K} {r : Option Value} {J0 I : cw_M} (h : bX10_totalWelfare_0_4 K r J0 0 0 I) : cw_C (cc_w K) mX10_totalWelfare [.ref (cw_a (cc_w K) 0)] I r J0 := by
  refine cw_entry okX10_totalWelfare (Nat.le_of_ble_eq_true rfl) (show cw_B (cc_w K) mX10_totalWelfare (cw_Z (cc_w K) r J0) 0 0 I 0 [(0, .ref (cw_a (cc_w K) 0))] [] from ?_)
  refine cw_iconst (v := 0) dX10_totalWelfare_0 (by decide) ?_
  refine cw_istore_n dX10_totalWelfare_1 rfl (by decide) rfl ?_
  refine cw_iconst (v := 0) dX10_totalWelfare_2 (by decide) ?_
  refine cw_istore_n dX10_totalWelfare_3 rfl (by decide) rfl ?_
  refine cw_sub [2, 1, 0] rfl ?_
  exact h
set_option maxRecDepth 20000 in
set_option maxHeartbeats 4000000 in
theorem tbX10_totalWelfare_0_4 {K : cw_K} {r : Option Value} {J0 I : cw_M} {x1 : Int32} {x2 : Int32} (h : (((I 5 1) ≤ x2 → (r = some (.int x1) ∧ J0 = I)) ∧ (¬ (I 5 1) ≤ x2 → (∃ (v_21 : Int32) (J_21 : cw_M), cw_C (cc_w K) mX1_welfareOf [.ref (cw_a (cc_w K) 5), .int x2] I (some (.int v_21)) J_21 ∧ bX10_totalWelfare_0_4 K r J0 (x1 + v_21) (x2 + 1) J_21)))) : bX10_totalWelfare_0_4 K r J0 x1 x2 I := by
  refine cw_iload_n dX10_totalWelfare_4 2 rfl rfl ?_
  refine cw_aload_n dX10_totalWelfare_5 0 rfl rfl ?_
  refine cw_getf (C := RX10) (T := TX10) (N := 10) (ci := 8) inX10_totalWelfare_RX10 0 (show 0 < 32 by decide) rfl rfl 2 (by decide) (by decide +kernel) rfl dX10_totalWelfare_6 ?_
  refine cw_getf (C := RX1) (T := TX1) (N := 6) (ci := 0) inX10_totalWelfare_RX1 5 (show 5 < 32 by decide) rfl rfl 1 (by decide) (by decide +kernel) rfl dX10_totalWelfare_9 ?_
  refine cw_icmp_ge (tgt := 32) dX10_totalWelfare_12 (by decide) (fun q => ?_) (fun q => ?_)
  · have h := h.1 q
    refine cw_iload_n dX10_totalWelfare_32 1 rfl rfl ?_
    exact cw_iret rfl dX10_totalWelfare_33 h
  · have h := h.2 q
    refine cw_iload_n dX10_totalWelfare_15 1 rfl rfl ?_
    refine cw_aload_n dX10_totalWelfare_16 0 rfl rfl ?_
    refine cw_getf (C := RX10) (T := TX10) (N := 10) (ci := 8) inX10_totalWelfare_RX10 0 (show 0 < 32 by decide) rfl rfl 2 (by decide) (by decide +kernel) rfl dX10_totalWelfare_17 ?_
    refine cw_iload_n dX10_totalWelfare_20 2 rfl rfl ?_
    obtain ⟨v_21, J_21, hc_21, h⟩ := h
    refine cw_callV (o := 5) (As := [.int x2]) hc_21 okX1_welfareOf rfl gX10_totalWelfare_X1_welfareOf (by decide) (show 5 < 32 by decide) rfl (ci := 0) rfl rfl (Nat.le_of_ble_eq_true rfl) dX10_totalWelfare_21 ?_
    refine cw_iadd dX10_totalWelfare_24 ?_
    refine cw_istore_n dX10_totalWelfare_25 rfl (by decide) rfl ?_
    refine cw_iinc (v := x2 + 1) dX10_totalWelfare_26 (j := 2) rfl rfl (by decide) rfl ?_
    refine cw_goto (tgt := 4) dX10_totalWelfare_29 (by decide) ?_
    refine cw_sub [2, 1, 0] rfl ?_
    exact h
set_option maxRecDepth 20000 in
set_option maxHeartbeats 4000000 in
theorem eX10_truncate_0 {K : cw_K} {r : Option Value} {J0 I : cw_M} {x1 : Int32} (h : ((x1 < 0 → False) ∧ (¬ x1 < 0 → ((x1 ≤ (I 1 1) → (r = some (.int x1) ∧ J0 = cw_st I 1 1 x1)) ∧ (¬ x1 ≤ (I 1 1) → False))))) : cw_C (cc_w K) mX10_truncate [.ref (cw_a (cc_w K) 0), .int x1] I r J0 := by
  refine cw_entry okX10_truncate (Nat.le_of_ble_eq_true rfl) (show cw_B (cc_w K) mX10_truncate (cw_Z (cc_w K) r J0) 0 0 I 0 [(0, .ref (cw_a (cc_w K) 0)), (1, .int x1)] [] from ?_)
  refine cw_iload_n dX10_truncate_0 1 rfl rfl ?_
  refine cw_if_lt (tgt := 15) dX10_truncate_1 (by decide) (fun q => ?_) (fun q => ?_)
  · have h := h.1 q
    exact h.elim
  · have h := h.2 q
    refine cw_iload_n dX10_truncate_4 1 rfl rfl ?_
    refine cw_aload_n dX10_truncate_5 0 rfl rfl ?_
    refine cw_getf (C := RX10) (T := TX10) (N := 10) (ci := 8) inX10_truncate_RX10 0 (show 0 < 32 by decide) rfl rfl 0 (by decide) (by decide +kernel) rfl dX10_truncate_6 ?_
    refine cw_getf (C := RX8) (T := TX8) (N := 2) (ci := 7) inX10_truncate_RX8 1 (show 1 < 32 by decide) rfl rfl 1 (by decide) (by decide +kernel) rfl dX10_truncate_9 ?_
    refine cw_icmp_le (tgt := 25) dX10_truncate_12 (by decide) (fun q => ?_) (fun q => ?_)
    · have h := h.1 q
      refine cw_aload_n dX10_truncate_25 0 rfl rfl ?_
      refine cw_getf (C := RX10) (T := TX10) (N := 10) (ci := 8) inX10_truncate_RX10 0 (show 0 < 32 by decide) rfl rfl 0 (by decide) (by decide +kernel) rfl dX10_truncate_26 ?_
      refine cw_iload_n dX10_truncate_29 1 rfl rfl ?_
      refine cw_putf (C := RX8) (T := TX8) (N := 2) (ci := 7) inX10_truncate_RX8 tyX8 tyX8_ok nmX8 1 (show 1 < 32 by decide) rfl rfl 1 (by decide) (by decide +kernel) rfl rfl (show 1 < 2 by decide) rfl dX10_truncate_30 ?_
      refine cw_iload_n dX10_truncate_33 1 rfl rfl ?_
      exact cw_iret rfl dX10_truncate_34 h
    · have h := h.2 q
      exact h.elim
set_option maxRecDepth 20000 in
set_option maxHeartbeats 4000000 in
theorem eX10_undo_0 {K : cw_K} {r : Option Value} {J0 I : cw_M} (h : ((¬ (I 28 0) = 0 → (∃ J_29 : cw_M, cw_C (cc_w K) mX4_undoLatest [.ref (cw_a (cc_w K) 28), .ref (cw_a (cc_w K) 5)] I none J_29 ∧ (r = some (.int (J_29 28 0)) ∧ J0 = J_29))) ∧ ((I 28 0) = 0 → False))) : cw_C (cc_w K) mX10_undo [.ref (cw_a (cc_w K) 0)] I r J0 := by
  refine cw_entry okX10_undo (Nat.le_of_ble_eq_true rfl) (show cw_B (cc_w K) mX10_undo (cw_Z (cc_w K) r J0) 0 0 I 0 [(0, .ref (cw_a (cc_w K) 0))] [] from ?_)
  refine cw_aload_n dX10_undo_0 0 rfl rfl ?_
  refine cw_getf (C := RX10) (T := TX10) (N := 10) (ci := 8) inX10_undo_RX10 0 (show 0 < 32 by decide) rfl rfl 9 (by decide) (by decide +kernel) rfl dX10_undo_1 ?_
  refine cw_getf (C := RX4) (T := TX4) (N := 5) (ci := 3) inX10_undo_RX4 28 (show 28 < 32 by decide) rfl rfl 0 (by decide) (by decide +kernel) rfl dX10_undo_4 ?_
  refine cw_if_ne (tgt := 21) dX10_undo_7 (by decide) (fun q => ?_) (fun q => ?_)
  · have h := h.1 q
    refine cw_aload_n dX10_undo_21 0 rfl rfl ?_
    refine cw_getf (C := RX10) (T := TX10) (N := 10) (ci := 8) inX10_undo_RX10 0 (show 0 < 32 by decide) rfl rfl 9 (by decide) (by decide +kernel) rfl dX10_undo_22 ?_
    refine cw_aload_n dX10_undo_25 0 rfl rfl ?_
    refine cw_getf (C := RX10) (T := TX10) (N := 10) (ci := 8) inX10_undo_RX10 0 (show 0 < 32 by decide) rfl rfl 2 (by decide) (by decide +kernel) rfl dX10_undo_26 ?_
    obtain ⟨J_29, hc_29, h⟩ := h
    refine cw_callV (o := 28) (As := [.ref (cw_a (cc_w K) 5)]) hc_29 okX4_undoLatest rfl gX10_undo_X4_undoLatest (by decide) (show 28 < 32 by decide) rfl (ci := 3) rfl rfl (Nat.le_of_ble_eq_true rfl) dX10_undo_29 ?_
    refine cw_aload_n dX10_undo_32 0 rfl rfl ?_
    refine cw_getf (C := RX10) (T := TX10) (N := 10) (ci := 8) inX10_undo_RX10 0 (show 0 < 32 by decide) rfl rfl 9 (by decide) (by decide +kernel) rfl dX10_undo_33 ?_
    refine cw_getf (C := RX4) (T := TX4) (N := 5) (ci := 3) inX10_undo_RX4 28 (show 28 < 32 by decide) rfl rfl 0 (by decide) (by decide +kernel) rfl dX10_undo_36 ?_
    exact cw_iret rfl dX10_undo_39 h
  · have h := h.2 q
    exact h.elim
set_option maxRecDepth 20000 in
set_option maxHeartbeats 4000000 in
theorem eX10_value_0 {K : cw_K} {r : Option Value} {J0 I : cw_M} {x1 : Int32} {x2 : Int32} (h : (∃ J_2 : cw_M, cw_C (cc_w K) mX10_requireSibling [.ref (cw_a (cc_w K) 0), .int x1] I none J_2 ∧ (∃ J_7 : cw_M, cw_C (cc_w K) mX10_requireCell [.ref (cw_a (cc_w K) 0), .int x2] J_2 none J_7 ∧ (∃ (v_16 : Int32) (J_16 : cw_M), cw_C (cc_w K) mX1_valueOf [.ref (cw_a (cc_w K) 5), .int x1, .int x2] J_7 (some (.int v_16)) J_16 ∧ (r = some (.int v_16) ∧ J0 = J_16))))) : cw_C (cc_w K) mX10_value [.ref (cw_a (cc_w K) 0), .int x1, .int x2] I r J0 := by
  refine cw_entry okX10_value (Nat.le_of_ble_eq_true rfl) (show cw_B (cc_w K) mX10_value (cw_Z (cc_w K) r J0) 0 0 I 0 [(0, .ref (cw_a (cc_w K) 0)), (1, .int x1), (2, .int x2)] [] from ?_)
  refine cw_aload_n dX10_value_0 0 rfl rfl ?_
  refine cw_iload_n dX10_value_1 1 rfl rfl ?_
  obtain ⟨J_2, hc_2, h⟩ := h
  refine cw_callV (o := 0) (As := [.int x1]) hc_2 okX10_requireSibling rfl gX10_value_X10_requireSibling (by decide) (show 0 < 32 by decide) rfl (ci := 8) rfl rfl (Nat.le_of_ble_eq_true rfl) dX10_value_2 ?_
  refine cw_aload_n dX10_value_5 0 rfl rfl ?_
  refine cw_iload_n dX10_value_6 2 rfl rfl ?_
  obtain ⟨J_7, hc_7, h⟩ := h
  refine cw_callV (o := 0) (As := [.int x2]) hc_7 okX10_requireCell rfl gX10_value_X10_requireCell (by decide) (show 0 < 32 by decide) rfl (ci := 8) rfl rfl (Nat.le_of_ble_eq_true rfl) dX10_value_7 ?_
  refine cw_aload_n dX10_value_10 0 rfl rfl ?_
  refine cw_getf (C := RX10) (T := TX10) (N := 10) (ci := 8) inX10_value_RX10 0 (show 0 < 32 by decide) rfl rfl 2 (by decide) (by decide +kernel) rfl dX10_value_11 ?_
  refine cw_iload_n dX10_value_14 1 rfl rfl ?_
  refine cw_iload_n dX10_value_15 2 rfl rfl ?_
  obtain ⟨v_16, J_16, hc_16, h⟩ := h
  refine cw_callV (o := 5) (As := [.int x1, .int x2]) hc_16 okX1_valueOf rfl gX10_value_X1_valueOf (by decide) (show 5 < 32 by decide) rfl (ci := 0) rfl rfl (Nat.le_of_ble_eq_true rfl) dX10_value_16 ?_
  exact cw_iret rfl dX10_value_19 h
set_option maxRecDepth 20000 in
set_option maxHeartbeats 4000000 in
theorem eX10_welfareByKnife_0 {K : cw_K} {r : Option Value} {J0 I : cw_M} {x1 : Int32} (h : (∃ J_2 : cw_M, cw_C (cc_w K) mX10_requireSibling [.ref (cw_a (cc_w K) 0), .int x1] I none J_2 ∧ (∃ (v_10 : Int32) (J_10 : cw_M), cw_C (cc_w K) mX6_tryKnife [.ref (cw_a (cc_w K) 20), .int x1] J_2 (some (.int v_10)) J_10 ∧ (r = some (.int v_10) ∧ J0 = J_10)))) : cw_C (cc_w K) mX10_welfareByKnife [.ref (cw_a (cc_w K) 0), .int x1] I r J0 := by
  refine cw_entry okX10_welfareByKnife (Nat.le_of_ble_eq_true rfl) (show cw_B (cc_w K) mX10_welfareByKnife (cw_Z (cc_w K) r J0) 0 0 I 0 [(0, .ref (cw_a (cc_w K) 0)), (1, .int x1)] [] from ?_)
  refine cw_aload_n dX10_welfareByKnife_0 0 rfl rfl ?_
  refine cw_iload_n dX10_welfareByKnife_1 1 rfl rfl ?_
  obtain ⟨J_2, hc_2, h⟩ := h
  refine cw_callV (o := 0) (As := [.int x1]) hc_2 okX10_requireSibling rfl gX10_welfareByKnife_X10_requireSibling (by decide) (show 0 < 32 by decide) rfl (ci := 8) rfl rfl (Nat.le_of_ble_eq_true rfl) dX10_welfareByKnife_2 ?_
  refine cw_aload_n dX10_welfareByKnife_5 0 rfl rfl ?_
  refine cw_getf (C := RX10) (T := TX10) (N := 10) (ci := 8) inX10_welfareByKnife_RX10 0 (show 0 < 32 by decide) rfl rfl 6 (by decide) (by decide +kernel) rfl dX10_welfareByKnife_6 ?_
  refine cw_iload_n dX10_welfareByKnife_9 1 rfl rfl ?_
  obtain ⟨v_10, J_10, hc_10, h⟩ := h
  refine cw_callV (o := 20) (As := [.int x1]) hc_10 okX6_tryKnife rfl gX10_welfareByKnife_X6_tryKnife (by decide) (show 20 < 32 by decide) rfl (ci := 5) rfl rfl (Nat.le_of_ble_eq_true rfl) dX10_welfareByKnife_10 ?_
  exact cw_iret rfl dX10_welfareByKnife_13 h
set_option maxRecDepth 20000 in
set_option maxHeartbeats 4000000 in
theorem eX10_welfareByRobin_0 {K : cw_K} {r : Option Value} {J0 I : cw_M} {x1 : Int32} {x2 : Int32} (h : (∃ J_2 : cw_M, cw_C (cc_w K) mX10_requireSibling [.ref (cw_a (cc_w K) 0), .int x1] I none J_2 ∧ (∃ J_7 : cw_M, cw_C (cc_w K) mX10_requireSibling [.ref (cw_a (cc_w K) 0), .int x2] J_2 none J_7 ∧ (∃ (v_16 : Int32) (J_16 : cw_M), cw_C (cc_w K) mX6_tryRobin [.ref (cw_a (cc_w K) 20), .int x1, .int x2] J_7 (some (.int v_16)) J_16 ∧ (r = some (.int v_16) ∧ J0 = J_16))))) : cw_C (cc_w K) mX10_welfareByRobin [.ref (cw_a (cc_w K) 0), .int x1, .int x2] I r J0 := by
  refine cw_entry okX10_welfareByRobin (Nat.le_of_ble_eq_true rfl) (show cw_B (cc_w K) mX10_welfareByRobin (cw_Z (cc_w K) r J0) 0 0 I 0 [(0, .ref (cw_a (cc_w K) 0)), (1, .int x1), (2, .int x2)] [] from ?_)
  refine cw_aload_n dX10_welfareByRobin_0 0 rfl rfl ?_
  refine cw_iload_n dX10_welfareByRobin_1 1 rfl rfl ?_
  obtain ⟨J_2, hc_2, h⟩ := h
  refine cw_callV (o := 0) (As := [.int x1]) hc_2 okX10_requireSibling rfl gX10_welfareByRobin_X10_requireSibling (by decide) (show 0 < 32 by decide) rfl (ci := 8) rfl rfl (Nat.le_of_ble_eq_true rfl) dX10_welfareByRobin_2 ?_
  refine cw_aload_n dX10_welfareByRobin_5 0 rfl rfl ?_
  refine cw_iload_n dX10_welfareByRobin_6 2 rfl rfl ?_
  obtain ⟨J_7, hc_7, h⟩ := h
  refine cw_callV (o := 0) (As := [.int x2]) hc_7 okX10_requireSibling rfl gX10_welfareByRobin_X10_requireSibling (by decide) (show 0 < 32 by decide) rfl (ci := 8) rfl rfl (Nat.le_of_ble_eq_true rfl) dX10_welfareByRobin_7 ?_
  refine cw_aload_n dX10_welfareByRobin_10 0 rfl rfl ?_
  refine cw_getf (C := RX10) (T := TX10) (N := 10) (ci := 8) inX10_welfareByRobin_RX10 0 (show 0 < 32 by decide) rfl rfl 6 (by decide) (by decide +kernel) rfl dX10_welfareByRobin_11 ?_
  refine cw_iload_n dX10_welfareByRobin_14 1 rfl rfl ?_
  refine cw_iload_n dX10_welfareByRobin_15 2 rfl rfl ?_
  obtain ⟨v_16, J_16, hc_16, h⟩ := h
  refine cw_callV (o := 20) (As := [.int x1, .int x2]) hc_16 okX6_tryRobin rfl gX10_welfareByRobin_X6_tryRobin (by decide) (show 20 < 32 by decide) rfl (ci := 5) rfl rfl (Nat.le_of_ble_eq_true rfl) dX10_welfareByRobin_16 ?_
  exact cw_iret rfl dX10_welfareByRobin_19 h
abbrev bX10_welfareProduct_0_4 (K : cw_K) (r : Option Value) (J0 : cw_M) (x1 : Int64) (x3 : Int32) (I : cw_M) : Prop := cw_B (cc_w K) mX10_welfareProduct (cw_Z (cc_w K) r J0) 0 0 I 4 [(0, .ref (cw_a (cc_w K) 0)), (1, .long x1), (3, .int x3)] []
set_option maxRecDepth 20000 in
set_option maxHeartbeats 4000000 in
theorem eX10_welfareProduct_0 {K : cw_K} {r : Option Value} {J0 I : cw_M} (h : bX10_welfareProduct_0_4 K r J0 1 0 I) : cw_C (cc_w K) mX10_welfareProduct [.ref (cw_a (cc_w K) 0)] I r J0 := by
  refine cw_entry okX10_welfareProduct (Nat.le_of_ble_eq_true rfl) (show cw_B (cc_w K) mX10_welfareProduct (cw_Z (cc_w K) r J0) 0 0 I 0 [(0, .ref (cw_a (cc_w K) 0))] [] from ?_)
  refine cw_lconst (v := 1) dX10_welfareProduct_0 (by decide) ?_
  refine cw_lstore_n dX10_welfareProduct_1 rfl (by decide) rfl ?_
  refine cw_iconst (v := 0) dX10_welfareProduct_2 (by decide) ?_
  refine cw_istore_n dX10_welfareProduct_3 rfl (by decide) rfl ?_
  refine cw_sub [2, 1, 0] rfl ?_
  exact h
set_option maxRecDepth 20000 in
set_option maxHeartbeats 4000000 in
theorem tbX10_welfareProduct_0_4 {K : cw_K} {r : Option Value} {J0 I : cw_M} {x1 : Int64} {x3 : Int32} (h : (((I 5 1) ≤ x3 → (r = some (.long x1) ∧ J0 = I)) ∧ (¬ (I 5 1) ≤ x3 → (∃ (v_21 : Int32) (J_21 : cw_M), cw_C (cc_w K) mX1_welfareOf [.ref (cw_a (cc_w K) 5), .int x3] I (some (.int v_21)) J_21 ∧ bX10_welfareProduct_0_4 K r J0 (x1 * v_21.toInt64) (x3 + 1) J_21)))) : bX10_welfareProduct_0_4 K r J0 x1 x3 I := by
  refine cw_iload_n dX10_welfareProduct_4 2 rfl rfl ?_
  refine cw_aload_n dX10_welfareProduct_5 0 rfl rfl ?_
  refine cw_getf (C := RX10) (T := TX10) (N := 10) (ci := 8) inX10_welfareProduct_RX10 0 (show 0 < 32 by decide) rfl rfl 2 (by decide) (by decide +kernel) rfl dX10_welfareProduct_6 ?_
  refine cw_getf (C := RX1) (T := TX1) (N := 6) (ci := 0) inX10_welfareProduct_RX1 5 (show 5 < 32 by decide) rfl rfl 1 (by decide) (by decide +kernel) rfl dX10_welfareProduct_9 ?_
  refine cw_icmp_ge (tgt := 33) dX10_welfareProduct_12 (by decide) (fun q => ?_) (fun q => ?_)
  · have h := h.1 q
    refine cw_lload_n dX10_welfareProduct_33 1 rfl rfl ?_
    exact cw_lret rfl dX10_welfareProduct_34 h
  · have h := h.2 q
    refine cw_lload_n dX10_welfareProduct_15 1 rfl rfl ?_
    refine cw_aload_n dX10_welfareProduct_16 0 rfl rfl ?_
    refine cw_getf (C := RX10) (T := TX10) (N := 10) (ci := 8) inX10_welfareProduct_RX10 0 (show 0 < 32 by decide) rfl rfl 2 (by decide) (by decide +kernel) rfl dX10_welfareProduct_17 ?_
    refine cw_iload_n dX10_welfareProduct_20 2 rfl rfl ?_
    obtain ⟨v_21, J_21, hc_21, h⟩ := h
    refine cw_callV (o := 5) (As := [.int x3]) hc_21 okX1_welfareOf rfl gX10_welfareProduct_X1_welfareOf (by decide) (show 5 < 32 by decide) rfl (ci := 0) rfl rfl (Nat.le_of_ble_eq_true rfl) dX10_welfareProduct_21 ?_
    refine cw_i2l dX10_welfareProduct_24 rfl ?_
    refine cw_lmul dX10_welfareProduct_25 ?_
    refine cw_lstore_n dX10_welfareProduct_26 rfl (by decide) rfl ?_
    refine cw_iinc (v := x3 + 1) dX10_welfareProduct_27 (j := 2) rfl rfl (by decide) rfl ?_
    refine cw_goto (tgt := 4) dX10_welfareProduct_30 (by decide) ?_
    refine cw_sub [2, 1, 0] rfl ?_
    exact h
set_option maxRecDepth 20000 in
set_option maxHeartbeats 4000000 in
theorem eX10_worth_0 {K : cw_K} {r : Option Value} {J0 I : cw_M} {x1 : Int32} {x2 : Int32} {x3 : Int32} (h : (∃ J_2 : cw_M, cw_C (cc_w K) mX10_requireSibling [.ref (cw_a (cc_w K) 0), .int x1] I none J_2 ∧ (∃ J_8 : cw_M, cw_C (cc_w K) mX10_requireRun [.ref (cw_a (cc_w K) 0), .int x2, .int x3] J_2 none J_8 ∧ (∃ (v_20 : Int32) (J_20 : cw_M), cw_C (cc_w K) mX1_worthOfRun [.ref (cw_a (cc_w K) 5), .int x1, .int x2, .int (x3 + 1)] J_8 (some (.int v_20)) J_20 ∧ (r = some (.int v_20) ∧ J0 = J_20))))) : cw_C (cc_w K) mX10_worth [.ref (cw_a (cc_w K) 0), .int x1, .int x2, .int x3] I r J0 := by
  refine cw_entry okX10_worth (Nat.le_of_ble_eq_true rfl) (show cw_B (cc_w K) mX10_worth (cw_Z (cc_w K) r J0) 0 0 I 0 [(0, .ref (cw_a (cc_w K) 0)), (1, .int x1), (2, .int x2), (3, .int x3)] [] from ?_)
  refine cw_aload_n dX10_worth_0 0 rfl rfl ?_
  refine cw_iload_n dX10_worth_1 1 rfl rfl ?_
  obtain ⟨J_2, hc_2, h⟩ := h
  refine cw_callV (o := 0) (As := [.int x1]) hc_2 okX10_requireSibling rfl gX10_worth_X10_requireSibling (by decide) (show 0 < 32 by decide) rfl (ci := 8) rfl rfl (Nat.le_of_ble_eq_true rfl) dX10_worth_2 ?_
  refine cw_aload_n dX10_worth_5 0 rfl rfl ?_
  refine cw_iload_n dX10_worth_6 2 rfl rfl ?_
  refine cw_iload_n dX10_worth_7 3 rfl rfl ?_
  obtain ⟨J_8, hc_8, h⟩ := h
  refine cw_callV (o := 0) (As := [.int x2, .int x3]) hc_8 okX10_requireRun rfl gX10_worth_X10_requireRun (by decide) (show 0 < 32 by decide) rfl (ci := 8) rfl rfl (Nat.le_of_ble_eq_true rfl) dX10_worth_8 ?_
  refine cw_aload_n dX10_worth_11 0 rfl rfl ?_
  refine cw_getf (C := RX10) (T := TX10) (N := 10) (ci := 8) inX10_worth_RX10 0 (show 0 < 32 by decide) rfl rfl 2 (by decide) (by decide +kernel) rfl dX10_worth_12 ?_
  refine cw_iload_n dX10_worth_15 1 rfl rfl ?_
  refine cw_iload_n dX10_worth_16 2 rfl rfl ?_
  refine cw_iload_n dX10_worth_17 3 rfl rfl ?_
  refine cw_iconst (v := 1) dX10_worth_18 (by decide) ?_
  refine cw_iadd dX10_worth_19 ?_
  obtain ⟨v_20, J_20, hc_20, h⟩ := h
  refine cw_callV (o := 5) (As := [.int x1, .int x2, .int (x3 + 1)]) hc_20 okX1_worthOfRun rfl gX10_worth_X1_worthOfRun (by decide) (show 5 < 32 by decide) rfl (ci := 0) rfl rfl (Nat.le_of_ble_eq_true rfl) dX10_worth_20 ?_
  exact cw_iret rfl dX10_worth_23 h
set_option maxRecDepth 20000 in
set_option maxHeartbeats 4000000 in
theorem eX10_worthOfShare_0 {K : cw_K} {r : Option Value} {J0 I : cw_M} {x1 : Int32} {x2 : Int32} (h : (∃ J_2 : cw_M, cw_C (cc_w K) mX10_requireSibling [.ref (cw_a (cc_w K) 0), .int x1] I none J_2 ∧ (∃ J_7 : cw_M, cw_C (cc_w K) mX10_requireSibling [.ref (cw_a (cc_w K) 0), .int x2] J_2 none J_7 ∧ (∃ (v_23 : Int32) (J_23 : cw_M), cw_C (cc_w K) mX1_worthOfOwned [.ref (cw_a (cc_w K) 5), .ref (cw_a (cc_w K) 9), .int x1, .int x2] J_7 (some (.int v_23)) J_23 ∧ (r = some (.int v_23) ∧ J0 = J_23))))) : cw_C (cc_w K) mX10_worthOfShare [.ref (cw_a (cc_w K) 0), .int x1, .int x2] I r J0 := by
  refine cw_entry okX10_worthOfShare (Nat.le_of_ble_eq_true rfl) (show cw_B (cc_w K) mX10_worthOfShare (cw_Z (cc_w K) r J0) 0 0 I 0 [(0, .ref (cw_a (cc_w K) 0)), (1, .int x1), (2, .int x2)] [] from ?_)
  refine cw_aload_n dX10_worthOfShare_0 0 rfl rfl ?_
  refine cw_iload_n dX10_worthOfShare_1 1 rfl rfl ?_
  obtain ⟨J_2, hc_2, h⟩ := h
  refine cw_callV (o := 0) (As := [.int x1]) hc_2 okX10_requireSibling rfl gX10_worthOfShare_X10_requireSibling (by decide) (show 0 < 32 by decide) rfl (ci := 8) rfl rfl (Nat.le_of_ble_eq_true rfl) dX10_worthOfShare_2 ?_
  refine cw_aload_n dX10_worthOfShare_5 0 rfl rfl ?_
  refine cw_iload_n dX10_worthOfShare_6 2 rfl rfl ?_
  obtain ⟨J_7, hc_7, h⟩ := h
  refine cw_callV (o := 0) (As := [.int x2]) hc_7 okX10_requireSibling rfl gX10_worthOfShare_X10_requireSibling (by decide) (show 0 < 32 by decide) rfl (ci := 8) rfl rfl (Nat.le_of_ble_eq_true rfl) dX10_worthOfShare_7 ?_
  refine cw_aload_n dX10_worthOfShare_10 0 rfl rfl ?_
  refine cw_getf (C := RX10) (T := TX10) (N := 10) (ci := 8) inX10_worthOfShare_RX10 0 (show 0 < 32 by decide) rfl rfl 2 (by decide) (by decide +kernel) rfl dX10_worthOfShare_11 ?_
  refine cw_aload_n dX10_worthOfShare_14 0 rfl rfl ?_
  refine cw_getf (C := RX10) (T := TX10) (N := 10) (ci := 8) inX10_worthOfShare_RX10 0 (show 0 < 32 by decide) rfl rfl 2 (by decide) (by decide +kernel) rfl dX10_worthOfShare_15 ?_
  refine cw_getf (C := RX1) (T := TX1) (N := 6) (ci := 0) inX10_worthOfShare_RX1 5 (show 5 < 32 by decide) rfl rfl 5 (by decide) (by decide +kernel) rfl dX10_worthOfShare_18 ?_
  refine cw_iload_n dX10_worthOfShare_21 1 rfl rfl ?_
  refine cw_iload_n dX10_worthOfShare_22 2 rfl rfl ?_
  obtain ⟨v_23, J_23, hc_23, h⟩ := h
  refine cw_callV (o := 5) (As := [.ref (cw_a (cc_w K) 9), .int x1, .int x2]) hc_23 okX1_worthOfOwned rfl gX10_worthOfShare_X1_worthOfOwned (by decide) (show 5 < 32 by decide) rfl (ci := 0) rfl rfl (Nat.le_of_ble_eq_true rfl) dX10_worthOfShare_23 ?_
  exact cw_iret rfl dX10_worthOfShare_26 h
set_option maxRecDepth 20000 in
set_option maxHeartbeats 4000000 in
theorem eX10_wouldSwap_0 {K : cw_K} {r : Option Value} {J0 I : cw_M} {x1 : Int32} {x2 : Int32} (h : (∃ J_2 : cw_M, cw_C (cc_w K) mX10_requireSibling [.ref (cw_a (cc_w K) 0), .int x1] I none J_2 ∧ (∃ J_7 : cw_M, cw_C (cc_w K) mX10_requireSibling [.ref (cw_a (cc_w K) 0), .int x2] J_2 none J_7 ∧ (∃ (v_16 : Int32) (J_16 : cw_M), cw_C (cc_w K) mX3_hasEnvy [.ref (cw_a (cc_w K) 16), .int x1, .int x2] J_7 (some (.int v_16)) J_16 ∧ ((v_16 = 0 → (r = some (.int 0) ∧ J0 = J_16)) ∧ (¬ v_16 = 0 → (∃ (v_28 : Int32) (J_28 : cw_M), cw_C (cc_w K) mX3_hasEnvy [.ref (cw_a (cc_w K) 16), .int x2, .int x1] J_16 (some (.int v_28)) J_28 ∧ ((v_28 = 0 → (r = some (.int 0) ∧ J0 = J_28)) ∧ (¬ v_28 = 0 → (r = some (.int 1) ∧ J0 = J_28)))))))))) : cw_C (cc_w K) mX10_wouldSwap [.ref (cw_a (cc_w K) 0), .int x1, .int x2] I r J0 := by
  refine cw_entry okX10_wouldSwap (Nat.le_of_ble_eq_true rfl) (show cw_B (cc_w K) mX10_wouldSwap (cw_Z (cc_w K) r J0) 0 0 I 0 [(0, .ref (cw_a (cc_w K) 0)), (1, .int x1), (2, .int x2)] [] from ?_)
  refine cw_aload_n dX10_wouldSwap_0 0 rfl rfl ?_
  refine cw_iload_n dX10_wouldSwap_1 1 rfl rfl ?_
  obtain ⟨J_2, hc_2, h⟩ := h
  refine cw_callV (o := 0) (As := [.int x1]) hc_2 okX10_requireSibling rfl gX10_wouldSwap_X10_requireSibling (by decide) (show 0 < 32 by decide) rfl (ci := 8) rfl rfl (Nat.le_of_ble_eq_true rfl) dX10_wouldSwap_2 ?_
  refine cw_aload_n dX10_wouldSwap_5 0 rfl rfl ?_
  refine cw_iload_n dX10_wouldSwap_6 2 rfl rfl ?_
  obtain ⟨J_7, hc_7, h⟩ := h
  refine cw_callV (o := 0) (As := [.int x2]) hc_7 okX10_requireSibling rfl gX10_wouldSwap_X10_requireSibling (by decide) (show 0 < 32 by decide) rfl (ci := 8) rfl rfl (Nat.le_of_ble_eq_true rfl) dX10_wouldSwap_7 ?_
  refine cw_aload_n dX10_wouldSwap_10 0 rfl rfl ?_
  refine cw_getf (C := RX10) (T := TX10) (N := 10) (ci := 8) inX10_wouldSwap_RX10 0 (show 0 < 32 by decide) rfl rfl 5 (by decide) (by decide +kernel) rfl dX10_wouldSwap_11 ?_
  refine cw_iload_n dX10_wouldSwap_14 1 rfl rfl ?_
  refine cw_iload_n dX10_wouldSwap_15 2 rfl rfl ?_
  obtain ⟨v_16, J_16, hc_16, h⟩ := h
  refine cw_callV (o := 16) (As := [.int x1, .int x2]) hc_16 okX3_hasEnvy rfl gX10_wouldSwap_X3_hasEnvy (by decide) (show 16 < 32 by decide) rfl (ci := 2) rfl rfl (Nat.le_of_ble_eq_true rfl) dX10_wouldSwap_16 ?_
  refine cw_if_eq (tgt := 38) dX10_wouldSwap_19 (by decide) (fun q => ?_) (fun q => ?_)
  · have h := h.1 q
    refine cw_iconst (v := 0) dX10_wouldSwap_38 (by decide) ?_
    exact cw_bret rfl dX10_wouldSwap_39 (by decide) h
  · have h := h.2 q
    refine cw_aload_n dX10_wouldSwap_22 0 rfl rfl ?_
    refine cw_getf (C := RX10) (T := TX10) (N := 10) (ci := 8) inX10_wouldSwap_RX10 0 (show 0 < 32 by decide) rfl rfl 5 (by decide) (by decide +kernel) rfl dX10_wouldSwap_23 ?_
    refine cw_iload_n dX10_wouldSwap_26 2 rfl rfl ?_
    refine cw_iload_n dX10_wouldSwap_27 1 rfl rfl ?_
    obtain ⟨v_28, J_28, hc_28, h⟩ := h
    refine cw_callV (o := 16) (As := [.int x2, .int x1]) hc_28 okX3_hasEnvy rfl gX10_wouldSwap_X3_hasEnvy (by decide) (show 16 < 32 by decide) rfl (ci := 2) rfl rfl (Nat.le_of_ble_eq_true rfl) dX10_wouldSwap_28 ?_
    refine cw_if_eq (tgt := 38) dX10_wouldSwap_31 (by decide) (fun q => ?_) (fun q => ?_)
    · have h := h.1 q
      refine cw_iconst (v := 0) dX10_wouldSwap_38 (by decide) ?_
      exact cw_bret rfl dX10_wouldSwap_39 (by decide) h
    · have h := h.2 q
      refine cw_iconst (v := 1) dX10_wouldSwap_34 (by decide) ?_
      refine cw_goto (tgt := 39) dX10_wouldSwap_35 (by decide) ?_
      exact cw_bret rfl dX10_wouldSwap_39 (by decide) h
abbrev bX10_writeOwners_0_12 (K : cw_K) (r : Option Value) (J0 : cw_M) (x1 : Int32) (x2 : Int32) (I : cw_M) : Prop := cw_B (cc_w K) mX10_writeOwners (cw_Z (cc_w K) r J0) 0 0 I 12 [(0, .ref (cw_a (cc_w K) 0)), (1, .int x1), (2, .int x2)] []
set_option maxRecDepth 20000 in
set_option maxHeartbeats 4000000 in
theorem eX10_writeOwners_0 {K : cw_K} {r : Option Value} {J0 I : cw_M} (h : bX10_writeOwners_0_12 K r J0 0 0 (cw_st I 3 1 0)) : cw_C (cc_w K) mX10_writeOwners [.ref (cw_a (cc_w K) 0)] I r J0 := by
  refine cw_entry okX10_writeOwners (Nat.le_of_ble_eq_true rfl) (show cw_B (cc_w K) mX10_writeOwners (cw_Z (cc_w K) r J0) 0 0 I 0 [(0, .ref (cw_a (cc_w K) 0))] [] from ?_)
  refine cw_aload_n dX10_writeOwners_0 0 rfl rfl ?_
  refine cw_getf (C := RX10) (T := TX10) (N := 10) (ci := 8) inX10_writeOwners_RX10 0 (show 0 < 32 by decide) rfl rfl 1 (by decide) (by decide +kernel) rfl dX10_writeOwners_1 ?_
  refine cw_iconst (v := 0) dX10_writeOwners_4 (by decide) ?_
  refine cw_putf (C := RX8) (T := TX8) (N := 2) (ci := 7) inX10_writeOwners_RX8 tyX8 tyX8_ok nmX8 3 (show 3 < 32 by decide) rfl rfl 1 (by decide) (by decide +kernel) rfl rfl (show 1 < 2 by decide) rfl dX10_writeOwners_5 ?_
  refine cw_iconst (v := 0) dX10_writeOwners_8 (by decide) ?_
  refine cw_istore_n dX10_writeOwners_9 rfl (by decide) rfl ?_
  refine cw_iconst (v := 0) dX10_writeOwners_10 (by decide) ?_
  refine cw_istore_n dX10_writeOwners_11 rfl (by decide) rfl ?_
  refine cw_sub [2, 1, 0] rfl ?_
  exact h
set_option maxRecDepth 20000 in
set_option maxHeartbeats 4000000 in
theorem tbX10_writeOwners_0_12 {K : cw_K} {r : Option Value} {J0 I : cw_M} {x1 : Int32} {x2 : Int32} (h : (((I 5 0) ≤ x2 → (r = some (.int (I 3 1)) ∧ J0 = I)) ∧ (¬ (I 5 0) ≤ x2 → (∃ (v_28 : Int32) (J_28 : cw_M), cw_C (cc_w K) mX1_endsPiece [.ref (cw_a (cc_w K) 5), .int x2] I (some (.int v_28)) J_28 ∧ ((v_28 = 0 → bX10_writeOwners_0_12 K r J0 x1 (x2 + 1) J_28) ∧ (¬ v_28 = 0 → (∃ J_39 : cw_M, cw_C (cc_w K) mX10_writePiece [.ref (cw_a (cc_w K) 0), .int x1, .int (x2 + 1)] J_28 none J_39 ∧ bX10_writeOwners_0_12 K r J0 (x2 + 1) (x2 + 1) J_39))))))) : bX10_writeOwners_0_12 K r J0 x1 x2 I := by
  refine cw_iload_n dX10_writeOwners_12 2 rfl rfl ?_
  refine cw_aload_n dX10_writeOwners_13 0 rfl rfl ?_
  refine cw_getf (C := RX10) (T := TX10) (N := 10) (ci := 8) inX10_writeOwners_RX10 0 (show 0 < 32 by decide) rfl rfl 2 (by decide) (by decide +kernel) rfl dX10_writeOwners_14 ?_
  refine cw_getf (C := RX1) (T := TX1) (N := 6) (ci := 0) inX10_writeOwners_RX1 5 (show 5 < 32 by decide) rfl rfl 0 (by decide) (by decide +kernel) rfl dX10_writeOwners_17 ?_
  refine cw_icmp_ge (tgt := 52) dX10_writeOwners_20 (by decide) (fun q => ?_) (fun q => ?_)
  · have h := h.1 q
    refine cw_aload_n dX10_writeOwners_52 0 rfl rfl ?_
    refine cw_getf (C := RX10) (T := TX10) (N := 10) (ci := 8) inX10_writeOwners_RX10 0 (show 0 < 32 by decide) rfl rfl 1 (by decide) (by decide +kernel) rfl dX10_writeOwners_53 ?_
    refine cw_getf (C := RX8) (T := TX8) (N := 2) (ci := 7) inX10_writeOwners_RX8 3 (show 3 < 32 by decide) rfl rfl 1 (by decide) (by decide +kernel) rfl dX10_writeOwners_56 ?_
    exact cw_iret rfl dX10_writeOwners_59 h
  · have h := h.2 q
    refine cw_aload_n dX10_writeOwners_23 0 rfl rfl ?_
    refine cw_getf (C := RX10) (T := TX10) (N := 10) (ci := 8) inX10_writeOwners_RX10 0 (show 0 < 32 by decide) rfl rfl 2 (by decide) (by decide +kernel) rfl dX10_writeOwners_24 ?_
    refine cw_iload_n dX10_writeOwners_27 2 rfl rfl ?_
    obtain ⟨v_28, J_28, hc_28, h⟩ := h
    refine cw_callV (o := 5) (As := [.int x2]) hc_28 okX1_endsPiece rfl gX10_writeOwners_X1_endsPiece (by decide) (show 5 < 32 by decide) rfl (ci := 0) rfl rfl (Nat.le_of_ble_eq_true rfl) dX10_writeOwners_28 ?_
    refine cw_if_eq (tgt := 46) dX10_writeOwners_31 (by decide) (fun q => ?_) (fun q => ?_)
    · have h := h.1 q
      refine cw_iinc (v := x2 + 1) dX10_writeOwners_46 (j := 2) rfl rfl (by decide) rfl ?_
      refine cw_goto (tgt := 12) dX10_writeOwners_49 (by decide) ?_
      refine cw_sub [1, 2, 0] rfl ?_
      exact h
    · have h := h.2 q
      refine cw_aload_n dX10_writeOwners_34 0 rfl rfl ?_
      refine cw_iload_n dX10_writeOwners_35 1 rfl rfl ?_
      refine cw_iload_n dX10_writeOwners_36 2 rfl rfl ?_
      refine cw_iconst (v := 1) dX10_writeOwners_37 (by decide) ?_
      refine cw_iadd dX10_writeOwners_38 ?_
      obtain ⟨J_39, hc_39, h⟩ := h
      refine cw_callV (o := 0) (As := [.int x1, .int (x2 + 1)]) hc_39 okX10_writePiece rfl gX10_writeOwners_X10_writePiece (by decide) (show 0 < 32 by decide) rfl (ci := 8) rfl rfl (Nat.le_of_ble_eq_true rfl) dX10_writeOwners_39 ?_
      refine cw_iload_n dX10_writeOwners_42 2 rfl rfl ?_
      refine cw_iconst (v := 1) dX10_writeOwners_43 (by decide) ?_
      refine cw_iadd dX10_writeOwners_44 ?_
      refine cw_istore_n dX10_writeOwners_45 rfl (by decide) rfl ?_
      refine cw_iinc (v := x2 + 1) dX10_writeOwners_46 (j := 2) rfl rfl (by decide) rfl ?_
      refine cw_goto (tgt := 12) dX10_writeOwners_49 (by decide) ?_
      refine cw_sub [2, 1, 0] rfl ?_
      exact h
abbrev bX10_writePiece_0_51 (K : cw_K) (r : Option Value) (J0 : cw_M) (x3 : Int32) (x4 : Int32) (I : cw_M) : Prop := cw_B (cc_w K) mX10_writePiece (cw_Z (cc_w K) r J0) 0 0 I 51 [(0, .ref (cw_a (cc_w K) 0)), (3, .int x3), (4, .int x4)] []
set_option maxRecDepth 20000 in
set_option maxHeartbeats 4000000 in
theorem eX10_writePiece_0 {K : cw_K} {r : Option Value} {J0 I : cw_M} {x1 : Int32} {x2 : Int32} (h : ((x1 ≤ 0 → (∃ J_20 : cw_M, cw_C (cc_w K) mX8_addNumber [.ref (cw_a (cc_w K) 3), .int (x2 - x1)] I none J_20 ∧ (vp_in x1 24 ∧ ((¬ (J_20 9 x1.toNatClampNeg) = (-1) → bX10_writePiece_0_51 K r J0 (J_20 9 x1.toNatClampNeg) 0 J_20) ∧ ((J_20 9 x1.toNatClampNeg) = (-1) → (∃ J_44 : cw_M, cw_C (cc_w K) mX8_add [.ref (cw_a (cc_w K) 3), .int 45] J_20 none J_44 ∧ (r = none ∧ J0 = J_44))))))) ∧ (¬ x1 ≤ 0 → (∃ J_10 : cw_M, cw_C (cc_w K) mX8_add [.ref (cw_a (cc_w K) 3), .int 32] I none J_10 ∧ (∃ J_20 : cw_M, cw_C (cc_w K) mX8_addNumber [.ref (cw_a (cc_w K) 3), .int (x2 - x1)] J_10 none J_20 ∧ (vp_in x1 24 ∧ ((¬ (J_20 9 x1.toNatClampNeg) = (-1) → bX10_writePiece_0_51 K r J0 (J_20 9 x1.toNatClampNeg) 0 J_20) ∧ ((J_20 9 x1.toNatClampNeg) = (-1) → (∃ J_44 : cw_M, cw_C (cc_w K) mX8_add [.ref (cw_a (cc_w K) 3), .int 45] J_20 none J_44 ∧ (r = none ∧ J0 = J_44)))))))))) : cw_C (cc_w K) mX10_writePiece [.ref (cw_a (cc_w K) 0), .int x1, .int x2] I r J0 := by
  refine cw_entry okX10_writePiece (Nat.le_of_ble_eq_true rfl) (show cw_B (cc_w K) mX10_writePiece (cw_Z (cc_w K) r J0) 0 0 I 0 [(0, .ref (cw_a (cc_w K) 0)), (1, .int x1), (2, .int x2)] [] from ?_)
  refine cw_iload_n dX10_writePiece_0 1 rfl rfl ?_
  refine cw_if_le (tgt := 13) dX10_writePiece_1 (by decide) (fun q => ?_) (fun q => ?_)
  · have h := h.1 q
    refine cw_aload_n dX10_writePiece_13 0 rfl rfl ?_
    refine cw_getf (C := RX10) (T := TX10) (N := 10) (ci := 8) inX10_writePiece_RX10 0 (show 0 < 32 by decide) rfl rfl 1 (by decide) (by decide +kernel) rfl dX10_writePiece_14 ?_
    refine cw_iload_n dX10_writePiece_17 2 rfl rfl ?_
    refine cw_iload_n dX10_writePiece_18 1 rfl rfl ?_
    refine cw_isub dX10_writePiece_19 ?_
    obtain ⟨J_20, hc_20, h⟩ := h
    refine cw_callV (o := 3) (As := [.int (x2 - x1)]) hc_20 okX8_addNumber rfl gX10_writePiece_X8_addNumber (by decide) (show 3 < 32 by decide) rfl (ci := 7) rfl rfl (Nat.le_of_ble_eq_true rfl) dX10_writePiece_20 ?_
    refine cw_aload_n dX10_writePiece_23 0 rfl rfl ?_
    refine cw_getf (C := RX10) (T := TX10) (N := 10) (ci := 8) inX10_writePiece_RX10 0 (show 0 < 32 by decide) rfl rfl 2 (by decide) (by decide +kernel) rfl dX10_writePiece_24 ?_
    refine cw_getf (C := RX1) (T := TX1) (N := 6) (ci := 0) inX10_writePiece_RX1 5 (show 5 < 32 by decide) rfl rfl 5 (by decide) (by decide +kernel) rfl dX10_writePiece_27 ?_
    refine cw_iload_n dX10_writePiece_30 1 rfl rfl ?_
    obtain ⟨g_31, h⟩ := h
    refine cw_iald 9 (show 9 < 32 by decide) rfl 0 rfl dX10_writePiece_31 g_31 ?_
    refine cw_istore_n dX10_writePiece_32 rfl (by decide) rfl ?_
    refine cw_iload_n dX10_writePiece_33 0 rfl rfl ?_
    refine cw_iconst (v := (-1)) dX10_writePiece_34 (by decide) ?_
    refine cw_icmp_ne (tgt := 48) dX10_writePiece_35 (by decide) (fun q => ?_) (fun q => ?_)
    · have h := h.1 q
      refine cw_iconst (v := 0) dX10_writePiece_48 (by decide) ?_
      refine cw_istore dX10_writePiece_49 (by decide) rfl ?_
      refine cw_sub [2, 1, 0] rfl ?_
      exact h
    · have h := h.2 q
      refine cw_aload_n dX10_writePiece_38 1 rfl rfl ?_
      refine cw_getf (C := RX10) (T := TX10) (N := 10) (ci := 8) inX10_writePiece_RX10 0 (show 0 < 32 by decide) rfl rfl 1 (by decide) (by decide +kernel) rfl dX10_writePiece_39 ?_
      refine cw_bipush (v := 45) dX10_writePiece_42 (by decide) ?_
      obtain ⟨J_44, hc_44, h⟩ := h
      refine cw_callV (o := 3) (As := [.int 45]) hc_44 okX8_add rfl gX10_writePiece_X8_add (by decide) (show 3 < 32 by decide) rfl (ci := 7) rfl rfl (Nat.le_of_ble_eq_true rfl) dX10_writePiece_44 ?_
      exact cw_vret rfl dX10_writePiece_47 h
  · have h := h.2 q
    refine cw_aload_n dX10_writePiece_4 0 rfl rfl ?_
    refine cw_getf (C := RX10) (T := TX10) (N := 10) (ci := 8) inX10_writePiece_RX10 0 (show 0 < 32 by decide) rfl rfl 1 (by decide) (by decide +kernel) rfl dX10_writePiece_5 ?_
    refine cw_bipush (v := 32) dX10_writePiece_8 (by decide) ?_
    obtain ⟨J_10, hc_10, h⟩ := h
    refine cw_callV (o := 3) (As := [.int 32]) hc_10 okX8_add rfl gX10_writePiece_X8_add (by decide) (show 3 < 32 by decide) rfl (ci := 7) rfl rfl (Nat.le_of_ble_eq_true rfl) dX10_writePiece_10 ?_
    refine cw_aload_n dX10_writePiece_13 0 rfl rfl ?_
    refine cw_getf (C := RX10) (T := TX10) (N := 10) (ci := 8) inX10_writePiece_RX10 0 (show 0 < 32 by decide) rfl rfl 1 (by decide) (by decide +kernel) rfl dX10_writePiece_14 ?_
    refine cw_iload_n dX10_writePiece_17 2 rfl rfl ?_
    refine cw_iload_n dX10_writePiece_18 1 rfl rfl ?_
    refine cw_isub dX10_writePiece_19 ?_
    obtain ⟨J_20, hc_20, h⟩ := h
    refine cw_callV (o := 3) (As := [.int (x2 - x1)]) hc_20 okX8_addNumber rfl gX10_writePiece_X8_addNumber (by decide) (show 3 < 32 by decide) rfl (ci := 7) rfl rfl (Nat.le_of_ble_eq_true rfl) dX10_writePiece_20 ?_
    refine cw_aload_n dX10_writePiece_23 0 rfl rfl ?_
    refine cw_getf (C := RX10) (T := TX10) (N := 10) (ci := 8) inX10_writePiece_RX10 0 (show 0 < 32 by decide) rfl rfl 2 (by decide) (by decide +kernel) rfl dX10_writePiece_24 ?_
    refine cw_getf (C := RX1) (T := TX1) (N := 6) (ci := 0) inX10_writePiece_RX1 5 (show 5 < 32 by decide) rfl rfl 5 (by decide) (by decide +kernel) rfl dX10_writePiece_27 ?_
    refine cw_iload_n dX10_writePiece_30 1 rfl rfl ?_
    obtain ⟨g_31, h⟩ := h
    refine cw_iald 9 (show 9 < 32 by decide) rfl 0 rfl dX10_writePiece_31 g_31 ?_
    refine cw_istore_n dX10_writePiece_32 rfl (by decide) rfl ?_
    refine cw_iload_n dX10_writePiece_33 0 rfl rfl ?_
    refine cw_iconst (v := (-1)) dX10_writePiece_34 (by decide) ?_
    refine cw_icmp_ne (tgt := 48) dX10_writePiece_35 (by decide) (fun q => ?_) (fun q => ?_)
    · have h := h.1 q
      refine cw_iconst (v := 0) dX10_writePiece_48 (by decide) ?_
      refine cw_istore dX10_writePiece_49 (by decide) rfl ?_
      refine cw_sub [2, 1, 0] rfl ?_
      exact h
    · have h := h.2 q
      refine cw_aload_n dX10_writePiece_38 1 rfl rfl ?_
      refine cw_getf (C := RX10) (T := TX10) (N := 10) (ci := 8) inX10_writePiece_RX10 0 (show 0 < 32 by decide) rfl rfl 1 (by decide) (by decide +kernel) rfl dX10_writePiece_39 ?_
      refine cw_bipush (v := 45) dX10_writePiece_42 (by decide) ?_
      obtain ⟨J_44, hc_44, h⟩ := h
      refine cw_callV (o := 3) (As := [.int 45]) hc_44 okX8_add rfl gX10_writePiece_X8_add (by decide) (show 3 < 32 by decide) rfl (ci := 7) rfl rfl (Nat.le_of_ble_eq_true rfl) dX10_writePiece_44 ?_
      exact cw_vret rfl dX10_writePiece_47 h
set_option maxRecDepth 20000 in
set_option maxHeartbeats 4000000 in
theorem tbX10_writePiece_0_51 {K : cw_K} {r : Option Value} {J0 I : cw_M} {x3 : Int32} {x4 : Int32} (h : (vp_in x3 6 ∧ (((I 7 x3.toNatClampNeg) ≤ x4 → (r = none ∧ J0 = I)) ∧ (¬ (I 7 x3.toNatClampNeg) ≤ x4 → (vp_in ((x3 * 6) + x4) 36 ∧ (∃ J_84 : cw_M, cw_C (cc_w K) mX8_add [.ref (cw_a (cc_w K) 3), .int (I 6 ((x3 * 6) + x4).toNatClampNeg)] I none J_84 ∧ bX10_writePiece_0_51 K r J0 x3 (x4 + 1) J_84)))))) : bX10_writePiece_0_51 K r J0 x3 x4 I := by
  refine cw_iload dX10_writePiece_51 2 rfl ?_
  refine cw_aload_n dX10_writePiece_53 0 rfl rfl ?_
  refine cw_getf (C := RX10) (T := TX10) (N := 10) (ci := 8) inX10_writePiece_RX10 0 (show 0 < 32 by decide) rfl rfl 2 (by decide) (by decide +kernel) rfl dX10_writePiece_54 ?_
  refine cw_getf (C := RX1) (T := TX1) (N := 6) (ci := 0) inX10_writePiece_RX1 5 (show 5 < 32 by decide) rfl rfl 3 (by decide) (by decide +kernel) rfl dX10_writePiece_57 ?_
  refine cw_iload_n dX10_writePiece_60 1 rfl rfl ?_
  obtain ⟨g_61, h⟩ := h
  refine cw_iald 7 (show 7 < 32 by decide) rfl 0 rfl dX10_writePiece_61 g_61 ?_
  refine cw_icmp_ge (tgt := 93) dX10_writePiece_62 (by decide) (fun q => ?_) (fun q => ?_)
  · have h := h.1 q
    exact cw_vret rfl dX10_writePiece_93 h
  · have h := h.2 q
    refine cw_aload_n dX10_writePiece_65 0 rfl rfl ?_
    refine cw_getf (C := RX10) (T := TX10) (N := 10) (ci := 8) inX10_writePiece_RX10 0 (show 0 < 32 by decide) rfl rfl 1 (by decide) (by decide +kernel) rfl dX10_writePiece_66 ?_
    refine cw_aload_n dX10_writePiece_69 0 rfl rfl ?_
    refine cw_getf (C := RX10) (T := TX10) (N := 10) (ci := 8) inX10_writePiece_RX10 0 (show 0 < 32 by decide) rfl rfl 2 (by decide) (by decide +kernel) rfl dX10_writePiece_70 ?_
    refine cw_getf (C := RX1) (T := TX1) (N := 6) (ci := 0) inX10_writePiece_RX1 5 (show 5 < 32 by decide) rfl rfl 2 (by decide) (by decide +kernel) rfl dX10_writePiece_73 ?_
    refine cw_iload_n dX10_writePiece_76 1 rfl rfl ?_
    refine cw_bipush (v := 6) dX10_writePiece_77 (by decide) ?_
    refine cw_imul dX10_writePiece_79 ?_
    refine cw_iload dX10_writePiece_80 2 rfl ?_
    refine cw_iadd dX10_writePiece_82 ?_
    obtain ⟨g_83, h⟩ := h
    refine cw_iald 6 (show 6 < 32 by decide) rfl 0 rfl dX10_writePiece_83 g_83 ?_
    obtain ⟨J_84, hc_84, h⟩ := h
    refine cw_callV (o := 3) (As := [.int (I 6 ((x3 * 6) + x4).toNatClampNeg)]) hc_84 okX8_add rfl gX10_writePiece_X8_add (by decide) (show 3 < 32 by decide) rfl (ci := 7) rfl rfl (Nat.le_of_ble_eq_true rfl) dX10_writePiece_84 ?_
    refine cw_iinc (v := x4 + 1) dX10_writePiece_87 (j := 2) rfl rfl (by decide) rfl ?_
    refine cw_goto (tgt := 51) dX10_writePiece_90 (by decide) ?_
    refine cw_sub [1, 2, 0] rfl ?_
    exact h
abbrev bX5_advance_15_8 (K : cw_K) (r : Option Value) (J0 : cw_M) (I : cw_M) : Prop := cw_B (cc_w K) mX5_advance (cw_Z (cc_w K) r J0) 0 0 I 8 [(0, .ref (cw_a (cc_w K) 15))] []
abbrev bX5_advance_15_91 (K : cw_K) (r : Option Value) (J0 : cw_M) (I : cw_M) : Prop := cw_B (cc_w K) mX5_advance (cw_Z (cc_w K) r J0) 0 0 I 91 [(0, .ref (cw_a (cc_w K) 15))] []
abbrev bX5_advance_15_115 (K : cw_K) (r : Option Value) (J0 : cw_M) (I : cw_M) : Prop := cw_B (cc_w K) mX5_advance (cw_Z (cc_w K) r J0) 0 0 I 115 [(0, .ref (cw_a (cc_w K) 15))] []
abbrev bX5_advance_15_151 (K : cw_K) (r : Option Value) (J0 : cw_M) (x1 : Int32) (I : cw_M) : Prop := cw_B (cc_w K) mX5_advance (cw_Z (cc_w K) r J0) 0 0 I 151 [(0, .ref (cw_a (cc_w K) 15)), (1, .int x1)] []
set_option maxRecDepth 20000 in
set_option maxHeartbeats 4000000 in
theorem eX5_advance_15 {K : cw_K} {r : Option Value} {J0 I : cw_M} (h : bX5_advance_15_8 K r J0 (cw_st I 15 3 (I 15 4))) : cw_C (cc_w K) mX5_advance [.ref (cw_a (cc_w K) 15)] I r J0 := by
  refine cw_entry okX5_advance (Nat.le_of_ble_eq_true rfl) (show cw_B (cc_w K) mX5_advance (cw_Z (cc_w K) r J0) 0 0 I 0 [(0, .ref (cw_a (cc_w K) 15))] [] from ?_)
  refine cw_aload_n dX5_advance_0 0 rfl rfl ?_
  refine cw_aload_n dX5_advance_1 0 rfl rfl ?_
  refine cw_getf (C := RX5) (T := TX5) (N := 7) (ci := 4) inX5_advance_RX5 15 (show 15 < 32 by decide) rfl rfl 4 (by decide) (by decide +kernel) rfl dX5_advance_2 ?_
  refine cw_putf (C := RX5) (T := TX5) (N := 7) (ci := 4) inX5_advance_RX5 tyX5 tyX5_ok nmX5 15 (show 15 < 32 by decide) rfl rfl 3 (by decide) (by decide +kernel) rfl rfl (show 3 < 7 by decide) rfl dX5_advance_5 ?_
  exact h
set_option maxRecDepth 20000 in
set_option maxHeartbeats 4000000 in
theorem tbX5_advance_15_8 {K : cw_K} {r : Option Value} {J0 I : cw_M} (h : (((I 1 1) ≤ (I 15 3) → (((I 1 1) ≤ (I 15 3) → bX5_advance_15_91 K r J0 (cw_st I 15 2 0)) ∧ (¬ (I 1 1) ≤ (I 15 3) → (vp_in (I 15 3) 600 ∧ (∃ (v_81 : Int32) (J_81 : cw_M), cw_C (cc_w K) mX5_kindOf [.int (I 2 (I 15 3).toNatClampNeg)] I (some (.int v_81)) J_81 ∧ bX5_advance_15_91 K r J0 (cw_st J_81 15 2 v_81)))))) ∧ (¬ (I 1 1) ≤ (I 15 3) → (vp_in (I 15 3) 600 ∧ (∃ (v_34 : Int32) (J_34 : cw_M), cw_C (cc_w K) mX5_kindOf [.int (I 2 (I 15 3).toNatClampNeg)] I (some (.int v_34)) J_34 ∧ ((¬ v_34 = 4 → (((J_34 1 1) ≤ (J_34 15 3) → bX5_advance_15_91 K r J0 (cw_st J_34 15 2 0)) ∧ (¬ (J_34 1 1) ≤ (J_34 15 3) → (vp_in (J_34 15 3) 600 ∧ (∃ (v_81 : Int32) (J_81 : cw_M), cw_C (cc_w K) mX5_kindOf [.int (J_34 2 (J_34 15 3).toNatClampNeg)] J_34 (some (.int v_81)) J_81 ∧ bX5_advance_15_91 K r J0 (cw_st J_81 15 2 v_81)))))) ∧ (v_34 = 4 → bX5_advance_15_8 K r J0 (cw_st J_34 15 3 ((J_34 15 3) + 1))))))))) : bX5_advance_15_8 K r J0  I := by
  refine cw_aload_n dX5_advance_8 0 rfl rfl ?_
  refine cw_getf (C := RX5) (T := TX5) (N := 7) (ci := 4) inX5_advance_RX5 15 (show 15 < 32 by decide) rfl rfl 3 (by decide) (by decide +kernel) rfl dX5_advance_9 ?_
  refine cw_aload_n dX5_advance_12 0 rfl rfl ?_
  refine cw_getf (C := RX5) (T := TX5) (N := 7) (ci := 4) inX5_advance_RX5 15 (show 15 < 32 by decide) rfl rfl 6 (by decide) (by decide +kernel) rfl dX5_advance_13 ?_
  refine cw_getf (C := RX8) (T := TX8) (N := 2) (ci := 7) inX5_advance_RX8 1 (show 1 < 32 by decide) rfl rfl 1 (by decide) (by decide +kernel) rfl dX5_advance_16 ?_
  refine cw_icmp_ge (tgt := 54) dX5_advance_19 (by decide) (fun q => ?_) (fun q => ?_)
  · have h := h.1 q
    refine cw_aload_n dX5_advance_54 0 rfl rfl ?_
    refine cw_aload_n dX5_advance_55 0 rfl rfl ?_
    refine cw_getf (C := RX5) (T := TX5) (N := 7) (ci := 4) inX5_advance_RX5 15 (show 15 < 32 by decide) rfl rfl 3 (by decide) (by decide +kernel) rfl dX5_advance_56 ?_
    refine cw_aload_n dX5_advance_59 0 rfl rfl ?_
    refine cw_getf (C := RX5) (T := TX5) (N := 7) (ci := 4) inX5_advance_RX5 15 (show 15 < 32 by decide) rfl rfl 6 (by decide) (by decide +kernel) rfl dX5_advance_60 ?_
    refine cw_getf (C := RX8) (T := TX8) (N := 2) (ci := 7) inX5_advance_RX8 1 (show 1 < 32 by decide) rfl rfl 1 (by decide) (by decide +kernel) rfl dX5_advance_63 ?_
    refine cw_icmp_ge (tgt := 87) dX5_advance_66 (by decide) (fun q => ?_) (fun q => ?_)
    · have h := h.1 q
      refine cw_iconst (v := 0) dX5_advance_87 (by decide) ?_
      refine cw_putf (C := RX5) (T := TX5) (N := 7) (ci := 4) inX5_advance_RX5 tyX5 tyX5_ok nmX5 15 (show 15 < 32 by decide) rfl rfl 2 (by decide) (by decide +kernel) rfl rfl (show 2 < 7 by decide) rfl dX5_advance_88 ?_
      exact h
    · have h := h.2 q
      refine cw_aload_n dX5_advance_69 0 rfl rfl ?_
      refine cw_getf (C := RX5) (T := TX5) (N := 7) (ci := 4) inX5_advance_RX5 15 (show 15 < 32 by decide) rfl rfl 6 (by decide) (by decide +kernel) rfl dX5_advance_70 ?_
      refine cw_getf (C := RX8) (T := TX8) (N := 2) (ci := 7) inX5_advance_RX8 1 (show 1 < 32 by decide) rfl rfl 0 (by decide) (by decide +kernel) rfl dX5_advance_73 ?_
      refine cw_aload_n dX5_advance_76 0 rfl rfl ?_
      refine cw_getf (C := RX5) (T := TX5) (N := 7) (ci := 4) inX5_advance_RX5 15 (show 15 < 32 by decide) rfl rfl 3 (by decide) (by decide +kernel) rfl dX5_advance_77 ?_
      obtain ⟨g_80, h⟩ := h
      refine cw_iald 2 (show 2 < 32 by decide) rfl 0 rfl dX5_advance_80 g_80 ?_
      obtain ⟨v_81, J_81, hc_81, h⟩ := h
      refine cw_callS (As := [.int (I 2 (I 15 3).toNatClampNeg)]) hc_81 okX5_kindOf rfl gX5_advance_X5_kindOf (by decide) rfl rfl (Nat.le_of_ble_eq_true rfl) dX5_advance_81 ?_
      refine cw_goto (tgt := 88) dX5_advance_84 (by decide) ?_
      refine cw_putf (C := RX5) (T := TX5) (N := 7) (ci := 4) inX5_advance_RX5 tyX5 tyX5_ok nmX5 15 (show 15 < 32 by decide) rfl rfl 2 (by decide) (by decide +kernel) rfl rfl (show 2 < 7 by decide) rfl dX5_advance_88 ?_
      exact h
  · have h := h.2 q
    refine cw_aload_n dX5_advance_22 0 rfl rfl ?_
    refine cw_getf (C := RX5) (T := TX5) (N := 7) (ci := 4) inX5_advance_RX5 15 (show 15 < 32 by decide) rfl rfl 6 (by decide) (by decide +kernel) rfl dX5_advance_23 ?_
    refine cw_getf (C := RX8) (T := TX8) (N := 2) (ci := 7) inX5_advance_RX8 1 (show 1 < 32 by decide) rfl rfl 0 (by decide) (by decide +kernel) rfl dX5_advance_26 ?_
    refine cw_aload_n dX5_advance_29 0 rfl rfl ?_
    refine cw_getf (C := RX5) (T := TX5) (N := 7) (ci := 4) inX5_advance_RX5 15 (show 15 < 32 by decide) rfl rfl 3 (by decide) (by decide +kernel) rfl dX5_advance_30 ?_
    obtain ⟨g_33, h⟩ := h
    refine cw_iald 2 (show 2 < 32 by decide) rfl 0 rfl dX5_advance_33 g_33 ?_
    obtain ⟨v_34, J_34, hc_34, h⟩ := h
    refine cw_callS (As := [.int (I 2 (I 15 3).toNatClampNeg)]) hc_34 okX5_kindOf rfl gX5_advance_X5_kindOf (by decide) rfl rfl (Nat.le_of_ble_eq_true rfl) dX5_advance_34 ?_
    refine cw_iconst (v := 4) dX5_advance_37 (by decide) ?_
    refine cw_icmp_ne (tgt := 54) dX5_advance_38 (by decide) (fun q => ?_) (fun q => ?_)
    · have h := h.1 q
      refine cw_aload_n dX5_advance_54 0 rfl rfl ?_
      refine cw_aload_n dX5_advance_55 0 rfl rfl ?_
      refine cw_getf (C := RX5) (T := TX5) (N := 7) (ci := 4) inX5_advance_RX5 15 (show 15 < 32 by decide) rfl rfl 3 (by decide) (by decide +kernel) rfl dX5_advance_56 ?_
      refine cw_aload_n dX5_advance_59 0 rfl rfl ?_
      refine cw_getf (C := RX5) (T := TX5) (N := 7) (ci := 4) inX5_advance_RX5 15 (show 15 < 32 by decide) rfl rfl 6 (by decide) (by decide +kernel) rfl dX5_advance_60 ?_
      refine cw_getf (C := RX8) (T := TX8) (N := 2) (ci := 7) inX5_advance_RX8 1 (show 1 < 32 by decide) rfl rfl 1 (by decide) (by decide +kernel) rfl dX5_advance_63 ?_
      refine cw_icmp_ge (tgt := 87) dX5_advance_66 (by decide) (fun q => ?_) (fun q => ?_)
      · have h := h.1 q
        refine cw_iconst (v := 0) dX5_advance_87 (by decide) ?_
        refine cw_putf (C := RX5) (T := TX5) (N := 7) (ci := 4) inX5_advance_RX5 tyX5 tyX5_ok nmX5 15 (show 15 < 32 by decide) rfl rfl 2 (by decide) (by decide +kernel) rfl rfl (show 2 < 7 by decide) rfl dX5_advance_88 ?_
        exact h
      · have h := h.2 q
        refine cw_aload_n dX5_advance_69 0 rfl rfl ?_
        refine cw_getf (C := RX5) (T := TX5) (N := 7) (ci := 4) inX5_advance_RX5 15 (show 15 < 32 by decide) rfl rfl 6 (by decide) (by decide +kernel) rfl dX5_advance_70 ?_
        refine cw_getf (C := RX8) (T := TX8) (N := 2) (ci := 7) inX5_advance_RX8 1 (show 1 < 32 by decide) rfl rfl 0 (by decide) (by decide +kernel) rfl dX5_advance_73 ?_
        refine cw_aload_n dX5_advance_76 0 rfl rfl ?_
        refine cw_getf (C := RX5) (T := TX5) (N := 7) (ci := 4) inX5_advance_RX5 15 (show 15 < 32 by decide) rfl rfl 3 (by decide) (by decide +kernel) rfl dX5_advance_77 ?_
        obtain ⟨g_80, h⟩ := h
        refine cw_iald 2 (show 2 < 32 by decide) rfl 0 rfl dX5_advance_80 g_80 ?_
        obtain ⟨v_81, J_81, hc_81, h⟩ := h
        refine cw_callS (As := [.int (J_34 2 (J_34 15 3).toNatClampNeg)]) hc_81 okX5_kindOf rfl gX5_advance_X5_kindOf (by decide) rfl rfl (Nat.le_of_ble_eq_true rfl) dX5_advance_81 ?_
        refine cw_goto (tgt := 88) dX5_advance_84 (by decide) ?_
        refine cw_putf (C := RX5) (T := TX5) (N := 7) (ci := 4) inX5_advance_RX5 tyX5 tyX5_ok nmX5 15 (show 15 < 32 by decide) rfl rfl 2 (by decide) (by decide +kernel) rfl rfl (show 2 < 7 by decide) rfl dX5_advance_88 ?_
        exact h
    · have h := h.2 q
      refine cw_aload_n dX5_advance_41 0 rfl rfl ?_
      refine cw_dup dX5_advance_42 rfl ?_
      refine cw_getf (C := RX5) (T := TX5) (N := 7) (ci := 4) inX5_advance_RX5 15 (show 15 < 32 by decide) rfl rfl 3 (by decide) (by decide +kernel) rfl dX5_advance_43 ?_
      refine cw_iconst (v := 1) dX5_advance_46 (by decide) ?_
      refine cw_iadd dX5_advance_47 ?_
      refine cw_putf (C := RX5) (T := TX5) (N := 7) (ci := 4) inX5_advance_RX5 tyX5 tyX5_ok nmX5 15 (show 15 < 32 by decide) rfl rfl 3 (by decide) (by decide +kernel) rfl rfl (show 3 < 7 by decide) rfl dX5_advance_48 ?_
      refine cw_goto (tgt := 8) dX5_advance_51 (by decide) ?_
      exact h
set_option maxRecDepth 20000 in
set_option maxHeartbeats 4000000 in
theorem tbX5_advance_15_91 {K : cw_K} {r : Option Value} {J0 I : cw_M} (h : ((¬ (I 15 2) = 0 → bX5_advance_15_115 K r J0 (cw_st I 15 4 ((I 15 3) + 1))) ∧ ((I 15 2) = 0 → bX5_advance_15_115 K r J0 (cw_st I 15 4 (I 15 3))))) : bX5_advance_15_91 K r J0  I := by
  refine cw_aload_n dX5_advance_91 0 rfl rfl ?_
  refine cw_aload_n dX5_advance_92 0 rfl rfl ?_
  refine cw_getf (C := RX5) (T := TX5) (N := 7) (ci := 4) inX5_advance_RX5 15 (show 15 < 32 by decide) rfl rfl 2 (by decide) (by decide +kernel) rfl dX5_advance_93 ?_
  refine cw_if_ne (tgt := 106) dX5_advance_96 (by decide) (fun q => ?_) (fun q => ?_)
  · have h := h.1 q
    refine cw_aload_n dX5_advance_106 0 rfl rfl ?_
    refine cw_getf (C := RX5) (T := TX5) (N := 7) (ci := 4) inX5_advance_RX5 15 (show 15 < 32 by decide) rfl rfl 3 (by decide) (by decide +kernel) rfl dX5_advance_107 ?_
    refine cw_iconst (v := 1) dX5_advance_110 (by decide) ?_
    refine cw_iadd dX5_advance_111 ?_
    refine cw_putf (C := RX5) (T := TX5) (N := 7) (ci := 4) inX5_advance_RX5 tyX5 tyX5_ok nmX5 15 (show 15 < 32 by decide) rfl rfl 4 (by decide) (by decide +kernel) rfl rfl (show 4 < 7 by decide) rfl dX5_advance_112 ?_
    exact h
  · have h := h.2 q
    refine cw_aload_n dX5_advance_99 0 rfl rfl ?_
    refine cw_getf (C := RX5) (T := TX5) (N := 7) (ci := 4) inX5_advance_RX5 15 (show 15 < 32 by decide) rfl rfl 3 (by decide) (by decide +kernel) rfl dX5_advance_100 ?_
    refine cw_goto (tgt := 112) dX5_advance_103 (by decide) ?_
    refine cw_putf (C := RX5) (T := TX5) (N := 7) (ci := 4) inX5_advance_RX5 tyX5 tyX5_ok nmX5 15 (show 15 < 32 by decide) rfl rfl 4 (by decide) (by decide +kernel) rfl rfl (show 4 < 7 by decide) rfl dX5_advance_112 ?_
    exact h
set_option maxRecDepth 20000 in
set_option maxHeartbeats 4000000 in
theorem tbX5_advance_15_115 {K : cw_K} {r : Option Value} {J0 I : cw_M} (h : (((I 15 2) = 1 → ((¬ (I 15 2) = 1 → bX5_advance_15_151 K r J0 ((I 15 3) + 2) I) ∧ ((I 15 2) = 1 → bX5_advance_15_151 K r J0 ((I 15 3) + 8) I))) ∧ (¬ (I 15 2) = 1 → ((¬ (I 15 2) = 2 → (r = none ∧ J0 = I)) ∧ ((I 15 2) = 2 → ((¬ (I 15 2) = 1 → bX5_advance_15_151 K r J0 ((I 15 3) + 2) I) ∧ ((I 15 2) = 1 → bX5_advance_15_151 K r J0 ((I 15 3) + 8) I))))))) : bX5_advance_15_115 K r J0  I := by
  refine cw_aload_n dX5_advance_115 0 rfl rfl ?_
  refine cw_getf (C := RX5) (T := TX5) (N := 7) (ci := 4) inX5_advance_RX5 15 (show 15 < 32 by decide) rfl rfl 2 (by decide) (by decide +kernel) rfl dX5_advance_116 ?_
  refine cw_iconst (v := 1) dX5_advance_119 (by decide) ?_
  refine cw_icmp_eq (tgt := 131) dX5_advance_120 (by decide) (fun q => ?_) (fun q => ?_)
  · have h := h.1 q
    refine cw_aload_n dX5_advance_131 0 rfl rfl ?_
    refine cw_getf (C := RX5) (T := TX5) (N := 7) (ci := 4) inX5_advance_RX5 15 (show 15 < 32 by decide) rfl rfl 3 (by decide) (by decide +kernel) rfl dX5_advance_132 ?_
    refine cw_aload_n dX5_advance_135 0 rfl rfl ?_
    refine cw_getf (C := RX5) (T := TX5) (N := 7) (ci := 4) inX5_advance_RX5 15 (show 15 < 32 by decide) rfl rfl 2 (by decide) (by decide +kernel) rfl dX5_advance_136 ?_
    refine cw_iconst (v := 1) dX5_advance_139 (by decide) ?_
    refine cw_icmp_ne (tgt := 148) dX5_advance_140 (by decide) (fun q => ?_) (fun q => ?_)
    · have h := h.1 q
      refine cw_iconst (v := 2) dX5_advance_148 (by decide) ?_
      refine cw_iadd dX5_advance_149 ?_
      refine cw_istore_n dX5_advance_150 rfl (by decide) rfl ?_
      refine cw_sub [1, 0] rfl ?_
      exact h
    · have h := h.2 q
      refine cw_bipush (v := 8) dX5_advance_143 (by decide) ?_
      refine cw_goto (tgt := 149) dX5_advance_145 (by decide) ?_
      refine cw_iadd dX5_advance_149 ?_
      refine cw_istore_n dX5_advance_150 rfl (by decide) rfl ?_
      refine cw_sub [1, 0] rfl ?_
      exact h
  · have h := h.2 q
    refine cw_aload_n dX5_advance_123 0 rfl rfl ?_
    refine cw_getf (C := RX5) (T := TX5) (N := 7) (ci := 4) inX5_advance_RX5 15 (show 15 < 32 by decide) rfl rfl 2 (by decide) (by decide +kernel) rfl dX5_advance_124 ?_
    refine cw_iconst (v := 2) dX5_advance_127 (by decide) ?_
    refine cw_icmp_ne (tgt := 220) dX5_advance_128 (by decide) (fun q => ?_) (fun q => ?_)
    · have h := h.1 q
      exact cw_vret rfl dX5_advance_220 h
    · have h := h.2 q
      refine cw_aload_n dX5_advance_131 0 rfl rfl ?_
      refine cw_getf (C := RX5) (T := TX5) (N := 7) (ci := 4) inX5_advance_RX5 15 (show 15 < 32 by decide) rfl rfl 3 (by decide) (by decide +kernel) rfl dX5_advance_132 ?_
      refine cw_aload_n dX5_advance_135 0 rfl rfl ?_
      refine cw_getf (C := RX5) (T := TX5) (N := 7) (ci := 4) inX5_advance_RX5 15 (show 15 < 32 by decide) rfl rfl 2 (by decide) (by decide +kernel) rfl dX5_advance_136 ?_
      refine cw_iconst (v := 1) dX5_advance_139 (by decide) ?_
      refine cw_icmp_ne (tgt := 148) dX5_advance_140 (by decide) (fun q => ?_) (fun q => ?_)
      · have h := h.1 q
        refine cw_iconst (v := 2) dX5_advance_148 (by decide) ?_
        refine cw_iadd dX5_advance_149 ?_
        refine cw_istore_n dX5_advance_150 rfl (by decide) rfl ?_
        refine cw_sub [1, 0] rfl ?_
        exact h
      · have h := h.2 q
        refine cw_bipush (v := 8) dX5_advance_143 (by decide) ?_
        refine cw_goto (tgt := 149) dX5_advance_145 (by decide) ?_
        refine cw_iadd dX5_advance_149 ?_
        refine cw_istore_n dX5_advance_150 rfl (by decide) rfl ?_
        refine cw_sub [1, 0] rfl ?_
        exact h
set_option maxRecDepth 20000 in
set_option maxHeartbeats 4000000 in
theorem tbX5_advance_15_151 {K : cw_K} {r : Option Value} {J0 I : cw_M} {x1 : Int32} (h : (((I 1 1) ≤ (I 15 4) → (((I 15 4) ≤ x1 → (r = none ∧ J0 = cw_st I 15 2 (I 15 2))) ∧ (¬ (I 15 4) ≤ x1 → (r = none ∧ J0 = cw_st I 15 2 5)))) ∧ (¬ (I 1 1) ≤ (I 15 4) → (vp_in (I 15 4) 600 ∧ (∃ (v_177 : Int32) (J_177 : cw_M), cw_C (cc_w K) mX5_kindOf [.int (I 2 (I 15 4).toNatClampNeg)] I (some (.int v_177)) J_177 ∧ ((¬ v_177 = (J_177 15 2) → (((J_177 15 4) ≤ x1 → (r = none ∧ J0 = cw_st J_177 15 2 (J_177 15 2))) ∧ (¬ (J_177 15 4) ≤ x1 → (r = none ∧ J0 = cw_st J_177 15 2 5)))) ∧ (v_177 = (J_177 15 2) → bX5_advance_15_151 K r J0 x1 (cw_st J_177 15 4 ((J_177 15 4) + 1))))))))) : bX5_advance_15_151 K r J0 x1 I := by
  refine cw_aload_n dX5_advance_151 0 rfl rfl ?_
  refine cw_getf (C := RX5) (T := TX5) (N := 7) (ci := 4) inX5_advance_RX5 15 (show 15 < 32 by decide) rfl rfl 4 (by decide) (by decide +kernel) rfl dX5_advance_152 ?_
  refine cw_aload_n dX5_advance_155 0 rfl rfl ?_
  refine cw_getf (C := RX5) (T := TX5) (N := 7) (ci := 4) inX5_advance_RX5 15 (show 15 < 32 by decide) rfl rfl 6 (by decide) (by decide +kernel) rfl dX5_advance_156 ?_
  refine cw_getf (C := RX8) (T := TX8) (N := 2) (ci := 7) inX5_advance_RX8 1 (show 1 < 32 by decide) rfl rfl 1 (by decide) (by decide +kernel) rfl dX5_advance_159 ?_
  refine cw_icmp_ge (tgt := 200) dX5_advance_162 (by decide) (fun q => ?_) (fun q => ?_)
  · have h := h.1 q
    refine cw_aload_n dX5_advance_200 0 rfl rfl ?_
    refine cw_aload_n dX5_advance_201 0 rfl rfl ?_
    refine cw_getf (C := RX5) (T := TX5) (N := 7) (ci := 4) inX5_advance_RX5 15 (show 15 < 32 by decide) rfl rfl 4 (by decide) (by decide +kernel) rfl dX5_advance_202 ?_
    refine cw_iload_n dX5_advance_205 1 rfl rfl ?_
    refine cw_icmp_le (tgt := 213) dX5_advance_206 (by decide) (fun q => ?_) (fun q => ?_)
    · have h := h.1 q
      refine cw_aload_n dX5_advance_213 0 rfl rfl ?_
      refine cw_getf (C := RX5) (T := TX5) (N := 7) (ci := 4) inX5_advance_RX5 15 (show 15 < 32 by decide) rfl rfl 2 (by decide) (by decide +kernel) rfl dX5_advance_214 ?_
      refine cw_putf (C := RX5) (T := TX5) (N := 7) (ci := 4) inX5_advance_RX5 tyX5 tyX5_ok nmX5 15 (show 15 < 32 by decide) rfl rfl 2 (by decide) (by decide +kernel) rfl rfl (show 2 < 7 by decide) rfl dX5_advance_217 ?_
      exact cw_vret rfl dX5_advance_220 h
    · have h := h.2 q
      refine cw_iconst (v := 5) dX5_advance_209 (by decide) ?_
      refine cw_goto (tgt := 217) dX5_advance_210 (by decide) ?_
      refine cw_putf (C := RX5) (T := TX5) (N := 7) (ci := 4) inX5_advance_RX5 tyX5 tyX5_ok nmX5 15 (show 15 < 32 by decide) rfl rfl 2 (by decide) (by decide +kernel) rfl rfl (show 2 < 7 by decide) rfl dX5_advance_217 ?_
      exact cw_vret rfl dX5_advance_220 h
  · have h := h.2 q
    refine cw_aload_n dX5_advance_165 0 rfl rfl ?_
    refine cw_getf (C := RX5) (T := TX5) (N := 7) (ci := 4) inX5_advance_RX5 15 (show 15 < 32 by decide) rfl rfl 6 (by decide) (by decide +kernel) rfl dX5_advance_166 ?_
    refine cw_getf (C := RX8) (T := TX8) (N := 2) (ci := 7) inX5_advance_RX8 1 (show 1 < 32 by decide) rfl rfl 0 (by decide) (by decide +kernel) rfl dX5_advance_169 ?_
    refine cw_aload_n dX5_advance_172 0 rfl rfl ?_
    refine cw_getf (C := RX5) (T := TX5) (N := 7) (ci := 4) inX5_advance_RX5 15 (show 15 < 32 by decide) rfl rfl 4 (by decide) (by decide +kernel) rfl dX5_advance_173 ?_
    obtain ⟨g_176, h⟩ := h
    refine cw_iald 2 (show 2 < 32 by decide) rfl 0 rfl dX5_advance_176 g_176 ?_
    obtain ⟨v_177, J_177, hc_177, h⟩ := h
    refine cw_callS (As := [.int (I 2 (I 15 4).toNatClampNeg)]) hc_177 okX5_kindOf rfl gX5_advance_X5_kindOf (by decide) rfl rfl (Nat.le_of_ble_eq_true rfl) dX5_advance_177 ?_
    refine cw_aload_n dX5_advance_180 0 rfl rfl ?_
    refine cw_getf (C := RX5) (T := TX5) (N := 7) (ci := 4) inX5_advance_RX5 15 (show 15 < 32 by decide) rfl rfl 2 (by decide) (by decide +kernel) rfl dX5_advance_181 ?_
    refine cw_icmp_ne (tgt := 200) dX5_advance_184 (by decide) (fun q => ?_) (fun q => ?_)
    · have h := h.1 q
      refine cw_aload_n dX5_advance_200 0 rfl rfl ?_
      refine cw_aload_n dX5_advance_201 0 rfl rfl ?_
      refine cw_getf (C := RX5) (T := TX5) (N := 7) (ci := 4) inX5_advance_RX5 15 (show 15 < 32 by decide) rfl rfl 4 (by decide) (by decide +kernel) rfl dX5_advance_202 ?_
      refine cw_iload_n dX5_advance_205 1 rfl rfl ?_
      refine cw_icmp_le (tgt := 213) dX5_advance_206 (by decide) (fun q => ?_) (fun q => ?_)
      · have h := h.1 q
        refine cw_aload_n dX5_advance_213 0 rfl rfl ?_
        refine cw_getf (C := RX5) (T := TX5) (N := 7) (ci := 4) inX5_advance_RX5 15 (show 15 < 32 by decide) rfl rfl 2 (by decide) (by decide +kernel) rfl dX5_advance_214 ?_
        refine cw_putf (C := RX5) (T := TX5) (N := 7) (ci := 4) inX5_advance_RX5 tyX5 tyX5_ok nmX5 15 (show 15 < 32 by decide) rfl rfl 2 (by decide) (by decide +kernel) rfl rfl (show 2 < 7 by decide) rfl dX5_advance_217 ?_
        exact cw_vret rfl dX5_advance_220 h
      · have h := h.2 q
        refine cw_iconst (v := 5) dX5_advance_209 (by decide) ?_
        refine cw_goto (tgt := 217) dX5_advance_210 (by decide) ?_
        refine cw_putf (C := RX5) (T := TX5) (N := 7) (ci := 4) inX5_advance_RX5 tyX5 tyX5_ok nmX5 15 (show 15 < 32 by decide) rfl rfl 2 (by decide) (by decide +kernel) rfl rfl (show 2 < 7 by decide) rfl dX5_advance_217 ?_
        exact cw_vret rfl dX5_advance_220 h
    · have h := h.2 q
      refine cw_aload_n dX5_advance_187 0 rfl rfl ?_
      refine cw_dup dX5_advance_188 rfl ?_
      refine cw_getf (C := RX5) (T := TX5) (N := 7) (ci := 4) inX5_advance_RX5 15 (show 15 < 32 by decide) rfl rfl 4 (by decide) (by decide +kernel) rfl dX5_advance_189 ?_
      refine cw_iconst (v := 1) dX5_advance_192 (by decide) ?_
      refine cw_iadd dX5_advance_193 ?_
      refine cw_putf (C := RX5) (T := TX5) (N := 7) (ci := 4) inX5_advance_RX5 tyX5 tyX5_ok nmX5 15 (show 15 < 32 by decide) rfl rfl 4 (by decide) (by decide +kernel) rfl rfl (show 4 < 7 by decide) rfl dX5_advance_194 ?_
      refine cw_goto (tgt := 151) dX5_advance_197 (by decide) ?_
      exact h
set_option maxRecDepth 20000 in
set_option maxHeartbeats 4000000 in
theorem eX5_begin_15 {K : cw_K} {r : Option Value} {J0 I : cw_M} (h : (∃ J_16 : cw_M, cw_C (cc_w K) mX5_advance [.ref (cw_a (cc_w K) 15)] (cw_st (cw_st (cw_st I 15 0 0) 15 1 (-1)) 15 4 0) none J_16 ∧ (r = none ∧ J0 = J_16))) : cw_C (cc_w K) mX5_begin [.ref (cw_a (cc_w K) 15)] I r J0 := by
  refine cw_entry okX5_begin (Nat.le_of_ble_eq_true rfl) (show cw_B (cc_w K) mX5_begin (cw_Z (cc_w K) r J0) 0 0 I 0 [(0, .ref (cw_a (cc_w K) 15))] [] from ?_)
  refine cw_aload_n dX5_begin_0 0 rfl rfl ?_
  refine cw_iconst (v := 0) dX5_begin_1 (by decide) ?_
  refine cw_putf (C := RX5) (T := TX5) (N := 7) (ci := 4) inX5_begin_RX5 tyX5 tyX5_ok nmX5 15 (show 15 < 32 by decide) rfl rfl 0 (by decide) (by decide +kernel) rfl rfl (show 0 < 7 by decide) rfl dX5_begin_2 ?_
  refine cw_aload_n dX5_begin_5 0 rfl rfl ?_
  refine cw_iconst (v := (-1)) dX5_begin_6 (by decide) ?_
  refine cw_putf (C := RX5) (T := TX5) (N := 7) (ci := 4) inX5_begin_RX5 tyX5 tyX5_ok nmX5 15 (show 15 < 32 by decide) rfl rfl 1 (by decide) (by decide +kernel) rfl rfl (show 1 < 7 by decide) rfl dX5_begin_7 ?_
  refine cw_aload_n dX5_begin_10 0 rfl rfl ?_
  refine cw_iconst (v := 0) dX5_begin_11 (by decide) ?_
  refine cw_putf (C := RX5) (T := TX5) (N := 7) (ci := 4) inX5_begin_RX5 tyX5 tyX5_ok nmX5 15 (show 15 < 32 by decide) rfl rfl 4 (by decide) (by decide +kernel) rfl rfl (show 4 < 7 by decide) rfl dX5_begin_12 ?_
  refine cw_aload_n dX5_begin_15 0 rfl rfl ?_
  obtain ⟨J_16, hc_16, h⟩ := h
  refine cw_callV (o := 15) (As := []) hc_16 okX5_advance rfl gX5_begin_X5_advance (by decide) (show 15 < 32 by decide) rfl (ci := 4) rfl rfl (Nat.le_of_ble_eq_true rfl) dX5_begin_16 ?_
  exact cw_vret rfl dX5_begin_19 h
abbrev bX5_findVerb_15_2 (K : cw_K) (r : Option Value) (J0 : cw_M) (x1 : Int32) (I : cw_M) : Prop := cw_B (cc_w K) mX5_findVerb (cw_Z (cc_w K) r J0) 0 0 I 2 [(0, .ref (cw_a (cc_w K) 15)), (1, .int x1)] []
set_option maxRecDepth 20000 in
set_option maxHeartbeats 4000000 in
theorem eX5_findVerb_15 {K : cw_K} {r : Option Value} {J0 I : cw_M} (h : bX5_findVerb_15_2 K r J0 0 I) : cw_C (cc_w K) mX5_findVerb [.ref (cw_a (cc_w K) 15)] I r J0 := by
  refine cw_entry okX5_findVerb (Nat.le_of_ble_eq_true rfl) (show cw_B (cc_w K) mX5_findVerb (cw_Z (cc_w K) r J0) 0 0 I 0 [(0, .ref (cw_a (cc_w K) 15))] [] from ?_)
  refine cw_iconst (v := 0) dX5_findVerb_0 (by decide) ?_
  refine cw_istore_n dX5_findVerb_1 rfl (by decide) rfl ?_
  refine cw_sub [1, 0] rfl ?_
  exact h
set_option maxRecDepth 20000 in
set_option maxHeartbeats 4000000 in
theorem tbX5_findVerb_15_2 {K : cw_K} {r : Option Value} {J0 I : cw_M} {x1 : Int32} (hFV : cw_FV K) (h : ((8 ≤ x1 → (r = some (.null) ∧ J0 = I)) ∧ (¬ 8 ≤ x1 → (vp_in x1 8 ∧ (x1.toNatClampNeg < 8 ∧ (∃ (v_19 : Int32) (J_19 : cw_M), cw_C (cc_w K) mX5_isWord [.ref (cw_a (cc_w K) 15), .ref (cw_sd K (2 + x1.toNatClampNeg))] I (some (.int v_19)) J_19 ∧ ((v_19 = 0 → bX5_findVerb_15_2 K r J0 (x1 + 1) J_19) ∧ (¬ v_19 = 0 → (vp_in x1 8 ∧ (r = some (.ref (cw_vd K x1.toNatClampNeg)) ∧ J0 = J_19)))))))))) : bX5_findVerb_15_2 K r J0 x1 I := by
  refine cw_iload_n dX5_findVerb_2 1 rfl rfl ?_
  refine cw_gets (fun A U H q => hFV.vs A U H q) (by decide +kernel) dX5_findVerb_3 ?_
  refine cw_tlen (v := 8) (fun A U H q => hFV.va A U H q) rfl dX5_findVerb_6 ?_
  refine cw_icmp_ge (tgt := 37) dX5_findVerb_7 (by decide) (fun q => ?_) (fun q => ?_)
  · have h := h.1 q
    refine cw_null dX5_findVerb_37 ?_
    exact cw_aret rfl (Or.inl ⟨_, rfl⟩) (Or.inl rfl) dX5_findVerb_38 h
  · have h := h.2 q
    refine cw_aload_n dX5_findVerb_10 0 rfl rfl ?_
    refine cw_gets (fun A U H q => hFV.vs A U H q) (by decide +kernel) dX5_findVerb_11 ?_
    refine cw_iload_n dX5_findVerb_14 1 rfl rfl ?_
    obtain ⟨g_15, h⟩ := h
    refine cw_tq (fun A U H q => hFV.va A U H q) g_15 rfl dX5_findVerb_15 ?_
    obtain ⟨g_16, h⟩ := h
    refine cw_getk (fun A U H q => (hFV.word A U H q x1.toNatClampNeg g_16)) (by decide +kernel) dX5_findVerb_16 ?_
    obtain ⟨v_19, J_19, hc_19, h⟩ := h
    refine cw_callV (o := 15) (As := [.ref (cw_sd K (2 + x1.toNatClampNeg))]) hc_19 okX5_isWord rfl gX5_findVerb_X5_isWord (by decide) (show 15 < 32 by decide) rfl (ci := 4) rfl rfl (Nat.le_of_ble_eq_true rfl) dX5_findVerb_19 ?_
    refine cw_if_eq (tgt := 31) dX5_findVerb_22 (by decide) (fun q => ?_) (fun q => ?_)
    · have h := h.1 q
      refine cw_iinc (v := x1 + 1) dX5_findVerb_31 (j := 1) rfl rfl (by decide) rfl ?_
      refine cw_goto (tgt := 2) dX5_findVerb_34 (by decide) ?_
      refine cw_sub [1, 0] rfl ?_
      exact h
    · have h := h.2 q
      refine cw_gets (fun A U H q => hFV.vs A U H q) (by decide +kernel) dX5_findVerb_25 ?_
      refine cw_iload_n dX5_findVerb_28 1 rfl rfl ?_
      obtain ⟨g_29, h⟩ := h
      refine cw_tq (fun A U H q => hFV.va A U H q) g_29 rfl dX5_findVerb_29 ?_
      exact cw_aret rfl (Or.inl ⟨_, rfl⟩) (Or.inr ⟨_, rfl⟩) dX5_findVerb_30 h
set_option maxRecDepth 20000 in
set_option maxHeartbeats 4000000 in
theorem eX5_kindOf {K : cw_K} {r : Option Value} {J0 I : cw_M} {x0 : Int32} (h : ((x0 < 97 → ((x0 < 48 → ((x0 = 32 → (r = some (.int 4) ∧ J0 = I)) ∧ (¬ x0 = 32 → ((¬ x0 = 10 → ((¬ x0 = 59 → (r = some (.int 5) ∧ J0 = I)) ∧ (x0 = 59 → (r = some (.int 3) ∧ J0 = I)))) ∧ (x0 = 10 → (r = some (.int 4) ∧ J0 = I)))))) ∧ (¬ x0 < 48 → ((57 < x0 → ((x0 = 32 → (r = some (.int 4) ∧ J0 = I)) ∧ (¬ x0 = 32 → ((¬ x0 = 10 → ((¬ x0 = 59 → (r = some (.int 5) ∧ J0 = I)) ∧ (x0 = 59 → (r = some (.int 3) ∧ J0 = I)))) ∧ (x0 = 10 → (r = some (.int 4) ∧ J0 = I)))))) ∧ (¬ 57 < x0 → (r = some (.int 2) ∧ J0 = I)))))) ∧ (¬ x0 < 97 → ((122 < x0 → ((x0 < 48 → ((x0 = 32 → (r = some (.int 4) ∧ J0 = I)) ∧ (¬ x0 = 32 → ((¬ x0 = 10 → ((¬ x0 = 59 → (r = some (.int 5) ∧ J0 = I)) ∧ (x0 = 59 → (r = some (.int 3) ∧ J0 = I)))) ∧ (x0 = 10 → (r = some (.int 4) ∧ J0 = I)))))) ∧ (¬ x0 < 48 → ((57 < x0 → ((x0 = 32 → (r = some (.int 4) ∧ J0 = I)) ∧ (¬ x0 = 32 → ((¬ x0 = 10 → ((¬ x0 = 59 → (r = some (.int 5) ∧ J0 = I)) ∧ (x0 = 59 → (r = some (.int 3) ∧ J0 = I)))) ∧ (x0 = 10 → (r = some (.int 4) ∧ J0 = I)))))) ∧ (¬ 57 < x0 → (r = some (.int 2) ∧ J0 = I)))))) ∧ (¬ 122 < x0 → (r = some (.int 1) ∧ J0 = I)))))) : cw_C (cc_w K) mX5_kindOf [.int x0] I r J0 := by
  refine cw_entry okX5_kindOf (Nat.le_of_ble_eq_true rfl) (show cw_B (cc_w K) mX5_kindOf (cw_Z (cc_w K) r J0) 0 0 I 0 [(0, .int x0)] [] from ?_)
  refine cw_iload_n dX5_kindOf_0 0 rfl rfl ?_
  refine cw_bipush (v := 97) dX5_kindOf_1 (by decide) ?_
  refine cw_icmp_lt (tgt := 14) dX5_kindOf_3 (by decide) (fun q => ?_) (fun q => ?_)
  · have h := h.1 q
    refine cw_iload_n dX5_kindOf_14 0 rfl rfl ?_
    refine cw_bipush (v := 48) dX5_kindOf_15 (by decide) ?_
    refine cw_icmp_lt (tgt := 28) dX5_kindOf_17 (by decide) (fun q => ?_) (fun q => ?_)
    · have h := h.1 q
      refine cw_iload_n dX5_kindOf_28 0 rfl rfl ?_
      refine cw_bipush (v := 32) dX5_kindOf_29 (by decide) ?_
      refine cw_icmp_eq (tgt := 40) dX5_kindOf_31 (by decide) (fun q => ?_) (fun q => ?_)
      · have h := h.1 q
        refine cw_iconst (v := 4) dX5_kindOf_40 (by decide) ?_
        exact cw_iret rfl dX5_kindOf_41 h
      · have h := h.2 q
        refine cw_iload_n dX5_kindOf_34 0 rfl rfl ?_
        refine cw_bipush (v := 10) dX5_kindOf_35 (by decide) ?_
        refine cw_icmp_ne (tgt := 42) dX5_kindOf_37 (by decide) (fun q => ?_) (fun q => ?_)
        · have h := h.1 q
          refine cw_iload_n dX5_kindOf_42 0 rfl rfl ?_
          refine cw_bipush (v := 59) dX5_kindOf_43 (by decide) ?_
          refine cw_icmp_ne (tgt := 52) dX5_kindOf_45 (by decide) (fun q => ?_) (fun q => ?_)
          · have h := h.1 q
            refine cw_iconst (v := 5) dX5_kindOf_52 (by decide) ?_
            exact cw_iret rfl dX5_kindOf_53 h
          · have h := h.2 q
            refine cw_iconst (v := 3) dX5_kindOf_48 (by decide) ?_
            refine cw_goto (tgt := 53) dX5_kindOf_49 (by decide) ?_
            exact cw_iret rfl dX5_kindOf_53 h
        · have h := h.2 q
          refine cw_iconst (v := 4) dX5_kindOf_40 (by decide) ?_
          exact cw_iret rfl dX5_kindOf_41 h
    · have h := h.2 q
      refine cw_iload_n dX5_kindOf_20 0 rfl rfl ?_
      refine cw_bipush (v := 57) dX5_kindOf_21 (by decide) ?_
      refine cw_icmp_gt (tgt := 28) dX5_kindOf_23 (by decide) (fun q => ?_) (fun q => ?_)
      · have h := h.1 q
        refine cw_iload_n dX5_kindOf_28 0 rfl rfl ?_
        refine cw_bipush (v := 32) dX5_kindOf_29 (by decide) ?_
        refine cw_icmp_eq (tgt := 40) dX5_kindOf_31 (by decide) (fun q => ?_) (fun q => ?_)
        · have h := h.1 q
          refine cw_iconst (v := 4) dX5_kindOf_40 (by decide) ?_
          exact cw_iret rfl dX5_kindOf_41 h
        · have h := h.2 q
          refine cw_iload_n dX5_kindOf_34 0 rfl rfl ?_
          refine cw_bipush (v := 10) dX5_kindOf_35 (by decide) ?_
          refine cw_icmp_ne (tgt := 42) dX5_kindOf_37 (by decide) (fun q => ?_) (fun q => ?_)
          · have h := h.1 q
            refine cw_iload_n dX5_kindOf_42 0 rfl rfl ?_
            refine cw_bipush (v := 59) dX5_kindOf_43 (by decide) ?_
            refine cw_icmp_ne (tgt := 52) dX5_kindOf_45 (by decide) (fun q => ?_) (fun q => ?_)
            · have h := h.1 q
              refine cw_iconst (v := 5) dX5_kindOf_52 (by decide) ?_
              exact cw_iret rfl dX5_kindOf_53 h
            · have h := h.2 q
              refine cw_iconst (v := 3) dX5_kindOf_48 (by decide) ?_
              refine cw_goto (tgt := 53) dX5_kindOf_49 (by decide) ?_
              exact cw_iret rfl dX5_kindOf_53 h
          · have h := h.2 q
            refine cw_iconst (v := 4) dX5_kindOf_40 (by decide) ?_
            exact cw_iret rfl dX5_kindOf_41 h
      · have h := h.2 q
        refine cw_iconst (v := 2) dX5_kindOf_26 (by decide) ?_
        exact cw_iret rfl dX5_kindOf_27 h
  · have h := h.2 q
    refine cw_iload_n dX5_kindOf_6 0 rfl rfl ?_
    refine cw_bipush (v := 122) dX5_kindOf_7 (by decide) ?_
    refine cw_icmp_gt (tgt := 14) dX5_kindOf_9 (by decide) (fun q => ?_) (fun q => ?_)
    · have h := h.1 q
      refine cw_iload_n dX5_kindOf_14 0 rfl rfl ?_
      refine cw_bipush (v := 48) dX5_kindOf_15 (by decide) ?_
      refine cw_icmp_lt (tgt := 28) dX5_kindOf_17 (by decide) (fun q => ?_) (fun q => ?_)
      · have h := h.1 q
        refine cw_iload_n dX5_kindOf_28 0 rfl rfl ?_
        refine cw_bipush (v := 32) dX5_kindOf_29 (by decide) ?_
        refine cw_icmp_eq (tgt := 40) dX5_kindOf_31 (by decide) (fun q => ?_) (fun q => ?_)
        · have h := h.1 q
          refine cw_iconst (v := 4) dX5_kindOf_40 (by decide) ?_
          exact cw_iret rfl dX5_kindOf_41 h
        · have h := h.2 q
          refine cw_iload_n dX5_kindOf_34 0 rfl rfl ?_
          refine cw_bipush (v := 10) dX5_kindOf_35 (by decide) ?_
          refine cw_icmp_ne (tgt := 42) dX5_kindOf_37 (by decide) (fun q => ?_) (fun q => ?_)
          · have h := h.1 q
            refine cw_iload_n dX5_kindOf_42 0 rfl rfl ?_
            refine cw_bipush (v := 59) dX5_kindOf_43 (by decide) ?_
            refine cw_icmp_ne (tgt := 52) dX5_kindOf_45 (by decide) (fun q => ?_) (fun q => ?_)
            · have h := h.1 q
              refine cw_iconst (v := 5) dX5_kindOf_52 (by decide) ?_
              exact cw_iret rfl dX5_kindOf_53 h
            · have h := h.2 q
              refine cw_iconst (v := 3) dX5_kindOf_48 (by decide) ?_
              refine cw_goto (tgt := 53) dX5_kindOf_49 (by decide) ?_
              exact cw_iret rfl dX5_kindOf_53 h
          · have h := h.2 q
            refine cw_iconst (v := 4) dX5_kindOf_40 (by decide) ?_
            exact cw_iret rfl dX5_kindOf_41 h
      · have h := h.2 q
        refine cw_iload_n dX5_kindOf_20 0 rfl rfl ?_
        refine cw_bipush (v := 57) dX5_kindOf_21 (by decide) ?_
        refine cw_icmp_gt (tgt := 28) dX5_kindOf_23 (by decide) (fun q => ?_) (fun q => ?_)
        · have h := h.1 q
          refine cw_iload_n dX5_kindOf_28 0 rfl rfl ?_
          refine cw_bipush (v := 32) dX5_kindOf_29 (by decide) ?_
          refine cw_icmp_eq (tgt := 40) dX5_kindOf_31 (by decide) (fun q => ?_) (fun q => ?_)
          · have h := h.1 q
            refine cw_iconst (v := 4) dX5_kindOf_40 (by decide) ?_
            exact cw_iret rfl dX5_kindOf_41 h
          · have h := h.2 q
            refine cw_iload_n dX5_kindOf_34 0 rfl rfl ?_
            refine cw_bipush (v := 10) dX5_kindOf_35 (by decide) ?_
            refine cw_icmp_ne (tgt := 42) dX5_kindOf_37 (by decide) (fun q => ?_) (fun q => ?_)
            · have h := h.1 q
              refine cw_iload_n dX5_kindOf_42 0 rfl rfl ?_
              refine cw_bipush (v := 59) dX5_kindOf_43 (by decide) ?_
              refine cw_icmp_ne (tgt := 52) dX5_kindOf_45 (by decide) (fun q => ?_) (fun q => ?_)
              · have h := h.1 q
                refine cw_iconst (v := 5) dX5_kindOf_52 (by decide) ?_
                exact cw_iret rfl dX5_kindOf_53 h
              · have h := h.2 q
                refine cw_iconst (v := 3) dX5_kindOf_48 (by decide) ?_
                refine cw_goto (tgt := 53) dX5_kindOf_49 (by decide) ?_
                exact cw_iret rfl dX5_kindOf_53 h
            · have h := h.2 q
              refine cw_iconst (v := 4) dX5_kindOf_40 (by decide) ?_
              exact cw_iret rfl dX5_kindOf_41 h
        · have h := h.2 q
          refine cw_iconst (v := 2) dX5_kindOf_26 (by decide) ?_
          exact cw_iret rfl dX5_kindOf_27 h
    · have h := h.2 q
      refine cw_iconst (v := 1) dX5_kindOf_12 (by decide) ?_
      exact cw_iret rfl dX5_kindOf_13 h
abbrev bX5_numberOfToken_15_7 (K : cw_K) (r : Option Value) (J0 : cw_M) (x1 : Int32) (x2 : Int32) (I : cw_M) : Prop := cw_B (cc_w K) mX5_numberOfToken (cw_Z (cc_w K) r J0) 0 0 I 7 [(0, .ref (cw_a (cc_w K) 15)), (1, .int x1), (2, .int x2)] []
set_option maxRecDepth 20000 in
set_option maxHeartbeats 4000000 in
theorem eX5_numberOfToken_15 {K : cw_K} {r : Option Value} {J0 I : cw_M} (h : bX5_numberOfToken_15_7 K r J0 0 (I 15 3) I) : cw_C (cc_w K) mX5_numberOfToken [.ref (cw_a (cc_w K) 15)] I r J0 := by
  refine cw_entry okX5_numberOfToken (Nat.le_of_ble_eq_true rfl) (show cw_B (cc_w K) mX5_numberOfToken (cw_Z (cc_w K) r J0) 0 0 I 0 [(0, .ref (cw_a (cc_w K) 15))] [] from ?_)
  refine cw_iconst (v := 0) dX5_numberOfToken_0 (by decide) ?_
  refine cw_istore_n dX5_numberOfToken_1 rfl (by decide) rfl ?_
  refine cw_aload_n dX5_numberOfToken_2 1 rfl rfl ?_
  refine cw_getf (C := RX5) (T := TX5) (N := 7) (ci := 4) inX5_numberOfToken_RX5 15 (show 15 < 32 by decide) rfl rfl 3 (by decide) (by decide +kernel) rfl dX5_numberOfToken_3 ?_
  refine cw_istore_n dX5_numberOfToken_6 rfl (by decide) rfl ?_
  refine cw_sub [2, 1, 0] rfl ?_
  exact h
set_option maxRecDepth 20000 in
set_option maxHeartbeats 4000000 in
theorem tbX5_numberOfToken_15_7 {K : cw_K} {r : Option Value} {J0 I : cw_M} {x1 : Int32} {x2 : Int32} (h : (((I 15 4) ≤ x2 → (r = some (.int x1) ∧ J0 = I)) ∧ (¬ (I 15 4) ≤ x2 → (vp_in x2 600 ∧ bX5_numberOfToken_15_7 K r J0 (((10 * x1) + (I 2 x2.toNatClampNeg)) - 48) (x2 + 1) I)))) : bX5_numberOfToken_15_7 K r J0 x1 x2 I := by
  refine cw_iload_n dX5_numberOfToken_7 2 rfl rfl ?_
  refine cw_aload_n dX5_numberOfToken_8 0 rfl rfl ?_
  refine cw_getf (C := RX5) (T := TX5) (N := 7) (ci := 4) inX5_numberOfToken_RX5 15 (show 15 < 32 by decide) rfl rfl 4 (by decide) (by decide +kernel) rfl dX5_numberOfToken_9 ?_
  refine cw_icmp_ge (tgt := 39) dX5_numberOfToken_12 (by decide) (fun q => ?_) (fun q => ?_)
  · have h := h.1 q
    refine cw_iload_n dX5_numberOfToken_39 1 rfl rfl ?_
    exact cw_iret rfl dX5_numberOfToken_40 h
  · have h := h.2 q
    refine cw_bipush (v := 10) dX5_numberOfToken_15 (by decide) ?_
    refine cw_iload_n dX5_numberOfToken_17 1 rfl rfl ?_
    refine cw_imul dX5_numberOfToken_18 ?_
    refine cw_aload_n dX5_numberOfToken_19 0 rfl rfl ?_
    refine cw_getf (C := RX5) (T := TX5) (N := 7) (ci := 4) inX5_numberOfToken_RX5 15 (show 15 < 32 by decide) rfl rfl 6 (by decide) (by decide +kernel) rfl dX5_numberOfToken_20 ?_
    refine cw_getf (C := RX8) (T := TX8) (N := 2) (ci := 7) inX5_numberOfToken_RX8 1 (show 1 < 32 by decide) rfl rfl 0 (by decide) (by decide +kernel) rfl dX5_numberOfToken_23 ?_
    refine cw_iload_n dX5_numberOfToken_26 2 rfl rfl ?_
    obtain ⟨g_27, h⟩ := h
    refine cw_iald 2 (show 2 < 32 by decide) rfl 0 rfl dX5_numberOfToken_27 g_27 ?_
    refine cw_iadd dX5_numberOfToken_28 ?_
    refine cw_bipush (v := 48) dX5_numberOfToken_29 (by decide) ?_
    refine cw_isub dX5_numberOfToken_31 ?_
    refine cw_istore_n dX5_numberOfToken_32 rfl (by decide) rfl ?_
    refine cw_iinc (v := x2 + 1) dX5_numberOfToken_33 (j := 2) rfl rfl (by decide) rfl ?_
    refine cw_goto (tgt := 7) dX5_numberOfToken_36 (by decide) ?_
    refine cw_sub [2, 1, 0] rfl ?_
    exact h
abbrev bX5_readCommand_15_25_5_27 (K : cw_K) (r : Option Value) (J0 : cw_M) (x3 : Nat) (x4 : Int32) (I : cw_M) : Prop := cw_B (cc_w K) mX5_readCommand (cw_Z (cc_w K) r J0) 0 0 I 27 [(0, .ref (cw_a (cc_w K) 15)), (1, .ref (cw_a (cc_w K) 25)), (2, .ref (cw_a (cc_w K) 5)), (3, .ref (cw_vd K x3)), (4, .int x4)] []
set_option maxRecDepth 20000 in
set_option maxHeartbeats 4000000 in
theorem eX5_readCommand_15_25_5 {K : cw_K} {r : Option Value} {J0 I : cw_M} (h : ((∃ J_1 : cw_M, cw_C (cc_w K) mX5_findVerb [.ref (cw_a (cc_w K) 15)] I (some .null) J_1 ∧ (∃ (v_11 : Int32) (J_11 : cw_M), cw_C (cc_w K) mX5_refuse [.ref (cw_a (cc_w K) 15), .int 1] J_1 (some (.int v_11)) J_11 ∧ ((v_11 = 0 ∨ v_11 = 1) ∧ (r = some (.int v_11) ∧ J0 = J_11)))) ∨ (∃ (v_1 : Nat) (J_1 : cw_M), cw_C (cc_w K) mX5_findVerb [.ref (cw_a (cc_w K) 15)] I (some (.ref (cw_vd K v_1))) J_1 ∧ (∃ J_17 : cw_M, cw_C (cc_w K) mX7_addVerb [.ref (cw_a (cc_w K) 25), .ref (cw_vd K v_1)] J_1 none J_17 ∧ (∃ J_21 : cw_M, cw_C (cc_w K) mX5_advance [.ref (cw_a (cc_w K) 15)] J_17 none J_21 ∧ bX5_readCommand_15_25_5_27 K r J0 v_1 0 J_21))))) : cw_C (cc_w K) mX5_readCommand [.ref (cw_a (cc_w K) 15), .ref (cw_a (cc_w K) 25), .ref (cw_a (cc_w K) 5)] I r J0 := by
  refine cw_entry okX5_readCommand (Nat.le_of_ble_eq_true rfl) (show cw_B (cc_w K) mX5_readCommand (cw_Z (cc_w K) r J0) 0 0 I 0 [(0, .ref (cw_a (cc_w K) 15)), (1, .ref (cw_a (cc_w K) 25)), (2, .ref (cw_a (cc_w K) 5))] [] from ?_)
  refine cw_aload_n dX5_readCommand_0 0 rfl rfl ?_
  rcases h with ⟨J_1, hc_1, h⟩ | ⟨v_1, J_1, hc_1, h⟩
  · refine cw_callV (o := 15) (As := []) hc_1 okX5_findVerb rfl gX5_readCommand_X5_findVerb (by decide) (show 15 < 32 by decide) rfl (ci := 4) rfl rfl (Nat.le_of_ble_eq_true rfl) dX5_readCommand_1 ?_
    refine cw_astoreN_n dX5_readCommand_4 rfl (by decide) rfl ?_
    refine cw_aloadN_n dX5_readCommand_5 0 rfl rfl ?_
    refine cw_ifnonnullN dX5_readCommand_6 ?_
    refine cw_aload_n dX5_readCommand_9 1 rfl rfl ?_
    refine cw_iconst (v := 1) dX5_readCommand_10 (by decide) ?_
    obtain ⟨v_11, J_11, hc_11, h⟩ := h
    refine cw_callV (o := 15) (As := [.int 1]) hc_11 okX5_refuse rfl gX5_readCommand_X5_refuse (by decide) (show 15 < 32 by decide) rfl (ci := 4) rfl rfl (Nat.le_of_ble_eq_true rfl) dX5_readCommand_11 ?_
    exact cw_bret rfl dX5_readCommand_14 h.1 h.2
  · refine cw_callV (o := 15) (As := []) hc_1 okX5_findVerb rfl gX5_readCommand_X5_findVerb (by decide) (show 15 < 32 by decide) rfl (ci := 4) rfl rfl (Nat.le_of_ble_eq_true rfl) dX5_readCommand_1 ?_
    refine cw_astore_n dX5_readCommand_4 rfl (by decide) rfl ?_
    refine cw_aload_n dX5_readCommand_5 0 rfl rfl ?_
    refine cw_ifnonnull (tgt := 15) dX5_readCommand_6 (by decide) ?_
    refine cw_aload_n dX5_readCommand_15 2 rfl rfl ?_
    refine cw_aload_n dX5_readCommand_16 0 rfl rfl ?_
    obtain ⟨J_17, hc_17, h⟩ := h
    refine cw_callV (o := 25) (As := [.ref (cw_vd K v_1)]) hc_17 okX7_addVerb rfl gX5_readCommand_X7_addVerb (by decide) (show 25 < 32 by decide) rfl (ci := 6) rfl rfl (Nat.le_of_ble_eq_true rfl) dX5_readCommand_17 ?_
    refine cw_aload_n dX5_readCommand_20 1 rfl rfl ?_
    obtain ⟨J_21, hc_21, h⟩ := h
    refine cw_callV (o := 15) (As := []) hc_21 okX5_advance rfl gX5_readCommand_X5_advance (by decide) (show 15 < 32 by decide) rfl (ci := 4) rfl rfl (Nat.le_of_ble_eq_true rfl) dX5_readCommand_21 ?_
    refine cw_iconst (v := 0) dX5_readCommand_24 (by decide) ?_
    refine cw_istore dX5_readCommand_25 (by decide) rfl ?_
    refine cw_sub [2, 3, 4, 1, 0] rfl ?_
    exact h
set_option maxRecDepth 20000 in
set_option maxHeartbeats 4000000 in
theorem tbX5_readCommand_15_25_5_27 {K : cw_K} {r : Option Value} {J0 I : cw_M} {x3 : Nat} {x4 : Int32} (hFS : cw_FS (cw_Fc K) (cw_sd K) (cw_sv K)) (hFV : cw_FV K) (h : (x3 < 8 ∧ ((cw_pat x3) < 16 ∧ (((cw_ln (cw_pat x3)) ≤ x4 → (∃ (v_105 : Int32) (J_105 : cw_M), cw_C (cc_w K) mX5_takeSemicolon [.ref (cw_a (cc_w K) 15)] I (some (.int v_105)) J_105 ∧ ((v_105 = 0 ∨ v_105 = 1) ∧ (r = some (.int v_105) ∧ J0 = J_105)))) ∧ (¬ (cw_ln (cw_pat x3)) ≤ x4 → (x3 < 8 ∧ (((cw_pat x3) < 16 ∧ vp_in x4 (cw_tx (cw_pat x3)).length) ∧ ((¬ (cw_ch (cw_pat x3) x4) = 110 → (∃ (v_80 : Int32) (J_80 : cw_M), cw_C (cc_w K) mX5_takeNumber [.ref (cw_a (cc_w K) 15), .int 0, .int 99] I (some (.int v_80)) J_80 ∧ ((¬ v_80 = 0 → (∃ J_95 : cw_M, cw_C (cc_w K) mX7_putArgument [.ref (cw_a (cc_w K) 25), .int x4, .int (J_80 15 5)] J_80 none J_95 ∧ bX5_readCommand_15_25_5_27 K r J0 x3 (x4 + 1) J_95)) ∧ (v_80 = 0 → (r = some (.int 0) ∧ J0 = J_80))))) ∧ ((cw_ch (cw_pat x3) x4) = 110 → (∃ (v_67 : Int32) (J_67 : cw_M), cw_C (cc_w K) mX5_takeKnownName [.ref (cw_a (cc_w K) 15), .ref (cw_a (cc_w K) 5)] I (some (.int v_67)) J_67 ∧ ((v_67 = 0 → (r = some (.int 0) ∧ J0 = J_67)) ∧ (¬ v_67 = 0 → (∃ J_95 : cw_M, cw_C (cc_w K) mX7_putArgument [.ref (cw_a (cc_w K) 25), .int x4, .int (J_67 15 5)] J_67 none J_95 ∧ bX5_readCommand_15_25_5_27 K r J0 x3 (x4 + 1) J_95))))))))))))) : bX5_readCommand_15_25_5_27 K r J0 x3 x4 I := by
  refine cw_iload dX5_readCommand_27 4 rfl ?_
  refine cw_aload_n dX5_readCommand_29 3 rfl rfl ?_
  obtain ⟨g_30, h⟩ := h
  refine cw_getk (fun A U H q => (hFV.pattern A U H q x3 g_30)) (by decide +kernel) dX5_readCommand_30 ?_
  obtain ⟨g_33, h⟩ := h
  refine cw_callK (As := []) (jd_length hFS g_33) okJ0_length_8abf5 rfl gX5_readCommand_J0_length_8abf5 (by decide) (fun A U H q => (hFS.str A U H q g_33).1) rfl (Nat.le_of_ble_eq_true rfl) dX5_readCommand_33 ?_
  refine cw_icmp_ge (tgt := 104) dX5_readCommand_36 (by decide) (fun q => ?_) (fun q => ?_)
  · have h := h.1 q
    refine cw_aload_n dX5_readCommand_104 0 rfl rfl ?_
    obtain ⟨v_105, J_105, hc_105, h⟩ := h
    refine cw_callV (o := 15) (As := []) hc_105 okX5_takeSemicolon rfl gX5_readCommand_X5_takeSemicolon (by decide) (show 15 < 32 by decide) rfl (ci := 4) rfl rfl (Nat.le_of_ble_eq_true rfl) dX5_readCommand_105 ?_
    exact cw_bret rfl dX5_readCommand_108 h.1 h.2
  · have h := h.2 q
    refine cw_aload_n dX5_readCommand_39 3 rfl rfl ?_
    obtain ⟨g_40, h⟩ := h
    refine cw_getk (fun A U H q => (hFV.pattern A U H q x3 g_40)) (by decide +kernel) dX5_readCommand_40 ?_
    refine cw_iload dX5_readCommand_43 4 rfl ?_
    obtain ⟨g_45, h⟩ := h
    refine cw_callK (As := [.int x4]) (jd_charAt hFS g_45.1 g_45.2) okJ0_charAt_5068e rfl gX5_readCommand_J0_charAt_5068e (by decide) (fun A U H q => (hFS.str A U H q g_45.1).1) rfl (Nat.le_of_ble_eq_true rfl) dX5_readCommand_45 ?_
    refine cw_bipush (v := 110) dX5_readCommand_48 (by decide) ?_
    refine cw_icmp_ne (tgt := 57) dX5_readCommand_50 (by decide) (fun q => ?_) (fun q => ?_)
    · have h := h.1 q
      refine cw_iconst (v := 0) dX5_readCommand_57 (by decide) ?_
      refine cw_istore dX5_readCommand_58 (by decide) rfl ?_
      refine cw_iload dX5_readCommand_60 0 rfl ?_
      refine cw_if_eq (tgt := 76) dX5_readCommand_62 (by decide) (fun _ => ?_) (fun q => absurd q (by decide))
      refine cw_aload_n dX5_readCommand_76 1 rfl rfl ?_
      refine cw_iconst (v := 0) dX5_readCommand_77 (by decide) ?_
      refine cw_bipush (v := 99) dX5_readCommand_78 (by decide) ?_
      obtain ⟨v_80, J_80, hc_80, h⟩ := h
      refine cw_callV (o := 15) (As := [.int 0, .int 99]) hc_80 okX5_takeNumber rfl gX5_readCommand_X5_takeNumber (by decide) (show 15 < 32 by decide) rfl (ci := 4) rfl rfl (Nat.le_of_ble_eq_true rfl) dX5_readCommand_80 ?_
      refine cw_if_ne (tgt := 88) dX5_readCommand_83 (by decide) (fun q => ?_) (fun q => ?_)
      · have h := h.1 q
        refine cw_aload_n dX5_readCommand_88 2 rfl rfl ?_
        refine cw_iload dX5_readCommand_89 5 rfl ?_
        refine cw_aload_n dX5_readCommand_91 1 rfl rfl ?_
        refine cw_getf (C := RX5) (T := TX5) (N := 7) (ci := 4) inX5_readCommand_RX5 15 (show 15 < 32 by decide) rfl rfl 5 (by decide) (by decide +kernel) rfl dX5_readCommand_92 ?_
        obtain ⟨J_95, hc_95, h⟩ := h
        refine cw_callV (o := 25) (As := [.int x4, .int (J_80 15 5)]) hc_95 okX7_putArgument rfl gX5_readCommand_X7_putArgument (by decide) (show 25 < 32 by decide) rfl (ci := 6) rfl rfl (Nat.le_of_ble_eq_true rfl) dX5_readCommand_95 ?_
        refine cw_iinc (v := x4 + 1) dX5_readCommand_98 (j := 5) rfl rfl (by decide) rfl ?_
        refine cw_goto (tgt := 27) dX5_readCommand_101 (by decide) ?_
        refine cw_sub [2, 3, 4, 5, 0] rfl ?_
        exact h
      · have h := h.2 q
        refine cw_iconst (v := 0) dX5_readCommand_86 (by decide) ?_
        exact cw_bret rfl dX5_readCommand_87 (by decide) h
    · have h := h.2 q
      refine cw_iconst (v := 1) dX5_readCommand_53 (by decide) ?_
      refine cw_goto (tgt := 58) dX5_readCommand_54 (by decide) ?_
      refine cw_istore dX5_readCommand_58 (by decide) rfl ?_
      refine cw_iload dX5_readCommand_60 0 rfl ?_
      refine cw_if_eq (tgt := 76) dX5_readCommand_62 (by decide) (fun q => absurd q (by decide)) (fun _ => ?_)
      refine cw_aload_n dX5_readCommand_65 1 rfl rfl ?_
      refine cw_aload_n dX5_readCommand_66 3 rfl rfl ?_
      obtain ⟨v_67, J_67, hc_67, h⟩ := h
      refine cw_callV (o := 15) (As := [.ref (cw_a (cc_w K) 5)]) hc_67 okX5_takeKnownName rfl gX5_readCommand_X5_takeKnownName (by decide) (show 15 < 32 by decide) rfl (ci := 4) rfl rfl (Nat.le_of_ble_eq_true rfl) dX5_readCommand_67 ?_
      refine cw_if_eq (tgt := 86) dX5_readCommand_70 (by decide) (fun q => ?_) (fun q => ?_)
      · have h := h.1 q
        refine cw_iconst (v := 0) dX5_readCommand_86 (by decide) ?_
        exact cw_bret rfl dX5_readCommand_87 (by decide) h
      · have h := h.2 q
        refine cw_goto (tgt := 88) dX5_readCommand_73 (by decide) ?_
        refine cw_aload_n dX5_readCommand_88 2 rfl rfl ?_
        refine cw_iload dX5_readCommand_89 5 rfl ?_
        refine cw_aload_n dX5_readCommand_91 1 rfl rfl ?_
        refine cw_getf (C := RX5) (T := TX5) (N := 7) (ci := 4) inX5_readCommand_RX5 15 (show 15 < 32 by decide) rfl rfl 5 (by decide) (by decide +kernel) rfl dX5_readCommand_92 ?_
        obtain ⟨J_95, hc_95, h⟩ := h
        refine cw_callV (o := 25) (As := [.int x4, .int (J_67 15 5)]) hc_95 okX7_putArgument rfl gX5_readCommand_X7_putArgument (by decide) (show 25 < 32 by decide) rfl (ci := 6) rfl rfl (Nat.le_of_ble_eq_true rfl) dX5_readCommand_95 ?_
        refine cw_iinc (v := x4 + 1) dX5_readCommand_98 (j := 5) rfl rfl (by decide) rfl ?_
        refine cw_goto (tgt := 27) dX5_readCommand_101 (by decide) ?_
        refine cw_sub [2, 3, 4, 5, 0] rfl ?_
        exact h
abbrev bX5_readScript_15_25_5_10 (K : cw_K) (r : Option Value) (J0 : cw_M) (x3 : Int32) (I : cw_M) : Prop := cw_B (cc_w K) mX5_readScript (cw_Z (cc_w K) r J0) 0 0 I 10 [(0, .ref (cw_a (cc_w K) 15)), (1, .ref (cw_a (cc_w K) 25)), (2, .ref (cw_a (cc_w K) 5)), (3, .int x3)] []
set_option maxRecDepth 20000 in
set_option maxHeartbeats 4000000 in
theorem eX5_readScript_15_25_5 {K : cw_K} {r : Option Value} {J0 I : cw_M} (h : (∃ J_1 : cw_M, cw_C (cc_w K) mX5_begin [.ref (cw_a (cc_w K) 15)] I none J_1 ∧ (∃ J_5 : cw_M, cw_C (cc_w K) mX7_clear [.ref (cw_a (cc_w K) 25)] J_1 none J_5 ∧ bX5_readScript_15_25_5_10 K r J0 0 J_5))) : cw_C (cc_w K) mX5_readScript [.ref (cw_a (cc_w K) 15), .ref (cw_a (cc_w K) 25), .ref (cw_a (cc_w K) 5)] I r J0 := by
  refine cw_entry okX5_readScript (Nat.le_of_ble_eq_true rfl) (show cw_B (cc_w K) mX5_readScript (cw_Z (cc_w K) r J0) 0 0 I 0 [(0, .ref (cw_a (cc_w K) 15)), (1, .ref (cw_a (cc_w K) 25)), (2, .ref (cw_a (cc_w K) 5))] [] from ?_)
  refine cw_aload_n dX5_readScript_0 0 rfl rfl ?_
  obtain ⟨J_1, hc_1, h⟩ := h
  refine cw_callV (o := 15) (As := []) hc_1 okX5_begin rfl gX5_readScript_X5_begin (by decide) (show 15 < 32 by decide) rfl (ci := 4) rfl rfl (Nat.le_of_ble_eq_true rfl) dX5_readScript_1 ?_
  refine cw_aload_n dX5_readScript_4 1 rfl rfl ?_
  obtain ⟨J_5, hc_5, h⟩ := h
  refine cw_callV (o := 25) (As := []) hc_5 okX7_clear rfl gX5_readScript_X7_clear (by decide) (show 25 < 32 by decide) rfl (ci := 6) rfl rfl (Nat.le_of_ble_eq_true rfl) dX5_readScript_5 ?_
  refine cw_iconst (v := 0) dX5_readScript_8 (by decide) ?_
  refine cw_istore_n dX5_readScript_9 rfl (by decide) rfl ?_
  refine cw_sub [1, 2, 3, 0] rfl ?_
  exact h
set_option maxRecDepth 20000 in
set_option maxHeartbeats 4000000 in
theorem tbX5_readScript_15_25_5_10 {K : cw_K} {r : Option Value} {J0 I : cw_M} {x3 : Int32} (h : ((30 ≤ x3 → (((I 15 2) = 0 → (r = some (.int 1) ∧ J0 = I)) ∧ (¬ (I 15 2) = 0 → ((∃ J_51 : cw_M, cw_C (cc_w K) mX5_findVerb [.ref (cw_a (cc_w K) 15)] I (some .null) J_51 ∧ (∃ (v_62 : Int32) (J_62 : cw_M), cw_C (cc_w K) mX5_refuse [.ref (cw_a (cc_w K) 15), .int 1] J_51 (some (.int v_62)) J_62 ∧ ((v_62 = 0 → (r = some (.int 0) ∧ J0 = J_62)) ∧ (¬ v_62 = 0 → (r = some (.int 1) ∧ J0 = J_62))))) ∨ (∃ (v_51 : Nat) (J_51 : cw_M), cw_C (cc_w K) mX5_findVerb [.ref (cw_a (cc_w K) 15)] I (some (.ref (cw_vd K v_51))) J_51 ∧ (∃ (v_62 : Int32) (J_62 : cw_M), cw_C (cc_w K) mX5_refuse [.ref (cw_a (cc_w K) 15), .int 4] J_51 (some (.int v_62)) J_62 ∧ ((v_62 = 0 → (r = some (.int 0) ∧ J0 = J_62)) ∧ (¬ v_62 = 0 → (r = some (.int 1) ∧ J0 = J_62))))))))) ∧ (¬ 30 ≤ x3 → ((¬ (I 15 2) = 0 → (∃ (v_28 : Int32) (J_28 : cw_M), cw_C (cc_w K) mX5_readCommand [.ref (cw_a (cc_w K) 15), .ref (cw_a (cc_w K) 25), .ref (cw_a (cc_w K) 5)] I (some (.int v_28)) J_28 ∧ ((¬ v_28 = 0 → bX5_readScript_15_25_5_10 K r J0 (x3 + 1) J_28) ∧ (v_28 = 0 → (r = some (.int 0) ∧ J0 = J_28))))) ∧ ((I 15 2) = 0 → (r = some (.int 1) ∧ J0 = I)))))) : bX5_readScript_15_25_5_10 K r J0 x3 I := by
  refine cw_iload_n dX5_readScript_10 3 rfl rfl ?_
  refine cw_bipush (v := 30) dX5_readScript_11 (by decide) ?_
  refine cw_icmp_ge (tgt := 42) dX5_readScript_13 (by decide) (fun q => ?_) (fun q => ?_)
  · have h := h.1 q
    refine cw_aload_n dX5_readScript_42 0 rfl rfl ?_
    refine cw_getf (C := RX5) (T := TX5) (N := 7) (ci := 4) inX5_readScript_RX5 15 (show 15 < 32 by decide) rfl rfl 2 (by decide) (by decide +kernel) rfl dX5_readScript_43 ?_
    refine cw_if_eq (tgt := 68) dX5_readScript_46 (by decide) (fun q => ?_) (fun q => ?_)
    · have h := h.1 q
      refine cw_iconst (v := 1) dX5_readScript_68 (by decide) ?_
      refine cw_goto (tgt := 73) dX5_readScript_69 (by decide) ?_
      exact cw_bret rfl dX5_readScript_73 (by decide) h
    · have h := h.2 q
      refine cw_aload_n dX5_readScript_49 0 rfl rfl ?_
      refine cw_aload_n dX5_readScript_50 0 rfl rfl ?_
      rcases h with ⟨J_51, hc_51, h⟩ | ⟨v_51, J_51, hc_51, h⟩
      · refine cw_callV (o := 15) (As := []) hc_51 okX5_findVerb rfl gX5_readScript_X5_findVerb (by decide) (show 15 < 32 by decide) rfl (ci := 4) rfl rfl (Nat.le_of_ble_eq_true rfl) dX5_readScript_51 ?_
        refine cw_ifnonnullN dX5_readScript_54 ?_
        refine cw_iconst (v := 1) dX5_readScript_57 (by decide) ?_
        refine cw_goto (tgt := 62) dX5_readScript_58 (by decide) ?_
        obtain ⟨v_62, J_62, hc_62, h⟩ := h
        refine cw_callV (o := 15) (As := [.int 1]) hc_62 okX5_refuse rfl gX5_readScript_X5_refuse (by decide) (show 15 < 32 by decide) rfl (ci := 4) rfl rfl (Nat.le_of_ble_eq_true rfl) dX5_readScript_62 ?_
        refine cw_if_eq (tgt := 72) dX5_readScript_65 (by decide) (fun q => ?_) (fun q => ?_)
        · have h := h.1 q
          refine cw_iconst (v := 0) dX5_readScript_72 (by decide) ?_
          exact cw_bret rfl dX5_readScript_73 (by decide) h
        · have h := h.2 q
          refine cw_iconst (v := 1) dX5_readScript_68 (by decide) ?_
          refine cw_goto (tgt := 73) dX5_readScript_69 (by decide) ?_
          exact cw_bret rfl dX5_readScript_73 (by decide) h
      · refine cw_callV (o := 15) (As := []) hc_51 okX5_findVerb rfl gX5_readScript_X5_findVerb (by decide) (show 15 < 32 by decide) rfl (ci := 4) rfl rfl (Nat.le_of_ble_eq_true rfl) dX5_readScript_51 ?_
        refine cw_ifnonnull (tgt := 61) dX5_readScript_54 (by decide) ?_
        refine cw_iconst (v := 4) dX5_readScript_61 (by decide) ?_
        obtain ⟨v_62, J_62, hc_62, h⟩ := h
        refine cw_callV (o := 15) (As := [.int 4]) hc_62 okX5_refuse rfl gX5_readScript_X5_refuse (by decide) (show 15 < 32 by decide) rfl (ci := 4) rfl rfl (Nat.le_of_ble_eq_true rfl) dX5_readScript_62 ?_
        refine cw_if_eq (tgt := 72) dX5_readScript_65 (by decide) (fun q => ?_) (fun q => ?_)
        · have h := h.1 q
          refine cw_iconst (v := 0) dX5_readScript_72 (by decide) ?_
          exact cw_bret rfl dX5_readScript_73 (by decide) h
        · have h := h.2 q
          refine cw_iconst (v := 1) dX5_readScript_68 (by decide) ?_
          refine cw_goto (tgt := 73) dX5_readScript_69 (by decide) ?_
          exact cw_bret rfl dX5_readScript_73 (by decide) h
  · have h := h.2 q
    refine cw_aload_n dX5_readScript_16 0 rfl rfl ?_
    refine cw_getf (C := RX5) (T := TX5) (N := 7) (ci := 4) inX5_readScript_RX5 15 (show 15 < 32 by decide) rfl rfl 2 (by decide) (by decide +kernel) rfl dX5_readScript_17 ?_
    refine cw_if_ne (tgt := 25) dX5_readScript_20 (by decide) (fun q => ?_) (fun q => ?_)
    · have h := h.1 q
      refine cw_aload_n dX5_readScript_25 0 rfl rfl ?_
      refine cw_aload_n dX5_readScript_26 1 rfl rfl ?_
      refine cw_aload_n dX5_readScript_27 2 rfl rfl ?_
      obtain ⟨v_28, J_28, hc_28, h⟩ := h
      refine cw_callV (o := 15) (As := [.ref (cw_a (cc_w K) 25), .ref (cw_a (cc_w K) 5)]) hc_28 okX5_readCommand rfl gX5_readScript_X5_readCommand (by decide) (show 15 < 32 by decide) rfl (ci := 4) rfl rfl (Nat.le_of_ble_eq_true rfl) dX5_readScript_28 ?_
      refine cw_if_ne (tgt := 36) dX5_readScript_31 (by decide) (fun q => ?_) (fun q => ?_)
      · have h := h.1 q
        refine cw_iinc (v := x3 + 1) dX5_readScript_36 (j := 3) rfl rfl (by decide) rfl ?_
        refine cw_goto (tgt := 10) dX5_readScript_39 (by decide) ?_
        refine cw_sub [1, 2, 3, 0] rfl ?_
        exact h
      · have h := h.2 q
        refine cw_iconst (v := 0) dX5_readScript_34 (by decide) ?_
        exact cw_bret rfl dX5_readScript_35 (by decide) h
    · have h := h.2 q
      refine cw_iconst (v := 1) dX5_readScript_23 (by decide) ?_
      exact cw_bret rfl dX5_readScript_24 (by decide) h
abbrev bX5_readSetup_15_10_44 (K : cw_K) (r : Option Value) (J0 : cw_M) (x2 : Int32) (I : cw_M) : Prop := cw_B (cc_w K) mX5_readSetup (cw_Z (cc_w K) r J0) 0 0 I 44 [(0, .ref (cw_a (cc_w K) 15)), (1, .ref (cw_a (cc_w K) 10)), (2, .int x2)] []
set_option maxRecDepth 20000 in
set_option maxHeartbeats 4000000 in
theorem eX5_readSetup_15_10 {K : cw_K} {r : Option Value} {J0 I : cw_M} (hFC : cw_FC K) (h : (∃ J_1 : cw_M, cw_C (cc_w K) mX5_begin [.ref (cw_a (cc_w K) 15)] I none J_1 ∧ (∃ (v_7 : Int32) (J_7 : cw_M), cw_C (cc_w K) mX5_takeWord [.ref (cw_a (cc_w K) 15), .ref (cw_sd K 0)] J_1 (some (.int v_7)) J_7 ∧ ((v_7 = 0 → (r = some (.int 0) ∧ J0 = J_7)) ∧ (¬ v_7 = 0 → (∃ (v_17 : Int32) (J_17 : cw_M), cw_C (cc_w K) mX5_takeNumber [.ref (cw_a (cc_w K) 15), .int 1, .int 24] J_7 (some (.int v_17)) J_17 ∧ ((¬ v_17 = 0 → (∃ (v_34 : Int32) (J_34 : cw_M), cw_C (cc_w K) mX5_takeSemicolon [.ref (cw_a (cc_w K) 15)] (cw_st J_17 10 0 (J_17 15 5)) (some (.int v_34)) J_34 ∧ ((¬ v_34 = 0 → bX5_readSetup_15_10_44 K r J0 0 J_34) ∧ (v_34 = 0 → (r = some (.int 0) ∧ J0 = J_34))))) ∧ (v_17 = 0 → (r = some (.int 0) ∧ J0 = J_17))))))))) : cw_C (cc_w K) mX5_readSetup [.ref (cw_a (cc_w K) 15), .ref (cw_a (cc_w K) 10)] I r J0 := by
  refine cw_entry okX5_readSetup (Nat.le_of_ble_eq_true rfl) (show cw_B (cc_w K) mX5_readSetup (cw_Z (cc_w K) r J0) 0 0 I 0 [(0, .ref (cw_a (cc_w K) 15)), (1, .ref (cw_a (cc_w K) 10))] [] from ?_)
  refine cw_aload_n dX5_readSetup_0 0 rfl rfl ?_
  obtain ⟨J_1, hc_1, h⟩ := h
  refine cw_callV (o := 15) (As := []) hc_1 okX5_begin rfl gX5_readSetup_X5_begin (by decide) (show 15 < 32 by decide) rfl (ci := 4) rfl rfl (Nat.le_of_ble_eq_true rfl) dX5_readSetup_1 ?_
  refine cw_aload_n dX5_readSetup_4 0 rfl rfl ?_
  refine cw_ldcS (tx := "cake") (hFC (RX5, 18, "cake", 0) (by decide +kernel)) dX5_readSetup_5 ?_
  obtain ⟨v_7, J_7, hc_7, h⟩ := h
  refine cw_callV (o := 15) (As := [.ref (cw_sd K 0)]) hc_7 okX5_takeWord rfl gX5_readSetup_X5_takeWord (by decide) (show 15 < 32 by decide) rfl (ci := 4) rfl rfl (Nat.le_of_ble_eq_true rfl) dX5_readSetup_7 ?_
  refine cw_if_eq (tgt := 23) dX5_readSetup_10 (by decide) (fun q => ?_) (fun q => ?_)
  · have h := h.1 q
    refine cw_iconst (v := 0) dX5_readSetup_23 (by decide) ?_
    exact cw_bret rfl dX5_readSetup_24 (by decide) h
  · have h := h.2 q
    refine cw_aload_n dX5_readSetup_13 0 rfl rfl ?_
    refine cw_iconst (v := 1) dX5_readSetup_14 (by decide) ?_
    refine cw_bipush (v := 24) dX5_readSetup_15 (by decide) ?_
    obtain ⟨v_17, J_17, hc_17, h⟩ := h
    refine cw_callV (o := 15) (As := [.int 1, .int 24]) hc_17 okX5_takeNumber rfl gX5_readSetup_X5_takeNumber (by decide) (show 15 < 32 by decide) rfl (ci := 4) rfl rfl (Nat.le_of_ble_eq_true rfl) dX5_readSetup_17 ?_
    refine cw_if_ne (tgt := 25) dX5_readSetup_20 (by decide) (fun q => ?_) (fun q => ?_)
    · have h := h.1 q
      refine cw_aload_n dX5_readSetup_25 1 rfl rfl ?_
      refine cw_aload_n dX5_readSetup_26 0 rfl rfl ?_
      refine cw_getf (C := RX5) (T := TX5) (N := 7) (ci := 4) inX5_readSetup_RX5 15 (show 15 < 32 by decide) rfl rfl 5 (by decide) (by decide +kernel) rfl dX5_readSetup_27 ?_
      refine cw_putf (C := RX1) (T := TX1) (N := 6) (ci := 0) inX5_readSetup_RX1 tyX1 tyX1_ok nmX1 10 (show 10 < 32 by decide) rfl rfl 0 (by decide) (by decide +kernel) rfl rfl (show 0 < 6 by decide) rfl dX5_readSetup_30 ?_
      refine cw_aload_n dX5_readSetup_33 0 rfl rfl ?_
      obtain ⟨v_34, J_34, hc_34, h⟩ := h
      refine cw_callV (o := 15) (As := []) hc_34 okX5_takeSemicolon rfl gX5_readSetup_X5_takeSemicolon (by decide) (show 15 < 32 by decide) rfl (ci := 4) rfl rfl (Nat.le_of_ble_eq_true rfl) dX5_readSetup_34 ?_
      refine cw_if_ne (tgt := 42) dX5_readSetup_37 (by decide) (fun q => ?_) (fun q => ?_)
      · have h := h.1 q
        refine cw_iconst (v := 0) dX5_readSetup_42 (by decide) ?_
        refine cw_istore_n dX5_readSetup_43 rfl (by decide) rfl ?_
        refine cw_sub [1, 2, 0] rfl ?_
        exact h
      · have h := h.2 q
        refine cw_iconst (v := 0) dX5_readSetup_40 (by decide) ?_
        exact cw_bret rfl dX5_readSetup_41 (by decide) h
    · have h := h.2 q
      refine cw_iconst (v := 0) dX5_readSetup_23 (by decide) ?_
      exact cw_bret rfl dX5_readSetup_24 (by decide) h
set_option maxRecDepth 20000 in
set_option maxHeartbeats 4000000 in
theorem tbX5_readSetup_15_10_44 {K : cw_K} {r : Option Value} {J0 I : cw_M} {x2 : Int32} (hFC : cw_FC K) (h : ((6 ≤ x2 → (∃ (v_92 : Int32) (J_92 : cw_M), cw_C (cc_w K) mX5_isWord [.ref (cw_a (cc_w K) 15), .ref (cw_sd K 1)] I (some (.int v_92)) J_92 ∧ ((v_92 = 0 → (∃ (v_103 : Int32) (J_103 : cw_M), cw_C (cc_w K) mX5_refuse [.ref (cw_a (cc_w K) 15), .int 1] J_92 (some (.int v_103)) J_103 ∧ ((v_103 = 0 ∨ v_103 = 1) ∧ (r = some (.int v_103) ∧ J0 = J_103)))) ∧ (¬ v_92 = 0 → (∃ (v_103 : Int32) (J_103 : cw_M), cw_C (cc_w K) mX5_refuse [.ref (cw_a (cc_w K) 15), .int 4] J_92 (some (.int v_103)) J_103 ∧ ((v_103 = 0 ∨ v_103 = 1) ∧ (r = some (.int v_103) ∧ J0 = J_103))))))) ∧ (¬ 6 ≤ x2 → (∃ (v_58 : Int32) (J_58 : cw_M), cw_C (cc_w K) mX5_readSibling [.ref (cw_a (cc_w K) 15), .ref (cw_a (cc_w K) 10), .int x2] (cw_st I 10 1 x2) (some (.int v_58)) J_58 ∧ ((¬ v_58 = 0 → ((¬ ((cw_st J_58 10 1 (x2 + 1)) 15 2) = 0 → bX5_readSetup_15_10_44 K r J0 (x2 + 1) (cw_st J_58 10 1 (x2 + 1))) ∧ (((cw_st J_58 10 1 (x2 + 1)) 15 2) = 0 → (r = some (.int 1) ∧ J0 = cw_st J_58 10 1 (x2 + 1))))) ∧ (v_58 = 0 → (r = some (.int 0) ∧ J0 = J_58))))))) : bX5_readSetup_15_10_44 K r J0 x2 I := by
  refine cw_iload_n dX5_readSetup_44 2 rfl rfl ?_
  refine cw_bipush (v := 6) dX5_readSetup_45 (by decide) ?_
  refine cw_icmp_ge (tgt := 88) dX5_readSetup_47 (by decide) (fun q => ?_) (fun q => ?_)
  · have h := h.1 q
    refine cw_aload_n dX5_readSetup_88 0 rfl rfl ?_
    refine cw_aload_n dX5_readSetup_89 0 rfl rfl ?_
    refine cw_ldcS (tx := "sibling") (hFC (RX5, 51, "sibling", 1) (by decide +kernel)) dX5_readSetup_90 ?_
    obtain ⟨v_92, J_92, hc_92, h⟩ := h
    refine cw_callV (o := 15) (As := [.ref (cw_sd K 1)]) hc_92 okX5_isWord rfl gX5_readSetup_X5_isWord (by decide) (show 15 < 32 by decide) rfl (ci := 4) rfl rfl (Nat.le_of_ble_eq_true rfl) dX5_readSetup_92 ?_
    refine cw_if_eq (tgt := 102) dX5_readSetup_95 (by decide) (fun q => ?_) (fun q => ?_)
    · have h := h.1 q
      refine cw_iconst (v := 1) dX5_readSetup_102 (by decide) ?_
      obtain ⟨v_103, J_103, hc_103, h⟩ := h
      refine cw_callV (o := 15) (As := [.int 1]) hc_103 okX5_refuse rfl gX5_readSetup_X5_refuse (by decide) (show 15 < 32 by decide) rfl (ci := 4) rfl rfl (Nat.le_of_ble_eq_true rfl) dX5_readSetup_103 ?_
      exact cw_bret rfl dX5_readSetup_106 h.1 h.2
    · have h := h.2 q
      refine cw_iconst (v := 4) dX5_readSetup_98 (by decide) ?_
      refine cw_goto (tgt := 103) dX5_readSetup_99 (by decide) ?_
      obtain ⟨v_103, J_103, hc_103, h⟩ := h
      refine cw_callV (o := 15) (As := [.int 4]) hc_103 okX5_refuse rfl gX5_readSetup_X5_refuse (by decide) (show 15 < 32 by decide) rfl (ci := 4) rfl rfl (Nat.le_of_ble_eq_true rfl) dX5_readSetup_103 ?_
      exact cw_bret rfl dX5_readSetup_106 h.1 h.2
  · have h := h.2 q
    refine cw_aload_n dX5_readSetup_50 1 rfl rfl ?_
    refine cw_iload_n dX5_readSetup_51 2 rfl rfl ?_
    refine cw_putf (C := RX1) (T := TX1) (N := 6) (ci := 0) inX5_readSetup_RX1 tyX1 tyX1_ok nmX1 10 (show 10 < 32 by decide) rfl rfl 1 (by decide) (by decide +kernel) rfl rfl (show 1 < 6 by decide) rfl dX5_readSetup_52 ?_
    refine cw_aload_n dX5_readSetup_55 0 rfl rfl ?_
    refine cw_aload_n dX5_readSetup_56 1 rfl rfl ?_
    refine cw_iload_n dX5_readSetup_57 2 rfl rfl ?_
    obtain ⟨v_58, J_58, hc_58, h⟩ := h
    refine cw_callV (o := 15) (As := [.ref (cw_a (cc_w K) 10), .int x2]) hc_58 okX5_readSibling rfl gX5_readSetup_X5_readSibling (by decide) (show 15 < 32 by decide) rfl (ci := 4) rfl rfl (Nat.le_of_ble_eq_true rfl) dX5_readSetup_58 ?_
    refine cw_if_ne (tgt := 66) dX5_readSetup_61 (by decide) (fun q => ?_) (fun q => ?_)
    · have h := h.1 q
      refine cw_aload_n dX5_readSetup_66 1 rfl rfl ?_
      refine cw_iload_n dX5_readSetup_67 2 rfl rfl ?_
      refine cw_iconst (v := 1) dX5_readSetup_68 (by decide) ?_
      refine cw_iadd dX5_readSetup_69 ?_
      refine cw_putf (C := RX1) (T := TX1) (N := 6) (ci := 0) inX5_readSetup_RX1 tyX1 tyX1_ok nmX1 10 (show 10 < 32 by decide) rfl rfl 1 (by decide) (by decide +kernel) rfl rfl (show 1 < 6 by decide) rfl dX5_readSetup_70 ?_
      refine cw_aload_n dX5_readSetup_73 0 rfl rfl ?_
      refine cw_getf (C := RX5) (T := TX5) (N := 7) (ci := 4) inX5_readSetup_RX5 15 (show 15 < 32 by decide) rfl rfl 2 (by decide) (by decide +kernel) rfl dX5_readSetup_74 ?_
      refine cw_if_ne (tgt := 82) dX5_readSetup_77 (by decide) (fun q => ?_) (fun q => ?_)
      · have h := h.1 q
        refine cw_iinc (v := x2 + 1) dX5_readSetup_82 (j := 2) rfl rfl (by decide) rfl ?_
        refine cw_goto (tgt := 44) dX5_readSetup_85 (by decide) ?_
        refine cw_sub [1, 2, 0] rfl ?_
        exact h
      · have h := h.2 q
        refine cw_iconst (v := 1) dX5_readSetup_80 (by decide) ?_
        exact cw_bret rfl dX5_readSetup_81 (by decide) h
    · have h := h.2 q
      refine cw_iconst (v := 0) dX5_readSetup_64 (by decide) ?_
      exact cw_bret rfl dX5_readSetup_65 (by decide) h
abbrev bX5_readSibling_15_10_22 (K : cw_K) (r : Option Value) (J0 : cw_M) (x2 : Int32) (x3 : Int32) (I : cw_M) : Prop := cw_B (cc_w K) mX5_readSibling (cw_Z (cc_w K) r J0) 0 0 I 22 [(0, .ref (cw_a (cc_w K) 15)), (1, .ref (cw_a (cc_w K) 10)), (2, .int x2), (3, .int x3)] []
set_option maxRecDepth 20000 in
set_option maxHeartbeats 4000000 in
theorem eX5_readSibling_15_10 {K : cw_K} {r : Option Value} {J0 I : cw_M} {x2 : Int32} (hFC : cw_FC K) (h : (∃ (v_3 : Int32) (J_3 : cw_M), cw_C (cc_w K) mX5_takeWord [.ref (cw_a (cc_w K) 15), .ref (cw_sd K 1)] I (some (.int v_3)) J_3 ∧ ((v_3 = 0 → (r = some (.int 0) ∧ J0 = J_3)) ∧ (¬ v_3 = 0 → (∃ (v_12 : Int32) (J_12 : cw_M), cw_C (cc_w K) mX5_takeNewName [.ref (cw_a (cc_w K) 15), .ref (cw_a (cc_w K) 10), .int x2] J_3 (some (.int v_12)) J_12 ∧ ((¬ v_12 = 0 → bX5_readSibling_15_10_22 K r J0 x2 0 J_12) ∧ (v_12 = 0 → (r = some (.int 0) ∧ J0 = J_12)))))))) : cw_C (cc_w K) mX5_readSibling [.ref (cw_a (cc_w K) 15), .ref (cw_a (cc_w K) 10), .int x2] I r J0 := by
  refine cw_entry okX5_readSibling (Nat.le_of_ble_eq_true rfl) (show cw_B (cc_w K) mX5_readSibling (cw_Z (cc_w K) r J0) 0 0 I 0 [(0, .ref (cw_a (cc_w K) 15)), (1, .ref (cw_a (cc_w K) 10)), (2, .int x2)] [] from ?_)
  refine cw_aload_n dX5_readSibling_0 0 rfl rfl ?_
  refine cw_ldcS (tx := "sibling") (hFC (RX5, 51, "sibling", 1) (by decide +kernel)) dX5_readSibling_1 ?_
  obtain ⟨v_3, J_3, hc_3, h⟩ := h
  refine cw_callV (o := 15) (As := [.ref (cw_sd K 1)]) hc_3 okX5_takeWord rfl gX5_readSibling_X5_takeWord (by decide) (show 15 < 32 by decide) rfl (ci := 4) rfl rfl (Nat.le_of_ble_eq_true rfl) dX5_readSibling_3 ?_
  refine cw_if_eq (tgt := 18) dX5_readSibling_6 (by decide) (fun q => ?_) (fun q => ?_)
  · have h := h.1 q
    refine cw_iconst (v := 0) dX5_readSibling_18 (by decide) ?_
    exact cw_bret rfl dX5_readSibling_19 (by decide) h
  · have h := h.2 q
    refine cw_aload_n dX5_readSibling_9 0 rfl rfl ?_
    refine cw_aload_n dX5_readSibling_10 1 rfl rfl ?_
    refine cw_iload_n dX5_readSibling_11 2 rfl rfl ?_
    obtain ⟨v_12, J_12, hc_12, h⟩ := h
    refine cw_callV (o := 15) (As := [.ref (cw_a (cc_w K) 10), .int x2]) hc_12 okX5_takeNewName rfl gX5_readSibling_X5_takeNewName (by decide) (show 15 < 32 by decide) rfl (ci := 4) rfl rfl (Nat.le_of_ble_eq_true rfl) dX5_readSibling_12 ?_
    refine cw_if_ne (tgt := 20) dX5_readSibling_15 (by decide) (fun q => ?_) (fun q => ?_)
    · have h := h.1 q
      refine cw_iconst (v := 0) dX5_readSibling_20 (by decide) ?_
      refine cw_istore_n dX5_readSibling_21 rfl (by decide) rfl ?_
      refine cw_sub [1, 2, 3, 0] rfl ?_
      exact h
    · have h := h.2 q
      refine cw_iconst (v := 0) dX5_readSibling_18 (by decide) ?_
      exact cw_bret rfl dX5_readSibling_19 (by decide) h
set_option maxRecDepth 20000 in
set_option maxHeartbeats 4000000 in
theorem tbX5_readSibling_15_10_22 {K : cw_K} {r : Option Value} {J0 I : cw_M} {x2 : Int32} {x3 : Int32} (h : (((I 10 0) ≤ x3 → (∃ (v_59 : Int32) (J_59 : cw_M), cw_C (cc_w K) mX5_takeSemicolon [.ref (cw_a (cc_w K) 15)] I (some (.int v_59)) J_59 ∧ ((v_59 = 0 ∨ v_59 = 1) ∧ (r = some (.int v_59) ∧ J0 = J_59)))) ∧ (¬ (I 10 0) ≤ x3 → (∃ (v_34 : Int32) (J_34 : cw_M), cw_C (cc_w K) mX5_takeNumber [.ref (cw_a (cc_w K) 15), .int 0, .int 9] I (some (.int v_34)) J_34 ∧ ((¬ v_34 = 0 → (∃ J_49 : cw_M, cw_C (cc_w K) mX1_putValue [.ref (cw_a (cc_w K) 10), .int x2, .int x3, .int (J_34 15 5)] J_34 none J_49 ∧ bX5_readSibling_15_10_22 K r J0 x2 (x3 + 1) J_49)) ∧ (v_34 = 0 → (r = some (.int 0) ∧ J0 = J_34))))))) : bX5_readSibling_15_10_22 K r J0 x2 x3 I := by
  refine cw_iload_n dX5_readSibling_22 3 rfl rfl ?_
  refine cw_aload_n dX5_readSibling_23 1 rfl rfl ?_
  refine cw_getf (C := RX1) (T := TX1) (N := 6) (ci := 0) inX5_readSibling_RX1 10 (show 10 < 32 by decide) rfl rfl 0 (by decide) (by decide +kernel) rfl dX5_readSibling_24 ?_
  refine cw_icmp_ge (tgt := 58) dX5_readSibling_27 (by decide) (fun q => ?_) (fun q => ?_)
  · have h := h.1 q
    refine cw_aload_n dX5_readSibling_58 0 rfl rfl ?_
    obtain ⟨v_59, J_59, hc_59, h⟩ := h
    refine cw_callV (o := 15) (As := []) hc_59 okX5_takeSemicolon rfl gX5_readSibling_X5_takeSemicolon (by decide) (show 15 < 32 by decide) rfl (ci := 4) rfl rfl (Nat.le_of_ble_eq_true rfl) dX5_readSibling_59 ?_
    exact cw_bret rfl dX5_readSibling_62 h.1 h.2
  · have h := h.2 q
    refine cw_aload_n dX5_readSibling_30 0 rfl rfl ?_
    refine cw_iconst (v := 0) dX5_readSibling_31 (by decide) ?_
    refine cw_bipush (v := 9) dX5_readSibling_32 (by decide) ?_
    obtain ⟨v_34, J_34, hc_34, h⟩ := h
    refine cw_callV (o := 15) (As := [.int 0, .int 9]) hc_34 okX5_takeNumber rfl gX5_readSibling_X5_takeNumber (by decide) (show 15 < 32 by decide) rfl (ci := 4) rfl rfl (Nat.le_of_ble_eq_true rfl) dX5_readSibling_34 ?_
    refine cw_if_ne (tgt := 42) dX5_readSibling_37 (by decide) (fun q => ?_) (fun q => ?_)
    · have h := h.1 q
      refine cw_aload_n dX5_readSibling_42 1 rfl rfl ?_
      refine cw_iload_n dX5_readSibling_43 2 rfl rfl ?_
      refine cw_iload_n dX5_readSibling_44 3 rfl rfl ?_
      refine cw_aload_n dX5_readSibling_45 0 rfl rfl ?_
      refine cw_getf (C := RX5) (T := TX5) (N := 7) (ci := 4) inX5_readSibling_RX5 15 (show 15 < 32 by decide) rfl rfl 5 (by decide) (by decide +kernel) rfl dX5_readSibling_46 ?_
      obtain ⟨J_49, hc_49, h⟩ := h
      refine cw_callV (o := 10) (As := [.int x2, .int x3, .int (J_34 15 5)]) hc_49 okX1_putValue rfl gX5_readSibling_X1_putValue (by decide) (show 10 < 32 by decide) rfl (ci := 0) rfl rfl (Nat.le_of_ble_eq_true rfl) dX5_readSibling_49 ?_
      refine cw_iinc (v := x3 + 1) dX5_readSibling_52 (j := 3) rfl rfl (by decide) rfl ?_
      refine cw_goto (tgt := 22) dX5_readSibling_55 (by decide) ?_
      refine cw_sub [1, 2, 3, 0] rfl ?_
      exact h
    · have h := h.2 q
      refine cw_iconst (v := 0) dX5_readSibling_40 (by decide) ?_
      exact cw_bret rfl dX5_readSibling_41 (by decide) h
set_option maxRecDepth 20000 in
set_option maxHeartbeats 4000000 in
theorem eX5_refuse_15 {K : cw_K} {r : Option Value} {J0 I : cw_M} {x1 : Int32} (h : (r = some (.int 0) ∧ J0 = cw_st (cw_st I 15 0 x1) 15 1 ((cw_st I 15 0 x1) 15 3))) : cw_C (cc_w K) mX5_refuse [.ref (cw_a (cc_w K) 15), .int x1] I r J0 := by
  refine cw_entry okX5_refuse (Nat.le_of_ble_eq_true rfl) (show cw_B (cc_w K) mX5_refuse (cw_Z (cc_w K) r J0) 0 0 I 0 [(0, .ref (cw_a (cc_w K) 15)), (1, .int x1)] [] from ?_)
  refine cw_aload_n dX5_refuse_0 0 rfl rfl ?_
  refine cw_iload_n dX5_refuse_1 1 rfl rfl ?_
  refine cw_putf (C := RX5) (T := TX5) (N := 7) (ci := 4) inX5_refuse_RX5 tyX5 tyX5_ok nmX5 15 (show 15 < 32 by decide) rfl rfl 0 (by decide) (by decide +kernel) rfl rfl (show 0 < 7 by decide) rfl dX5_refuse_2 ?_
  refine cw_aload_n dX5_refuse_5 0 rfl rfl ?_
  refine cw_aload_n dX5_refuse_6 0 rfl rfl ?_
  refine cw_getf (C := RX5) (T := TX5) (N := 7) (ci := 4) inX5_refuse_RX5 15 (show 15 < 32 by decide) rfl rfl 3 (by decide) (by decide +kernel) rfl dX5_refuse_7 ?_
  refine cw_putf (C := RX5) (T := TX5) (N := 7) (ci := 4) inX5_refuse_RX5 tyX5 tyX5_ok nmX5 15 (show 15 < 32 by decide) rfl rfl 1 (by decide) (by decide +kernel) rfl rfl (show 1 < 7 by decide) rfl dX5_refuse_10 ?_
  refine cw_iconst (v := 0) dX5_refuse_13 (by decide) ?_
  exact cw_bret rfl dX5_refuse_14 (by decide) h
set_option maxRecDepth 20000 in
set_option maxHeartbeats 4000000 in
theorem eX5_takeKnownName_15_5 {K : cw_K} {r : Option Value} {J0 I : cw_M} (h : (((I 15 2) = 1 → (∃ (v_33 : Int32) (J_33 : cw_M), cw_C (cc_w K) mX1_findName [.ref (cw_a (cc_w K) 5), .ref (cw_a (cc_w K) 1), .int (I 15 3), .int ((I 15 4) - (I 15 3))] I (some (.int v_33)) J_33 ∧ ((¬ ((cw_st J_33 15 5 v_33) 15 5) = (-1) → (∃ J_54 : cw_M, cw_C (cc_w K) mX5_advance [.ref (cw_a (cc_w K) 15)] (cw_st J_33 15 5 v_33) none J_54 ∧ (r = some (.int 1) ∧ J0 = J_54))) ∧ (((cw_st J_33 15 5 v_33) 15 5) = (-1) → (∃ (v_49 : Int32) (J_49 : cw_M), cw_C (cc_w K) mX5_refuse [.ref (cw_a (cc_w K) 15), .int 3] (cw_st J_33 15 5 v_33) (some (.int v_49)) J_49 ∧ ((v_49 = 0 ∨ v_49 = 1) ∧ (r = some (.int v_49) ∧ J0 = J_49))))))) ∧ (¬ (I 15 2) = 1 → (∃ (v_10 : Int32) (J_10 : cw_M), cw_C (cc_w K) mX5_refuse [.ref (cw_a (cc_w K) 15), .int 1] I (some (.int v_10)) J_10 ∧ ((v_10 = 0 ∨ v_10 = 1) ∧ (r = some (.int v_10) ∧ J0 = J_10)))))) : cw_C (cc_w K) mX5_takeKnownName [.ref (cw_a (cc_w K) 15), .ref (cw_a (cc_w K) 5)] I r J0 := by
  refine cw_entry okX5_takeKnownName (Nat.le_of_ble_eq_true rfl) (show cw_B (cc_w K) mX5_takeKnownName (cw_Z (cc_w K) r J0) 0 0 I 0 [(0, .ref (cw_a (cc_w K) 15)), (1, .ref (cw_a (cc_w K) 5))] [] from ?_)
  refine cw_aload_n dX5_takeKnownName_0 0 rfl rfl ?_
  refine cw_getf (C := RX5) (T := TX5) (N := 7) (ci := 4) inX5_takeKnownName_RX5 15 (show 15 < 32 by decide) rfl rfl 2 (by decide) (by decide +kernel) rfl dX5_takeKnownName_1 ?_
  refine cw_iconst (v := 1) dX5_takeKnownName_4 (by decide) ?_
  refine cw_icmp_eq (tgt := 14) dX5_takeKnownName_5 (by decide) (fun q => ?_) (fun q => ?_)
  · have h := h.1 q
    refine cw_aload_n dX5_takeKnownName_14 0 rfl rfl ?_
    refine cw_aload_n dX5_takeKnownName_15 1 rfl rfl ?_
    refine cw_aload_n dX5_takeKnownName_16 0 rfl rfl ?_
    refine cw_getf (C := RX5) (T := TX5) (N := 7) (ci := 4) inX5_takeKnownName_RX5 15 (show 15 < 32 by decide) rfl rfl 6 (by decide) (by decide +kernel) rfl dX5_takeKnownName_17 ?_
    refine cw_aload_n dX5_takeKnownName_20 0 rfl rfl ?_
    refine cw_getf (C := RX5) (T := TX5) (N := 7) (ci := 4) inX5_takeKnownName_RX5 15 (show 15 < 32 by decide) rfl rfl 3 (by decide) (by decide +kernel) rfl dX5_takeKnownName_21 ?_
    refine cw_aload_n dX5_takeKnownName_24 0 rfl rfl ?_
    refine cw_getf (C := RX5) (T := TX5) (N := 7) (ci := 4) inX5_takeKnownName_RX5 15 (show 15 < 32 by decide) rfl rfl 4 (by decide) (by decide +kernel) rfl dX5_takeKnownName_25 ?_
    refine cw_aload_n dX5_takeKnownName_28 0 rfl rfl ?_
    refine cw_getf (C := RX5) (T := TX5) (N := 7) (ci := 4) inX5_takeKnownName_RX5 15 (show 15 < 32 by decide) rfl rfl 3 (by decide) (by decide +kernel) rfl dX5_takeKnownName_29 ?_
    refine cw_isub dX5_takeKnownName_32 ?_
    obtain ⟨v_33, J_33, hc_33, h⟩ := h
    refine cw_callV (o := 5) (As := [.ref (cw_a (cc_w K) 1), .int (I 15 3), .int ((I 15 4) - (I 15 3))]) hc_33 okX1_findName rfl gX5_takeKnownName_X1_findName (by decide) (show 5 < 32 by decide) rfl (ci := 0) rfl rfl (Nat.le_of_ble_eq_true rfl) dX5_takeKnownName_33 ?_
    refine cw_putf (C := RX5) (T := TX5) (N := 7) (ci := 4) inX5_takeKnownName_RX5 tyX5 tyX5_ok nmX5 15 (show 15 < 32 by decide) rfl rfl 5 (by decide) (by decide +kernel) rfl rfl (show 5 < 7 by decide) rfl dX5_takeKnownName_36 ?_
    refine cw_aload_n dX5_takeKnownName_39 0 rfl rfl ?_
    refine cw_getf (C := RX5) (T := TX5) (N := 7) (ci := 4) inX5_takeKnownName_RX5 15 (show 15 < 32 by decide) rfl rfl 5 (by decide) (by decide +kernel) rfl dX5_takeKnownName_40 ?_
    refine cw_iconst (v := (-1)) dX5_takeKnownName_43 (by decide) ?_
    refine cw_icmp_ne (tgt := 53) dX5_takeKnownName_44 (by decide) (fun q => ?_) (fun q => ?_)
    · have h := h.1 q
      refine cw_aload_n dX5_takeKnownName_53 0 rfl rfl ?_
      obtain ⟨J_54, hc_54, h⟩ := h
      refine cw_callV (o := 15) (As := []) hc_54 okX5_advance rfl gX5_takeKnownName_X5_advance (by decide) (show 15 < 32 by decide) rfl (ci := 4) rfl rfl (Nat.le_of_ble_eq_true rfl) dX5_takeKnownName_54 ?_
      refine cw_iconst (v := 1) dX5_takeKnownName_57 (by decide) ?_
      exact cw_bret rfl dX5_takeKnownName_58 (by decide) h
    · have h := h.2 q
      refine cw_aload_n dX5_takeKnownName_47 0 rfl rfl ?_
      refine cw_iconst (v := 3) dX5_takeKnownName_48 (by decide) ?_
      obtain ⟨v_49, J_49, hc_49, h⟩ := h
      refine cw_callV (o := 15) (As := [.int 3]) hc_49 okX5_refuse rfl gX5_takeKnownName_X5_refuse (by decide) (show 15 < 32 by decide) rfl (ci := 4) rfl rfl (Nat.le_of_ble_eq_true rfl) dX5_takeKnownName_49 ?_
      exact cw_bret rfl dX5_takeKnownName_52 h.1 h.2
  · have h := h.2 q
    refine cw_aload_n dX5_takeKnownName_8 0 rfl rfl ?_
    refine cw_iconst (v := 1) dX5_takeKnownName_9 (by decide) ?_
    obtain ⟨v_10, J_10, hc_10, h⟩ := h
    refine cw_callV (o := 15) (As := [.int 1]) hc_10 okX5_refuse rfl gX5_takeKnownName_X5_refuse (by decide) (show 15 < 32 by decide) rfl (ci := 4) rfl rfl (Nat.le_of_ble_eq_true rfl) dX5_takeKnownName_10 ?_
    exact cw_bret rfl dX5_takeKnownName_13 h.1 h.2
set_option maxRecDepth 20000 in
set_option maxHeartbeats 4000000 in
theorem eX5_takeNewName_15_10 {K : cw_K} {r : Option Value} {J0 I : cw_M} {x2 : Int32} (h : (((I 15 2) = 1 → ((6 < ((I 15 4) - (I 15 3)) → (∃ (v_49 : Int32) (J_49 : cw_M), cw_C (cc_w K) mX5_refuse [.ref (cw_a (cc_w K) 15), .int 3] I (some (.int v_49)) J_49 ∧ ((v_49 = 0 ∨ v_49 = 1) ∧ (r = some (.int v_49) ∧ J0 = J_49)))) ∧ (¬ 6 < ((I 15 4) - (I 15 3)) → (∃ (v_40 : Int32) (J_40 : cw_M), cw_C (cc_w K) mX1_findName [.ref (cw_a (cc_w K) 10), .ref (cw_a (cc_w K) 1), .int (I 15 3), .int ((I 15 4) - (I 15 3))] I (some (.int v_40)) J_40 ∧ ((v_40 = (-1) → (∃ J_64 : cw_M, cw_C (cc_w K) mX1_putName [.ref (cw_a (cc_w K) 10), .int x2, .ref (cw_a (cc_w K) 1), .int (J_40 15 3), .int ((I 15 4) - (I 15 3))] J_40 none J_64 ∧ (∃ J_68 : cw_M, cw_C (cc_w K) mX5_advance [.ref (cw_a (cc_w K) 15)] J_64 none J_68 ∧ (r = some (.int 1) ∧ J0 = J_68)))) ∧ (¬ v_40 = (-1) → (∃ (v_49 : Int32) (J_49 : cw_M), cw_C (cc_w K) mX5_refuse [.ref (cw_a (cc_w K) 15), .int 3] J_40 (some (.int v_49)) J_49 ∧ ((v_49 = 0 ∨ v_49 = 1) ∧ (r = some (.int v_49) ∧ J0 = J_49))))))))) ∧ (¬ (I 15 2) = 1 → (∃ (v_10 : Int32) (J_10 : cw_M), cw_C (cc_w K) mX5_refuse [.ref (cw_a (cc_w K) 15), .int 1] I (some (.int v_10)) J_10 ∧ ((v_10 = 0 ∨ v_10 = 1) ∧ (r = some (.int v_10) ∧ J0 = J_10)))))) : cw_C (cc_w K) mX5_takeNewName [.ref (cw_a (cc_w K) 15), .ref (cw_a (cc_w K) 10), .int x2] I r J0 := by
  refine cw_entry okX5_takeNewName (Nat.le_of_ble_eq_true rfl) (show cw_B (cc_w K) mX5_takeNewName (cw_Z (cc_w K) r J0) 0 0 I 0 [(0, .ref (cw_a (cc_w K) 15)), (1, .ref (cw_a (cc_w K) 10)), (2, .int x2)] [] from ?_)
  refine cw_aload_n dX5_takeNewName_0 0 rfl rfl ?_
  refine cw_getf (C := RX5) (T := TX5) (N := 7) (ci := 4) inX5_takeNewName_RX5 15 (show 15 < 32 by decide) rfl rfl 2 (by decide) (by decide +kernel) rfl dX5_takeNewName_1 ?_
  refine cw_iconst (v := 1) dX5_takeNewName_4 (by decide) ?_
  refine cw_icmp_eq (tgt := 14) dX5_takeNewName_5 (by decide) (fun q => ?_) (fun q => ?_)
  · have h := h.1 q
    refine cw_aload_n dX5_takeNewName_14 0 rfl rfl ?_
    refine cw_getf (C := RX5) (T := TX5) (N := 7) (ci := 4) inX5_takeNewName_RX5 15 (show 15 < 32 by decide) rfl rfl 4 (by decide) (by decide +kernel) rfl dX5_takeNewName_15 ?_
    refine cw_aload_n dX5_takeNewName_18 0 rfl rfl ?_
    refine cw_getf (C := RX5) (T := TX5) (N := 7) (ci := 4) inX5_takeNewName_RX5 15 (show 15 < 32 by decide) rfl rfl 3 (by decide) (by decide +kernel) rfl dX5_takeNewName_19 ?_
    refine cw_isub dX5_takeNewName_22 ?_
    refine cw_istore_n dX5_takeNewName_23 rfl (by decide) rfl ?_
    refine cw_iload_n dX5_takeNewName_24 0 rfl rfl ?_
    refine cw_bipush (v := 6) dX5_takeNewName_25 (by decide) ?_
    refine cw_icmp_gt (tgt := 47) dX5_takeNewName_27 (by decide) (fun q => ?_) (fun q => ?_)
    · have h := h.1 q
      refine cw_aload_n dX5_takeNewName_47 1 rfl rfl ?_
      refine cw_iconst (v := 3) dX5_takeNewName_48 (by decide) ?_
      obtain ⟨v_49, J_49, hc_49, h⟩ := h
      refine cw_callV (o := 15) (As := [.int 3]) hc_49 okX5_refuse rfl gX5_takeNewName_X5_refuse (by decide) (show 15 < 32 by decide) rfl (ci := 4) rfl rfl (Nat.le_of_ble_eq_true rfl) dX5_takeNewName_49 ?_
      exact cw_bret rfl dX5_takeNewName_52 h.1 h.2
    · have h := h.2 q
      refine cw_aload_n dX5_takeNewName_30 2 rfl rfl ?_
      refine cw_aload_n dX5_takeNewName_31 1 rfl rfl ?_
      refine cw_getf (C := RX5) (T := TX5) (N := 7) (ci := 4) inX5_takeNewName_RX5 15 (show 15 < 32 by decide) rfl rfl 6 (by decide) (by decide +kernel) rfl dX5_takeNewName_32 ?_
      refine cw_aload_n dX5_takeNewName_35 1 rfl rfl ?_
      refine cw_getf (C := RX5) (T := TX5) (N := 7) (ci := 4) inX5_takeNewName_RX5 15 (show 15 < 32 by decide) rfl rfl 3 (by decide) (by decide +kernel) rfl dX5_takeNewName_36 ?_
      refine cw_iload_n dX5_takeNewName_39 0 rfl rfl ?_
      obtain ⟨v_40, J_40, hc_40, h⟩ := h
      refine cw_callV (o := 10) (As := [.ref (cw_a (cc_w K) 1), .int (I 15 3), .int ((I 15 4) - (I 15 3))]) hc_40 okX1_findName rfl gX5_takeNewName_X1_findName (by decide) (show 10 < 32 by decide) rfl (ci := 0) rfl rfl (Nat.le_of_ble_eq_true rfl) dX5_takeNewName_40 ?_
      refine cw_iconst (v := (-1)) dX5_takeNewName_43 (by decide) ?_
      refine cw_icmp_eq (tgt := 53) dX5_takeNewName_44 (by decide) (fun q => ?_) (fun q => ?_)
      · have h := h.1 q
        refine cw_aload_n dX5_takeNewName_53 2 rfl rfl ?_
        refine cw_iload_n dX5_takeNewName_54 3 rfl rfl ?_
        refine cw_aload_n dX5_takeNewName_55 1 rfl rfl ?_
        refine cw_getf (C := RX5) (T := TX5) (N := 7) (ci := 4) inX5_takeNewName_RX5 15 (show 15 < 32 by decide) rfl rfl 6 (by decide) (by decide +kernel) rfl dX5_takeNewName_56 ?_
        refine cw_aload_n dX5_takeNewName_59 1 rfl rfl ?_
        refine cw_getf (C := RX5) (T := TX5) (N := 7) (ci := 4) inX5_takeNewName_RX5 15 (show 15 < 32 by decide) rfl rfl 3 (by decide) (by decide +kernel) rfl dX5_takeNewName_60 ?_
        refine cw_iload_n dX5_takeNewName_63 0 rfl rfl ?_
        obtain ⟨J_64, hc_64, h⟩ := h
        refine cw_callV (o := 10) (As := [.int x2, .ref (cw_a (cc_w K) 1), .int (J_40 15 3), .int ((I 15 4) - (I 15 3))]) hc_64 okX1_putName rfl gX5_takeNewName_X1_putName (by decide) (show 10 < 32 by decide) rfl (ci := 0) rfl rfl (Nat.le_of_ble_eq_true rfl) dX5_takeNewName_64 ?_
        refine cw_aload_n dX5_takeNewName_67 1 rfl rfl ?_
        obtain ⟨J_68, hc_68, h⟩ := h
        refine cw_callV (o := 15) (As := []) hc_68 okX5_advance rfl gX5_takeNewName_X5_advance (by decide) (show 15 < 32 by decide) rfl (ci := 4) rfl rfl (Nat.le_of_ble_eq_true rfl) dX5_takeNewName_68 ?_
        refine cw_iconst (v := 1) dX5_takeNewName_71 (by decide) ?_
        exact cw_bret rfl dX5_takeNewName_72 (by decide) h
      · have h := h.2 q
        refine cw_aload_n dX5_takeNewName_47 1 rfl rfl ?_
        refine cw_iconst (v := 3) dX5_takeNewName_48 (by decide) ?_
        obtain ⟨v_49, J_49, hc_49, h⟩ := h
        refine cw_callV (o := 15) (As := [.int 3]) hc_49 okX5_refuse rfl gX5_takeNewName_X5_refuse (by decide) (show 15 < 32 by decide) rfl (ci := 4) rfl rfl (Nat.le_of_ble_eq_true rfl) dX5_takeNewName_49 ?_
        exact cw_bret rfl dX5_takeNewName_52 h.1 h.2
  · have h := h.2 q
    refine cw_aload_n dX5_takeNewName_8 0 rfl rfl ?_
    refine cw_iconst (v := 1) dX5_takeNewName_9 (by decide) ?_
    obtain ⟨v_10, J_10, hc_10, h⟩ := h
    refine cw_callV (o := 15) (As := [.int 1]) hc_10 okX5_refuse rfl gX5_takeNewName_X5_refuse (by decide) (show 15 < 32 by decide) rfl (ci := 4) rfl rfl (Nat.le_of_ble_eq_true rfl) dX5_takeNewName_10 ?_
    exact cw_bret rfl dX5_takeNewName_13 h.1 h.2
set_option maxRecDepth 20000 in
set_option maxHeartbeats 4000000 in
theorem eX5_takeNumber_15 {K : cw_K} {r : Option Value} {J0 I : cw_M} {x1 : Int32} {x2 : Int32} (h : (((I 15 2) = 2 → (∃ (v_16 : Int32) (J_16 : cw_M), cw_C (cc_w K) mX5_numberOfToken [.ref (cw_a (cc_w K) 15)] I (some (.int v_16)) J_16 ∧ ((((cw_st J_16 15 5 v_16) 15 5) < x1 → (∃ (v_40 : Int32) (J_40 : cw_M), cw_C (cc_w K) mX5_refuse [.ref (cw_a (cc_w K) 15), .int 2] (cw_st J_16 15 5 v_16) (some (.int v_40)) J_40 ∧ ((v_40 = 0 ∨ v_40 = 1) ∧ (r = some (.int v_40) ∧ J0 = J_40)))) ∧ (¬ ((cw_st J_16 15 5 v_16) 15 5) < x1 → ((((cw_st J_16 15 5 v_16) 15 5) ≤ x2 → (∃ J_45 : cw_M, cw_C (cc_w K) mX5_advance [.ref (cw_a (cc_w K) 15)] (cw_st J_16 15 5 v_16) none J_45 ∧ (r = some (.int 1) ∧ J0 = J_45))) ∧ (¬ ((cw_st J_16 15 5 v_16) 15 5) ≤ x2 → (∃ (v_40 : Int32) (J_40 : cw_M), cw_C (cc_w K) mX5_refuse [.ref (cw_a (cc_w K) 15), .int 2] (cw_st J_16 15 5 v_16) (some (.int v_40)) J_40 ∧ ((v_40 = 0 ∨ v_40 = 1) ∧ (r = some (.int v_40) ∧ J0 = J_40))))))))) ∧ (¬ (I 15 2) = 2 → (∃ (v_10 : Int32) (J_10 : cw_M), cw_C (cc_w K) mX5_refuse [.ref (cw_a (cc_w K) 15), .int 1] I (some (.int v_10)) J_10 ∧ ((v_10 = 0 ∨ v_10 = 1) ∧ (r = some (.int v_10) ∧ J0 = J_10)))))) : cw_C (cc_w K) mX5_takeNumber [.ref (cw_a (cc_w K) 15), .int x1, .int x2] I r J0 := by
  refine cw_entry okX5_takeNumber (Nat.le_of_ble_eq_true rfl) (show cw_B (cc_w K) mX5_takeNumber (cw_Z (cc_w K) r J0) 0 0 I 0 [(0, .ref (cw_a (cc_w K) 15)), (1, .int x1), (2, .int x2)] [] from ?_)
  refine cw_aload_n dX5_takeNumber_0 0 rfl rfl ?_
  refine cw_getf (C := RX5) (T := TX5) (N := 7) (ci := 4) inX5_takeNumber_RX5 15 (show 15 < 32 by decide) rfl rfl 2 (by decide) (by decide +kernel) rfl dX5_takeNumber_1 ?_
  refine cw_iconst (v := 2) dX5_takeNumber_4 (by decide) ?_
  refine cw_icmp_eq (tgt := 14) dX5_takeNumber_5 (by decide) (fun q => ?_) (fun q => ?_)
  · have h := h.1 q
    refine cw_aload_n dX5_takeNumber_14 0 rfl rfl ?_
    refine cw_aload_n dX5_takeNumber_15 0 rfl rfl ?_
    obtain ⟨v_16, J_16, hc_16, h⟩ := h
    refine cw_callV (o := 15) (As := []) hc_16 okX5_numberOfToken rfl gX5_takeNumber_X5_numberOfToken (by decide) (show 15 < 32 by decide) rfl (ci := 4) rfl rfl (Nat.le_of_ble_eq_true rfl) dX5_takeNumber_16 ?_
    refine cw_putf (C := RX5) (T := TX5) (N := 7) (ci := 4) inX5_takeNumber_RX5 tyX5 tyX5_ok nmX5 15 (show 15 < 32 by decide) rfl rfl 5 (by decide) (by decide +kernel) rfl rfl (show 5 < 7 by decide) rfl dX5_takeNumber_19 ?_
    refine cw_aload_n dX5_takeNumber_22 0 rfl rfl ?_
    refine cw_getf (C := RX5) (T := TX5) (N := 7) (ci := 4) inX5_takeNumber_RX5 15 (show 15 < 32 by decide) rfl rfl 5 (by decide) (by decide +kernel) rfl dX5_takeNumber_23 ?_
    refine cw_iload_n dX5_takeNumber_26 1 rfl rfl ?_
    refine cw_icmp_lt (tgt := 38) dX5_takeNumber_27 (by decide) (fun q => ?_) (fun q => ?_)
    · have h := h.1 q
      refine cw_aload_n dX5_takeNumber_38 0 rfl rfl ?_
      refine cw_iconst (v := 2) dX5_takeNumber_39 (by decide) ?_
      obtain ⟨v_40, J_40, hc_40, h⟩ := h
      refine cw_callV (o := 15) (As := [.int 2]) hc_40 okX5_refuse rfl gX5_takeNumber_X5_refuse (by decide) (show 15 < 32 by decide) rfl (ci := 4) rfl rfl (Nat.le_of_ble_eq_true rfl) dX5_takeNumber_40 ?_
      exact cw_bret rfl dX5_takeNumber_43 h.1 h.2
    · have h := h.2 q
      refine cw_aload_n dX5_takeNumber_30 0 rfl rfl ?_
      refine cw_getf (C := RX5) (T := TX5) (N := 7) (ci := 4) inX5_takeNumber_RX5 15 (show 15 < 32 by decide) rfl rfl 5 (by decide) (by decide +kernel) rfl dX5_takeNumber_31 ?_
      refine cw_iload_n dX5_takeNumber_34 2 rfl rfl ?_
      refine cw_icmp_le (tgt := 44) dX5_takeNumber_35 (by decide) (fun q => ?_) (fun q => ?_)
      · have h := h.1 q
        refine cw_aload_n dX5_takeNumber_44 0 rfl rfl ?_
        obtain ⟨J_45, hc_45, h⟩ := h
        refine cw_callV (o := 15) (As := []) hc_45 okX5_advance rfl gX5_takeNumber_X5_advance (by decide) (show 15 < 32 by decide) rfl (ci := 4) rfl rfl (Nat.le_of_ble_eq_true rfl) dX5_takeNumber_45 ?_
        refine cw_iconst (v := 1) dX5_takeNumber_48 (by decide) ?_
        exact cw_bret rfl dX5_takeNumber_49 (by decide) h
      · have h := h.2 q
        refine cw_aload_n dX5_takeNumber_38 0 rfl rfl ?_
        refine cw_iconst (v := 2) dX5_takeNumber_39 (by decide) ?_
        obtain ⟨v_40, J_40, hc_40, h⟩ := h
        refine cw_callV (o := 15) (As := [.int 2]) hc_40 okX5_refuse rfl gX5_takeNumber_X5_refuse (by decide) (show 15 < 32 by decide) rfl (ci := 4) rfl rfl (Nat.le_of_ble_eq_true rfl) dX5_takeNumber_40 ?_
        exact cw_bret rfl dX5_takeNumber_43 h.1 h.2
  · have h := h.2 q
    refine cw_aload_n dX5_takeNumber_8 0 rfl rfl ?_
    refine cw_iconst (v := 1) dX5_takeNumber_9 (by decide) ?_
    obtain ⟨v_10, J_10, hc_10, h⟩ := h
    refine cw_callV (o := 15) (As := [.int 1]) hc_10 okX5_refuse rfl gX5_takeNumber_X5_refuse (by decide) (show 15 < 32 by decide) rfl (ci := 4) rfl rfl (Nat.le_of_ble_eq_true rfl) dX5_takeNumber_10 ?_
    exact cw_bret rfl dX5_takeNumber_13 h.1 h.2
set_option maxRecDepth 20000 in
set_option maxHeartbeats 4000000 in
theorem eX5_takeSemicolon_15 {K : cw_K} {r : Option Value} {J0 I : cw_M} (h : (((I 15 2) = 3 → (∃ J_15 : cw_M, cw_C (cc_w K) mX5_advance [.ref (cw_a (cc_w K) 15)] I none J_15 ∧ (r = some (.int 1) ∧ J0 = J_15))) ∧ (¬ (I 15 2) = 3 → (∃ (v_10 : Int32) (J_10 : cw_M), cw_C (cc_w K) mX5_refuse [.ref (cw_a (cc_w K) 15), .int 1] I (some (.int v_10)) J_10 ∧ ((v_10 = 0 ∨ v_10 = 1) ∧ (r = some (.int v_10) ∧ J0 = J_10)))))) : cw_C (cc_w K) mX5_takeSemicolon [.ref (cw_a (cc_w K) 15)] I r J0 := by
  refine cw_entry okX5_takeSemicolon (Nat.le_of_ble_eq_true rfl) (show cw_B (cc_w K) mX5_takeSemicolon (cw_Z (cc_w K) r J0) 0 0 I 0 [(0, .ref (cw_a (cc_w K) 15))] [] from ?_)
  refine cw_aload_n dX5_takeSemicolon_0 0 rfl rfl ?_
  refine cw_getf (C := RX5) (T := TX5) (N := 7) (ci := 4) inX5_takeSemicolon_RX5 15 (show 15 < 32 by decide) rfl rfl 2 (by decide) (by decide +kernel) rfl dX5_takeSemicolon_1 ?_
  refine cw_iconst (v := 3) dX5_takeSemicolon_4 (by decide) ?_
  refine cw_icmp_eq (tgt := 14) dX5_takeSemicolon_5 (by decide) (fun q => ?_) (fun q => ?_)
  · have h := h.1 q
    refine cw_aload_n dX5_takeSemicolon_14 0 rfl rfl ?_
    obtain ⟨J_15, hc_15, h⟩ := h
    refine cw_callV (o := 15) (As := []) hc_15 okX5_advance rfl gX5_takeSemicolon_X5_advance (by decide) (show 15 < 32 by decide) rfl (ci := 4) rfl rfl (Nat.le_of_ble_eq_true rfl) dX5_takeSemicolon_15 ?_
    refine cw_iconst (v := 1) dX5_takeSemicolon_18 (by decide) ?_
    exact cw_bret rfl dX5_takeSemicolon_19 (by decide) h
  · have h := h.2 q
    refine cw_aload_n dX5_takeSemicolon_8 0 rfl rfl ?_
    refine cw_iconst (v := 1) dX5_takeSemicolon_9 (by decide) ?_
    obtain ⟨v_10, J_10, hc_10, h⟩ := h
    refine cw_callV (o := 15) (As := [.int 1]) hc_10 okX5_refuse rfl gX5_takeSemicolon_X5_refuse (by decide) (show 15 < 32 by decide) rfl (ci := 4) rfl rfl (Nat.le_of_ble_eq_true rfl) dX5_takeSemicolon_10 ?_
    exact cw_bret rfl dX5_takeSemicolon_13 h.1 h.2
set_option maxRecDepth 20000 in
set_option maxHeartbeats 4000000 in
theorem eX7_clear_25 {K : cw_K} {r : Option Value} {J0 I : cw_M} (h : (r = none ∧ J0 = cw_st I 25 0 0)) : cw_C (cc_w K) mX7_clear [.ref (cw_a (cc_w K) 25)] I r J0 := by
  refine cw_entry okX7_clear (Nat.le_of_ble_eq_true rfl) (show cw_B (cc_w K) mX7_clear (cw_Z (cc_w K) r J0) 0 0 I 0 [(0, .ref (cw_a (cc_w K) 25))] [] from ?_)
  refine cw_aload_n dX7_clear_0 0 rfl rfl ?_
  refine cw_iconst (v := 0) dX7_clear_1 (by decide) ?_
  refine cw_putf (C := RX7) (T := TX7) (N := 6) (ci := 6) inX7_clear_RX7 tyX7 tyX7_ok nmX7 25 (show 25 < 32 by decide) rfl rfl 0 (by decide) (by decide +kernel) rfl rfl (show 0 < 6 by decide) rfl dX7_clear_2 ?_
  exact cw_vret rfl dX7_clear_5 h
set_option maxRecDepth 20000 in
set_option maxHeartbeats 4000000 in
theorem eX7_putArgument_25 {K : cw_K} {r : Option Value} {J0 I : cw_M} {x1 : Int32} {x2 : Int32} (h : (((I 25 0) ≤ 0 → (r = none ∧ J0 = I)) ∧ (¬ (I 25 0) ≤ 0 → ((3 ≤ x1 → (r = none ∧ J0 = I)) ∧ (¬ 3 ≤ x1 → (vp_in ((((I 25 0) - 1) * 3) + x1) 90 ∧ (r = none ∧ J0 = cw_st I 27 ((((I 25 0) - 1) * 3) + x1).toNatClampNeg x2))))))) : cw_C (cc_w K) mX7_putArgument [.ref (cw_a (cc_w K) 25), .int x1, .int x2] I r J0 := by
  refine cw_entry okX7_putArgument (Nat.le_of_ble_eq_true rfl) (show cw_B (cc_w K) mX7_putArgument (cw_Z (cc_w K) r J0) 0 0 I 0 [(0, .ref (cw_a (cc_w K) 25)), (1, .int x1), (2, .int x2)] [] from ?_)
  refine cw_aload_n dX7_putArgument_0 0 rfl rfl ?_
  refine cw_getf (C := RX7) (T := TX7) (N := 6) (ci := 6) inX7_putArgument_RX7 25 (show 25 < 32 by decide) rfl rfl 0 (by decide) (by decide +kernel) rfl dX7_putArgument_1 ?_
  refine cw_if_le (tgt := 28) dX7_putArgument_4 (by decide) (fun q => ?_) (fun q => ?_)
  · have h := h.1 q
    exact cw_vret rfl dX7_putArgument_28 h
  · have h := h.2 q
    refine cw_iload_n dX7_putArgument_7 1 rfl rfl ?_
    refine cw_iconst (v := 3) dX7_putArgument_8 (by decide) ?_
    refine cw_icmp_ge (tgt := 28) dX7_putArgument_9 (by decide) (fun q => ?_) (fun q => ?_)
    · have h := h.1 q
      exact cw_vret rfl dX7_putArgument_28 h
    · have h := h.2 q
      refine cw_aload_n dX7_putArgument_12 0 rfl rfl ?_
      refine cw_getf (C := RX7) (T := TX7) (N := 6) (ci := 6) inX7_putArgument_RX7 25 (show 25 < 32 by decide) rfl rfl 2 (by decide) (by decide +kernel) rfl dX7_putArgument_13 ?_
      refine cw_aload_n dX7_putArgument_16 0 rfl rfl ?_
      refine cw_getf (C := RX7) (T := TX7) (N := 6) (ci := 6) inX7_putArgument_RX7 25 (show 25 < 32 by decide) rfl rfl 0 (by decide) (by decide +kernel) rfl dX7_putArgument_17 ?_
      refine cw_iconst (v := 1) dX7_putArgument_20 (by decide) ?_
      refine cw_isub dX7_putArgument_21 ?_
      refine cw_iconst (v := 3) dX7_putArgument_22 (by decide) ?_
      refine cw_imul dX7_putArgument_23 ?_
      refine cw_iload_n dX7_putArgument_24 1 rfl rfl ?_
      refine cw_iadd dX7_putArgument_25 ?_
      refine cw_iload_n dX7_putArgument_26 2 rfl rfl ?_
      obtain ⟨g_27, h⟩ := h
      refine cw_iast 27 (show 27 < 32 by decide) (fun _ => rfl) 0 rfl dX7_putArgument_27 g_27 ?_
      exact cw_vret rfl dX7_putArgument_28 h
abbrev bX7_execute_25_2 (K : cw_K) (r : Option Value) (J0 : cw_M) (x1 : Int32) (I : cw_M) : Prop := cw_B (cc_w K) mX7_execute (cw_Z (cc_w K) r J0) 0 0 I 2 [(0, .ref (cw_a (cc_w K) 25)), (1, .int x1)] []
set_option maxRecDepth 20000 in
set_option maxHeartbeats 4000000 in
theorem eX7_execute_25 {K : cw_K} {r : Option Value} {J0 I : cw_M} (h : bX7_execute_25_2 K r J0 0 I) : cw_C (cc_w K) mX7_execute [.ref (cw_a (cc_w K) 25)] I r J0 := by
  refine cw_entry okX7_execute (Nat.le_of_ble_eq_true rfl) (show cw_B (cc_w K) mX7_execute (cw_Z (cc_w K) r J0) 0 0 I 0 [(0, .ref (cw_a (cc_w K) 25))] [] from ?_)
  refine cw_iconst (v := 0) dX7_execute_0 (by decide) ?_
  refine cw_istore_n dX7_execute_1 rfl (by decide) rfl ?_
  refine cw_sub [1, 0] rfl ?_
  exact h
set_option maxRecDepth 20000 in
set_option maxHeartbeats 4000000 in
theorem tbX7_execute_25_2 {K : cw_K} {r : Option Value} {J0 I : cw_M} {x1 : Int32} (h : (((I 25 0) ≤ x1 → (r = some (.int (I 25 0)) ∧ J0 = I)) ∧ (¬ (I 25 0) ≤ x1 → (vp_in x1 30 ∧ (I 26 x1.toNatClampNeg = 0 → (vp_in (x1 * 3) 90 ∧ (vp_in ((x1 * 3) + 1) 90 ∧ (vp_in ((x1 * 3) + 2) 90 ∧ (r = some (.int x1) ∧ J0 = I))))) ∧ (¬ I 26 x1.toNatClampNeg = 0 → (vp_in (x1 * 3) 90 ∧ (vp_in ((x1 * 3) + 1) 90 ∧ (vp_in ((x1 * 3) + 2) 90 ∧ (∃ (v_61 : Int32) (J_61 : cw_M), cw_C (cc_w K) mX7_isAllowed [.ref (cw_a (cc_w K) 25), .ref (cw_vd K ((I 26 x1.toNatClampNeg).toNatClampNeg - 1)), .int (I 27 (x1 * 3).toNatClampNeg), .int (I 27 ((x1 * 3) + 1).toNatClampNeg), .int (I 27 ((x1 * 3) + 2).toNatClampNeg)] I (some (.int v_61)) J_61 ∧ ((¬ v_61 = 0 → (∃ J_76 : cw_M, cw_C (cc_w K) mX7_carryOut [.ref (cw_a (cc_w K) 25), .ref (cw_vd K ((I 26 x1.toNatClampNeg).toNatClampNeg - 1)), .int (I 27 (x1 * 3).toNatClampNeg), .int (I 27 ((x1 * 3) + 1).toNatClampNeg), .int (I 27 ((x1 * 3) + 2).toNatClampNeg)] J_61 none J_76 ∧ bX7_execute_25_2 K r J0 (x1 + 1) J_76)) ∧ (v_61 = 0 → (r = some (.int x1) ∧ J0 = J_61)))))))))))) : bX7_execute_25_2 K r J0 x1 I := by
  refine cw_iload_n dX7_execute_2 1 rfl rfl ?_
  refine cw_aload_n dX7_execute_3 0 rfl rfl ?_
  refine cw_getf (C := RX7) (T := TX7) (N := 6) (ci := 6) inX7_execute_RX7 25 (show 25 < 32 by decide) rfl rfl 0 (by decide) (by decide +kernel) rfl dX7_execute_4 ?_
  refine cw_icmp_ge (tgt := 85) dX7_execute_7 (by decide) (fun q => ?_) (fun q => ?_)
  · have h := h.1 q
    refine cw_aload_n dX7_execute_85 0 rfl rfl ?_
    refine cw_getf (C := RX7) (T := TX7) (N := 6) (ci := 6) inX7_execute_RX7 25 (show 25 < 32 by decide) rfl rfl 0 (by decide) (by decide +kernel) rfl dX7_execute_86 ?_
    exact cw_iret rfl dX7_execute_89 h
  · have h := h.2 q
    refine cw_aload_n dX7_execute_10 0 rfl rfl ?_
    refine cw_getf (C := RX7) (T := TX7) (N := 6) (ci := 6) inX7_execute_RX7 25 (show 25 < 32 by decide) rfl rfl 1 (by decide) (by decide +kernel) rfl dX7_execute_11 ?_
    refine cw_iload_n dX7_execute_14 1 rfl rfl ?_
    obtain ⟨g_15, h⟩ := h
    refine cw_aldq 26 (show 26 < 32 by decide) rfl 2 rfl dX7_execute_15 g_15 (fun q => ?_) (fun q => ?_)
    · have h := h.1 q
      refine cw_astoreN_n dX7_execute_16 rfl (by decide) rfl ?_
      refine cw_aload_n dX7_execute_17 1 rfl rfl ?_
      refine cw_getf (C := RX7) (T := TX7) (N := 6) (ci := 6) inX7_execute_RX7 25 (show 25 < 32 by decide) rfl rfl 2 (by decide) (by decide +kernel) rfl dX7_execute_18 ?_
      refine cw_iload_n dX7_execute_21 2 rfl rfl ?_
      refine cw_iconst (v := 3) dX7_execute_22 (by decide) ?_
      refine cw_imul dX7_execute_23 ?_
      obtain ⟨g_24, h⟩ := h
      refine cw_iald 27 (show 27 < 32 by decide) rfl 0 rfl dX7_execute_24 g_24 ?_
      refine cw_istore_n dX7_execute_25 rfl (by decide) rfl ?_
      refine cw_aload_n dX7_execute_26 2 rfl rfl ?_
      refine cw_getf (C := RX7) (T := TX7) (N := 6) (ci := 6) inX7_execute_RX7 25 (show 25 < 32 by decide) rfl rfl 2 (by decide) (by decide +kernel) rfl dX7_execute_27 ?_
      refine cw_iload_n dX7_execute_30 3 rfl rfl ?_
      refine cw_iconst (v := 3) dX7_execute_31 (by decide) ?_
      refine cw_imul dX7_execute_32 ?_
      refine cw_iconst (v := 1) dX7_execute_33 (by decide) ?_
      refine cw_iadd dX7_execute_34 ?_
      obtain ⟨g_35, h⟩ := h
      refine cw_iald 27 (show 27 < 32 by decide) rfl 0 rfl dX7_execute_35 g_35 ?_
      refine cw_istore dX7_execute_36 (by decide) rfl ?_
      refine cw_aload_n dX7_execute_38 3 rfl rfl ?_
      refine cw_getf (C := RX7) (T := TX7) (N := 6) (ci := 6) inX7_execute_RX7 25 (show 25 < 32 by decide) rfl rfl 2 (by decide) (by decide +kernel) rfl dX7_execute_39 ?_
      refine cw_iload_n dX7_execute_42 4 rfl rfl ?_
      refine cw_iconst (v := 3) dX7_execute_43 (by decide) ?_
      refine cw_imul dX7_execute_44 ?_
      refine cw_iconst (v := 2) dX7_execute_45 (by decide) ?_
      refine cw_iadd dX7_execute_46 ?_
      obtain ⟨g_47, h⟩ := h
      refine cw_iald 27 (show 27 < 32 by decide) rfl 0 rfl dX7_execute_47 g_47 ?_
      refine cw_istore dX7_execute_48 (by decide) rfl ?_
      refine cw_aloadN_n dX7_execute_50 3 rfl rfl ?_
      refine cw_ifnullN (tgt := 67) dX7_execute_51 (by decide) ?_
      refine cw_iload_n dX7_execute_67 5 rfl rfl ?_
      exact cw_iret rfl dX7_execute_68 h
    · have h := h.2 q
      refine cw_astore_n dX7_execute_16 rfl (by decide) rfl ?_
      refine cw_aload_n dX7_execute_17 1 rfl rfl ?_
      refine cw_getf (C := RX7) (T := TX7) (N := 6) (ci := 6) inX7_execute_RX7 25 (show 25 < 32 by decide) rfl rfl 2 (by decide) (by decide +kernel) rfl dX7_execute_18 ?_
      refine cw_iload_n dX7_execute_21 2 rfl rfl ?_
      refine cw_iconst (v := 3) dX7_execute_22 (by decide) ?_
      refine cw_imul dX7_execute_23 ?_
      obtain ⟨g_24, h⟩ := h
      refine cw_iald 27 (show 27 < 32 by decide) rfl 0 rfl dX7_execute_24 g_24 ?_
      refine cw_istore_n dX7_execute_25 rfl (by decide) rfl ?_
      refine cw_aload_n dX7_execute_26 2 rfl rfl ?_
      refine cw_getf (C := RX7) (T := TX7) (N := 6) (ci := 6) inX7_execute_RX7 25 (show 25 < 32 by decide) rfl rfl 2 (by decide) (by decide +kernel) rfl dX7_execute_27 ?_
      refine cw_iload_n dX7_execute_30 3 rfl rfl ?_
      refine cw_iconst (v := 3) dX7_execute_31 (by decide) ?_
      refine cw_imul dX7_execute_32 ?_
      refine cw_iconst (v := 1) dX7_execute_33 (by decide) ?_
      refine cw_iadd dX7_execute_34 ?_
      obtain ⟨g_35, h⟩ := h
      refine cw_iald 27 (show 27 < 32 by decide) rfl 0 rfl dX7_execute_35 g_35 ?_
      refine cw_istore dX7_execute_36 (by decide) rfl ?_
      refine cw_aload_n dX7_execute_38 3 rfl rfl ?_
      refine cw_getf (C := RX7) (T := TX7) (N := 6) (ci := 6) inX7_execute_RX7 25 (show 25 < 32 by decide) rfl rfl 2 (by decide) (by decide +kernel) rfl dX7_execute_39 ?_
      refine cw_iload_n dX7_execute_42 4 rfl rfl ?_
      refine cw_iconst (v := 3) dX7_execute_43 (by decide) ?_
      refine cw_imul dX7_execute_44 ?_
      refine cw_iconst (v := 2) dX7_execute_45 (by decide) ?_
      refine cw_iadd dX7_execute_46 ?_
      obtain ⟨g_47, h⟩ := h
      refine cw_iald 27 (show 27 < 32 by decide) rfl 0 rfl dX7_execute_47 g_47 ?_
      refine cw_istore dX7_execute_48 (by decide) rfl ?_
      refine cw_aload_n dX7_execute_50 3 rfl rfl ?_
      refine cw_ifnull dX7_execute_51 ?_
      refine cw_aload_n dX7_execute_54 4 rfl rfl ?_
      refine cw_aload_n dX7_execute_55 3 rfl rfl ?_
      refine cw_iload_n dX7_execute_56 2 rfl rfl ?_
      refine cw_iload dX7_execute_57 1 rfl ?_
      refine cw_iload dX7_execute_59 0 rfl ?_
      obtain ⟨v_61, J_61, hc_61, h⟩ := h
      refine cw_callV (o := 25) (As := [.ref (cw_vd K ((I 26 x1.toNatClampNeg).toNatClampNeg - 1)), .int (I 27 (x1 * 3).toNatClampNeg), .int (I 27 ((x1 * 3) + 1).toNatClampNeg), .int (I 27 ((x1 * 3) + 2).toNatClampNeg)]) hc_61 okX7_isAllowed rfl (nse_gv gX7_execute_X7_isAllowed (by decide +kernel)) (by decide) (show 25 < 32 by decide) rfl (ci := 6) rfl rfl (Nat.le_of_ble_eq_true rfl) dX7_execute_61 ?_
      refine cw_if_ne (tgt := 69) dX7_execute_64 (by decide) (fun q => ?_) (fun q => ?_)
      · have h := h.1 q
        refine cw_aload_n dX7_execute_69 4 rfl rfl ?_
        refine cw_aload_n dX7_execute_70 3 rfl rfl ?_
        refine cw_iload_n dX7_execute_71 2 rfl rfl ?_
        refine cw_iload dX7_execute_72 1 rfl ?_
        refine cw_iload dX7_execute_74 0 rfl ?_
        obtain ⟨J_76, hc_76, h⟩ := h
        refine cw_callV (o := 25) (As := [.ref (cw_vd K ((I 26 x1.toNatClampNeg).toNatClampNeg - 1)), .int (I 27 (x1 * 3).toNatClampNeg), .int (I 27 ((x1 * 3) + 1).toNatClampNeg), .int (I 27 ((x1 * 3) + 2).toNatClampNeg)]) hc_76 okX7_carryOut rfl (nse_gv gX7_execute_X7_carryOut (by decide +kernel)) (by decide) (show 25 < 32 by decide) rfl (ci := 6) rfl rfl (Nat.le_of_ble_eq_true rfl) dX7_execute_76 ?_
        refine cw_iinc (v := x1 + 1) dX7_execute_79 (j := 5) rfl rfl (by decide) rfl ?_
        refine cw_goto (tgt := 2) dX7_execute_82 (by decide) ?_
        refine cw_sub [5, 0] rfl ?_
        exact h
      · have h := h.2 q
        refine cw_iload_n dX7_execute_67 5 rfl rfl ?_
        exact cw_iret rfl dX7_execute_68 h
set_option maxRecDepth 20000 in
set_option maxHeartbeats 4000000 in
theorem xX10_append_0 {K : cw_K} {E : String} {J0 I : cw_M} {x1 : Int32} {x2 : Int32} {x3 : Int32} {x4 : Int32} {x5 : Int32} (hFT : cw_FT (cw_f (cc_w K))) (hl : K.1.stackTraces = false) (h : ((((I 1 1) + 20) ≤ 600 → (∃ J_31 : cw_M, cw_C (cc_w K) mX8_addFourBytes [.ref (cw_a (cc_w K) 1), .int x1] I none J_31 ∧ (∃ J_39 : cw_M, cw_C (cc_w K) mX8_addFourBytes [.ref (cw_a (cc_w K) 1), .int x2] J_31 none J_39 ∧ (∃ J_47 : cw_M, cw_C (cc_w K) mX8_addFourBytes [.ref (cw_a (cc_w K) 1), .int x3] J_39 none J_47 ∧ (∃ J_56 : cw_M, cw_C (cc_w K) mX8_addFourBytes [.ref (cw_a (cc_w K) 1), .int x4] J_47 none J_56 ∧ (∃ J_65 : cw_M, cw_C (cc_w K) mX8_addFourBytes [.ref (cw_a (cc_w K) 1), .int x5] J_56 none J_65 ∧ False)))))) ∧ (¬ ((I 1 1) + 20) ≤ 600 → (E = "java/lang/IllegalStateException" ∧ J0 = I)))) : cw_T (cc_w K) mX10_append [.ref (cw_a (cc_w K) 0), .int x1, .int x2, .int x3, .int x4, .int x5] I E J0 := by
  refine cw_tentry okX10_append (Nat.le_of_ble_eq_true rfl) (show cw_B (cc_w K) mX10_append (cw_Zx (cc_w K) E J0) 1 6 I 0 [(0, .ref (cw_a (cc_w K) 0)), (1, .int x1), (2, .int x2), (3, .int x3), (4, .int x4), (5, .int x5)] [] from ?_)
  refine cw_aload_n dX10_append_0 0 rfl rfl ?_
  refine cw_getf (C := RX10) (T := TX10) (N := 10) (ci := 8) inX10_append_RX10 0 (show 0 < 32 by decide) rfl rfl 0 (by decide) (by decide +kernel) rfl dX10_append_1 ?_
  refine cw_getf (C := RX8) (T := TX8) (N := 2) (ci := 7) inX10_append_RX8 1 (show 1 < 32 by decide) rfl rfl 1 (by decide) (by decide +kernel) rfl dX10_append_4 ?_
  refine cw_bipush (v := 20) dX10_append_7 (by decide) ?_
  refine cw_iadd dX10_append_9 ?_
  refine cw_sipush (v := 600) dX10_append_10 (by decide) ?_
  refine cw_icmp_le (tgt := 26) dX10_append_13 (by decide) (fun q => ?_) (fun q => ?_)
  · have h := h.1 q
    refine cw_aload_n dX10_append_26 0 rfl rfl ?_
    refine cw_getf (C := RX10) (T := TX10) (N := 10) (ci := 8) inX10_append_RX10 0 (show 0 < 32 by decide) rfl rfl 0 (by decide) (by decide +kernel) rfl dX10_append_27 ?_
    refine cw_iload_n dX10_append_30 1 rfl rfl ?_
    obtain ⟨J_31, hc_31, h⟩ := h
    refine cw_callV (o := 1) (As := [.int x1]) hc_31 okX8_addFourBytes rfl gX10_append_X8_addFourBytes (by decide) (show 1 < 32 by decide) rfl (ci := 7) rfl rfl (Nat.le_of_ble_eq_true rfl) dX10_append_31 ?_
    refine cw_aload_n dX10_append_34 0 rfl rfl ?_
    refine cw_getf (C := RX10) (T := TX10) (N := 10) (ci := 8) inX10_append_RX10 0 (show 0 < 32 by decide) rfl rfl 0 (by decide) (by decide +kernel) rfl dX10_append_35 ?_
    refine cw_iload_n dX10_append_38 2 rfl rfl ?_
    obtain ⟨J_39, hc_39, h⟩ := h
    refine cw_callV (o := 1) (As := [.int x2]) hc_39 okX8_addFourBytes rfl gX10_append_X8_addFourBytes (by decide) (show 1 < 32 by decide) rfl (ci := 7) rfl rfl (Nat.le_of_ble_eq_true rfl) dX10_append_39 ?_
    refine cw_aload_n dX10_append_42 0 rfl rfl ?_
    refine cw_getf (C := RX10) (T := TX10) (N := 10) (ci := 8) inX10_append_RX10 0 (show 0 < 32 by decide) rfl rfl 0 (by decide) (by decide +kernel) rfl dX10_append_43 ?_
    refine cw_iload_n dX10_append_46 3 rfl rfl ?_
    obtain ⟨J_47, hc_47, h⟩ := h
    refine cw_callV (o := 1) (As := [.int x3]) hc_47 okX8_addFourBytes rfl gX10_append_X8_addFourBytes (by decide) (show 1 < 32 by decide) rfl (ci := 7) rfl rfl (Nat.le_of_ble_eq_true rfl) dX10_append_47 ?_
    refine cw_aload_n dX10_append_50 0 rfl rfl ?_
    refine cw_getf (C := RX10) (T := TX10) (N := 10) (ci := 8) inX10_append_RX10 0 (show 0 < 32 by decide) rfl rfl 0 (by decide) (by decide +kernel) rfl dX10_append_51 ?_
    refine cw_iload dX10_append_54 4 rfl ?_
    obtain ⟨J_56, hc_56, h⟩ := h
    refine cw_callV (o := 1) (As := [.int x4]) hc_56 okX8_addFourBytes rfl gX10_append_X8_addFourBytes (by decide) (show 1 < 32 by decide) rfl (ci := 7) rfl rfl (Nat.le_of_ble_eq_true rfl) dX10_append_56 ?_
    refine cw_aload_n dX10_append_59 0 rfl rfl ?_
    refine cw_getf (C := RX10) (T := TX10) (N := 10) (ci := 8) inX10_append_RX10 0 (show 0 < 32 by decide) rfl rfl 0 (by decide) (by decide +kernel) rfl dX10_append_60 ?_
    refine cw_iload dX10_append_63 5 rfl ?_
    obtain ⟨J_65, hc_65, h⟩ := h
    refine cw_callV (o := 1) (As := [.int x5]) hc_65 okX8_addFourBytes rfl gX10_append_X8_addFourBytes (by decide) (show 1 < 32 by decide) rfl (ci := 7) rfl rfl (Nat.le_of_ble_eq_true rfl) dX10_append_65 ?_
    refine cw_aload_n dX10_append_68 0 rfl rfl ?_
    refine cw_getf (C := RX10) (T := TX10) (N := 10) (ci := 8) inX10_append_RX10 0 (show 0 < 32 by decide) rfl rfl 0 (by decide) (by decide +kernel) rfl dX10_append_69 ?_
    refine cw_getf (C := RX8) (T := TX8) (N := 2) (ci := 7) inX10_append_RX8 1 (show 1 < 32 by decide) rfl rfl 1 (by decide) (by decide +kernel) rfl dX10_append_72 ?_
    exact h.elim
  · have h := h.2 q
    exact cw_throwS (cls := "java/lang/IllegalStateException") (text := "the input buffer is full") (names := ["java/lang/RuntimeException", "java/lang/Exception"]) (ik := 91) (is := 93) (ic := 95) hl (hFT (95, "java/lang/IllegalStateException", ["java/lang/RuntimeException", "java/lang/Exception"], 93, "the input buffer is full") (by decide +kernel)) (by decide +kernel) (by decide +kernel) (by decide +kernel) (by decide +kernel) (by decide +kernel) (by decide +kernel) dX10_append_16 dX10_append_19 dX10_append_20 dX10_append_22 dX10_append_25 ⟨by decide, Nat.le_of_ble_eq_true rfl⟩ h
set_option maxRecDepth 20000 in
set_option maxHeartbeats 4000000 in
theorem xX10_cutFor_0 {K : cw_K} {E : String} {J0 I : cw_M} {x1 : Int32} (h : ((∃ J_2 : cw_M, cw_C (cc_w K) mX10_requireSibling [.ref (cw_a (cc_w K) 0), .int x1] I none J_2 ∧ (∃ (v_10 : Int32) (J_10 : cw_M), cw_C (cc_w K) mX6_cutOf [.ref (cw_a (cc_w K) 20), .int x1] J_2 (some (.int v_10)) J_10 ∧ False)) ∨ (∃ (E1 : String) (J_2 : cw_M), cw_T (cc_w K) mX10_requireSibling [.ref (cw_a (cc_w K) 0), .int x1] I E1 J_2 ∧ E = E1 ∧ J0 = J_2))) : cw_T (cc_w K) mX10_cutFor [.ref (cw_a (cc_w K) 0), .int x1] I E J0 := by
  refine cw_tentry okX10_cutFor (Nat.le_of_ble_eq_true rfl) (show cw_B (cc_w K) mX10_cutFor (cw_Zx (cc_w K) E J0) 1 6 I 0 [(0, .ref (cw_a (cc_w K) 0)), (1, .int x1)] [] from ?_)
  refine cw_aload_n dX10_cutFor_0 0 rfl rfl ?_
  refine cw_iload_n dX10_cutFor_1 1 rfl rfl ?_
  rcases h with ⟨J_2, hc_2, h⟩ | ⟨E1, J_2, hc_2, h⟩
  · refine cw_callV (o := 0) (As := [.int x1]) hc_2 okX10_requireSibling rfl gX10_cutFor_X10_requireSibling (by decide) (show 0 < 32 by decide) rfl (ci := 8) rfl rfl (Nat.le_of_ble_eq_true rfl) dX10_cutFor_2 ?_
    refine cw_aload_n dX10_cutFor_5 0 rfl rfl ?_
    refine cw_getf (C := RX10) (T := TX10) (N := 10) (ci := 8) inX10_cutFor_RX10 0 (show 0 < 32 by decide) rfl rfl 6 (by decide) (by decide +kernel) rfl dX10_cutFor_6 ?_
    refine cw_iload_n dX10_cutFor_9 1 rfl rfl ?_
    obtain ⟨v_10, J_10, hc_10, h⟩ := h
    refine cw_callV (o := 20) (As := [.int x1]) hc_10 okX6_cutOf rfl gX10_cutFor_X6_cutOf (by decide) (show 20 < 32 by decide) rfl (ci := 5) rfl rfl (Nat.le_of_ble_eq_true rfl) dX10_cutFor_10 ?_
    exact h.elim
  · exact cw_callX (o := 0) (As := [.int x1]) hc_2 okX10_requireSibling rfl gX10_cutFor_X10_requireSibling (by decide) (show 0 < 32 by decide) rfl (ci := 8) rfl rfl (Nat.le_of_ble_eq_true rfl) dX10_cutFor_2 h
set_option maxRecDepth 20000 in
set_option maxHeartbeats 4000000 in
theorem xX10_divideAndChoose_0 {K : cw_K} {E : String} {J0 I : cw_M} {x1 : Int32} {x2 : Int32} (h : ((∃ J_2 : cw_M, cw_C (cc_w K) mX10_requireSibling [.ref (cw_a (cc_w K) 0), .int x1] I none J_2 ∧ ((∃ J_7 : cw_M, cw_C (cc_w K) mX10_requireSibling [.ref (cw_a (cc_w K) 0), .int x2] J_2 none J_7 ∧ ((∃ J_13 : cw_M, cw_C (cc_w K) mX10_requireDifferent [.ref (cw_a (cc_w K) 0), .int x1, .int x2] J_7 none J_13 ∧ (∃ J_24 : cw_M, cw_C (cc_w K) mX4_rememberForUndo [.ref (cw_a (cc_w K) 28), .ref (cw_a (cc_w K) 5)] J_13 none J_24 ∧ (∃ (v_33 : Int32) (J_33 : cw_M), cw_C (cc_w K) mX6_cutAndChoose [.ref (cw_a (cc_w K) 20), .int x1, .int x2] J_24 (some (.int v_33)) J_33 ∧ False))) ∨ (∃ (E1 : String) (J_13 : cw_M), cw_T (cc_w K) mX10_requireDifferent [.ref (cw_a (cc_w K) 0), .int x1, .int x2] J_7 E1 J_13 ∧ E = E1 ∧ J0 = J_13))) ∨ (∃ (E1 : String) (J_7 : cw_M), cw_T (cc_w K) mX10_requireSibling [.ref (cw_a (cc_w K) 0), .int x2] J_2 E1 J_7 ∧ E = E1 ∧ J0 = J_7))) ∨ (∃ (E1 : String) (J_2 : cw_M), cw_T (cc_w K) mX10_requireSibling [.ref (cw_a (cc_w K) 0), .int x1] I E1 J_2 ∧ E = E1 ∧ J0 = J_2))) : cw_T (cc_w K) mX10_divideAndChoose [.ref (cw_a (cc_w K) 0), .int x1, .int x2] I E J0 := by
  refine cw_tentry okX10_divideAndChoose (Nat.le_of_ble_eq_true rfl) (show cw_B (cc_w K) mX10_divideAndChoose (cw_Zx (cc_w K) E J0) 1 6 I 0 [(0, .ref (cw_a (cc_w K) 0)), (1, .int x1), (2, .int x2)] [] from ?_)
  refine cw_aload_n dX10_divideAndChoose_0 0 rfl rfl ?_
  refine cw_iload_n dX10_divideAndChoose_1 1 rfl rfl ?_
  rcases h with ⟨J_2, hc_2, h⟩ | ⟨E1, J_2, hc_2, h⟩
  · refine cw_callV (o := 0) (As := [.int x1]) hc_2 okX10_requireSibling rfl gX10_divideAndChoose_X10_requireSibling (by decide) (show 0 < 32 by decide) rfl (ci := 8) rfl rfl (Nat.le_of_ble_eq_true rfl) dX10_divideAndChoose_2 ?_
    refine cw_aload_n dX10_divideAndChoose_5 0 rfl rfl ?_
    refine cw_iload_n dX10_divideAndChoose_6 2 rfl rfl ?_
    rcases h with ⟨J_7, hc_7, h⟩ | ⟨E1, J_7, hc_7, h⟩
    · refine cw_callV (o := 0) (As := [.int x2]) hc_7 okX10_requireSibling rfl gX10_divideAndChoose_X10_requireSibling (by decide) (show 0 < 32 by decide) rfl (ci := 8) rfl rfl (Nat.le_of_ble_eq_true rfl) dX10_divideAndChoose_7 ?_
      refine cw_aload_n dX10_divideAndChoose_10 0 rfl rfl ?_
      refine cw_iload_n dX10_divideAndChoose_11 1 rfl rfl ?_
      refine cw_iload_n dX10_divideAndChoose_12 2 rfl rfl ?_
      rcases h with ⟨J_13, hc_13, h⟩ | ⟨E1, J_13, hc_13, h⟩
      · refine cw_callV (o := 0) (As := [.int x1, .int x2]) hc_13 okX10_requireDifferent rfl gX10_divideAndChoose_X10_requireDifferent (by decide) (show 0 < 32 by decide) rfl (ci := 8) rfl rfl (Nat.le_of_ble_eq_true rfl) dX10_divideAndChoose_13 ?_
        refine cw_aload_n dX10_divideAndChoose_16 0 rfl rfl ?_
        refine cw_getf (C := RX10) (T := TX10) (N := 10) (ci := 8) inX10_divideAndChoose_RX10 0 (show 0 < 32 by decide) rfl rfl 9 (by decide) (by decide +kernel) rfl dX10_divideAndChoose_17 ?_
        refine cw_aload_n dX10_divideAndChoose_20 0 rfl rfl ?_
        refine cw_getf (C := RX10) (T := TX10) (N := 10) (ci := 8) inX10_divideAndChoose_RX10 0 (show 0 < 32 by decide) rfl rfl 2 (by decide) (by decide +kernel) rfl dX10_divideAndChoose_21 ?_
        obtain ⟨J_24, hc_24, h⟩ := h
        refine cw_callV (o := 28) (As := [.ref (cw_a (cc_w K) 5)]) hc_24 okX4_rememberForUndo rfl gX10_divideAndChoose_X4_rememberForUndo (by decide) (show 28 < 32 by decide) rfl (ci := 3) rfl rfl (Nat.le_of_ble_eq_true rfl) dX10_divideAndChoose_24 ?_
        refine cw_aload_n dX10_divideAndChoose_27 0 rfl rfl ?_
        refine cw_getf (C := RX10) (T := TX10) (N := 10) (ci := 8) inX10_divideAndChoose_RX10 0 (show 0 < 32 by decide) rfl rfl 6 (by decide) (by decide +kernel) rfl dX10_divideAndChoose_28 ?_
        refine cw_iload_n dX10_divideAndChoose_31 1 rfl rfl ?_
        refine cw_iload_n dX10_divideAndChoose_32 2 rfl rfl ?_
        obtain ⟨v_33, J_33, hc_33, h⟩ := h
        refine cw_callV (o := 20) (As := [.int x1, .int x2]) hc_33 okX6_cutAndChoose rfl gX10_divideAndChoose_X6_cutAndChoose (by decide) (show 20 < 32 by decide) rfl (ci := 5) rfl rfl (Nat.le_of_ble_eq_true rfl) dX10_divideAndChoose_33 ?_
        exact h.elim
      · exact cw_callX (o := 0) (As := [.int x1, .int x2]) hc_13 okX10_requireDifferent rfl gX10_divideAndChoose_X10_requireDifferent (by decide) (show 0 < 32 by decide) rfl (ci := 8) rfl rfl (Nat.le_of_ble_eq_true rfl) dX10_divideAndChoose_13 h
    · exact cw_callX (o := 0) (As := [.int x2]) hc_7 okX10_requireSibling rfl gX10_divideAndChoose_X10_requireSibling (by decide) (show 0 < 32 by decide) rfl (ci := 8) rfl rfl (Nat.le_of_ble_eq_true rfl) dX10_divideAndChoose_7 h
  · exact cw_callX (o := 0) (As := [.int x1]) hc_2 okX10_requireSibling rfl gX10_divideAndChoose_X10_requireSibling (by decide) (show 0 < 32 by decide) rfl (ci := 8) rfl rfl (Nat.le_of_ble_eq_true rfl) dX10_divideAndChoose_2 h
set_option maxRecDepth 20000 in
set_option maxHeartbeats 4000000 in
theorem xX10_envies_0 {K : cw_K} {E : String} {J0 I : cw_M} {x1 : Int32} {x2 : Int32} (h : ((∃ J_2 : cw_M, cw_C (cc_w K) mX10_requireSibling [.ref (cw_a (cc_w K) 0), .int x1] I none J_2 ∧ ((∃ J_7 : cw_M, cw_C (cc_w K) mX10_requireSibling [.ref (cw_a (cc_w K) 0), .int x2] J_2 none J_7 ∧ (∃ (v_16 : Int32) (J_16 : cw_M), cw_C (cc_w K) mX3_hasEnvy [.ref (cw_a (cc_w K) 16), .int x1, .int x2] J_7 (some (.int v_16)) J_16 ∧ False)) ∨ (∃ (E1 : String) (J_7 : cw_M), cw_T (cc_w K) mX10_requireSibling [.ref (cw_a (cc_w K) 0), .int x2] J_2 E1 J_7 ∧ E = E1 ∧ J0 = J_7))) ∨ (∃ (E1 : String) (J_2 : cw_M), cw_T (cc_w K) mX10_requireSibling [.ref (cw_a (cc_w K) 0), .int x1] I E1 J_2 ∧ E = E1 ∧ J0 = J_2))) : cw_T (cc_w K) mX10_envies [.ref (cw_a (cc_w K) 0), .int x1, .int x2] I E J0 := by
  refine cw_tentry okX10_envies (Nat.le_of_ble_eq_true rfl) (show cw_B (cc_w K) mX10_envies (cw_Zx (cc_w K) E J0) 1 6 I 0 [(0, .ref (cw_a (cc_w K) 0)), (1, .int x1), (2, .int x2)] [] from ?_)
  refine cw_aload_n dX10_envies_0 0 rfl rfl ?_
  refine cw_iload_n dX10_envies_1 1 rfl rfl ?_
  rcases h with ⟨J_2, hc_2, h⟩ | ⟨E1, J_2, hc_2, h⟩
  · refine cw_callV (o := 0) (As := [.int x1]) hc_2 okX10_requireSibling rfl gX10_envies_X10_requireSibling (by decide) (show 0 < 32 by decide) rfl (ci := 8) rfl rfl (Nat.le_of_ble_eq_true rfl) dX10_envies_2 ?_
    refine cw_aload_n dX10_envies_5 0 rfl rfl ?_
    refine cw_iload_n dX10_envies_6 2 rfl rfl ?_
    rcases h with ⟨J_7, hc_7, h⟩ | ⟨E1, J_7, hc_7, h⟩
    · refine cw_callV (o := 0) (As := [.int x2]) hc_7 okX10_requireSibling rfl gX10_envies_X10_requireSibling (by decide) (show 0 < 32 by decide) rfl (ci := 8) rfl rfl (Nat.le_of_ble_eq_true rfl) dX10_envies_7 ?_
      refine cw_aload_n dX10_envies_10 0 rfl rfl ?_
      refine cw_getf (C := RX10) (T := TX10) (N := 10) (ci := 8) inX10_envies_RX10 0 (show 0 < 32 by decide) rfl rfl 5 (by decide) (by decide +kernel) rfl dX10_envies_11 ?_
      refine cw_iload_n dX10_envies_14 1 rfl rfl ?_
      refine cw_iload_n dX10_envies_15 2 rfl rfl ?_
      obtain ⟨v_16, J_16, hc_16, h⟩ := h
      refine cw_callV (o := 16) (As := [.int x1, .int x2]) hc_16 okX3_hasEnvy rfl gX10_envies_X3_hasEnvy (by decide) (show 16 < 32 by decide) rfl (ci := 2) rfl rfl (Nat.le_of_ble_eq_true rfl) dX10_envies_16 ?_
      exact h.elim
    · exact cw_callX (o := 0) (As := [.int x2]) hc_7 okX10_requireSibling rfl gX10_envies_X10_requireSibling (by decide) (show 0 < 32 by decide) rfl (ci := 8) rfl rfl (Nat.le_of_ble_eq_true rfl) dX10_envies_7 h
  · exact cw_callX (o := 0) (As := [.int x1]) hc_2 okX10_requireSibling rfl gX10_envies_X10_requireSibling (by decide) (show 0 < 32 by decide) rfl (ci := 8) rfl rfl (Nat.le_of_ble_eq_true rfl) dX10_envies_2 h
set_option maxRecDepth 20000 in
set_option maxHeartbeats 4000000 in
theorem xX10_envyCycleLength_0 {K : cw_K} {E : String} {J0 I : cw_M} {x1 : Int32} (h : ((∃ J_2 : cw_M, cw_C (cc_w K) mX10_requireSibling [.ref (cw_a (cc_w K) 0), .int x1] I none J_2 ∧ (∃ (v_10 : Int32) (J_10 : cw_M), cw_C (cc_w K) mX3_findCycle [.ref (cw_a (cc_w K) 16), .int x1] J_2 (some (.int v_10)) J_10 ∧ False)) ∨ (∃ (E1 : String) (J_2 : cw_M), cw_T (cc_w K) mX10_requireSibling [.ref (cw_a (cc_w K) 0), .int x1] I E1 J_2 ∧ E = E1 ∧ J0 = J_2))) : cw_T (cc_w K) mX10_envyCycleLength [.ref (cw_a (cc_w K) 0), .int x1] I E J0 := by
  refine cw_tentry okX10_envyCycleLength (Nat.le_of_ble_eq_true rfl) (show cw_B (cc_w K) mX10_envyCycleLength (cw_Zx (cc_w K) E J0) 1 6 I 0 [(0, .ref (cw_a (cc_w K) 0)), (1, .int x1)] [] from ?_)
  refine cw_aload_n dX10_envyCycleLength_0 0 rfl rfl ?_
  refine cw_iload_n dX10_envyCycleLength_1 1 rfl rfl ?_
  rcases h with ⟨J_2, hc_2, h⟩ | ⟨E1, J_2, hc_2, h⟩
  · refine cw_callV (o := 0) (As := [.int x1]) hc_2 okX10_requireSibling rfl gX10_envyCycleLength_X10_requireSibling (by decide) (show 0 < 32 by decide) rfl (ci := 8) rfl rfl (Nat.le_of_ble_eq_true rfl) dX10_envyCycleLength_2 ?_
    refine cw_aload_n dX10_envyCycleLength_5 0 rfl rfl ?_
    refine cw_getf (C := RX10) (T := TX10) (N := 10) (ci := 8) inX10_envyCycleLength_RX10 0 (show 0 < 32 by decide) rfl rfl 5 (by decide) (by decide +kernel) rfl dX10_envyCycleLength_6 ?_
    refine cw_iload_n dX10_envyCycleLength_9 1 rfl rfl ?_
    obtain ⟨v_10, J_10, hc_10, h⟩ := h
    refine cw_callV (o := 16) (As := [.int x1]) hc_10 okX3_findCycle rfl gX10_envyCycleLength_X3_findCycle (by decide) (show 16 < 32 by decide) rfl (ci := 2) rfl rfl (Nat.le_of_ble_eq_true rfl) dX10_envyCycleLength_10 ?_
    exact h.elim
  · exact cw_callX (o := 0) (As := [.int x1]) hc_2 okX10_requireSibling rfl gX10_envyCycleLength_X10_requireSibling (by decide) (show 0 < 32 by decide) rfl (ci := 8) rfl rfl (Nat.le_of_ble_eq_true rfl) dX10_envyCycleLength_2 h
set_option maxRecDepth 20000 in
set_option maxHeartbeats 4000000 in
theorem xX10_envyCycleMember_0 {K : cw_K} {E : String} {J0 I : cw_M} {x1 : Int32} {x2 : Int32} (hFT : cw_FT (cw_f (cc_w K))) (hl : K.1.stackTraces = false) (h : ((∃ J_2 : cw_M, cw_C (cc_w K) mX10_requireSibling [.ref (cw_a (cc_w K) 0), .int x1] I none J_2 ∧ ((x2 < 0 → (E = "java/util/NoSuchElementException" ∧ J0 = J_2)) ∧ (¬ x2 < 0 → (∃ (v_15 : Int32) (J_15 : cw_M), cw_C (cc_w K) mX3_findCycle [.ref (cw_a (cc_w K) 16), .int x1] J_2 (some (.int v_15)) J_15 ∧ ((x2 < v_15 → (vp_in x2 6 ∧ False)) ∧ (¬ x2 < v_15 → (E = "java/util/NoSuchElementException" ∧ J0 = J_15))))))) ∨ (∃ (E1 : String) (J_2 : cw_M), cw_T (cc_w K) mX10_requireSibling [.ref (cw_a (cc_w K) 0), .int x1] I E1 J_2 ∧ E = E1 ∧ J0 = J_2))) : cw_T (cc_w K) mX10_envyCycleMember [.ref (cw_a (cc_w K) 0), .int x1, .int x2] I E J0 := by
  refine cw_tentry okX10_envyCycleMember (Nat.le_of_ble_eq_true rfl) (show cw_B (cc_w K) mX10_envyCycleMember (cw_Zx (cc_w K) E J0) 1 6 I 0 [(0, .ref (cw_a (cc_w K) 0)), (1, .int x1), (2, .int x2)] [] from ?_)
  refine cw_aload_n dX10_envyCycleMember_0 0 rfl rfl ?_
  refine cw_iload_n dX10_envyCycleMember_1 1 rfl rfl ?_
  rcases h with ⟨J_2, hc_2, h⟩ | ⟨E1, J_2, hc_2, h⟩
  · refine cw_callV (o := 0) (As := [.int x1]) hc_2 okX10_requireSibling rfl (nse_gi gX10_envyCycleMember_X10_requireSibling (by decide +kernel)) (by decide) (show 0 < 32 by decide) rfl (ci := 8) rfl rfl (Nat.le_of_ble_eq_true rfl) dX10_envyCycleMember_2 ?_
    refine cw_iload_n dX10_envyCycleMember_5 2 rfl rfl ?_
    refine cw_if_lt (tgt := 21) dX10_envyCycleMember_6 (by decide) (fun q => ?_) (fun q => ?_)
    · have h := h.1 q
      exact cw_throwN (text := "there is no such member of an envy cycle") (is := 214) hl (hFT (143, "java/util/NoSuchElementException", ["java/lang/RuntimeException", "java/lang/Exception"], 214, "there is no such member of an envy cycle") (by decide +kernel)) rfl (by decide +kernel) (by decide +kernel) (by decide +kernel) dX10_envyCycleMember_21 dX10_envyCycleMember_24 dX10_envyCycleMember_25 dX10_envyCycleMember_27 dX10_envyCycleMember_30 ⟨by decide, Nat.le_of_ble_eq_true rfl⟩ h
    · have h := h.2 q
      refine cw_iload_n dX10_envyCycleMember_9 2 rfl rfl ?_
      refine cw_aload_n dX10_envyCycleMember_10 0 rfl rfl ?_
      refine cw_getf (C := RX10) (T := TX10) (N := 10) (ci := 8) inX10_envyCycleMember_RX10 0 (show 0 < 32 by decide) rfl rfl 5 (by decide) (by decide +kernel) rfl dX10_envyCycleMember_11 ?_
      refine cw_iload_n dX10_envyCycleMember_14 1 rfl rfl ?_
      obtain ⟨v_15, J_15, hc_15, h⟩ := h
      refine cw_callV (o := 16) (As := [.int x1]) hc_15 okX3_findCycle rfl (nse_gi gX10_envyCycleMember_X3_findCycle (by decide +kernel)) (by decide) (show 16 < 32 by decide) rfl (ci := 2) rfl rfl (Nat.le_of_ble_eq_true rfl) dX10_envyCycleMember_15 ?_
      refine cw_icmp_lt (tgt := 31) dX10_envyCycleMember_18 (by decide) (fun q => ?_) (fun q => ?_)
      · have h := h.1 q
        refine cw_aload_n dX10_envyCycleMember_31 0 rfl rfl ?_
        refine cw_getf (C := RX10) (T := TX10) (N := 10) (ci := 8) inX10_envyCycleMember_RX10 0 (show 0 < 32 by decide) rfl rfl 5 (by decide) (by decide +kernel) rfl dX10_envyCycleMember_32 ?_
        refine cw_getf (C := RX3) (T := TX3) (N := 4) (ci := 2) inX10_envyCycleMember_RX3 16 (show 16 < 32 by decide) rfl rfl 0 (by decide) (by decide +kernel) rfl dX10_envyCycleMember_35 ?_
        refine cw_iload_n dX10_envyCycleMember_38 2 rfl rfl ?_
        obtain ⟨g_39, h⟩ := h
        refine cw_iald 17 (show 17 < 32 by decide) rfl 0 rfl dX10_envyCycleMember_39 g_39 ?_
        exact h.elim
      · have h := h.2 q
        exact cw_throwN (text := "there is no such member of an envy cycle") (is := 214) hl (hFT (143, "java/util/NoSuchElementException", ["java/lang/RuntimeException", "java/lang/Exception"], 214, "there is no such member of an envy cycle") (by decide +kernel)) rfl (by decide +kernel) (by decide +kernel) (by decide +kernel) dX10_envyCycleMember_21 dX10_envyCycleMember_24 dX10_envyCycleMember_25 dX10_envyCycleMember_27 dX10_envyCycleMember_30 ⟨by decide, Nat.le_of_ble_eq_true rfl⟩ h
  · exact cw_callX (o := 0) (As := [.int x1]) hc_2 okX10_requireSibling rfl (nse_gi gX10_envyCycleMember_X10_requireSibling (by decide +kernel)) (by decide) (show 0 < 32 by decide) rfl (ci := 8) rfl rfl (Nat.le_of_ble_eq_true rfl) dX10_envyCycleMember_2 h
set_option maxRecDepth 20000 in
set_option maxHeartbeats 4000000 in
theorem xX10_favouriteFreeCell_0 {K : cw_K} {E : String} {J0 I : cw_M} {x1 : Int32} (h : ((∃ J_2 : cw_M, cw_C (cc_w K) mX10_requireSibling [.ref (cw_a (cc_w K) 0), .int x1] I none J_2 ∧ (∃ (v_17 : Int32) (J_17 : cw_M), cw_C (cc_w K) mX6_favouriteOf [.ref (cw_a (cc_w K) 20), .ref (cw_a (cc_w K) 9), .int x1] J_2 (some (.int v_17)) J_17 ∧ False)) ∨ (∃ (E1 : String) (J_2 : cw_M), cw_T (cc_w K) mX10_requireSibling [.ref (cw_a (cc_w K) 0), .int x1] I E1 J_2 ∧ E = E1 ∧ J0 = J_2))) : cw_T (cc_w K) mX10_favouriteFreeCell [.ref (cw_a (cc_w K) 0), .int x1] I E J0 := by
  refine cw_tentry okX10_favouriteFreeCell (Nat.le_of_ble_eq_true rfl) (show cw_B (cc_w K) mX10_favouriteFreeCell (cw_Zx (cc_w K) E J0) 1 6 I 0 [(0, .ref (cw_a (cc_w K) 0)), (1, .int x1)] [] from ?_)
  refine cw_aload_n dX10_favouriteFreeCell_0 0 rfl rfl ?_
  refine cw_iload_n dX10_favouriteFreeCell_1 1 rfl rfl ?_
  rcases h with ⟨J_2, hc_2, h⟩ | ⟨E1, J_2, hc_2, h⟩
  · refine cw_callV (o := 0) (As := [.int x1]) hc_2 okX10_requireSibling rfl gX10_favouriteFreeCell_X10_requireSibling (by decide) (show 0 < 32 by decide) rfl (ci := 8) rfl rfl (Nat.le_of_ble_eq_true rfl) dX10_favouriteFreeCell_2 ?_
    refine cw_aload_n dX10_favouriteFreeCell_5 0 rfl rfl ?_
    refine cw_getf (C := RX10) (T := TX10) (N := 10) (ci := 8) inX10_favouriteFreeCell_RX10 0 (show 0 < 32 by decide) rfl rfl 6 (by decide) (by decide +kernel) rfl dX10_favouriteFreeCell_6 ?_
    refine cw_aload_n dX10_favouriteFreeCell_9 0 rfl rfl ?_
    refine cw_getf (C := RX10) (T := TX10) (N := 10) (ci := 8) inX10_favouriteFreeCell_RX10 0 (show 0 < 32 by decide) rfl rfl 2 (by decide) (by decide +kernel) rfl dX10_favouriteFreeCell_10 ?_
    refine cw_getf (C := RX1) (T := TX1) (N := 6) (ci := 0) inX10_favouriteFreeCell_RX1 5 (show 5 < 32 by decide) rfl rfl 5 (by decide) (by decide +kernel) rfl dX10_favouriteFreeCell_13 ?_
    refine cw_iload_n dX10_favouriteFreeCell_16 1 rfl rfl ?_
    obtain ⟨v_17, J_17, hc_17, h⟩ := h
    refine cw_callV (o := 20) (As := [.ref (cw_a (cc_w K) 9), .int x1]) hc_17 okX6_favouriteOf rfl gX10_favouriteFreeCell_X6_favouriteOf (by decide) (show 20 < 32 by decide) rfl (ci := 5) rfl rfl (Nat.le_of_ble_eq_true rfl) dX10_favouriteFreeCell_17 ?_
    exact h.elim
  · exact cw_callX (o := 0) (As := [.int x1]) hc_2 okX10_requireSibling rfl gX10_favouriteFreeCell_X10_requireSibling (by decide) (show 0 < 32 by decide) rfl (ci := 8) rfl rfl (Nat.le_of_ble_eq_true rfl) dX10_favouriteFreeCell_2 h
set_option maxRecDepth 20000 in
set_option maxHeartbeats 4000000 in
theorem xX10_findSibling_0 {K : cw_K} {E : String} {J0 I : cw_M} (hFT : cw_FT (cw_f (cc_w K))) (hl : K.1.stackTraces = false) (h : (∃ (v_16 : Int32) (J_16 : cw_M), cw_C (cc_w K) mX1_findName [.ref (cw_a (cc_w K) 5), .ref (cw_a (cc_w K) 1), .int 0, .int (I 1 1)] I (some (.int v_16)) J_16 ∧ ((¬ v_16 = (-1) → False) ∧ (v_16 = (-1) → (E = "java/util/NoSuchElementException" ∧ J0 = J_16))))) : cw_T (cc_w K) mX10_findSibling [.ref (cw_a (cc_w K) 0)] I E J0 := by
  refine cw_tentry okX10_findSibling (Nat.le_of_ble_eq_true rfl) (show cw_B (cc_w K) mX10_findSibling (cw_Zx (cc_w K) E J0) 1 6 I 0 [(0, .ref (cw_a (cc_w K) 0))] [] from ?_)
  refine cw_aload_n dX10_findSibling_0 0 rfl rfl ?_
  refine cw_getf (C := RX10) (T := TX10) (N := 10) (ci := 8) inX10_findSibling_RX10 0 (show 0 < 32 by decide) rfl rfl 2 (by decide) (by decide +kernel) rfl dX10_findSibling_1 ?_
  refine cw_aload_n dX10_findSibling_4 0 rfl rfl ?_
  refine cw_getf (C := RX10) (T := TX10) (N := 10) (ci := 8) inX10_findSibling_RX10 0 (show 0 < 32 by decide) rfl rfl 0 (by decide) (by decide +kernel) rfl dX10_findSibling_5 ?_
  refine cw_iconst (v := 0) dX10_findSibling_8 (by decide) ?_
  refine cw_aload_n dX10_findSibling_9 0 rfl rfl ?_
  refine cw_getf (C := RX10) (T := TX10) (N := 10) (ci := 8) inX10_findSibling_RX10 0 (show 0 < 32 by decide) rfl rfl 0 (by decide) (by decide +kernel) rfl dX10_findSibling_10 ?_
  refine cw_getf (C := RX8) (T := TX8) (N := 2) (ci := 7) inX10_findSibling_RX8 1 (show 1 < 32 by decide) rfl rfl 1 (by decide) (by decide +kernel) rfl dX10_findSibling_13 ?_
  obtain ⟨v_16, J_16, hc_16, h⟩ := h
  refine cw_callV (o := 5) (As := [.ref (cw_a (cc_w K) 1), .int 0, .int (I 1 1)]) hc_16 okX1_findName rfl (nse_gi gX10_findSibling_X1_findName (by decide +kernel)) (by decide) (show 5 < 32 by decide) rfl (ci := 0) rfl rfl (Nat.le_of_ble_eq_true rfl) dX10_findSibling_16 ?_
  refine cw_istore_n dX10_findSibling_19 rfl (by decide) rfl ?_
  refine cw_iload_n dX10_findSibling_20 0 rfl rfl ?_
  refine cw_iconst (v := (-1)) dX10_findSibling_21 (by decide) ?_
  refine cw_icmp_ne (tgt := 35) dX10_findSibling_22 (by decide) (fun q => ?_) (fun q => ?_)
  · have h := h.1 q
    refine cw_iload_n dX10_findSibling_35 0 rfl rfl ?_
    exact h.elim
  · have h := h.2 q
    exact cw_throwN (text := "no sibling has this name") (is := 141) hl (hFT (143, "java/util/NoSuchElementException", ["java/lang/RuntimeException", "java/lang/Exception"], 141, "no sibling has this name") (by decide +kernel)) rfl (by decide +kernel) (by decide +kernel) (by decide +kernel) dX10_findSibling_25 dX10_findSibling_28 dX10_findSibling_29 dX10_findSibling_31 dX10_findSibling_34 ⟨by decide, Nat.le_of_ble_eq_true rfl⟩ h
set_option maxRecDepth 20000 in
set_option maxHeartbeats 4000000 in
theorem xX10_give_0 {K : cw_K} {E : String} {J0 I : cw_M} {x1 : Int32} {x2 : Int32} {x3 : Int32} (h : ((∃ J_2 : cw_M, cw_C (cc_w K) mX10_requireSibling [.ref (cw_a (cc_w K) 0), .int x1] I none J_2 ∧ ((∃ J_8 : cw_M, cw_C (cc_w K) mX10_requireRun [.ref (cw_a (cc_w K) 0), .int x2, .int x3] J_2 none J_8 ∧ (∃ J_19 : cw_M, cw_C (cc_w K) mX4_rememberForUndo [.ref (cw_a (cc_w K) 28), .ref (cw_a (cc_w K) 5)] J_8 none J_19 ∧ (∃ J_38 : cw_M, cw_C (cc_w K) mX1_assign [.ref (cw_a (cc_w K) 5), .ref (cw_a (cc_w K) 9), .int x1, .int x2, .int (x3 + 1)] J_19 none J_38 ∧ (∃ (v_46 : Int32) (J_46 : cw_M), cw_C (cc_w K) mX1_welfareOf [.ref (cw_a (cc_w K) 5), .int x1] J_38 (some (.int v_46)) J_46 ∧ False)))) ∨ (∃ (E1 : String) (J_8 : cw_M), cw_T (cc_w K) mX10_requireRun [.ref (cw_a (cc_w K) 0), .int x2, .int x3] J_2 E1 J_8 ∧ E = E1 ∧ J0 = J_8))) ∨ (∃ (E1 : String) (J_2 : cw_M), cw_T (cc_w K) mX10_requireSibling [.ref (cw_a (cc_w K) 0), .int x1] I E1 J_2 ∧ E = E1 ∧ J0 = J_2))) : cw_T (cc_w K) mX10_give [.ref (cw_a (cc_w K) 0), .int x1, .int x2, .int x3] I E J0 := by
  refine cw_tentry okX10_give (Nat.le_of_ble_eq_true rfl) (show cw_B (cc_w K) mX10_give (cw_Zx (cc_w K) E J0) 1 6 I 0 [(0, .ref (cw_a (cc_w K) 0)), (1, .int x1), (2, .int x2), (3, .int x3)] [] from ?_)
  refine cw_aload_n dX10_give_0 0 rfl rfl ?_
  refine cw_iload_n dX10_give_1 1 rfl rfl ?_
  rcases h with ⟨J_2, hc_2, h⟩ | ⟨E1, J_2, hc_2, h⟩
  · refine cw_callV (o := 0) (As := [.int x1]) hc_2 okX10_requireSibling rfl gX10_give_X10_requireSibling (by decide) (show 0 < 32 by decide) rfl (ci := 8) rfl rfl (Nat.le_of_ble_eq_true rfl) dX10_give_2 ?_
    refine cw_aload_n dX10_give_5 0 rfl rfl ?_
    refine cw_iload_n dX10_give_6 2 rfl rfl ?_
    refine cw_iload_n dX10_give_7 3 rfl rfl ?_
    rcases h with ⟨J_8, hc_8, h⟩ | ⟨E1, J_8, hc_8, h⟩
    · refine cw_callV (o := 0) (As := [.int x2, .int x3]) hc_8 okX10_requireRun rfl gX10_give_X10_requireRun (by decide) (show 0 < 32 by decide) rfl (ci := 8) rfl rfl (Nat.le_of_ble_eq_true rfl) dX10_give_8 ?_
      refine cw_aload_n dX10_give_11 0 rfl rfl ?_
      refine cw_getf (C := RX10) (T := TX10) (N := 10) (ci := 8) inX10_give_RX10 0 (show 0 < 32 by decide) rfl rfl 9 (by decide) (by decide +kernel) rfl dX10_give_12 ?_
      refine cw_aload_n dX10_give_15 0 rfl rfl ?_
      refine cw_getf (C := RX10) (T := TX10) (N := 10) (ci := 8) inX10_give_RX10 0 (show 0 < 32 by decide) rfl rfl 2 (by decide) (by decide +kernel) rfl dX10_give_16 ?_
      obtain ⟨J_19, hc_19, h⟩ := h
      refine cw_callV (o := 28) (As := [.ref (cw_a (cc_w K) 5)]) hc_19 okX4_rememberForUndo rfl gX10_give_X4_rememberForUndo (by decide) (show 28 < 32 by decide) rfl (ci := 3) rfl rfl (Nat.le_of_ble_eq_true rfl) dX10_give_19 ?_
      refine cw_aload_n dX10_give_22 0 rfl rfl ?_
      refine cw_getf (C := RX10) (T := TX10) (N := 10) (ci := 8) inX10_give_RX10 0 (show 0 < 32 by decide) rfl rfl 2 (by decide) (by decide +kernel) rfl dX10_give_23 ?_
      refine cw_aload_n dX10_give_26 0 rfl rfl ?_
      refine cw_getf (C := RX10) (T := TX10) (N := 10) (ci := 8) inX10_give_RX10 0 (show 0 < 32 by decide) rfl rfl 2 (by decide) (by decide +kernel) rfl dX10_give_27 ?_
      refine cw_getf (C := RX1) (T := TX1) (N := 6) (ci := 0) inX10_give_RX1 5 (show 5 < 32 by decide) rfl rfl 5 (by decide) (by decide +kernel) rfl dX10_give_30 ?_
      refine cw_iload_n dX10_give_33 1 rfl rfl ?_
      refine cw_iload_n dX10_give_34 2 rfl rfl ?_
      refine cw_iload_n dX10_give_35 3 rfl rfl ?_
      refine cw_iconst (v := 1) dX10_give_36 (by decide) ?_
      refine cw_iadd dX10_give_37 ?_
      obtain ⟨J_38, hc_38, h⟩ := h
      refine cw_callV (o := 5) (As := [.ref (cw_a (cc_w K) 9), .int x1, .int x2, .int (x3 + 1)]) hc_38 okX1_assign rfl gX10_give_X1_assign (by decide) (show 5 < 32 by decide) rfl (ci := 0) rfl rfl (Nat.le_of_ble_eq_true rfl) dX10_give_38 ?_
      refine cw_aload_n dX10_give_41 0 rfl rfl ?_
      refine cw_getf (C := RX10) (T := TX10) (N := 10) (ci := 8) inX10_give_RX10 0 (show 0 < 32 by decide) rfl rfl 2 (by decide) (by decide +kernel) rfl dX10_give_42 ?_
      refine cw_iload_n dX10_give_45 1 rfl rfl ?_
      obtain ⟨v_46, J_46, hc_46, h⟩ := h
      refine cw_callV (o := 5) (As := [.int x1]) hc_46 okX1_welfareOf rfl gX10_give_X1_welfareOf (by decide) (show 5 < 32 by decide) rfl (ci := 0) rfl rfl (Nat.le_of_ble_eq_true rfl) dX10_give_46 ?_
      exact h.elim
    · exact cw_callX (o := 0) (As := [.int x2, .int x3]) hc_8 okX10_requireRun rfl gX10_give_X10_requireRun (by decide) (show 0 < 32 by decide) rfl (ci := 8) rfl rfl (Nat.le_of_ble_eq_true rfl) dX10_give_8 h
  · exact cw_callX (o := 0) (As := [.int x1]) hc_2 okX10_requireSibling rfl gX10_give_X10_requireSibling (by decide) (show 0 < 32 by decide) rfl (ci := 8) rfl rfl (Nat.le_of_ble_eq_true rfl) dX10_give_2 h
set_option maxRecDepth 20000 in
set_option maxHeartbeats 4000000 in
theorem xX10_isMild_0 {K : cw_K} {E : String} {J0 I : cw_M} {x1 : Int32} {x2 : Int32} (hFT : cw_FT (cw_f (cc_w K))) (hl : K.1.stackTraces = false) (h : ((∃ J_2 : cw_M, cw_C (cc_w K) mX10_requireSibling [.ref (cw_a (cc_w K) 0), .int x1] I none J_2 ∧ ((∃ J_7 : cw_M, cw_C (cc_w K) mX10_requireSibling [.ref (cw_a (cc_w K) 0), .int x2] J_2 none J_7 ∧ (∃ (v_16 : Int32) (J_16 : cw_M), cw_C (cc_w K) mX3_hasEnvy [.ref (cw_a (cc_w K) 16), .int x1, .int x2] J_7 (some (.int v_16)) J_16 ∧ ((¬ v_16 = 0 → (∃ (v_38 : Int32) (J_38 : cw_M), cw_C (cc_w K) mX3_hasStrongEnvy [.ref (cw_a (cc_w K) 16), .int x1, .int x2] J_16 (some (.int v_38)) J_38 ∧ ((¬ v_38 = 0 → False) ∧ (v_38 = 0 → False)))) ∧ (v_16 = 0 → (E = "java/lang/IllegalStateException" ∧ J0 = J_16))))) ∨ (∃ (E1 : String) (J_7 : cw_M), cw_T (cc_w K) mX10_requireSibling [.ref (cw_a (cc_w K) 0), .int x2] J_2 E1 J_7 ∧ E = E1 ∧ J0 = J_7))) ∨ (∃ (E1 : String) (J_2 : cw_M), cw_T (cc_w K) mX10_requireSibling [.ref (cw_a (cc_w K) 0), .int x1] I E1 J_2 ∧ E = E1 ∧ J0 = J_2))) : cw_T (cc_w K) mX10_isMild [.ref (cw_a (cc_w K) 0), .int x1, .int x2] I E J0 := by
  refine cw_tentry okX10_isMild (Nat.le_of_ble_eq_true rfl) (show cw_B (cc_w K) mX10_isMild (cw_Zx (cc_w K) E J0) 1 6 I 0 [(0, .ref (cw_a (cc_w K) 0)), (1, .int x1), (2, .int x2)] [] from ?_)
  refine cw_aload_n dX10_isMild_0 0 rfl rfl ?_
  refine cw_iload_n dX10_isMild_1 1 rfl rfl ?_
  rcases h with ⟨J_2, hc_2, h⟩ | ⟨E1, J_2, hc_2, h⟩
  · refine cw_callV (o := 0) (As := [.int x1]) hc_2 okX10_requireSibling rfl gX10_isMild_X10_requireSibling (by decide) (show 0 < 32 by decide) rfl (ci := 8) rfl rfl (Nat.le_of_ble_eq_true rfl) dX10_isMild_2 ?_
    refine cw_aload_n dX10_isMild_5 0 rfl rfl ?_
    refine cw_iload_n dX10_isMild_6 2 rfl rfl ?_
    rcases h with ⟨J_7, hc_7, h⟩ | ⟨E1, J_7, hc_7, h⟩
    · refine cw_callV (o := 0) (As := [.int x2]) hc_7 okX10_requireSibling rfl gX10_isMild_X10_requireSibling (by decide) (show 0 < 32 by decide) rfl (ci := 8) rfl rfl (Nat.le_of_ble_eq_true rfl) dX10_isMild_7 ?_
      refine cw_aload_n dX10_isMild_10 0 rfl rfl ?_
      refine cw_getf (C := RX10) (T := TX10) (N := 10) (ci := 8) inX10_isMild_RX10 0 (show 0 < 32 by decide) rfl rfl 5 (by decide) (by decide +kernel) rfl dX10_isMild_11 ?_
      refine cw_iload_n dX10_isMild_14 1 rfl rfl ?_
      refine cw_iload_n dX10_isMild_15 2 rfl rfl ?_
      obtain ⟨v_16, J_16, hc_16, h⟩ := h
      refine cw_callV (o := 16) (As := [.int x1, .int x2]) hc_16 okX3_hasEnvy rfl gX10_isMild_X3_hasEnvy (by decide) (show 16 < 32 by decide) rfl (ci := 2) rfl rfl (Nat.le_of_ble_eq_true rfl) dX10_isMild_16 ?_
      refine cw_if_ne (tgt := 32) dX10_isMild_19 (by decide) (fun q => ?_) (fun q => ?_)
      · have h := h.1 q
        refine cw_aload_n dX10_isMild_32 0 rfl rfl ?_
        refine cw_getf (C := RX10) (T := TX10) (N := 10) (ci := 8) inX10_isMild_RX10 0 (show 0 < 32 by decide) rfl rfl 5 (by decide) (by decide +kernel) rfl dX10_isMild_33 ?_
        refine cw_iload_n dX10_isMild_36 1 rfl rfl ?_
        refine cw_iload_n dX10_isMild_37 2 rfl rfl ?_
        obtain ⟨v_38, J_38, hc_38, h⟩ := h
        refine cw_callV (o := 16) (As := [.int x1, .int x2]) hc_38 okX3_hasStrongEnvy rfl gX10_isMild_X3_hasStrongEnvy (by decide) (show 16 < 32 by decide) rfl (ci := 2) rfl rfl (Nat.le_of_ble_eq_true rfl) dX10_isMild_38 ?_
        refine cw_if_ne (tgt := 48) dX10_isMild_41 (by decide) (fun q => ?_) (fun q => ?_)
        · have h := h.1 q
          refine cw_iconst (v := 0) dX10_isMild_48 (by decide) ?_
          exact h.elim
        · have h := h.2 q
          refine cw_iconst (v := 1) dX10_isMild_44 (by decide) ?_
          refine cw_goto (tgt := 49) dX10_isMild_45 (by decide) ?_
          exact h.elim
      · have h := h.2 q
        exact cw_throwS (cls := "java/lang/IllegalStateException") (text := "the sibling does not envy the other one") (names := ["java/lang/RuntimeException", "java/lang/Exception"]) (ik := 91) (is := 189) (ic := 95) hl (hFT (95, "java/lang/IllegalStateException", ["java/lang/RuntimeException", "java/lang/Exception"], 189, "the sibling does not envy the other one") (by decide +kernel)) (by decide +kernel) (by decide +kernel) (by decide +kernel) (by decide +kernel) (by decide +kernel) (by decide +kernel) dX10_isMild_22 dX10_isMild_25 dX10_isMild_26 dX10_isMild_28 dX10_isMild_31 ⟨by decide, Nat.le_of_ble_eq_true rfl⟩ h
    · exact cw_callX (o := 0) (As := [.int x2]) hc_7 okX10_requireSibling rfl gX10_isMild_X10_requireSibling (by decide) (show 0 < 32 by decide) rfl (ci := 8) rfl rfl (Nat.le_of_ble_eq_true rfl) dX10_isMild_7 h
  · exact cw_callX (o := 0) (As := [.int x1]) hc_2 okX10_requireSibling rfl gX10_isMild_X10_requireSibling (by decide) (show 0 < 32 by decide) rfl (ci := 8) rfl rfl (Nat.le_of_ble_eq_true rfl) dX10_isMild_2 h
set_option maxRecDepth 20000 in
set_option maxHeartbeats 4000000 in
theorem xX10_isSatisfied_0 {K : cw_K} {E : String} {J0 I : cw_M} {x1 : Int32} (h : ((∃ J_2 : cw_M, cw_C (cc_w K) mX10_requireSibling [.ref (cw_a (cc_w K) 0), .int x1] I none J_2 ∧ (∃ (v_10 : Int32) (J_10 : cw_M), cw_C (cc_w K) mX3_hasFairShare [.ref (cw_a (cc_w K) 16), .int x1] J_2 (some (.int v_10)) J_10 ∧ False)) ∨ (∃ (E1 : String) (J_2 : cw_M), cw_T (cc_w K) mX10_requireSibling [.ref (cw_a (cc_w K) 0), .int x1] I E1 J_2 ∧ E = E1 ∧ J0 = J_2))) : cw_T (cc_w K) mX10_isSatisfied [.ref (cw_a (cc_w K) 0), .int x1] I E J0 := by
  refine cw_tentry okX10_isSatisfied (Nat.le_of_ble_eq_true rfl) (show cw_B (cc_w K) mX10_isSatisfied (cw_Zx (cc_w K) E J0) 1 6 I 0 [(0, .ref (cw_a (cc_w K) 0)), (1, .int x1)] [] from ?_)
  refine cw_aload_n dX10_isSatisfied_0 0 rfl rfl ?_
  refine cw_iload_n dX10_isSatisfied_1 1 rfl rfl ?_
  rcases h with ⟨J_2, hc_2, h⟩ | ⟨E1, J_2, hc_2, h⟩
  · refine cw_callV (o := 0) (As := [.int x1]) hc_2 okX10_requireSibling rfl gX10_isSatisfied_X10_requireSibling (by decide) (show 0 < 32 by decide) rfl (ci := 8) rfl rfl (Nat.le_of_ble_eq_true rfl) dX10_isSatisfied_2 ?_
    refine cw_aload_n dX10_isSatisfied_5 0 rfl rfl ?_
    refine cw_getf (C := RX10) (T := TX10) (N := 10) (ci := 8) inX10_isSatisfied_RX10 0 (show 0 < 32 by decide) rfl rfl 5 (by decide) (by decide +kernel) rfl dX10_isSatisfied_6 ?_
    refine cw_iload_n dX10_isSatisfied_9 1 rfl rfl ?_
    obtain ⟨v_10, J_10, hc_10, h⟩ := h
    refine cw_callV (o := 16) (As := [.int x1]) hc_10 okX3_hasFairShare rfl gX10_isSatisfied_X3_hasFairShare (by decide) (show 16 < 32 by decide) rfl (ci := 2) rfl rfl (Nat.le_of_ble_eq_true rfl) dX10_isSatisfied_10 ?_
    exact h.elim
  · exact cw_callX (o := 0) (As := [.int x1]) hc_2 okX10_requireSibling rfl gX10_isSatisfied_X10_requireSibling (by decide) (show 0 < 32 by decide) rfl (ci := 8) rfl rfl (Nat.le_of_ble_eq_true rfl) dX10_isSatisfied_2 h
set_option maxRecDepth 20000 in
set_option maxHeartbeats 4000000 in
theorem xX10_load_0 {K : cw_K} {E : String} {J0 I : cw_M} (hFT : cw_FT (cw_f (cc_w K))) (hl : K.1.stackTraces = false) (h : (∃ (v_1 : Int32) (J_1 : cw_M), cw_C (cc_w K) mX10_adoptSetup [.ref (cw_a (cc_w K) 0)] I (some (.int v_1)) J_1 ∧ ((¬ v_1 = 0 → False) ∧ (v_1 = 0 → (E = "java/lang/IllegalArgumentException" ∧ J0 = J_1))))) : cw_T (cc_w K) mX10_load [.ref (cw_a (cc_w K) 0)] I E J0 := by
  refine cw_tentry okX10_load (Nat.le_of_ble_eq_true rfl) (show cw_B (cc_w K) mX10_load (cw_Zx (cc_w K) E J0) 1 6 I 0 [(0, .ref (cw_a (cc_w K) 0))] [] from ?_)
  refine cw_aload_n dX10_load_0 0 rfl rfl ?_
  obtain ⟨v_1, J_1, hc_1, h⟩ := h
  refine cw_callV (o := 0) (As := []) hc_1 okX10_adoptSetup rfl gX10_load_X10_adoptSetup (by decide) (show 0 < 32 by decide) rfl (ci := 8) rfl rfl (Nat.le_of_ble_eq_true rfl) dX10_load_1 ?_
  refine cw_if_ne (tgt := 17) dX10_load_4 (by decide) (fun q => ?_) (fun q => ?_)
  · have h := h.1 q
    refine cw_aload_n dX10_load_17 0 rfl rfl ?_
    refine cw_getf (C := RX10) (T := TX10) (N := 10) (ci := 8) inX10_load_RX10 0 (show 0 < 32 by decide) rfl rfl 2 (by decide) (by decide +kernel) rfl dX10_load_18 ?_
    refine cw_getf (C := RX1) (T := TX1) (N := 6) (ci := 0) inX10_load_RX1 5 (show 5 < 32 by decide) rfl rfl 1 (by decide) (by decide +kernel) rfl dX10_load_21 ?_
    exact h.elim
  · have h := h.2 q
    exact cw_throwS (cls := "java/lang/IllegalArgumentException") (text := "the setup text has an error") (names := ["java/lang/RuntimeException", "java/lang/Exception"]) (ik := 101) (is := 106) (ic := 105) hl (hFT (105, "java/lang/IllegalArgumentException", ["java/lang/RuntimeException", "java/lang/Exception"], 106, "the setup text has an error") (by decide +kernel)) (by decide +kernel) (by decide +kernel) (by decide +kernel) (by decide +kernel) (by decide +kernel) (by decide +kernel) dX10_load_7 dX10_load_10 dX10_load_11 dX10_load_13 dX10_load_16 ⟨by decide, Nat.le_of_ble_eq_true rfl⟩ h
set_option maxRecDepth 20000 in
set_option maxHeartbeats 4000000 in
theorem xX10_mark_0 {K : cw_K} {E : String} {J0 I : cw_M} {x1 : Int32} {x2 : Int32} {x3 : Int32} (hFT : cw_FT (cw_f (cc_w K))) (hl : K.1.stackTraces = false) (h : ((∃ J_2 : cw_M, cw_C (cc_w K) mX10_requireSibling [.ref (cw_a (cc_w K) 0), .int x1] I none J_2 ∧ ((∃ J_7 : cw_M, cw_C (cc_w K) mX10_requireCell [.ref (cw_a (cc_w K) 0), .int x2] J_2 none J_7 ∧ ((x3 < 1 → (E = "java/lang/IllegalArgumentException" ∧ J0 = J_7)) ∧ (¬ x3 < 1 → ((x3 ≤ 24 → (∃ (v_38 : Int32) (J_38 : cw_M), cw_C (cc_w K) mX6_markOf [.ref (cw_a (cc_w K) 20), .int x1, .int x2, .int x3] J_7 (some (.int v_38)) J_38 ∧ False)) ∧ (¬ x3 ≤ 24 → (E = "java/lang/IllegalArgumentException" ∧ J0 = J_7)))))) ∨ (∃ (E1 : String) (J_7 : cw_M), cw_T (cc_w K) mX10_requireCell [.ref (cw_a (cc_w K) 0), .int x2] J_2 E1 J_7 ∧ E = E1 ∧ J0 = J_7))) ∨ (∃ (E1 : String) (J_2 : cw_M), cw_T (cc_w K) mX10_requireSibling [.ref (cw_a (cc_w K) 0), .int x1] I E1 J_2 ∧ E = E1 ∧ J0 = J_2))) : cw_T (cc_w K) mX10_mark [.ref (cw_a (cc_w K) 0), .int x1, .int x2, .int x3] I E J0 := by
  refine cw_tentry okX10_mark (Nat.le_of_ble_eq_true rfl) (show cw_B (cc_w K) mX10_mark (cw_Zx (cc_w K) E J0) 1 6 I 0 [(0, .ref (cw_a (cc_w K) 0)), (1, .int x1), (2, .int x2), (3, .int x3)] [] from ?_)
  refine cw_aload_n dX10_mark_0 0 rfl rfl ?_
  refine cw_iload_n dX10_mark_1 1 rfl rfl ?_
  rcases h with ⟨J_2, hc_2, h⟩ | ⟨E1, J_2, hc_2, h⟩
  · refine cw_callV (o := 0) (As := [.int x1]) hc_2 okX10_requireSibling rfl gX10_mark_X10_requireSibling (by decide) (show 0 < 32 by decide) rfl (ci := 8) rfl rfl (Nat.le_of_ble_eq_true rfl) dX10_mark_2 ?_
    refine cw_aload_n dX10_mark_5 0 rfl rfl ?_
    refine cw_iload_n dX10_mark_6 2 rfl rfl ?_
    rcases h with ⟨J_7, hc_7, h⟩ | ⟨E1, J_7, hc_7, h⟩
    · refine cw_callV (o := 0) (As := [.int x2]) hc_7 okX10_requireCell rfl gX10_mark_X10_requireCell (by decide) (show 0 < 32 by decide) rfl (ci := 8) rfl rfl (Nat.le_of_ble_eq_true rfl) dX10_mark_7 ?_
      refine cw_iload_n dX10_mark_10 3 rfl rfl ?_
      refine cw_iconst (v := 1) dX10_mark_11 (by decide) ?_
      refine cw_icmp_lt (tgt := 21) dX10_mark_12 (by decide) (fun q => ?_) (fun q => ?_)
      · have h := h.1 q
        exact cw_throwS (cls := "java/lang/IllegalArgumentException") (text := "the number of parts is out of range") (names := ["java/lang/RuntimeException", "java/lang/Exception"]) (ik := 101) (is := 176) (ic := 105) hl (hFT (105, "java/lang/IllegalArgumentException", ["java/lang/RuntimeException", "java/lang/Exception"], 176, "the number of parts is out of range") (by decide +kernel)) (by decide +kernel) (by decide +kernel) (by decide +kernel) (by decide +kernel) (by decide +kernel) (by decide +kernel) dX10_mark_21 dX10_mark_24 dX10_mark_25 dX10_mark_27 dX10_mark_30 ⟨by decide, Nat.le_of_ble_eq_true rfl⟩ h
      · have h := h.2 q
        refine cw_iload_n dX10_mark_15 3 rfl rfl ?_
        refine cw_bipush (v := 24) dX10_mark_16 (by decide) ?_
        refine cw_icmp_le (tgt := 31) dX10_mark_18 (by decide) (fun q => ?_) (fun q => ?_)
        · have h := h.1 q
          refine cw_aload_n dX10_mark_31 0 rfl rfl ?_
          refine cw_getf (C := RX10) (T := TX10) (N := 10) (ci := 8) inX10_mark_RX10 0 (show 0 < 32 by decide) rfl rfl 6 (by decide) (by decide +kernel) rfl dX10_mark_32 ?_
          refine cw_iload_n dX10_mark_35 1 rfl rfl ?_
          refine cw_iload_n dX10_mark_36 2 rfl rfl ?_
          refine cw_iload_n dX10_mark_37 3 rfl rfl ?_
          obtain ⟨v_38, J_38, hc_38, h⟩ := h
          refine cw_callV (o := 20) (As := [.int x1, .int x2, .int x3]) hc_38 okX6_markOf rfl gX10_mark_X6_markOf (by decide) (show 20 < 32 by decide) rfl (ci := 5) rfl rfl (Nat.le_of_ble_eq_true rfl) dX10_mark_38 ?_
          exact h.elim
        · have h := h.2 q
          exact cw_throwS (cls := "java/lang/IllegalArgumentException") (text := "the number of parts is out of range") (names := ["java/lang/RuntimeException", "java/lang/Exception"]) (ik := 101) (is := 176) (ic := 105) hl (hFT (105, "java/lang/IllegalArgumentException", ["java/lang/RuntimeException", "java/lang/Exception"], 176, "the number of parts is out of range") (by decide +kernel)) (by decide +kernel) (by decide +kernel) (by decide +kernel) (by decide +kernel) (by decide +kernel) (by decide +kernel) dX10_mark_21 dX10_mark_24 dX10_mark_25 dX10_mark_27 dX10_mark_30 ⟨by decide, Nat.le_of_ble_eq_true rfl⟩ h
    · exact cw_callX (o := 0) (As := [.int x2]) hc_7 okX10_requireCell rfl gX10_mark_X10_requireCell (by decide) (show 0 < 32 by decide) rfl (ci := 8) rfl rfl (Nat.le_of_ble_eq_true rfl) dX10_mark_7 h
  · exact cw_callX (o := 0) (As := [.int x1]) hc_2 okX10_requireSibling rfl gX10_mark_X10_requireSibling (by decide) (show 0 < 32 by decide) rfl (ci := 8) rfl rfl (Nat.le_of_ble_eq_true rfl) dX10_mark_2 h
set_option maxRecDepth 20000 in
set_option maxHeartbeats 4000000 in
theorem xX10_nameByte_0 {K : cw_K} {E : String} {J0 I : cw_M} {x1 : Int32} {x2 : Int32} (hFT : cw_FT (cw_f (cc_w K))) (hl : K.1.stackTraces = false) (h : ((∃ J_2 : cw_M, cw_C (cc_w K) mX10_requireSibling [.ref (cw_a (cc_w K) 0), .int x1] I none J_2 ∧ ((x2 < 0 → (E = "java/lang/IndexOutOfBoundsException" ∧ J0 = J_2)) ∧ (¬ x2 < 0 → (vp_in x1 6 ∧ ((x2 < (J_2 7 x1.toNatClampNeg) → (vp_in ((x1 * 6) + x2) 36 ∧ False)) ∧ (¬ x2 < (J_2 7 x1.toNatClampNeg) → (E = "java/lang/IndexOutOfBoundsException" ∧ J0 = J_2))))))) ∨ (∃ (E1 : String) (J_2 : cw_M), cw_T (cc_w K) mX10_requireSibling [.ref (cw_a (cc_w K) 0), .int x1] I E1 J_2 ∧ E = E1 ∧ J0 = J_2))) : cw_T (cc_w K) mX10_nameByte [.ref (cw_a (cc_w K) 0), .int x1, .int x2] I E J0 := by
  refine cw_tentry okX10_nameByte (Nat.le_of_ble_eq_true rfl) (show cw_B (cc_w K) mX10_nameByte (cw_Zx (cc_w K) E J0) 1 6 I 0 [(0, .ref (cw_a (cc_w K) 0)), (1, .int x1), (2, .int x2)] [] from ?_)
  refine cw_aload_n dX10_nameByte_0 0 rfl rfl ?_
  refine cw_iload_n dX10_nameByte_1 1 rfl rfl ?_
  rcases h with ⟨J_2, hc_2, h⟩ | ⟨E1, J_2, hc_2, h⟩
  · refine cw_callV (o := 0) (As := [.int x1]) hc_2 okX10_requireSibling rfl gX10_nameByte_X10_requireSibling (by decide) (show 0 < 32 by decide) rfl (ci := 8) rfl rfl (Nat.le_of_ble_eq_true rfl) dX10_nameByte_2 ?_
    refine cw_iload_n dX10_nameByte_5 2 rfl rfl ?_
    refine cw_if_lt (tgt := 22) dX10_nameByte_6 (by decide) (fun q => ?_) (fun q => ?_)
    · have h := h.1 q
      exact cw_throwS (cls := "java/lang/IndexOutOfBoundsException") (text := "the name has no such letter") (names := ["java/lang/RuntimeException", "java/lang/Exception"]) (ik := 127) (is := 129) (ic := 131) hl (hFT (131, "java/lang/IndexOutOfBoundsException", ["java/lang/RuntimeException", "java/lang/Exception"], 129, "the name has no such letter") (by decide +kernel)) (by decide +kernel) (by decide +kernel) (by decide +kernel) (by decide +kernel) (by decide +kernel) (by decide +kernel) dX10_nameByte_22 dX10_nameByte_25 dX10_nameByte_26 dX10_nameByte_28 dX10_nameByte_31 ⟨by decide, Nat.le_of_ble_eq_true rfl⟩ h
    · have h := h.2 q
      refine cw_iload_n dX10_nameByte_9 2 rfl rfl ?_
      refine cw_aload_n dX10_nameByte_10 0 rfl rfl ?_
      refine cw_getf (C := RX10) (T := TX10) (N := 10) (ci := 8) inX10_nameByte_RX10 0 (show 0 < 32 by decide) rfl rfl 2 (by decide) (by decide +kernel) rfl dX10_nameByte_11 ?_
      refine cw_getf (C := RX1) (T := TX1) (N := 6) (ci := 0) inX10_nameByte_RX1 5 (show 5 < 32 by decide) rfl rfl 3 (by decide) (by decide +kernel) rfl dX10_nameByte_14 ?_
      refine cw_iload_n dX10_nameByte_17 1 rfl rfl ?_
      obtain ⟨g_18, h⟩ := h
      refine cw_iald 7 (show 7 < 32 by decide) rfl 0 rfl dX10_nameByte_18 g_18 ?_
      refine cw_icmp_lt (tgt := 32) dX10_nameByte_19 (by decide) (fun q => ?_) (fun q => ?_)
      · have h := h.1 q
        refine cw_aload_n dX10_nameByte_32 0 rfl rfl ?_
        refine cw_getf (C := RX10) (T := TX10) (N := 10) (ci := 8) inX10_nameByte_RX10 0 (show 0 < 32 by decide) rfl rfl 2 (by decide) (by decide +kernel) rfl dX10_nameByte_33 ?_
        refine cw_getf (C := RX1) (T := TX1) (N := 6) (ci := 0) inX10_nameByte_RX1 5 (show 5 < 32 by decide) rfl rfl 2 (by decide) (by decide +kernel) rfl dX10_nameByte_36 ?_
        refine cw_iload_n dX10_nameByte_39 1 rfl rfl ?_
        refine cw_bipush (v := 6) dX10_nameByte_40 (by decide) ?_
        refine cw_imul dX10_nameByte_42 ?_
        refine cw_iload_n dX10_nameByte_43 2 rfl rfl ?_
        refine cw_iadd dX10_nameByte_44 ?_
        obtain ⟨g_45, h⟩ := h
        refine cw_iald 6 (show 6 < 32 by decide) rfl 0 rfl dX10_nameByte_45 g_45 ?_
        exact h.elim
      · have h := h.2 q
        exact cw_throwS (cls := "java/lang/IndexOutOfBoundsException") (text := "the name has no such letter") (names := ["java/lang/RuntimeException", "java/lang/Exception"]) (ik := 127) (is := 129) (ic := 131) hl (hFT (131, "java/lang/IndexOutOfBoundsException", ["java/lang/RuntimeException", "java/lang/Exception"], 129, "the name has no such letter") (by decide +kernel)) (by decide +kernel) (by decide +kernel) (by decide +kernel) (by decide +kernel) (by decide +kernel) (by decide +kernel) dX10_nameByte_22 dX10_nameByte_25 dX10_nameByte_26 dX10_nameByte_28 dX10_nameByte_31 ⟨by decide, Nat.le_of_ble_eq_true rfl⟩ h
  · exact cw_callX (o := 0) (As := [.int x1]) hc_2 okX10_requireSibling rfl gX10_nameByte_X10_requireSibling (by decide) (show 0 < 32 by decide) rfl (ci := 8) rfl rfl (Nat.le_of_ble_eq_true rfl) dX10_nameByte_2 h
set_option maxRecDepth 20000 in
set_option maxHeartbeats 4000000 in
theorem xX10_outputByte_0 {K : cw_K} {E : String} {J0 I : cw_M} {x1 : Int32} (hFT : cw_FT (cw_f (cc_w K))) (hl : K.1.stackTraces = false) (h : ((x1 < 0 → (E = "java/lang/IndexOutOfBoundsException" ∧ J0 = I)) ∧ (¬ x1 < 0 → ((x1 < (I 3 1) → (vp_in x1 600 ∧ False)) ∧ (¬ x1 < (I 3 1) → (E = "java/lang/IndexOutOfBoundsException" ∧ J0 = I)))))) : cw_T (cc_w K) mX10_outputByte [.ref (cw_a (cc_w K) 0), .int x1] I E J0 := by
  refine cw_tentry okX10_outputByte (Nat.le_of_ble_eq_true rfl) (show cw_B (cc_w K) mX10_outputByte (cw_Zx (cc_w K) E J0) 1 6 I 0 [(0, .ref (cw_a (cc_w K) 0)), (1, .int x1)] [] from ?_)
  refine cw_iload_n dX10_outputByte_0 1 rfl rfl ?_
  refine cw_if_lt (tgt := 15) dX10_outputByte_1 (by decide) (fun q => ?_) (fun q => ?_)
  · have h := h.1 q
    exact cw_throwSW (cls := "java/lang/IndexOutOfBoundsException") (text := "the output text has no such byte") (names := ["java/lang/RuntimeException", "java/lang/Exception"]) (ik := 127) (is := 320) (ic := 131) hl (hFT (131, "java/lang/IndexOutOfBoundsException", ["java/lang/RuntimeException", "java/lang/Exception"], 320, "the output text has no such byte") (by decide +kernel)) (by decide +kernel) (by decide +kernel) (by decide +kernel) (by decide +kernel) (by decide +kernel) (by decide +kernel) dX10_outputByte_15 dX10_outputByte_18 dX10_outputByte_19 dX10_outputByte_22 dX10_outputByte_25 ⟨by decide, Nat.le_of_ble_eq_true rfl⟩ h
  · have h := h.2 q
    refine cw_iload_n dX10_outputByte_4 1 rfl rfl ?_
    refine cw_aload_n dX10_outputByte_5 0 rfl rfl ?_
    refine cw_getf (C := RX10) (T := TX10) (N := 10) (ci := 8) inX10_outputByte_RX10 0 (show 0 < 32 by decide) rfl rfl 1 (by decide) (by decide +kernel) rfl dX10_outputByte_6 ?_
    refine cw_getf (C := RX8) (T := TX8) (N := 2) (ci := 7) inX10_outputByte_RX8 3 (show 3 < 32 by decide) rfl rfl 1 (by decide) (by decide +kernel) rfl dX10_outputByte_9 ?_
    refine cw_icmp_lt (tgt := 26) dX10_outputByte_12 (by decide) (fun q => ?_) (fun q => ?_)
    · have h := h.1 q
      refine cw_aload_n dX10_outputByte_26 0 rfl rfl ?_
      refine cw_getf (C := RX10) (T := TX10) (N := 10) (ci := 8) inX10_outputByte_RX10 0 (show 0 < 32 by decide) rfl rfl 1 (by decide) (by decide +kernel) rfl dX10_outputByte_27 ?_
      refine cw_getf (C := RX8) (T := TX8) (N := 2) (ci := 7) inX10_outputByte_RX8 3 (show 3 < 32 by decide) rfl rfl 0 (by decide) (by decide +kernel) rfl dX10_outputByte_30 ?_
      refine cw_iload_n dX10_outputByte_33 1 rfl rfl ?_
      obtain ⟨g_34, h⟩ := h
      refine cw_iald 4 (show 4 < 32 by decide) rfl 0 rfl dX10_outputByte_34 g_34 ?_
      exact h.elim
    · have h := h.2 q
      exact cw_throwSW (cls := "java/lang/IndexOutOfBoundsException") (text := "the output text has no such byte") (names := ["java/lang/RuntimeException", "java/lang/Exception"]) (ik := 127) (is := 320) (ic := 131) hl (hFT (131, "java/lang/IndexOutOfBoundsException", ["java/lang/RuntimeException", "java/lang/Exception"], 320, "the output text has no such byte") (by decide +kernel)) (by decide +kernel) (by decide +kernel) (by decide +kernel) (by decide +kernel) (by decide +kernel) (by decide +kernel) dX10_outputByte_15 dX10_outputByte_18 dX10_outputByte_19 dX10_outputByte_22 dX10_outputByte_25 ⟨by decide, Nat.le_of_ble_eq_true rfl⟩ h
set_option maxRecDepth 20000 in
set_option maxHeartbeats 4000000 in
theorem xX10_owner_0 {K : cw_K} {E : String} {J0 I : cw_M} {x1 : Int32} (h : ((∃ J_2 : cw_M, cw_C (cc_w K) mX10_requireCell [.ref (cw_a (cc_w K) 0), .int x1] I none J_2 ∧ (vp_in x1 24 ∧ False)) ∨ (∃ (E1 : String) (J_2 : cw_M), cw_T (cc_w K) mX10_requireCell [.ref (cw_a (cc_w K) 0), .int x1] I E1 J_2 ∧ E = E1 ∧ J0 = J_2))) : cw_T (cc_w K) mX10_owner [.ref (cw_a (cc_w K) 0), .int x1] I E J0 := by
  refine cw_tentry okX10_owner (Nat.le_of_ble_eq_true rfl) (show cw_B (cc_w K) mX10_owner (cw_Zx (cc_w K) E J0) 1 6 I 0 [(0, .ref (cw_a (cc_w K) 0)), (1, .int x1)] [] from ?_)
  refine cw_aload_n dX10_owner_0 0 rfl rfl ?_
  refine cw_iload_n dX10_owner_1 1 rfl rfl ?_
  rcases h with ⟨J_2, hc_2, h⟩ | ⟨E1, J_2, hc_2, h⟩
  · refine cw_callV (o := 0) (As := [.int x1]) hc_2 okX10_requireCell rfl gX10_owner_X10_requireCell (by decide) (show 0 < 32 by decide) rfl (ci := 8) rfl rfl (Nat.le_of_ble_eq_true rfl) dX10_owner_2 ?_
    refine cw_aload_n dX10_owner_5 0 rfl rfl ?_
    refine cw_getf (C := RX10) (T := TX10) (N := 10) (ci := 8) inX10_owner_RX10 0 (show 0 < 32 by decide) rfl rfl 2 (by decide) (by decide +kernel) rfl dX10_owner_6 ?_
    refine cw_getf (C := RX1) (T := TX1) (N := 6) (ci := 0) inX10_owner_RX1 5 (show 5 < 32 by decide) rfl rfl 5 (by decide) (by decide +kernel) rfl dX10_owner_9 ?_
    refine cw_iload_n dX10_owner_12 1 rfl rfl ?_
    obtain ⟨g_13, h⟩ := h
    refine cw_iald 9 (show 9 < 32 by decide) rfl 0 rfl dX10_owner_13 g_13 ?_
    exact h.elim
  · exact cw_callX (o := 0) (As := [.int x1]) hc_2 okX10_requireCell rfl gX10_owner_X10_requireCell (by decide) (show 0 < 32 by decide) rfl (ci := 8) rfl rfl (Nat.le_of_ble_eq_true rfl) dX10_owner_2 h
set_option maxRecDepth 20000 in
set_option maxHeartbeats 4000000 in
theorem xX10_pieceCount_0 {K : cw_K} {E : String} {J0 I : cw_M} {x1 : Int32} (h : ((∃ J_2 : cw_M, cw_C (cc_w K) mX10_requireSibling [.ref (cw_a (cc_w K) 0), .int x1] I none J_2 ∧ (∃ (v_10 : Int32) (J_10 : cw_M), cw_C (cc_w K) mX1_countPieces [.ref (cw_a (cc_w K) 5), .int x1] J_2 (some (.int v_10)) J_10 ∧ False)) ∨ (∃ (E1 : String) (J_2 : cw_M), cw_T (cc_w K) mX10_requireSibling [.ref (cw_a (cc_w K) 0), .int x1] I E1 J_2 ∧ E = E1 ∧ J0 = J_2))) : cw_T (cc_w K) mX10_pieceCount [.ref (cw_a (cc_w K) 0), .int x1] I E J0 := by
  refine cw_tentry okX10_pieceCount (Nat.le_of_ble_eq_true rfl) (show cw_B (cc_w K) mX10_pieceCount (cw_Zx (cc_w K) E J0) 1 6 I 0 [(0, .ref (cw_a (cc_w K) 0)), (1, .int x1)] [] from ?_)
  refine cw_aload_n dX10_pieceCount_0 0 rfl rfl ?_
  refine cw_iload_n dX10_pieceCount_1 1 rfl rfl ?_
  rcases h with ⟨J_2, hc_2, h⟩ | ⟨E1, J_2, hc_2, h⟩
  · refine cw_callV (o := 0) (As := [.int x1]) hc_2 okX10_requireSibling rfl gX10_pieceCount_X10_requireSibling (by decide) (show 0 < 32 by decide) rfl (ci := 8) rfl rfl (Nat.le_of_ble_eq_true rfl) dX10_pieceCount_2 ?_
    refine cw_aload_n dX10_pieceCount_5 0 rfl rfl ?_
    refine cw_getf (C := RX10) (T := TX10) (N := 10) (ci := 8) inX10_pieceCount_RX10 0 (show 0 < 32 by decide) rfl rfl 2 (by decide) (by decide +kernel) rfl dX10_pieceCount_6 ?_
    refine cw_iload_n dX10_pieceCount_9 1 rfl rfl ?_
    obtain ⟨v_10, J_10, hc_10, h⟩ := h
    refine cw_callV (o := 5) (As := [.int x1]) hc_10 okX1_countPieces rfl gX10_pieceCount_X1_countPieces (by decide) (show 5 < 32 by decide) rfl (ci := 0) rfl rfl (Nat.le_of_ble_eq_true rfl) dX10_pieceCount_10 ?_
    exact h.elim
  · exact cw_callX (o := 0) (As := [.int x1]) hc_2 okX10_requireSibling rfl gX10_pieceCount_X10_requireSibling (by decide) (show 0 < 32 by decide) rfl (ci := 8) rfl rfl (Nat.le_of_ble_eq_true rfl) dX10_pieceCount_2 h
set_option maxRecDepth 20000 in
set_option maxHeartbeats 4000000 in
theorem xX10_release_0 {K : cw_K} {E : String} {J0 I : cw_M} {x1 : Int32} {x2 : Int32} (h : ((∃ J_3 : cw_M, cw_C (cc_w K) mX10_requireRun [.ref (cw_a (cc_w K) 0), .int x1, .int x2] I none J_3 ∧ (∃ J_14 : cw_M, cw_C (cc_w K) mX4_rememberForUndo [.ref (cw_a (cc_w K) 28), .ref (cw_a (cc_w K) 5)] J_3 none J_14 ∧ (∃ J_33 : cw_M, cw_C (cc_w K) mX1_assign [.ref (cw_a (cc_w K) 5), .ref (cw_a (cc_w K) 9), .int (-1), .int x1, .int (x2 + 1)] J_14 none J_33 ∧ (∃ (v_41 : Int32) (J_41 : cw_M), cw_C (cc_w K) mX1_countOwned [.ref (cw_a (cc_w K) 5), .int (-1)] J_33 (some (.int v_41)) J_41 ∧ False)))) ∨ (∃ (E1 : String) (J_3 : cw_M), cw_T (cc_w K) mX10_requireRun [.ref (cw_a (cc_w K) 0), .int x1, .int x2] I E1 J_3 ∧ E = E1 ∧ J0 = J_3))) : cw_T (cc_w K) mX10_release [.ref (cw_a (cc_w K) 0), .int x1, .int x2] I E J0 := by
  refine cw_tentry okX10_release (Nat.le_of_ble_eq_true rfl) (show cw_B (cc_w K) mX10_release (cw_Zx (cc_w K) E J0) 1 6 I 0 [(0, .ref (cw_a (cc_w K) 0)), (1, .int x1), (2, .int x2)] [] from ?_)
  refine cw_aload_n dX10_release_0 0 rfl rfl ?_
  refine cw_iload_n dX10_release_1 1 rfl rfl ?_
  refine cw_iload_n dX10_release_2 2 rfl rfl ?_
  rcases h with ⟨J_3, hc_3, h⟩ | ⟨E1, J_3, hc_3, h⟩
  · refine cw_callV (o := 0) (As := [.int x1, .int x2]) hc_3 okX10_requireRun rfl gX10_release_X10_requireRun (by decide) (show 0 < 32 by decide) rfl (ci := 8) rfl rfl (Nat.le_of_ble_eq_true rfl) dX10_release_3 ?_
    refine cw_aload_n dX10_release_6 0 rfl rfl ?_
    refine cw_getf (C := RX10) (T := TX10) (N := 10) (ci := 8) inX10_release_RX10 0 (show 0 < 32 by decide) rfl rfl 9 (by decide) (by decide +kernel) rfl dX10_release_7 ?_
    refine cw_aload_n dX10_release_10 0 rfl rfl ?_
    refine cw_getf (C := RX10) (T := TX10) (N := 10) (ci := 8) inX10_release_RX10 0 (show 0 < 32 by decide) rfl rfl 2 (by decide) (by decide +kernel) rfl dX10_release_11 ?_
    obtain ⟨J_14, hc_14, h⟩ := h
    refine cw_callV (o := 28) (As := [.ref (cw_a (cc_w K) 5)]) hc_14 okX4_rememberForUndo rfl gX10_release_X4_rememberForUndo (by decide) (show 28 < 32 by decide) rfl (ci := 3) rfl rfl (Nat.le_of_ble_eq_true rfl) dX10_release_14 ?_
    refine cw_aload_n dX10_release_17 0 rfl rfl ?_
    refine cw_getf (C := RX10) (T := TX10) (N := 10) (ci := 8) inX10_release_RX10 0 (show 0 < 32 by decide) rfl rfl 2 (by decide) (by decide +kernel) rfl dX10_release_18 ?_
    refine cw_aload_n dX10_release_21 0 rfl rfl ?_
    refine cw_getf (C := RX10) (T := TX10) (N := 10) (ci := 8) inX10_release_RX10 0 (show 0 < 32 by decide) rfl rfl 2 (by decide) (by decide +kernel) rfl dX10_release_22 ?_
    refine cw_getf (C := RX1) (T := TX1) (N := 6) (ci := 0) inX10_release_RX1 5 (show 5 < 32 by decide) rfl rfl 5 (by decide) (by decide +kernel) rfl dX10_release_25 ?_
    refine cw_iconst (v := (-1)) dX10_release_28 (by decide) ?_
    refine cw_iload_n dX10_release_29 1 rfl rfl ?_
    refine cw_iload_n dX10_release_30 2 rfl rfl ?_
    refine cw_iconst (v := 1) dX10_release_31 (by decide) ?_
    refine cw_iadd dX10_release_32 ?_
    obtain ⟨J_33, hc_33, h⟩ := h
    refine cw_callV (o := 5) (As := [.ref (cw_a (cc_w K) 9), .int (-1), .int x1, .int (x2 + 1)]) hc_33 okX1_assign rfl gX10_release_X1_assign (by decide) (show 5 < 32 by decide) rfl (ci := 0) rfl rfl (Nat.le_of_ble_eq_true rfl) dX10_release_33 ?_
    refine cw_aload_n dX10_release_36 0 rfl rfl ?_
    refine cw_getf (C := RX10) (T := TX10) (N := 10) (ci := 8) inX10_release_RX10 0 (show 0 < 32 by decide) rfl rfl 2 (by decide) (by decide +kernel) rfl dX10_release_37 ?_
    refine cw_iconst (v := (-1)) dX10_release_40 (by decide) ?_
    obtain ⟨v_41, J_41, hc_41, h⟩ := h
    refine cw_callV (o := 5) (As := [.int (-1)]) hc_41 okX1_countOwned rfl gX10_release_X1_countOwned (by decide) (show 5 < 32 by decide) rfl (ci := 0) rfl rfl (Nat.le_of_ble_eq_true rfl) dX10_release_41 ?_
    exact h.elim
  · exact cw_callX (o := 0) (As := [.int x1, .int x2]) hc_3 okX10_requireRun rfl gX10_release_X10_requireRun (by decide) (show 0 < 32 by decide) rfl (ci := 8) rfl rfl (Nat.le_of_ble_eq_true rfl) dX10_release_3 h
set_option maxRecDepth 20000 in
set_option maxHeartbeats 4000000 in
theorem xX10_requireCell_0 {K : cw_K} {E : String} {J0 I : cw_M} {x1 : Int32} (hFT : cw_FT (cw_f (cc_w K))) (hl : K.1.stackTraces = false) (h : (∃ (v_5 : Int32) (J_5 : cw_M), cw_C (cc_w K) mX1_hasCell [.ref (cw_a (cc_w K) 5), .int x1] I (some (.int v_5)) J_5 ∧ ((¬ v_5 = 0 → False) ∧ (v_5 = 0 → (E = "java/lang/IndexOutOfBoundsException" ∧ J0 = J_5))))) : cw_T (cc_w K) mX10_requireCell [.ref (cw_a (cc_w K) 0), .int x1] I E J0 := by
  refine cw_tentry okX10_requireCell (Nat.le_of_ble_eq_true rfl) (show cw_B (cc_w K) mX10_requireCell (cw_Zx (cc_w K) E J0) 1 6 I 0 [(0, .ref (cw_a (cc_w K) 0)), (1, .int x1)] [] from ?_)
  refine cw_aload_n dX10_requireCell_0 0 rfl rfl ?_
  refine cw_getf (C := RX10) (T := TX10) (N := 10) (ci := 8) inX10_requireCell_RX10 0 (show 0 < 32 by decide) rfl rfl 2 (by decide) (by decide +kernel) rfl dX10_requireCell_1 ?_
  refine cw_iload_n dX10_requireCell_4 1 rfl rfl ?_
  obtain ⟨v_5, J_5, hc_5, h⟩ := h
  refine cw_callV (o := 5) (As := [.int x1]) hc_5 okX1_hasCell rfl gX10_requireCell_X1_hasCell (by decide) (show 5 < 32 by decide) rfl (ci := 0) rfl rfl (Nat.le_of_ble_eq_true rfl) dX10_requireCell_5 ?_
  refine cw_if_ne (tgt := 22) dX10_requireCell_8 (by decide) (fun q => ?_) (fun q => ?_)
  · have h := h.1 q
    exact h.elim
  · have h := h.2 q
    exact cw_throwSW (cls := "java/lang/IndexOutOfBoundsException") (text := "the cell does not exist") (names := ["java/lang/RuntimeException", "java/lang/Exception"]) (ik := 127) (is := 333) (ic := 131) hl (hFT (131, "java/lang/IndexOutOfBoundsException", ["java/lang/RuntimeException", "java/lang/Exception"], 333, "the cell does not exist") (by decide +kernel)) (by decide +kernel) (by decide +kernel) (by decide +kernel) (by decide +kernel) (by decide +kernel) (by decide +kernel) dX10_requireCell_11 dX10_requireCell_14 dX10_requireCell_15 dX10_requireCell_18 dX10_requireCell_21 ⟨by decide, Nat.le_of_ble_eq_true rfl⟩ h
set_option maxRecDepth 20000 in
set_option maxHeartbeats 4000000 in
theorem xX10_requireDifferent_0 {K : cw_K} {E : String} {J0 I : cw_M} {x1 : Int32} {x2 : Int32} (hFT : cw_FT (cw_f (cc_w K))) (hl : K.1.stackTraces = false) (h : ((¬ x1 = x2 → False) ∧ (x1 = x2 → (E = "java/lang/IllegalStateException" ∧ J0 = I)))) : cw_T (cc_w K) mX10_requireDifferent [.ref (cw_a (cc_w K) 0), .int x1, .int x2] I E J0 := by
  refine cw_tentry okX10_requireDifferent (Nat.le_of_ble_eq_true rfl) (show cw_B (cc_w K) mX10_requireDifferent (cw_Zx (cc_w K) E J0) 1 6 I 0 [(0, .ref (cw_a (cc_w K) 0)), (1, .int x1), (2, .int x2)] [] from ?_)
  refine cw_iload_n dX10_requireDifferent_0 1 rfl rfl ?_
  refine cw_iload_n dX10_requireDifferent_1 2 rfl rfl ?_
  refine cw_icmp_ne (tgt := 16) dX10_requireDifferent_2 (by decide) (fun q => ?_) (fun q => ?_)
  · have h := h.1 q
    exact h.elim
  · have h := h.2 q
    exact cw_throwSW (cls := "java/lang/IllegalStateException") (text := "both are the same sibling") (names := ["java/lang/RuntimeException", "java/lang/Exception"]) (ik := 91) (is := 340) (ic := 95) hl (hFT (95, "java/lang/IllegalStateException", ["java/lang/RuntimeException", "java/lang/Exception"], 340, "both are the same sibling") (by decide +kernel)) (by decide +kernel) (by decide +kernel) (by decide +kernel) (by decide +kernel) (by decide +kernel) (by decide +kernel) dX10_requireDifferent_5 dX10_requireDifferent_8 dX10_requireDifferent_9 dX10_requireDifferent_12 dX10_requireDifferent_15 ⟨by decide, Nat.le_of_ble_eq_true rfl⟩ h
set_option maxRecDepth 20000 in
set_option maxHeartbeats 4000000 in
theorem xX10_requireRun_0 {K : cw_K} {E : String} {J0 I : cw_M} {x1 : Int32} {x2 : Int32} (hFT : cw_FT (cw_f (cc_w K))) (hl : K.1.stackTraces = false) (h : (∃ (v_6 : Int32) (J_6 : cw_M), cw_C (cc_w K) mX1_hasRun [.ref (cw_a (cc_w K) 5), .int x1, .int x2] I (some (.int v_6)) J_6 ∧ ((¬ v_6 = 0 → False) ∧ (v_6 = 0 → (E = "java/lang/IllegalArgumentException" ∧ J0 = J_6))))) : cw_T (cc_w K) mX10_requireRun [.ref (cw_a (cc_w K) 0), .int x1, .int x2] I E J0 := by
  refine cw_tentry okX10_requireRun (Nat.le_of_ble_eq_true rfl) (show cw_B (cc_w K) mX10_requireRun (cw_Zx (cc_w K) E J0) 1 6 I 0 [(0, .ref (cw_a (cc_w K) 0)), (1, .int x1), (2, .int x2)] [] from ?_)
  refine cw_aload_n dX10_requireRun_0 0 rfl rfl ?_
  refine cw_getf (C := RX10) (T := TX10) (N := 10) (ci := 8) inX10_requireRun_RX10 0 (show 0 < 32 by decide) rfl rfl 2 (by decide) (by decide +kernel) rfl dX10_requireRun_1 ?_
  refine cw_iload_n dX10_requireRun_4 1 rfl rfl ?_
  refine cw_iload_n dX10_requireRun_5 2 rfl rfl ?_
  obtain ⟨v_6, J_6, hc_6, h⟩ := h
  refine cw_callV (o := 5) (As := [.int x1, .int x2]) hc_6 okX1_hasRun rfl gX10_requireRun_X1_hasRun (by decide) (show 5 < 32 by decide) rfl (ci := 0) rfl rfl (Nat.le_of_ble_eq_true rfl) dX10_requireRun_6 ?_
  refine cw_if_ne (tgt := 23) dX10_requireRun_9 (by decide) (fun q => ?_) (fun q => ?_)
  · have h := h.1 q
    exact h.elim
  · have h := h.2 q
    exact cw_throwSW (cls := "java/lang/IllegalArgumentException") (text := "these are not the ends of consecutive cells") (names := ["java/lang/RuntimeException", "java/lang/Exception"]) (ik := 101) (is := 338) (ic := 105) hl (hFT (105, "java/lang/IllegalArgumentException", ["java/lang/RuntimeException", "java/lang/Exception"], 338, "these are not the ends of consecutive cells") (by decide +kernel)) (by decide +kernel) (by decide +kernel) (by decide +kernel) (by decide +kernel) (by decide +kernel) (by decide +kernel) dX10_requireRun_12 dX10_requireRun_15 dX10_requireRun_16 dX10_requireRun_19 dX10_requireRun_22 ⟨by decide, Nat.le_of_ble_eq_true rfl⟩ h
set_option maxRecDepth 20000 in
set_option maxHeartbeats 4000000 in
theorem xX10_requireSibling_0 {K : cw_K} {E : String} {J0 I : cw_M} {x1 : Int32} (hFT : cw_FT (cw_f (cc_w K))) (hl : K.1.stackTraces = false) (h : (∃ (v_5 : Int32) (J_5 : cw_M), cw_C (cc_w K) mX1_hasSibling [.ref (cw_a (cc_w K) 5), .int x1] I (some (.int v_5)) J_5 ∧ ((¬ v_5 = 0 → False) ∧ (v_5 = 0 → (E = "java/lang/IndexOutOfBoundsException" ∧ J0 = J_5))))) : cw_T (cc_w K) mX10_requireSibling [.ref (cw_a (cc_w K) 0), .int x1] I E J0 := by
  refine cw_tentry okX10_requireSibling (Nat.le_of_ble_eq_true rfl) (show cw_B (cc_w K) mX10_requireSibling (cw_Zx (cc_w K) E J0) 1 6 I 0 [(0, .ref (cw_a (cc_w K) 0)), (1, .int x1)] [] from ?_)
  refine cw_aload_n dX10_requireSibling_0 0 rfl rfl ?_
  refine cw_getf (C := RX10) (T := TX10) (N := 10) (ci := 8) inX10_requireSibling_RX10 0 (show 0 < 32 by decide) rfl rfl 2 (by decide) (by decide +kernel) rfl dX10_requireSibling_1 ?_
  refine cw_iload_n dX10_requireSibling_4 1 rfl rfl ?_
  obtain ⟨v_5, J_5, hc_5, h⟩ := h
  refine cw_callV (o := 5) (As := [.int x1]) hc_5 okX1_hasSibling rfl gX10_requireSibling_X1_hasSibling (by decide) (show 5 < 32 by decide) rfl (ci := 0) rfl rfl (Nat.le_of_ble_eq_true rfl) dX10_requireSibling_5 ?_
  refine cw_if_ne (tgt := 22) dX10_requireSibling_8 (by decide) (fun q => ?_) (fun q => ?_)
  · have h := h.1 q
    exact h.elim
  · have h := h.2 q
    exact cw_throwSW (cls := "java/lang/IndexOutOfBoundsException") (text := "the sibling does not exist") (names := ["java/lang/RuntimeException", "java/lang/Exception"]) (ik := 127) (is := 328) (ic := 131) hl (hFT (131, "java/lang/IndexOutOfBoundsException", ["java/lang/RuntimeException", "java/lang/Exception"], 328, "the sibling does not exist") (by decide +kernel)) (by decide +kernel) (by decide +kernel) (by decide +kernel) (by decide +kernel) (by decide +kernel) (by decide +kernel) dX10_requireSibling_11 dX10_requireSibling_14 dX10_requireSibling_15 dX10_requireSibling_18 dX10_requireSibling_21 ⟨by decide, Nat.le_of_ble_eq_true rfl⟩ h
set_option maxRecDepth 20000 in
set_option maxHeartbeats 4000000 in
theorem xX10_requireSlot_0 {K : cw_K} {E : String} {J0 I : cw_M} {x1 : Int32} (hFT : cw_FT (cw_f (cc_w K))) (hl : K.1.stackTraces = false) (h : ((x1 < 0 → (E = "java/lang/IndexOutOfBoundsException" ∧ J0 = I)) ∧ (¬ x1 < 0 → ((x1 < 2 → False) ∧ (¬ x1 < 2 → (E = "java/lang/IndexOutOfBoundsException" ∧ J0 = I)))))) : cw_T (cc_w K) mX10_requireSlot [.ref (cw_a (cc_w K) 0), .int x1] I E J0 := by
  refine cw_tentry okX10_requireSlot (Nat.le_of_ble_eq_true rfl) (show cw_B (cc_w K) mX10_requireSlot (cw_Zx (cc_w K) E J0) 1 6 I 0 [(0, .ref (cw_a (cc_w K) 0)), (1, .int x1)] [] from ?_)
  refine cw_iload_n dX10_requireSlot_0 1 rfl rfl ?_
  refine cw_if_lt (tgt := 9) dX10_requireSlot_1 (by decide) (fun q => ?_) (fun q => ?_)
  · have h := h.1 q
    exact cw_throwSW (cls := "java/lang/IndexOutOfBoundsException") (text := "the slot does not exist") (names := ["java/lang/RuntimeException", "java/lang/Exception"]) (ik := 127) (is := 342) (ic := 131) hl (hFT (131, "java/lang/IndexOutOfBoundsException", ["java/lang/RuntimeException", "java/lang/Exception"], 342, "the slot does not exist") (by decide +kernel)) (by decide +kernel) (by decide +kernel) (by decide +kernel) (by decide +kernel) (by decide +kernel) (by decide +kernel) dX10_requireSlot_9 dX10_requireSlot_12 dX10_requireSlot_13 dX10_requireSlot_16 dX10_requireSlot_19 ⟨by decide, Nat.le_of_ble_eq_true rfl⟩ h
  · have h := h.2 q
    refine cw_iload_n dX10_requireSlot_4 1 rfl rfl ?_
    refine cw_iconst (v := 2) dX10_requireSlot_5 (by decide) ?_
    refine cw_icmp_lt (tgt := 20) dX10_requireSlot_6 (by decide) (fun q => ?_) (fun q => ?_)
    · have h := h.1 q
      exact h.elim
    · have h := h.2 q
      exact cw_throwSW (cls := "java/lang/IndexOutOfBoundsException") (text := "the slot does not exist") (names := ["java/lang/RuntimeException", "java/lang/Exception"]) (ik := 127) (is := 342) (ic := 131) hl (hFT (131, "java/lang/IndexOutOfBoundsException", ["java/lang/RuntimeException", "java/lang/Exception"], 342, "the slot does not exist") (by decide +kernel)) (by decide +kernel) (by decide +kernel) (by decide +kernel) (by decide +kernel) (by decide +kernel) (by decide +kernel) dX10_requireSlot_9 dX10_requireSlot_12 dX10_requireSlot_13 dX10_requireSlot_16 dX10_requireSlot_19 ⟨by decide, Nat.le_of_ble_eq_true rfl⟩ h
set_option maxRecDepth 20000 in
set_option maxHeartbeats 4000000 in
theorem xX10_restore_0 {K : cw_K} {E : String} {J0 I : cw_M} {x1 : Int32} (hFT : cw_FT (cw_f (cc_w K))) (hl : K.1.stackTraces = false) (h : ((∃ J_2 : cw_M, cw_C (cc_w K) mX10_requireSlot [.ref (cw_a (cc_w K) 0), .int x1] I none J_2 ∧ (vp_in x1 2 ∧ ((¬ (J_2 29 x1.toNatClampNeg) = 0 → (∃ J_37 : cw_M, cw_C (cc_w K) mX4_restoreFrom [.ref (cw_a (cc_w K) 28), .int x1, .ref (cw_a (cc_w K) 5)] J_2 none J_37 ∧ (∃ (v_45 : Int32) (J_45 : cw_M), cw_C (cc_w K) mX1_countOwned [.ref (cw_a (cc_w K) 5), .int (-1)] J_37 (some (.int v_45)) J_45 ∧ False))) ∧ ((J_2 29 x1.toNatClampNeg) = 0 → (E = "java/lang/IllegalStateException" ∧ J0 = J_2))))) ∨ (∃ (E1 : String) (J_2 : cw_M), cw_T (cc_w K) mX10_requireSlot [.ref (cw_a (cc_w K) 0), .int x1] I E1 J_2 ∧ E = E1 ∧ J0 = J_2))) : cw_T (cc_w K) mX10_restore [.ref (cw_a (cc_w K) 0), .int x1] I E J0 := by
  refine cw_tentry okX10_restore (Nat.le_of_ble_eq_true rfl) (show cw_B (cc_w K) mX10_restore (cw_Zx (cc_w K) E J0) 1 6 I 0 [(0, .ref (cw_a (cc_w K) 0)), (1, .int x1)] [] from ?_)
  refine cw_aload_n dX10_restore_0 0 rfl rfl ?_
  refine cw_iload_n dX10_restore_1 1 rfl rfl ?_
  rcases h with ⟨J_2, hc_2, h⟩ | ⟨E1, J_2, hc_2, h⟩
  · refine cw_callV (o := 0) (As := [.int x1]) hc_2 okX10_requireSlot rfl gX10_restore_X10_requireSlot (by decide) (show 0 < 32 by decide) rfl (ci := 8) rfl rfl (Nat.le_of_ble_eq_true rfl) dX10_restore_2 ?_
    refine cw_aload_n dX10_restore_5 0 rfl rfl ?_
    refine cw_getf (C := RX10) (T := TX10) (N := 10) (ci := 8) inX10_restore_RX10 0 (show 0 < 32 by decide) rfl rfl 9 (by decide) (by decide +kernel) rfl dX10_restore_6 ?_
    refine cw_getf (C := RX4) (T := TX4) (N := 5) (ci := 3) inX10_restore_RX4 28 (show 28 < 32 by decide) rfl rfl 1 (by decide) (by decide +kernel) rfl dX10_restore_9 ?_
    refine cw_iload_n dX10_restore_12 1 rfl rfl ?_
    obtain ⟨g_13, h⟩ := h
    refine cw_zald 29 (show 29 < 32 by decide) rfl 1 rfl dX10_restore_13 g_13 ?_
    refine cw_if_ne (tgt := 28) dX10_restore_14 (by decide) (fun q => ?_) (fun q => ?_)
    · have h := h.1 q
      refine cw_aload_n dX10_restore_28 0 rfl rfl ?_
      refine cw_getf (C := RX10) (T := TX10) (N := 10) (ci := 8) inX10_restore_RX10 0 (show 0 < 32 by decide) rfl rfl 9 (by decide) (by decide +kernel) rfl dX10_restore_29 ?_
      refine cw_iload_n dX10_restore_32 1 rfl rfl ?_
      refine cw_aload_n dX10_restore_33 0 rfl rfl ?_
      refine cw_getf (C := RX10) (T := TX10) (N := 10) (ci := 8) inX10_restore_RX10 0 (show 0 < 32 by decide) rfl rfl 2 (by decide) (by decide +kernel) rfl dX10_restore_34 ?_
      obtain ⟨J_37, hc_37, h⟩ := h
      refine cw_callV (o := 28) (As := [.int x1, .ref (cw_a (cc_w K) 5)]) hc_37 okX4_restoreFrom rfl gX10_restore_X4_restoreFrom (by decide) (show 28 < 32 by decide) rfl (ci := 3) rfl rfl (Nat.le_of_ble_eq_true rfl) dX10_restore_37 ?_
      refine cw_aload_n dX10_restore_40 0 rfl rfl ?_
      refine cw_getf (C := RX10) (T := TX10) (N := 10) (ci := 8) inX10_restore_RX10 0 (show 0 < 32 by decide) rfl rfl 2 (by decide) (by decide +kernel) rfl dX10_restore_41 ?_
      refine cw_iconst (v := (-1)) dX10_restore_44 (by decide) ?_
      obtain ⟨v_45, J_45, hc_45, h⟩ := h
      refine cw_callV (o := 5) (As := [.int (-1)]) hc_45 okX1_countOwned rfl gX10_restore_X1_countOwned (by decide) (show 5 < 32 by decide) rfl (ci := 0) rfl rfl (Nat.le_of_ble_eq_true rfl) dX10_restore_45 ?_
      exact h.elim
    · have h := h.2 q
      exact cw_throwSW (cls := "java/lang/IllegalStateException") (text := "nothing is saved in the slot") (names := ["java/lang/RuntimeException", "java/lang/Exception"]) (ik := 91) (is := 312) (ic := 95) hl (hFT (95, "java/lang/IllegalStateException", ["java/lang/RuntimeException", "java/lang/Exception"], 312, "nothing is saved in the slot") (by decide +kernel)) (by decide +kernel) (by decide +kernel) (by decide +kernel) (by decide +kernel) (by decide +kernel) (by decide +kernel) dX10_restore_17 dX10_restore_20 dX10_restore_21 dX10_restore_24 dX10_restore_27 ⟨by decide, Nat.le_of_ble_eq_true rfl⟩ h
  · exact cw_callX (o := 0) (As := [.int x1]) hc_2 okX10_requireSlot rfl gX10_restore_X10_requireSlot (by decide) (show 0 < 32 by decide) rfl (ci := 8) rfl rfl (Nat.le_of_ble_eq_true rfl) dX10_restore_2 h
set_option maxRecDepth 20000 in
set_option maxHeartbeats 4000000 in
theorem xX10_rotate_0 {K : cw_K} {E : String} {J0 I : cw_M} {x1 : Int32} (hFT : cw_FT (cw_f (cc_w K))) (hl : K.1.stackTraces = false) (h : ((∃ J_2 : cw_M, cw_C (cc_w K) mX10_requireSibling [.ref (cw_a (cc_w K) 0), .int x1] I none J_2 ∧ (∃ (v_10 : Int32) (J_10 : cw_M), cw_C (cc_w K) mX3_findCycle [.ref (cw_a (cc_w K) 16), .int x1] J_2 (some (.int v_10)) J_10 ∧ ((¬ v_10 = (-1) → (∃ J_36 : cw_M, cw_C (cc_w K) mX4_rememberForUndo [.ref (cw_a (cc_w K) 28), .ref (cw_a (cc_w K) 5)] J_10 none J_36 ∧ (∃ (v_44 : Int32) (J_44 : cw_M), cw_C (cc_w K) mX3_rotateThrough [.ref (cw_a (cc_w K) 16), .int x1] J_36 (some (.int v_44)) J_44 ∧ False))) ∧ (v_10 = (-1) → (E = "java/lang/IllegalStateException" ∧ J0 = J_10))))) ∨ (∃ (E1 : String) (J_2 : cw_M), cw_T (cc_w K) mX10_requireSibling [.ref (cw_a (cc_w K) 0), .int x1] I E1 J_2 ∧ E = E1 ∧ J0 = J_2))) : cw_T (cc_w K) mX10_rotate [.ref (cw_a (cc_w K) 0), .int x1] I E J0 := by
  refine cw_tentry okX10_rotate (Nat.le_of_ble_eq_true rfl) (show cw_B (cc_w K) mX10_rotate (cw_Zx (cc_w K) E J0) 1 6 I 0 [(0, .ref (cw_a (cc_w K) 0)), (1, .int x1)] [] from ?_)
  refine cw_aload_n dX10_rotate_0 0 rfl rfl ?_
  refine cw_iload_n dX10_rotate_1 1 rfl rfl ?_
  rcases h with ⟨J_2, hc_2, h⟩ | ⟨E1, J_2, hc_2, h⟩
  · refine cw_callV (o := 0) (As := [.int x1]) hc_2 okX10_requireSibling rfl gX10_rotate_X10_requireSibling (by decide) (show 0 < 32 by decide) rfl (ci := 8) rfl rfl (Nat.le_of_ble_eq_true rfl) dX10_rotate_2 ?_
    refine cw_aload_n dX10_rotate_5 0 rfl rfl ?_
    refine cw_getf (C := RX10) (T := TX10) (N := 10) (ci := 8) inX10_rotate_RX10 0 (show 0 < 32 by decide) rfl rfl 5 (by decide) (by decide +kernel) rfl dX10_rotate_6 ?_
    refine cw_iload_n dX10_rotate_9 1 rfl rfl ?_
    obtain ⟨v_10, J_10, hc_10, h⟩ := h
    refine cw_callV (o := 16) (As := [.int x1]) hc_10 okX3_findCycle rfl gX10_rotate_X3_findCycle (by decide) (show 16 < 32 by decide) rfl (ci := 2) rfl rfl (Nat.le_of_ble_eq_true rfl) dX10_rotate_10 ?_
    refine cw_iconst (v := (-1)) dX10_rotate_13 (by decide) ?_
    refine cw_icmp_ne (tgt := 28) dX10_rotate_14 (by decide) (fun q => ?_) (fun q => ?_)
    · have h := h.1 q
      refine cw_aload_n dX10_rotate_28 0 rfl rfl ?_
      refine cw_getf (C := RX10) (T := TX10) (N := 10) (ci := 8) inX10_rotate_RX10 0 (show 0 < 32 by decide) rfl rfl 9 (by decide) (by decide +kernel) rfl dX10_rotate_29 ?_
      refine cw_aload_n dX10_rotate_32 0 rfl rfl ?_
      refine cw_getf (C := RX10) (T := TX10) (N := 10) (ci := 8) inX10_rotate_RX10 0 (show 0 < 32 by decide) rfl rfl 2 (by decide) (by decide +kernel) rfl dX10_rotate_33 ?_
      obtain ⟨J_36, hc_36, h⟩ := h
      refine cw_callV (o := 28) (As := [.ref (cw_a (cc_w K) 5)]) hc_36 okX4_rememberForUndo rfl gX10_rotate_X4_rememberForUndo (by decide) (show 28 < 32 by decide) rfl (ci := 3) rfl rfl (Nat.le_of_ble_eq_true rfl) dX10_rotate_36 ?_
      refine cw_aload_n dX10_rotate_39 0 rfl rfl ?_
      refine cw_getf (C := RX10) (T := TX10) (N := 10) (ci := 8) inX10_rotate_RX10 0 (show 0 < 32 by decide) rfl rfl 5 (by decide) (by decide +kernel) rfl dX10_rotate_40 ?_
      refine cw_iload_n dX10_rotate_43 1 rfl rfl ?_
      obtain ⟨v_44, J_44, hc_44, h⟩ := h
      refine cw_callV (o := 16) (As := [.int x1]) hc_44 okX3_rotateThrough rfl gX10_rotate_X3_rotateThrough (by decide) (show 16 < 32 by decide) rfl (ci := 2) rfl rfl (Nat.le_of_ble_eq_true rfl) dX10_rotate_44 ?_
      exact h.elim
    · have h := h.2 q
      exact cw_throwSW (cls := "java/lang/IllegalStateException") (text := "no envy cycle contains the sibling") (names := ["java/lang/RuntimeException", "java/lang/Exception"]) (ik := 91) (is := 279) (ic := 95) hl (hFT (95, "java/lang/IllegalStateException", ["java/lang/RuntimeException", "java/lang/Exception"], 279, "no envy cycle contains the sibling") (by decide +kernel)) (by decide +kernel) (by decide +kernel) (by decide +kernel) (by decide +kernel) (by decide +kernel) (by decide +kernel) dX10_rotate_17 dX10_rotate_20 dX10_rotate_21 dX10_rotate_24 dX10_rotate_27 ⟨by decide, Nat.le_of_ble_eq_true rfl⟩ h
  · exact cw_callX (o := 0) (As := [.int x1]) hc_2 okX10_requireSibling rfl gX10_rotate_X10_requireSibling (by decide) (show 0 < 32 by decide) rfl (ci := 8) rfl rfl (Nat.le_of_ble_eq_true rfl) dX10_rotate_2 h
set_option maxRecDepth 20000 in
set_option maxHeartbeats 4000000 in
theorem xX10_roundRobin_0 {K : cw_K} {E : String} {J0 I : cw_M} {x1 : Int32} (h : ((∃ J_2 : cw_M, cw_C (cc_w K) mX10_requireSibling [.ref (cw_a (cc_w K) 0), .int x1] I none J_2 ∧ (∃ J_13 : cw_M, cw_C (cc_w K) mX4_rememberForUndo [.ref (cw_a (cc_w K) 28), .ref (cw_a (cc_w K) 5)] J_2 none J_13 ∧ (∃ (v_28 : Int32) (J_28 : cw_M), cw_C (cc_w K) mX6_divideByRobin [.ref (cw_a (cc_w K) 20), .ref (cw_a (cc_w K) 9), .int x1] J_13 (some (.int v_28)) J_28 ∧ False))) ∨ (∃ (E1 : String) (J_2 : cw_M), cw_T (cc_w K) mX10_requireSibling [.ref (cw_a (cc_w K) 0), .int x1] I E1 J_2 ∧ E = E1 ∧ J0 = J_2))) : cw_T (cc_w K) mX10_roundRobin [.ref (cw_a (cc_w K) 0), .int x1] I E J0 := by
  refine cw_tentry okX10_roundRobin (Nat.le_of_ble_eq_true rfl) (show cw_B (cc_w K) mX10_roundRobin (cw_Zx (cc_w K) E J0) 1 6 I 0 [(0, .ref (cw_a (cc_w K) 0)), (1, .int x1)] [] from ?_)
  refine cw_aload_n dX10_roundRobin_0 0 rfl rfl ?_
  refine cw_iload_n dX10_roundRobin_1 1 rfl rfl ?_
  rcases h with ⟨J_2, hc_2, h⟩ | ⟨E1, J_2, hc_2, h⟩
  · refine cw_callV (o := 0) (As := [.int x1]) hc_2 okX10_requireSibling rfl gX10_roundRobin_X10_requireSibling (by decide) (show 0 < 32 by decide) rfl (ci := 8) rfl rfl (Nat.le_of_ble_eq_true rfl) dX10_roundRobin_2 ?_
    refine cw_aload_n dX10_roundRobin_5 0 rfl rfl ?_
    refine cw_getf (C := RX10) (T := TX10) (N := 10) (ci := 8) inX10_roundRobin_RX10 0 (show 0 < 32 by decide) rfl rfl 9 (by decide) (by decide +kernel) rfl dX10_roundRobin_6 ?_
    refine cw_aload_n dX10_roundRobin_9 0 rfl rfl ?_
    refine cw_getf (C := RX10) (T := TX10) (N := 10) (ci := 8) inX10_roundRobin_RX10 0 (show 0 < 32 by decide) rfl rfl 2 (by decide) (by decide +kernel) rfl dX10_roundRobin_10 ?_
    obtain ⟨J_13, hc_13, h⟩ := h
    refine cw_callV (o := 28) (As := [.ref (cw_a (cc_w K) 5)]) hc_13 okX4_rememberForUndo rfl gX10_roundRobin_X4_rememberForUndo (by decide) (show 28 < 32 by decide) rfl (ci := 3) rfl rfl (Nat.le_of_ble_eq_true rfl) dX10_roundRobin_13 ?_
    refine cw_aload_n dX10_roundRobin_16 0 rfl rfl ?_
    refine cw_getf (C := RX10) (T := TX10) (N := 10) (ci := 8) inX10_roundRobin_RX10 0 (show 0 < 32 by decide) rfl rfl 6 (by decide) (by decide +kernel) rfl dX10_roundRobin_17 ?_
    refine cw_aload_n dX10_roundRobin_20 0 rfl rfl ?_
    refine cw_getf (C := RX10) (T := TX10) (N := 10) (ci := 8) inX10_roundRobin_RX10 0 (show 0 < 32 by decide) rfl rfl 2 (by decide) (by decide +kernel) rfl dX10_roundRobin_21 ?_
    refine cw_getf (C := RX1) (T := TX1) (N := 6) (ci := 0) inX10_roundRobin_RX1 5 (show 5 < 32 by decide) rfl rfl 5 (by decide) (by decide +kernel) rfl dX10_roundRobin_24 ?_
    refine cw_iload_n dX10_roundRobin_27 1 rfl rfl ?_
    obtain ⟨v_28, J_28, hc_28, h⟩ := h
    refine cw_callV (o := 20) (As := [.ref (cw_a (cc_w K) 9), .int x1]) hc_28 okX6_divideByRobin rfl gX10_roundRobin_X6_divideByRobin (by decide) (show 20 < 32 by decide) rfl (ci := 5) rfl rfl (Nat.le_of_ble_eq_true rfl) dX10_roundRobin_28 ?_
    exact h.elim
  · exact cw_callX (o := 0) (As := [.int x1]) hc_2 okX10_requireSibling rfl gX10_roundRobin_X10_requireSibling (by decide) (show 0 < 32 by decide) rfl (ci := 8) rfl rfl (Nat.le_of_ble_eq_true rfl) dX10_roundRobin_2 h
set_option maxRecDepth 20000 in
set_option maxHeartbeats 4000000 in
theorem xX10_runScript_0 {K : cw_K} {E : String} {J0 I : cw_M} (hFT : cw_FT (cw_f (cc_w K))) (hl : K.1.stackTraces = false) (h : (∃ (v_12 : Int32) (J_12 : cw_M), cw_C (cc_w K) mX5_readScript [.ref (cw_a (cc_w K) 15), .ref (cw_a (cc_w K) 25), .ref (cw_a (cc_w K) 5)] I (some (.int v_12)) J_12 ∧ ((¬ v_12 = 0 → (∃ J_47 : cw_M, cw_C (cc_w K) mX4_rememberForUndo [.ref (cw_a (cc_w K) 28), .ref (cw_a (cc_w K) 5)] (cw_st J_12 1 1 0) none J_47 ∧ (∃ (v_54 : Int32) (J_54 : cw_M), cw_C (cc_w K) mX7_execute [.ref (cw_a (cc_w K) 25)] J_47 (some (.int v_54)) J_54 ∧ False))) ∧ (v_12 = 0 → (E = "java/lang/IllegalArgumentException" ∧ J0 = cw_st J_12 1 1 0))))) : cw_T (cc_w K) mX10_runScript [.ref (cw_a (cc_w K) 0)] I E J0 := by
  refine cw_tentry okX10_runScript (Nat.le_of_ble_eq_true rfl) (show cw_B (cc_w K) mX10_runScript (cw_Zx (cc_w K) E J0) 1 6 I 0 [(0, .ref (cw_a (cc_w K) 0))] [] from ?_)
  refine cw_aload_n dX10_runScript_0 0 rfl rfl ?_
  refine cw_getf (C := RX10) (T := TX10) (N := 10) (ci := 8) inX10_runScript_RX10 0 (show 0 < 32 by decide) rfl rfl 4 (by decide) (by decide +kernel) rfl dX10_runScript_1 ?_
  refine cw_aload_n dX10_runScript_4 0 rfl rfl ?_
  refine cw_getf (C := RX10) (T := TX10) (N := 10) (ci := 8) inX10_runScript_RX10 0 (show 0 < 32 by decide) rfl rfl 8 (by decide) (by decide +kernel) rfl dX10_runScript_5 ?_
  refine cw_aload_n dX10_runScript_8 0 rfl rfl ?_
  refine cw_getf (C := RX10) (T := TX10) (N := 10) (ci := 8) inX10_runScript_RX10 0 (show 0 < 32 by decide) rfl rfl 2 (by decide) (by decide +kernel) rfl dX10_runScript_9 ?_
  obtain ⟨v_12, J_12, hc_12, h⟩ := h
  refine cw_callV (o := 15) (As := [.ref (cw_a (cc_w K) 25), .ref (cw_a (cc_w K) 5)]) hc_12 okX5_readScript rfl (nse_gi gX10_runScript_X5_readScript (by decide +kernel)) (by decide) (show 15 < 32 by decide) rfl (ci := 4) rfl rfl (Nat.le_of_ble_eq_true rfl) dX10_runScript_12 ?_
  refine cw_istore_n dX10_runScript_15 rfl (by decide) rfl ?_
  refine cw_aload_n dX10_runScript_16 1 rfl rfl ?_
  refine cw_getf (C := RX10) (T := TX10) (N := 10) (ci := 8) inX10_runScript_RX10 0 (show 0 < 32 by decide) rfl rfl 0 (by decide) (by decide +kernel) rfl dX10_runScript_17 ?_
  refine cw_iconst (v := 0) dX10_runScript_20 (by decide) ?_
  refine cw_putf (C := RX8) (T := TX8) (N := 2) (ci := 7) inX10_runScript_RX8 tyX8 tyX8_ok nmX8 1 (show 1 < 32 by decide) rfl rfl 1 (by decide) (by decide +kernel) rfl rfl (show 1 < 2 by decide) rfl dX10_runScript_21 ?_
  refine cw_iload_n dX10_runScript_24 0 rfl rfl ?_
  refine cw_if_ne (tgt := 39) dX10_runScript_25 (by decide) (fun q => ?_) (fun q => ?_)
  · have h := h.1 q
    refine cw_aload_n dX10_runScript_39 1 rfl rfl ?_
    refine cw_getf (C := RX10) (T := TX10) (N := 10) (ci := 8) inX10_runScript_RX10 0 (show 0 < 32 by decide) rfl rfl 9 (by decide) (by decide +kernel) rfl dX10_runScript_40 ?_
    refine cw_aload_n dX10_runScript_43 1 rfl rfl ?_
    refine cw_getf (C := RX10) (T := TX10) (N := 10) (ci := 8) inX10_runScript_RX10 0 (show 0 < 32 by decide) rfl rfl 2 (by decide) (by decide +kernel) rfl dX10_runScript_44 ?_
    obtain ⟨J_47, hc_47, h⟩ := h
    refine cw_callV (o := 28) (As := [.ref (cw_a (cc_w K) 5)]) hc_47 okX4_rememberForUndo rfl (nse_gi gX10_runScript_X4_rememberForUndo (by decide +kernel)) (by decide) (show 28 < 32 by decide) rfl (ci := 3) rfl rfl (Nat.le_of_ble_eq_true rfl) dX10_runScript_47 ?_
    refine cw_aload_n dX10_runScript_50 1 rfl rfl ?_
    refine cw_getf (C := RX10) (T := TX10) (N := 10) (ci := 8) inX10_runScript_RX10 0 (show 0 < 32 by decide) rfl rfl 8 (by decide) (by decide +kernel) rfl dX10_runScript_51 ?_
    obtain ⟨v_54, J_54, hc_54, h⟩ := h
    refine cw_callV (o := 25) (As := []) hc_54 okX7_execute rfl (nse_gv gX10_runScript_X7_execute (by decide +kernel)) (by decide) (show 25 < 32 by decide) rfl (ci := 6) rfl rfl (Nat.le_of_ble_eq_true rfl) dX10_runScript_54 ?_
    exact h.elim
  · have h := h.2 q
    exact cw_throwSW (cls := "java/lang/IllegalArgumentException") (text := "the script has an error") (names := ["java/lang/RuntimeException", "java/lang/Exception"]) (ik := 101) (is := 288) (ic := 105) hl (hFT (105, "java/lang/IllegalArgumentException", ["java/lang/RuntimeException", "java/lang/Exception"], 288, "the script has an error") (by decide +kernel)) (by decide +kernel) (by decide +kernel) (by decide +kernel) (by decide +kernel) (by decide +kernel) (by decide +kernel) dX10_runScript_28 dX10_runScript_31 dX10_runScript_32 dX10_runScript_35 dX10_runScript_38 ⟨by decide, Nat.le_of_ble_eq_true rfl⟩ h
set_option maxRecDepth 20000 in
set_option maxHeartbeats 4000000 in
theorem xX10_satisfaction_0 {K : cw_K} {E : String} {J0 I : cw_M} {x1 : Int32} (h : ((∃ J_2 : cw_M, cw_C (cc_w K) mX10_requireSibling [.ref (cw_a (cc_w K) 0), .int x1] I none J_2 ∧ (∃ (v_10 : Int32) (J_10 : cw_M), cw_C (cc_w K) mX1_worthOfAll [.ref (cw_a (cc_w K) 5), .int x1] J_2 (some (.int v_10)) J_10 ∧ ((¬ v_10 = 0 → (∃ (v_25 : Int32) (J_25 : cw_M), cw_C (cc_w K) mX1_welfareOf [.ref (cw_a (cc_w K) 5), .int x1] J_10 (some (.int v_25)) J_25 ∧ False)) ∧ (v_10 = 0 → False)))) ∨ (∃ (E1 : String) (J_2 : cw_M), cw_T (cc_w K) mX10_requireSibling [.ref (cw_a (cc_w K) 0), .int x1] I E1 J_2 ∧ E = E1 ∧ J0 = J_2))) : cw_T (cc_w K) mX10_satisfaction [.ref (cw_a (cc_w K) 0), .int x1] I E J0 := by
  refine cw_tentry okX10_satisfaction (Nat.le_of_ble_eq_true rfl) (show cw_B (cc_w K) mX10_satisfaction (cw_Zx (cc_w K) E J0) 1 6 I 0 [(0, .ref (cw_a (cc_w K) 0)), (1, .int x1)] [] from ?_)
  refine cw_aload_n dX10_satisfaction_0 0 rfl rfl ?_
  refine cw_iload_n dX10_satisfaction_1 1 rfl rfl ?_
  rcases h with ⟨J_2, hc_2, h⟩ | ⟨E1, J_2, hc_2, h⟩
  · refine cw_callV (o := 0) (As := [.int x1]) hc_2 okX10_requireSibling rfl gX10_satisfaction_X10_requireSibling (by decide) (show 0 < 32 by decide) rfl (ci := 8) rfl rfl (Nat.le_of_ble_eq_true rfl) dX10_satisfaction_2 ?_
    refine cw_aload_n dX10_satisfaction_5 0 rfl rfl ?_
    refine cw_getf (C := RX10) (T := TX10) (N := 10) (ci := 8) inX10_satisfaction_RX10 0 (show 0 < 32 by decide) rfl rfl 2 (by decide) (by decide +kernel) rfl dX10_satisfaction_6 ?_
    refine cw_iload_n dX10_satisfaction_9 1 rfl rfl ?_
    obtain ⟨v_10, J_10, hc_10, h⟩ := h
    refine cw_callV (o := 5) (As := [.int x1]) hc_10 okX1_worthOfAll rfl gX10_satisfaction_X1_worthOfAll (by decide) (show 5 < 32 by decide) rfl (ci := 0) rfl rfl (Nat.le_of_ble_eq_true rfl) dX10_satisfaction_10 ?_
    refine cw_istore_n dX10_satisfaction_13 rfl (by decide) rfl ?_
    refine cw_iload_n dX10_satisfaction_14 0 rfl rfl ?_
    refine cw_if_ne (tgt := 20) dX10_satisfaction_15 (by decide) (fun q => ?_) (fun q => ?_)
    · have h := h.1 q
      refine cw_aload_n dX10_satisfaction_20 1 rfl rfl ?_
      refine cw_getf (C := RX10) (T := TX10) (N := 10) (ci := 8) inX10_satisfaction_RX10 0 (show 0 < 32 by decide) rfl rfl 2 (by decide) (by decide +kernel) rfl dX10_satisfaction_21 ?_
      refine cw_iload_n dX10_satisfaction_24 2 rfl rfl ?_
      obtain ⟨v_25, J_25, hc_25, h⟩ := h
      refine cw_callV (o := 5) (As := [.int x1]) hc_25 okX1_welfareOf rfl gX10_satisfaction_X1_welfareOf (by decide) (show 5 < 32 by decide) rfl (ci := 0) rfl rfl (Nat.le_of_ble_eq_true rfl) dX10_satisfaction_25 ?_
      exact h.elim
    · have h := h.2 q
      refine cw_fconst0 dX10_satisfaction_18 ?_
      exact h.elim
  · exact cw_callX (o := 0) (As := [.int x1]) hc_2 okX10_requireSibling rfl gX10_satisfaction_X10_requireSibling (by decide) (show 0 < 32 by decide) rfl (ci := 8) rfl rfl (Nat.le_of_ble_eq_true rfl) dX10_satisfaction_2 h
set_option maxRecDepth 20000 in
set_option maxHeartbeats 4000000 in
theorem xX10_save_0 {K : cw_K} {E : String} {J0 I : cw_M} {x1 : Int32} (h : ((∃ J_2 : cw_M, cw_C (cc_w K) mX10_requireSlot [.ref (cw_a (cc_w K) 0), .int x1] I none J_2 ∧ (∃ J_14 : cw_M, cw_C (cc_w K) mX4_saveTo [.ref (cw_a (cc_w K) 28), .int x1, .ref (cw_a (cc_w K) 5)] J_2 none J_14 ∧ (∃ (v_22 : Int32) (J_22 : cw_M), cw_C (cc_w K) mX1_countOwned [.ref (cw_a (cc_w K) 5), .int (-1)] J_14 (some (.int v_22)) J_22 ∧ False))) ∨ (∃ (E1 : String) (J_2 : cw_M), cw_T (cc_w K) mX10_requireSlot [.ref (cw_a (cc_w K) 0), .int x1] I E1 J_2 ∧ E = E1 ∧ J0 = J_2))) : cw_T (cc_w K) mX10_save [.ref (cw_a (cc_w K) 0), .int x1] I E J0 := by
  refine cw_tentry okX10_save (Nat.le_of_ble_eq_true rfl) (show cw_B (cc_w K) mX10_save (cw_Zx (cc_w K) E J0) 1 6 I 0 [(0, .ref (cw_a (cc_w K) 0)), (1, .int x1)] [] from ?_)
  refine cw_aload_n dX10_save_0 0 rfl rfl ?_
  refine cw_iload_n dX10_save_1 1 rfl rfl ?_
  rcases h with ⟨J_2, hc_2, h⟩ | ⟨E1, J_2, hc_2, h⟩
  · refine cw_callV (o := 0) (As := [.int x1]) hc_2 okX10_requireSlot rfl gX10_save_X10_requireSlot (by decide) (show 0 < 32 by decide) rfl (ci := 8) rfl rfl (Nat.le_of_ble_eq_true rfl) dX10_save_2 ?_
    refine cw_aload_n dX10_save_5 0 rfl rfl ?_
    refine cw_getf (C := RX10) (T := TX10) (N := 10) (ci := 8) inX10_save_RX10 0 (show 0 < 32 by decide) rfl rfl 9 (by decide) (by decide +kernel) rfl dX10_save_6 ?_
    refine cw_iload_n dX10_save_9 1 rfl rfl ?_
    refine cw_aload_n dX10_save_10 0 rfl rfl ?_
    refine cw_getf (C := RX10) (T := TX10) (N := 10) (ci := 8) inX10_save_RX10 0 (show 0 < 32 by decide) rfl rfl 2 (by decide) (by decide +kernel) rfl dX10_save_11 ?_
    obtain ⟨J_14, hc_14, h⟩ := h
    refine cw_callV (o := 28) (As := [.int x1, .ref (cw_a (cc_w K) 5)]) hc_14 okX4_saveTo rfl gX10_save_X4_saveTo (by decide) (show 28 < 32 by decide) rfl (ci := 3) rfl rfl (Nat.le_of_ble_eq_true rfl) dX10_save_14 ?_
    refine cw_aload_n dX10_save_17 0 rfl rfl ?_
    refine cw_getf (C := RX10) (T := TX10) (N := 10) (ci := 8) inX10_save_RX10 0 (show 0 < 32 by decide) rfl rfl 2 (by decide) (by decide +kernel) rfl dX10_save_18 ?_
    refine cw_iconst (v := (-1)) dX10_save_21 (by decide) ?_
    obtain ⟨v_22, J_22, hc_22, h⟩ := h
    refine cw_callV (o := 5) (As := [.int (-1)]) hc_22 okX1_countOwned rfl gX10_save_X1_countOwned (by decide) (show 5 < 32 by decide) rfl (ci := 0) rfl rfl (Nat.le_of_ble_eq_true rfl) dX10_save_22 ?_
    exact h.elim
  · exact cw_callX (o := 0) (As := [.int x1]) hc_2 okX10_requireSlot rfl gX10_save_X10_requireSlot (by decide) (show 0 < 32 by decide) rfl (ci := 8) rfl rfl (Nat.le_of_ble_eq_true rfl) dX10_save_2 h
set_option maxRecDepth 20000 in
set_option maxHeartbeats 4000000 in
theorem xX10_setValue_0 {K : cw_K} {E : String} {J0 I : cw_M} {x1 : Int32} {x2 : Int32} {x3 : Int32} (hFT : cw_FT (cw_f (cc_w K))) (hl : K.1.stackTraces = false) (h : ((∃ J_2 : cw_M, cw_C (cc_w K) mX10_requireSibling [.ref (cw_a (cc_w K) 0), .int x1] I none J_2 ∧ ((∃ J_7 : cw_M, cw_C (cc_w K) mX10_requireCell [.ref (cw_a (cc_w K) 0), .int x2] J_2 none J_7 ∧ ((x3 < 0 → (E = "java/lang/IllegalArgumentException" ∧ J0 = J_7)) ∧ (¬ x3 < 0 → ((x3 ≤ 9 → (∃ J_39 : cw_M, cw_C (cc_w K) mX4_rememberForUndo [.ref (cw_a (cc_w K) 28), .ref (cw_a (cc_w K) 5)] J_7 none J_39 ∧ (∃ (v_48 : Int32) (J_48 : cw_M), cw_C (cc_w K) mX1_valueOf [.ref (cw_a (cc_w K) 5), .int x1, .int x2] J_39 (some (.int v_48)) J_48 ∧ (∃ J_60 : cw_M, cw_C (cc_w K) mX1_putValue [.ref (cw_a (cc_w K) 5), .int x1, .int x2, .int x3] J_48 none J_60 ∧ False)))) ∧ (¬ x3 ≤ 9 → (E = "java/lang/IllegalArgumentException" ∧ J0 = J_7)))))) ∨ (∃ (E1 : String) (J_7 : cw_M), cw_T (cc_w K) mX10_requireCell [.ref (cw_a (cc_w K) 0), .int x2] J_2 E1 J_7 ∧ E = E1 ∧ J0 = J_7))) ∨ (∃ (E1 : String) (J_2 : cw_M), cw_T (cc_w K) mX10_requireSibling [.ref (cw_a (cc_w K) 0), .int x1] I E1 J_2 ∧ E = E1 ∧ J0 = J_2))) : cw_T (cc_w K) mX10_setValue [.ref (cw_a (cc_w K) 0), .int x1, .int x2, .int x3] I E J0 := by
  refine cw_tentry okX10_setValue (Nat.le_of_ble_eq_true rfl) (show cw_B (cc_w K) mX10_setValue (cw_Zx (cc_w K) E J0) 1 6 I 0 [(0, .ref (cw_a (cc_w K) 0)), (1, .int x1), (2, .int x2), (3, .int x3)] [] from ?_)
  refine cw_aload_n dX10_setValue_0 0 rfl rfl ?_
  refine cw_iload_n dX10_setValue_1 1 rfl rfl ?_
  rcases h with ⟨J_2, hc_2, h⟩ | ⟨E1, J_2, hc_2, h⟩
  · refine cw_callV (o := 0) (As := [.int x1]) hc_2 okX10_requireSibling rfl gX10_setValue_X10_requireSibling (by decide) (show 0 < 32 by decide) rfl (ci := 8) rfl rfl (Nat.le_of_ble_eq_true rfl) dX10_setValue_2 ?_
    refine cw_aload_n dX10_setValue_5 0 rfl rfl ?_
    refine cw_iload_n dX10_setValue_6 2 rfl rfl ?_
    rcases h with ⟨J_7, hc_7, h⟩ | ⟨E1, J_7, hc_7, h⟩
    · refine cw_callV (o := 0) (As := [.int x2]) hc_7 okX10_requireCell rfl gX10_setValue_X10_requireCell (by decide) (show 0 < 32 by decide) rfl (ci := 8) rfl rfl (Nat.le_of_ble_eq_true rfl) dX10_setValue_7 ?_
      refine cw_iload_n dX10_setValue_10 3 rfl rfl ?_
      refine cw_if_lt (tgt := 20) dX10_setValue_11 (by decide) (fun q => ?_) (fun q => ?_)
      · have h := h.1 q
        exact cw_throwSW (cls := "java/lang/IllegalArgumentException") (text := "the value is out of range") (names := ["java/lang/RuntimeException", "java/lang/Exception"]) (ik := 101) (is := 263) (ic := 105) hl (hFT (105, "java/lang/IllegalArgumentException", ["java/lang/RuntimeException", "java/lang/Exception"], 263, "the value is out of range") (by decide +kernel)) (by decide +kernel) (by decide +kernel) (by decide +kernel) (by decide +kernel) (by decide +kernel) (by decide +kernel) dX10_setValue_20 dX10_setValue_23 dX10_setValue_24 dX10_setValue_27 dX10_setValue_30 ⟨by decide, Nat.le_of_ble_eq_true rfl⟩ h
      · have h := h.2 q
        refine cw_iload_n dX10_setValue_14 3 rfl rfl ?_
        refine cw_bipush (v := 9) dX10_setValue_15 (by decide) ?_
        refine cw_icmp_le (tgt := 31) dX10_setValue_17 (by decide) (fun q => ?_) (fun q => ?_)
        · have h := h.1 q
          refine cw_aload_n dX10_setValue_31 0 rfl rfl ?_
          refine cw_getf (C := RX10) (T := TX10) (N := 10) (ci := 8) inX10_setValue_RX10 0 (show 0 < 32 by decide) rfl rfl 9 (by decide) (by decide +kernel) rfl dX10_setValue_32 ?_
          refine cw_aload_n dX10_setValue_35 0 rfl rfl ?_
          refine cw_getf (C := RX10) (T := TX10) (N := 10) (ci := 8) inX10_setValue_RX10 0 (show 0 < 32 by decide) rfl rfl 2 (by decide) (by decide +kernel) rfl dX10_setValue_36 ?_
          obtain ⟨J_39, hc_39, h⟩ := h
          refine cw_callV (o := 28) (As := [.ref (cw_a (cc_w K) 5)]) hc_39 okX4_rememberForUndo rfl gX10_setValue_X4_rememberForUndo (by decide) (show 28 < 32 by decide) rfl (ci := 3) rfl rfl (Nat.le_of_ble_eq_true rfl) dX10_setValue_39 ?_
          refine cw_aload_n dX10_setValue_42 0 rfl rfl ?_
          refine cw_getf (C := RX10) (T := TX10) (N := 10) (ci := 8) inX10_setValue_RX10 0 (show 0 < 32 by decide) rfl rfl 2 (by decide) (by decide +kernel) rfl dX10_setValue_43 ?_
          refine cw_iload_n dX10_setValue_46 1 rfl rfl ?_
          refine cw_iload_n dX10_setValue_47 2 rfl rfl ?_
          obtain ⟨v_48, J_48, hc_48, h⟩ := h
          refine cw_callV (o := 5) (As := [.int x1, .int x2]) hc_48 okX1_valueOf rfl gX10_setValue_X1_valueOf (by decide) (show 5 < 32 by decide) rfl (ci := 0) rfl rfl (Nat.le_of_ble_eq_true rfl) dX10_setValue_48 ?_
          refine cw_istore dX10_setValue_51 (by decide) rfl ?_
          refine cw_aload_n dX10_setValue_53 1 rfl rfl ?_
          refine cw_getf (C := RX10) (T := TX10) (N := 10) (ci := 8) inX10_setValue_RX10 0 (show 0 < 32 by decide) rfl rfl 2 (by decide) (by decide +kernel) rfl dX10_setValue_54 ?_
          refine cw_iload_n dX10_setValue_57 2 rfl rfl ?_
          refine cw_iload_n dX10_setValue_58 3 rfl rfl ?_
          refine cw_iload_n dX10_setValue_59 4 rfl rfl ?_
          obtain ⟨J_60, hc_60, h⟩ := h
          refine cw_callV (o := 5) (As := [.int x1, .int x2, .int x3]) hc_60 okX1_putValue rfl gX10_setValue_X1_putValue (by decide) (show 5 < 32 by decide) rfl (ci := 0) rfl rfl (Nat.le_of_ble_eq_true rfl) dX10_setValue_60 ?_
          refine cw_iload dX10_setValue_63 0 rfl ?_
          exact h.elim
        · have h := h.2 q
          exact cw_throwSW (cls := "java/lang/IllegalArgumentException") (text := "the value is out of range") (names := ["java/lang/RuntimeException", "java/lang/Exception"]) (ik := 101) (is := 263) (ic := 105) hl (hFT (105, "java/lang/IllegalArgumentException", ["java/lang/RuntimeException", "java/lang/Exception"], 263, "the value is out of range") (by decide +kernel)) (by decide +kernel) (by decide +kernel) (by decide +kernel) (by decide +kernel) (by decide +kernel) (by decide +kernel) dX10_setValue_20 dX10_setValue_23 dX10_setValue_24 dX10_setValue_27 dX10_setValue_30 ⟨by decide, Nat.le_of_ble_eq_true rfl⟩ h
    · exact cw_callX (o := 0) (As := [.int x2]) hc_7 okX10_requireCell rfl gX10_setValue_X10_requireCell (by decide) (show 0 < 32 by decide) rfl (ci := 8) rfl rfl (Nat.le_of_ble_eq_true rfl) dX10_setValue_7 h
  · exact cw_callX (o := 0) (As := [.int x1]) hc_2 okX10_requireSibling rfl gX10_setValue_X10_requireSibling (by decide) (show 0 < 32 by decide) rfl (ci := 8) rfl rfl (Nat.le_of_ble_eq_true rfl) dX10_setValue_2 h
set_option maxRecDepth 20000 in
set_option maxHeartbeats 4000000 in
theorem xX10_shareSize_0 {K : cw_K} {E : String} {J0 I : cw_M} {x1 : Int32} (h : ((∃ J_2 : cw_M, cw_C (cc_w K) mX10_requireSibling [.ref (cw_a (cc_w K) 0), .int x1] I none J_2 ∧ (∃ (v_10 : Int32) (J_10 : cw_M), cw_C (cc_w K) mX1_countOwned [.ref (cw_a (cc_w K) 5), .int x1] J_2 (some (.int v_10)) J_10 ∧ False)) ∨ (∃ (E1 : String) (J_2 : cw_M), cw_T (cc_w K) mX10_requireSibling [.ref (cw_a (cc_w K) 0), .int x1] I E1 J_2 ∧ E = E1 ∧ J0 = J_2))) : cw_T (cc_w K) mX10_shareSize [.ref (cw_a (cc_w K) 0), .int x1] I E J0 := by
  refine cw_tentry okX10_shareSize (Nat.le_of_ble_eq_true rfl) (show cw_B (cc_w K) mX10_shareSize (cw_Zx (cc_w K) E J0) 1 6 I 0 [(0, .ref (cw_a (cc_w K) 0)), (1, .int x1)] [] from ?_)
  refine cw_aload_n dX10_shareSize_0 0 rfl rfl ?_
  refine cw_iload_n dX10_shareSize_1 1 rfl rfl ?_
  rcases h with ⟨J_2, hc_2, h⟩ | ⟨E1, J_2, hc_2, h⟩
  · refine cw_callV (o := 0) (As := [.int x1]) hc_2 okX10_requireSibling rfl gX10_shareSize_X10_requireSibling (by decide) (show 0 < 32 by decide) rfl (ci := 8) rfl rfl (Nat.le_of_ble_eq_true rfl) dX10_shareSize_2 ?_
    refine cw_aload_n dX10_shareSize_5 0 rfl rfl ?_
    refine cw_getf (C := RX10) (T := TX10) (N := 10) (ci := 8) inX10_shareSize_RX10 0 (show 0 < 32 by decide) rfl rfl 2 (by decide) (by decide +kernel) rfl dX10_shareSize_6 ?_
    refine cw_iload_n dX10_shareSize_9 1 rfl rfl ?_
    obtain ⟨v_10, J_10, hc_10, h⟩ := h
    refine cw_callV (o := 5) (As := [.int x1]) hc_10 okX1_countOwned rfl gX10_shareSize_X1_countOwned (by decide) (show 5 < 32 by decide) rfl (ci := 0) rfl rfl (Nat.le_of_ble_eq_true rfl) dX10_shareSize_10 ?_
    exact h.elim
  · exact cw_callX (o := 0) (As := [.int x1]) hc_2 okX10_requireSibling rfl gX10_shareSize_X10_requireSibling (by decide) (show 0 < 32 by decide) rfl (ci := 8) rfl rfl (Nat.le_of_ble_eq_true rfl) dX10_shareSize_2 h
set_option maxRecDepth 20000 in
set_option maxHeartbeats 4000000 in
theorem xX10_swapShares_0 {K : cw_K} {E : String} {J0 I : cw_M} {x1 : Int32} {x2 : Int32} (h : ((∃ J_2 : cw_M, cw_C (cc_w K) mX10_requireSibling [.ref (cw_a (cc_w K) 0), .int x1] I none J_2 ∧ ((∃ J_7 : cw_M, cw_C (cc_w K) mX10_requireSibling [.ref (cw_a (cc_w K) 0), .int x2] J_2 none J_7 ∧ ((∃ J_13 : cw_M, cw_C (cc_w K) mX10_requireDifferent [.ref (cw_a (cc_w K) 0), .int x1, .int x2] J_7 none J_13 ∧ (∃ J_24 : cw_M, cw_C (cc_w K) mX4_rememberForUndo [.ref (cw_a (cc_w K) 28), .ref (cw_a (cc_w K) 5)] J_13 none J_24 ∧ (∃ J_33 : cw_M, cw_C (cc_w K) mX1_exchangeShares [.ref (cw_a (cc_w K) 5), .int x1, .int x2] J_24 none J_33 ∧ (∃ (v_40 : Int32) (J_40 : cw_M), cw_C (cc_w K) mX3_countEnvies [.ref (cw_a (cc_w K) 16)] J_33 (some (.int v_40)) J_40 ∧ False)))) ∨ (∃ (E1 : String) (J_13 : cw_M), cw_T (cc_w K) mX10_requireDifferent [.ref (cw_a (cc_w K) 0), .int x1, .int x2] J_7 E1 J_13 ∧ E = E1 ∧ J0 = J_13))) ∨ (∃ (E1 : String) (J_7 : cw_M), cw_T (cc_w K) mX10_requireSibling [.ref (cw_a (cc_w K) 0), .int x2] J_2 E1 J_7 ∧ E = E1 ∧ J0 = J_7))) ∨ (∃ (E1 : String) (J_2 : cw_M), cw_T (cc_w K) mX10_requireSibling [.ref (cw_a (cc_w K) 0), .int x1] I E1 J_2 ∧ E = E1 ∧ J0 = J_2))) : cw_T (cc_w K) mX10_swapShares [.ref (cw_a (cc_w K) 0), .int x1, .int x2] I E J0 := by
  refine cw_tentry okX10_swapShares (Nat.le_of_ble_eq_true rfl) (show cw_B (cc_w K) mX10_swapShares (cw_Zx (cc_w K) E J0) 1 6 I 0 [(0, .ref (cw_a (cc_w K) 0)), (1, .int x1), (2, .int x2)] [] from ?_)
  refine cw_aload_n dX10_swapShares_0 0 rfl rfl ?_
  refine cw_iload_n dX10_swapShares_1 1 rfl rfl ?_
  rcases h with ⟨J_2, hc_2, h⟩ | ⟨E1, J_2, hc_2, h⟩
  · refine cw_callV (o := 0) (As := [.int x1]) hc_2 okX10_requireSibling rfl gX10_swapShares_X10_requireSibling (by decide) (show 0 < 32 by decide) rfl (ci := 8) rfl rfl (Nat.le_of_ble_eq_true rfl) dX10_swapShares_2 ?_
    refine cw_aload_n dX10_swapShares_5 0 rfl rfl ?_
    refine cw_iload_n dX10_swapShares_6 2 rfl rfl ?_
    rcases h with ⟨J_7, hc_7, h⟩ | ⟨E1, J_7, hc_7, h⟩
    · refine cw_callV (o := 0) (As := [.int x2]) hc_7 okX10_requireSibling rfl gX10_swapShares_X10_requireSibling (by decide) (show 0 < 32 by decide) rfl (ci := 8) rfl rfl (Nat.le_of_ble_eq_true rfl) dX10_swapShares_7 ?_
      refine cw_aload_n dX10_swapShares_10 0 rfl rfl ?_
      refine cw_iload_n dX10_swapShares_11 1 rfl rfl ?_
      refine cw_iload_n dX10_swapShares_12 2 rfl rfl ?_
      rcases h with ⟨J_13, hc_13, h⟩ | ⟨E1, J_13, hc_13, h⟩
      · refine cw_callV (o := 0) (As := [.int x1, .int x2]) hc_13 okX10_requireDifferent rfl gX10_swapShares_X10_requireDifferent (by decide) (show 0 < 32 by decide) rfl (ci := 8) rfl rfl (Nat.le_of_ble_eq_true rfl) dX10_swapShares_13 ?_
        refine cw_aload_n dX10_swapShares_16 0 rfl rfl ?_
        refine cw_getf (C := RX10) (T := TX10) (N := 10) (ci := 8) inX10_swapShares_RX10 0 (show 0 < 32 by decide) rfl rfl 9 (by decide) (by decide +kernel) rfl dX10_swapShares_17 ?_
        refine cw_aload_n dX10_swapShares_20 0 rfl rfl ?_
        refine cw_getf (C := RX10) (T := TX10) (N := 10) (ci := 8) inX10_swapShares_RX10 0 (show 0 < 32 by decide) rfl rfl 2 (by decide) (by decide +kernel) rfl dX10_swapShares_21 ?_
        obtain ⟨J_24, hc_24, h⟩ := h
        refine cw_callV (o := 28) (As := [.ref (cw_a (cc_w K) 5)]) hc_24 okX4_rememberForUndo rfl gX10_swapShares_X4_rememberForUndo (by decide) (show 28 < 32 by decide) rfl (ci := 3) rfl rfl (Nat.le_of_ble_eq_true rfl) dX10_swapShares_24 ?_
        refine cw_aload_n dX10_swapShares_27 0 rfl rfl ?_
        refine cw_getf (C := RX10) (T := TX10) (N := 10) (ci := 8) inX10_swapShares_RX10 0 (show 0 < 32 by decide) rfl rfl 2 (by decide) (by decide +kernel) rfl dX10_swapShares_28 ?_
        refine cw_iload_n dX10_swapShares_31 1 rfl rfl ?_
        refine cw_iload_n dX10_swapShares_32 2 rfl rfl ?_
        obtain ⟨J_33, hc_33, h⟩ := h
        refine cw_callV (o := 5) (As := [.int x1, .int x2]) hc_33 okX1_exchangeShares rfl gX10_swapShares_X1_exchangeShares (by decide) (show 5 < 32 by decide) rfl (ci := 0) rfl rfl (Nat.le_of_ble_eq_true rfl) dX10_swapShares_33 ?_
        refine cw_aload_n dX10_swapShares_36 0 rfl rfl ?_
        refine cw_getf (C := RX10) (T := TX10) (N := 10) (ci := 8) inX10_swapShares_RX10 0 (show 0 < 32 by decide) rfl rfl 5 (by decide) (by decide +kernel) rfl dX10_swapShares_37 ?_
        obtain ⟨v_40, J_40, hc_40, h⟩ := h
        refine cw_callV (o := 16) (As := []) hc_40 okX3_countEnvies rfl gX10_swapShares_X3_countEnvies (by decide) (show 16 < 32 by decide) rfl (ci := 2) rfl rfl (Nat.le_of_ble_eq_true rfl) dX10_swapShares_40 ?_
        exact h.elim
      · exact cw_callX (o := 0) (As := [.int x1, .int x2]) hc_13 okX10_requireDifferent rfl gX10_swapShares_X10_requireDifferent (by decide) (show 0 < 32 by decide) rfl (ci := 8) rfl rfl (Nat.le_of_ble_eq_true rfl) dX10_swapShares_13 h
    · exact cw_callX (o := 0) (As := [.int x2]) hc_7 okX10_requireSibling rfl gX10_swapShares_X10_requireSibling (by decide) (show 0 < 32 by decide) rfl (ci := 8) rfl rfl (Nat.le_of_ble_eq_true rfl) dX10_swapShares_7 h
  · exact cw_callX (o := 0) (As := [.int x1]) hc_2 okX10_requireSibling rfl gX10_swapShares_X10_requireSibling (by decide) (show 0 < 32 by decide) rfl (ci := 8) rfl rfl (Nat.le_of_ble_eq_true rfl) dX10_swapShares_2 h
set_option maxRecDepth 20000 in
set_option maxHeartbeats 4000000 in
theorem xX10_total_0 {K : cw_K} {E : String} {J0 I : cw_M} {x1 : Int32} (h : ((∃ J_2 : cw_M, cw_C (cc_w K) mX10_requireSibling [.ref (cw_a (cc_w K) 0), .int x1] I none J_2 ∧ (∃ (v_10 : Int32) (J_10 : cw_M), cw_C (cc_w K) mX1_worthOfAll [.ref (cw_a (cc_w K) 5), .int x1] J_2 (some (.int v_10)) J_10 ∧ False)) ∨ (∃ (E1 : String) (J_2 : cw_M), cw_T (cc_w K) mX10_requireSibling [.ref (cw_a (cc_w K) 0), .int x1] I E1 J_2 ∧ E = E1 ∧ J0 = J_2))) : cw_T (cc_w K) mX10_total [.ref (cw_a (cc_w K) 0), .int x1] I E J0 := by
  refine cw_tentry okX10_total (Nat.le_of_ble_eq_true rfl) (show cw_B (cc_w K) mX10_total (cw_Zx (cc_w K) E J0) 1 6 I 0 [(0, .ref (cw_a (cc_w K) 0)), (1, .int x1)] [] from ?_)
  refine cw_aload_n dX10_total_0 0 rfl rfl ?_
  refine cw_iload_n dX10_total_1 1 rfl rfl ?_
  rcases h with ⟨J_2, hc_2, h⟩ | ⟨E1, J_2, hc_2, h⟩
  · refine cw_callV (o := 0) (As := [.int x1]) hc_2 okX10_requireSibling rfl gX10_total_X10_requireSibling (by decide) (show 0 < 32 by decide) rfl (ci := 8) rfl rfl (Nat.le_of_ble_eq_true rfl) dX10_total_2 ?_
    refine cw_aload_n dX10_total_5 0 rfl rfl ?_
    refine cw_getf (C := RX10) (T := TX10) (N := 10) (ci := 8) inX10_total_RX10 0 (show 0 < 32 by decide) rfl rfl 2 (by decide) (by decide +kernel) rfl dX10_total_6 ?_
    refine cw_iload_n dX10_total_9 1 rfl rfl ?_
    obtain ⟨v_10, J_10, hc_10, h⟩ := h
    refine cw_callV (o := 5) (As := [.int x1]) hc_10 okX1_worthOfAll rfl gX10_total_X1_worthOfAll (by decide) (show 5 < 32 by decide) rfl (ci := 0) rfl rfl (Nat.le_of_ble_eq_true rfl) dX10_total_10 ?_
    exact h.elim
  · exact cw_callX (o := 0) (As := [.int x1]) hc_2 okX10_requireSibling rfl gX10_total_X10_requireSibling (by decide) (show 0 < 32 by decide) rfl (ci := 8) rfl rfl (Nat.le_of_ble_eq_true rfl) dX10_total_2 h
set_option maxRecDepth 20000 in
set_option maxHeartbeats 4000000 in
theorem xX10_truncate_0 {K : cw_K} {E : String} {J0 I : cw_M} {x1 : Int32} (hFT : cw_FT (cw_f (cc_w K))) (hl : K.1.stackTraces = false) (h : ((x1 < 0 → (E = "java/lang/IllegalArgumentException" ∧ J0 = I)) ∧ (¬ x1 < 0 → ((x1 ≤ (I 1 1) → False) ∧ (¬ x1 ≤ (I 1 1) → (E = "java/lang/IllegalArgumentException" ∧ J0 = I)))))) : cw_T (cc_w K) mX10_truncate [.ref (cw_a (cc_w K) 0), .int x1] I E J0 := by
  refine cw_tentry okX10_truncate (Nat.le_of_ble_eq_true rfl) (show cw_B (cc_w K) mX10_truncate (cw_Zx (cc_w K) E J0) 1 6 I 0 [(0, .ref (cw_a (cc_w K) 0)), (1, .int x1)] [] from ?_)
  refine cw_iload_n dX10_truncate_0 1 rfl rfl ?_
  refine cw_if_lt (tgt := 15) dX10_truncate_1 (by decide) (fun q => ?_) (fun q => ?_)
  · have h := h.1 q
    exact cw_throwS (cls := "java/lang/IllegalArgumentException") (text := "the input buffer has no such length") (names := ["java/lang/RuntimeException", "java/lang/Exception"]) (ik := 101) (is := 103) (ic := 105) hl (hFT (105, "java/lang/IllegalArgumentException", ["java/lang/RuntimeException", "java/lang/Exception"], 103, "the input buffer has no such length") (by decide +kernel)) (by decide +kernel) (by decide +kernel) (by decide +kernel) (by decide +kernel) (by decide +kernel) (by decide +kernel) dX10_truncate_15 dX10_truncate_18 dX10_truncate_19 dX10_truncate_21 dX10_truncate_24 ⟨by decide, Nat.le_of_ble_eq_true rfl⟩ h
  · have h := h.2 q
    refine cw_iload_n dX10_truncate_4 1 rfl rfl ?_
    refine cw_aload_n dX10_truncate_5 0 rfl rfl ?_
    refine cw_getf (C := RX10) (T := TX10) (N := 10) (ci := 8) inX10_truncate_RX10 0 (show 0 < 32 by decide) rfl rfl 0 (by decide) (by decide +kernel) rfl dX10_truncate_6 ?_
    refine cw_getf (C := RX8) (T := TX8) (N := 2) (ci := 7) inX10_truncate_RX8 1 (show 1 < 32 by decide) rfl rfl 1 (by decide) (by decide +kernel) rfl dX10_truncate_9 ?_
    refine cw_icmp_le (tgt := 25) dX10_truncate_12 (by decide) (fun q => ?_) (fun q => ?_)
    · have h := h.1 q
      refine cw_aload_n dX10_truncate_25 0 rfl rfl ?_
      refine cw_getf (C := RX10) (T := TX10) (N := 10) (ci := 8) inX10_truncate_RX10 0 (show 0 < 32 by decide) rfl rfl 0 (by decide) (by decide +kernel) rfl dX10_truncate_26 ?_
      refine cw_iload_n dX10_truncate_29 1 rfl rfl ?_
      refine cw_putf (C := RX8) (T := TX8) (N := 2) (ci := 7) inX10_truncate_RX8 tyX8 tyX8_ok nmX8 1 (show 1 < 32 by decide) rfl rfl 1 (by decide) (by decide +kernel) rfl rfl (show 1 < 2 by decide) rfl dX10_truncate_30 ?_
      refine cw_iload_n dX10_truncate_33 1 rfl rfl ?_
      exact h.elim
    · have h := h.2 q
      exact cw_throwS (cls := "java/lang/IllegalArgumentException") (text := "the input buffer has no such length") (names := ["java/lang/RuntimeException", "java/lang/Exception"]) (ik := 101) (is := 103) (ic := 105) hl (hFT (105, "java/lang/IllegalArgumentException", ["java/lang/RuntimeException", "java/lang/Exception"], 103, "the input buffer has no such length") (by decide +kernel)) (by decide +kernel) (by decide +kernel) (by decide +kernel) (by decide +kernel) (by decide +kernel) (by decide +kernel) dX10_truncate_15 dX10_truncate_18 dX10_truncate_19 dX10_truncate_21 dX10_truncate_24 ⟨by decide, Nat.le_of_ble_eq_true rfl⟩ h
set_option maxRecDepth 20000 in
set_option maxHeartbeats 4000000 in
theorem xX10_undo_0 {K : cw_K} {E : String} {J0 I : cw_M} (hFT : cw_FT (cw_f (cc_w K))) (hl : K.1.stackTraces = false) (h : ((¬ (I 28 0) = 0 → (∃ J_29 : cw_M, cw_C (cc_w K) mX4_undoLatest [.ref (cw_a (cc_w K) 28), .ref (cw_a (cc_w K) 5)] I none J_29 ∧ False)) ∧ ((I 28 0) = 0 → (E = "java/lang/IllegalStateException" ∧ J0 = I)))) : cw_T (cc_w K) mX10_undo [.ref (cw_a (cc_w K) 0)] I E J0 := by
  refine cw_tentry okX10_undo (Nat.le_of_ble_eq_true rfl) (show cw_B (cc_w K) mX10_undo (cw_Zx (cc_w K) E J0) 1 6 I 0 [(0, .ref (cw_a (cc_w K) 0))] [] from ?_)
  refine cw_aload_n dX10_undo_0 0 rfl rfl ?_
  refine cw_getf (C := RX10) (T := TX10) (N := 10) (ci := 8) inX10_undo_RX10 0 (show 0 < 32 by decide) rfl rfl 9 (by decide) (by decide +kernel) rfl dX10_undo_1 ?_
  refine cw_getf (C := RX4) (T := TX4) (N := 5) (ci := 3) inX10_undo_RX4 28 (show 28 < 32 by decide) rfl rfl 0 (by decide) (by decide +kernel) rfl dX10_undo_4 ?_
  refine cw_if_ne (tgt := 21) dX10_undo_7 (by decide) (fun q => ?_) (fun q => ?_)
  · have h := h.1 q
    refine cw_aload_n dX10_undo_21 0 rfl rfl ?_
    refine cw_getf (C := RX10) (T := TX10) (N := 10) (ci := 8) inX10_undo_RX10 0 (show 0 < 32 by decide) rfl rfl 9 (by decide) (by decide +kernel) rfl dX10_undo_22 ?_
    refine cw_aload_n dX10_undo_25 0 rfl rfl ?_
    refine cw_getf (C := RX10) (T := TX10) (N := 10) (ci := 8) inX10_undo_RX10 0 (show 0 < 32 by decide) rfl rfl 2 (by decide) (by decide +kernel) rfl dX10_undo_26 ?_
    obtain ⟨J_29, hc_29, h⟩ := h
    refine cw_callV (o := 28) (As := [.ref (cw_a (cc_w K) 5)]) hc_29 okX4_undoLatest rfl gX10_undo_X4_undoLatest (by decide) (show 28 < 32 by decide) rfl (ci := 3) rfl rfl (Nat.le_of_ble_eq_true rfl) dX10_undo_29 ?_
    refine cw_aload_n dX10_undo_32 0 rfl rfl ?_
    refine cw_getf (C := RX10) (T := TX10) (N := 10) (ci := 8) inX10_undo_RX10 0 (show 0 < 32 by decide) rfl rfl 9 (by decide) (by decide +kernel) rfl dX10_undo_33 ?_
    refine cw_getf (C := RX4) (T := TX4) (N := 5) (ci := 3) inX10_undo_RX4 28 (show 28 < 32 by decide) rfl rfl 0 (by decide) (by decide +kernel) rfl dX10_undo_36 ?_
    exact h.elim
  · have h := h.2 q
    exact cw_throwSW (cls := "java/lang/IllegalStateException") (text := "there is no change to undo") (names := ["java/lang/RuntimeException", "java/lang/Exception"]) (ik := 91) (is := 296) (ic := 95) hl (hFT (95, "java/lang/IllegalStateException", ["java/lang/RuntimeException", "java/lang/Exception"], 296, "there is no change to undo") (by decide +kernel)) (by decide +kernel) (by decide +kernel) (by decide +kernel) (by decide +kernel) (by decide +kernel) (by decide +kernel) dX10_undo_10 dX10_undo_13 dX10_undo_14 dX10_undo_17 dX10_undo_20 ⟨by decide, Nat.le_of_ble_eq_true rfl⟩ h
set_option maxRecDepth 20000 in
set_option maxHeartbeats 4000000 in
theorem xX10_value_0 {K : cw_K} {E : String} {J0 I : cw_M} {x1 : Int32} {x2 : Int32} (h : ((∃ J_2 : cw_M, cw_C (cc_w K) mX10_requireSibling [.ref (cw_a (cc_w K) 0), .int x1] I none J_2 ∧ ((∃ J_7 : cw_M, cw_C (cc_w K) mX10_requireCell [.ref (cw_a (cc_w K) 0), .int x2] J_2 none J_7 ∧ (∃ (v_16 : Int32) (J_16 : cw_M), cw_C (cc_w K) mX1_valueOf [.ref (cw_a (cc_w K) 5), .int x1, .int x2] J_7 (some (.int v_16)) J_16 ∧ False)) ∨ (∃ (E1 : String) (J_7 : cw_M), cw_T (cc_w K) mX10_requireCell [.ref (cw_a (cc_w K) 0), .int x2] J_2 E1 J_7 ∧ E = E1 ∧ J0 = J_7))) ∨ (∃ (E1 : String) (J_2 : cw_M), cw_T (cc_w K) mX10_requireSibling [.ref (cw_a (cc_w K) 0), .int x1] I E1 J_2 ∧ E = E1 ∧ J0 = J_2))) : cw_T (cc_w K) mX10_value [.ref (cw_a (cc_w K) 0), .int x1, .int x2] I E J0 := by
  refine cw_tentry okX10_value (Nat.le_of_ble_eq_true rfl) (show cw_B (cc_w K) mX10_value (cw_Zx (cc_w K) E J0) 1 6 I 0 [(0, .ref (cw_a (cc_w K) 0)), (1, .int x1), (2, .int x2)] [] from ?_)
  refine cw_aload_n dX10_value_0 0 rfl rfl ?_
  refine cw_iload_n dX10_value_1 1 rfl rfl ?_
  rcases h with ⟨J_2, hc_2, h⟩ | ⟨E1, J_2, hc_2, h⟩
  · refine cw_callV (o := 0) (As := [.int x1]) hc_2 okX10_requireSibling rfl gX10_value_X10_requireSibling (by decide) (show 0 < 32 by decide) rfl (ci := 8) rfl rfl (Nat.le_of_ble_eq_true rfl) dX10_value_2 ?_
    refine cw_aload_n dX10_value_5 0 rfl rfl ?_
    refine cw_iload_n dX10_value_6 2 rfl rfl ?_
    rcases h with ⟨J_7, hc_7, h⟩ | ⟨E1, J_7, hc_7, h⟩
    · refine cw_callV (o := 0) (As := [.int x2]) hc_7 okX10_requireCell rfl gX10_value_X10_requireCell (by decide) (show 0 < 32 by decide) rfl (ci := 8) rfl rfl (Nat.le_of_ble_eq_true rfl) dX10_value_7 ?_
      refine cw_aload_n dX10_value_10 0 rfl rfl ?_
      refine cw_getf (C := RX10) (T := TX10) (N := 10) (ci := 8) inX10_value_RX10 0 (show 0 < 32 by decide) rfl rfl 2 (by decide) (by decide +kernel) rfl dX10_value_11 ?_
      refine cw_iload_n dX10_value_14 1 rfl rfl ?_
      refine cw_iload_n dX10_value_15 2 rfl rfl ?_
      obtain ⟨v_16, J_16, hc_16, h⟩ := h
      refine cw_callV (o := 5) (As := [.int x1, .int x2]) hc_16 okX1_valueOf rfl gX10_value_X1_valueOf (by decide) (show 5 < 32 by decide) rfl (ci := 0) rfl rfl (Nat.le_of_ble_eq_true rfl) dX10_value_16 ?_
      exact h.elim
    · exact cw_callX (o := 0) (As := [.int x2]) hc_7 okX10_requireCell rfl gX10_value_X10_requireCell (by decide) (show 0 < 32 by decide) rfl (ci := 8) rfl rfl (Nat.le_of_ble_eq_true rfl) dX10_value_7 h
  · exact cw_callX (o := 0) (As := [.int x1]) hc_2 okX10_requireSibling rfl gX10_value_X10_requireSibling (by decide) (show 0 < 32 by decide) rfl (ci := 8) rfl rfl (Nat.le_of_ble_eq_true rfl) dX10_value_2 h
set_option maxRecDepth 20000 in
set_option maxHeartbeats 4000000 in
theorem xX10_welfareByKnife_0 {K : cw_K} {E : String} {J0 I : cw_M} {x1 : Int32} (h : ((∃ J_2 : cw_M, cw_C (cc_w K) mX10_requireSibling [.ref (cw_a (cc_w K) 0), .int x1] I none J_2 ∧ (∃ (v_10 : Int32) (J_10 : cw_M), cw_C (cc_w K) mX6_tryKnife [.ref (cw_a (cc_w K) 20), .int x1] J_2 (some (.int v_10)) J_10 ∧ False)) ∨ (∃ (E1 : String) (J_2 : cw_M), cw_T (cc_w K) mX10_requireSibling [.ref (cw_a (cc_w K) 0), .int x1] I E1 J_2 ∧ E = E1 ∧ J0 = J_2))) : cw_T (cc_w K) mX10_welfareByKnife [.ref (cw_a (cc_w K) 0), .int x1] I E J0 := by
  refine cw_tentry okX10_welfareByKnife (Nat.le_of_ble_eq_true rfl) (show cw_B (cc_w K) mX10_welfareByKnife (cw_Zx (cc_w K) E J0) 1 6 I 0 [(0, .ref (cw_a (cc_w K) 0)), (1, .int x1)] [] from ?_)
  refine cw_aload_n dX10_welfareByKnife_0 0 rfl rfl ?_
  refine cw_iload_n dX10_welfareByKnife_1 1 rfl rfl ?_
  rcases h with ⟨J_2, hc_2, h⟩ | ⟨E1, J_2, hc_2, h⟩
  · refine cw_callV (o := 0) (As := [.int x1]) hc_2 okX10_requireSibling rfl gX10_welfareByKnife_X10_requireSibling (by decide) (show 0 < 32 by decide) rfl (ci := 8) rfl rfl (Nat.le_of_ble_eq_true rfl) dX10_welfareByKnife_2 ?_
    refine cw_aload_n dX10_welfareByKnife_5 0 rfl rfl ?_
    refine cw_getf (C := RX10) (T := TX10) (N := 10) (ci := 8) inX10_welfareByKnife_RX10 0 (show 0 < 32 by decide) rfl rfl 6 (by decide) (by decide +kernel) rfl dX10_welfareByKnife_6 ?_
    refine cw_iload_n dX10_welfareByKnife_9 1 rfl rfl ?_
    obtain ⟨v_10, J_10, hc_10, h⟩ := h
    refine cw_callV (o := 20) (As := [.int x1]) hc_10 okX6_tryKnife rfl gX10_welfareByKnife_X6_tryKnife (by decide) (show 20 < 32 by decide) rfl (ci := 5) rfl rfl (Nat.le_of_ble_eq_true rfl) dX10_welfareByKnife_10 ?_
    exact h.elim
  · exact cw_callX (o := 0) (As := [.int x1]) hc_2 okX10_requireSibling rfl gX10_welfareByKnife_X10_requireSibling (by decide) (show 0 < 32 by decide) rfl (ci := 8) rfl rfl (Nat.le_of_ble_eq_true rfl) dX10_welfareByKnife_2 h
set_option maxRecDepth 20000 in
set_option maxHeartbeats 4000000 in
theorem xX10_welfareByRobin_0 {K : cw_K} {E : String} {J0 I : cw_M} {x1 : Int32} {x2 : Int32} (h : ((∃ J_2 : cw_M, cw_C (cc_w K) mX10_requireSibling [.ref (cw_a (cc_w K) 0), .int x1] I none J_2 ∧ ((∃ J_7 : cw_M, cw_C (cc_w K) mX10_requireSibling [.ref (cw_a (cc_w K) 0), .int x2] J_2 none J_7 ∧ (∃ (v_16 : Int32) (J_16 : cw_M), cw_C (cc_w K) mX6_tryRobin [.ref (cw_a (cc_w K) 20), .int x1, .int x2] J_7 (some (.int v_16)) J_16 ∧ False)) ∨ (∃ (E1 : String) (J_7 : cw_M), cw_T (cc_w K) mX10_requireSibling [.ref (cw_a (cc_w K) 0), .int x2] J_2 E1 J_7 ∧ E = E1 ∧ J0 = J_7))) ∨ (∃ (E1 : String) (J_2 : cw_M), cw_T (cc_w K) mX10_requireSibling [.ref (cw_a (cc_w K) 0), .int x1] I E1 J_2 ∧ E = E1 ∧ J0 = J_2))) : cw_T (cc_w K) mX10_welfareByRobin [.ref (cw_a (cc_w K) 0), .int x1, .int x2] I E J0 := by
  refine cw_tentry okX10_welfareByRobin (Nat.le_of_ble_eq_true rfl) (show cw_B (cc_w K) mX10_welfareByRobin (cw_Zx (cc_w K) E J0) 1 6 I 0 [(0, .ref (cw_a (cc_w K) 0)), (1, .int x1), (2, .int x2)] [] from ?_)
  refine cw_aload_n dX10_welfareByRobin_0 0 rfl rfl ?_
  refine cw_iload_n dX10_welfareByRobin_1 1 rfl rfl ?_
  rcases h with ⟨J_2, hc_2, h⟩ | ⟨E1, J_2, hc_2, h⟩
  · refine cw_callV (o := 0) (As := [.int x1]) hc_2 okX10_requireSibling rfl gX10_welfareByRobin_X10_requireSibling (by decide) (show 0 < 32 by decide) rfl (ci := 8) rfl rfl (Nat.le_of_ble_eq_true rfl) dX10_welfareByRobin_2 ?_
    refine cw_aload_n dX10_welfareByRobin_5 0 rfl rfl ?_
    refine cw_iload_n dX10_welfareByRobin_6 2 rfl rfl ?_
    rcases h with ⟨J_7, hc_7, h⟩ | ⟨E1, J_7, hc_7, h⟩
    · refine cw_callV (o := 0) (As := [.int x2]) hc_7 okX10_requireSibling rfl gX10_welfareByRobin_X10_requireSibling (by decide) (show 0 < 32 by decide) rfl (ci := 8) rfl rfl (Nat.le_of_ble_eq_true rfl) dX10_welfareByRobin_7 ?_
      refine cw_aload_n dX10_welfareByRobin_10 0 rfl rfl ?_
      refine cw_getf (C := RX10) (T := TX10) (N := 10) (ci := 8) inX10_welfareByRobin_RX10 0 (show 0 < 32 by decide) rfl rfl 6 (by decide) (by decide +kernel) rfl dX10_welfareByRobin_11 ?_
      refine cw_iload_n dX10_welfareByRobin_14 1 rfl rfl ?_
      refine cw_iload_n dX10_welfareByRobin_15 2 rfl rfl ?_
      obtain ⟨v_16, J_16, hc_16, h⟩ := h
      refine cw_callV (o := 20) (As := [.int x1, .int x2]) hc_16 okX6_tryRobin rfl gX10_welfareByRobin_X6_tryRobin (by decide) (show 20 < 32 by decide) rfl (ci := 5) rfl rfl (Nat.le_of_ble_eq_true rfl) dX10_welfareByRobin_16 ?_
      exact h.elim
    · exact cw_callX (o := 0) (As := [.int x2]) hc_7 okX10_requireSibling rfl gX10_welfareByRobin_X10_requireSibling (by decide) (show 0 < 32 by decide) rfl (ci := 8) rfl rfl (Nat.le_of_ble_eq_true rfl) dX10_welfareByRobin_7 h
  · exact cw_callX (o := 0) (As := [.int x1]) hc_2 okX10_requireSibling rfl gX10_welfareByRobin_X10_requireSibling (by decide) (show 0 < 32 by decide) rfl (ci := 8) rfl rfl (Nat.le_of_ble_eq_true rfl) dX10_welfareByRobin_2 h
set_option maxRecDepth 20000 in
set_option maxHeartbeats 4000000 in
theorem xX10_worth_0 {K : cw_K} {E : String} {J0 I : cw_M} {x1 : Int32} {x2 : Int32} {x3 : Int32} (h : ((∃ J_2 : cw_M, cw_C (cc_w K) mX10_requireSibling [.ref (cw_a (cc_w K) 0), .int x1] I none J_2 ∧ ((∃ J_8 : cw_M, cw_C (cc_w K) mX10_requireRun [.ref (cw_a (cc_w K) 0), .int x2, .int x3] J_2 none J_8 ∧ (∃ (v_20 : Int32) (J_20 : cw_M), cw_C (cc_w K) mX1_worthOfRun [.ref (cw_a (cc_w K) 5), .int x1, .int x2, .int (x3 + 1)] J_8 (some (.int v_20)) J_20 ∧ False)) ∨ (∃ (E1 : String) (J_8 : cw_M), cw_T (cc_w K) mX10_requireRun [.ref (cw_a (cc_w K) 0), .int x2, .int x3] J_2 E1 J_8 ∧ E = E1 ∧ J0 = J_8))) ∨ (∃ (E1 : String) (J_2 : cw_M), cw_T (cc_w K) mX10_requireSibling [.ref (cw_a (cc_w K) 0), .int x1] I E1 J_2 ∧ E = E1 ∧ J0 = J_2))) : cw_T (cc_w K) mX10_worth [.ref (cw_a (cc_w K) 0), .int x1, .int x2, .int x3] I E J0 := by
  refine cw_tentry okX10_worth (Nat.le_of_ble_eq_true rfl) (show cw_B (cc_w K) mX10_worth (cw_Zx (cc_w K) E J0) 1 6 I 0 [(0, .ref (cw_a (cc_w K) 0)), (1, .int x1), (2, .int x2), (3, .int x3)] [] from ?_)
  refine cw_aload_n dX10_worth_0 0 rfl rfl ?_
  refine cw_iload_n dX10_worth_1 1 rfl rfl ?_
  rcases h with ⟨J_2, hc_2, h⟩ | ⟨E1, J_2, hc_2, h⟩
  · refine cw_callV (o := 0) (As := [.int x1]) hc_2 okX10_requireSibling rfl gX10_worth_X10_requireSibling (by decide) (show 0 < 32 by decide) rfl (ci := 8) rfl rfl (Nat.le_of_ble_eq_true rfl) dX10_worth_2 ?_
    refine cw_aload_n dX10_worth_5 0 rfl rfl ?_
    refine cw_iload_n dX10_worth_6 2 rfl rfl ?_
    refine cw_iload_n dX10_worth_7 3 rfl rfl ?_
    rcases h with ⟨J_8, hc_8, h⟩ | ⟨E1, J_8, hc_8, h⟩
    · refine cw_callV (o := 0) (As := [.int x2, .int x3]) hc_8 okX10_requireRun rfl gX10_worth_X10_requireRun (by decide) (show 0 < 32 by decide) rfl (ci := 8) rfl rfl (Nat.le_of_ble_eq_true rfl) dX10_worth_8 ?_
      refine cw_aload_n dX10_worth_11 0 rfl rfl ?_
      refine cw_getf (C := RX10) (T := TX10) (N := 10) (ci := 8) inX10_worth_RX10 0 (show 0 < 32 by decide) rfl rfl 2 (by decide) (by decide +kernel) rfl dX10_worth_12 ?_
      refine cw_iload_n dX10_worth_15 1 rfl rfl ?_
      refine cw_iload_n dX10_worth_16 2 rfl rfl ?_
      refine cw_iload_n dX10_worth_17 3 rfl rfl ?_
      refine cw_iconst (v := 1) dX10_worth_18 (by decide) ?_
      refine cw_iadd dX10_worth_19 ?_
      obtain ⟨v_20, J_20, hc_20, h⟩ := h
      refine cw_callV (o := 5) (As := [.int x1, .int x2, .int (x3 + 1)]) hc_20 okX1_worthOfRun rfl gX10_worth_X1_worthOfRun (by decide) (show 5 < 32 by decide) rfl (ci := 0) rfl rfl (Nat.le_of_ble_eq_true rfl) dX10_worth_20 ?_
      exact h.elim
    · exact cw_callX (o := 0) (As := [.int x2, .int x3]) hc_8 okX10_requireRun rfl gX10_worth_X10_requireRun (by decide) (show 0 < 32 by decide) rfl (ci := 8) rfl rfl (Nat.le_of_ble_eq_true rfl) dX10_worth_8 h
  · exact cw_callX (o := 0) (As := [.int x1]) hc_2 okX10_requireSibling rfl gX10_worth_X10_requireSibling (by decide) (show 0 < 32 by decide) rfl (ci := 8) rfl rfl (Nat.le_of_ble_eq_true rfl) dX10_worth_2 h
set_option maxRecDepth 20000 in
set_option maxHeartbeats 4000000 in
theorem xX10_worthOfShare_0 {K : cw_K} {E : String} {J0 I : cw_M} {x1 : Int32} {x2 : Int32} (h : ((∃ J_2 : cw_M, cw_C (cc_w K) mX10_requireSibling [.ref (cw_a (cc_w K) 0), .int x1] I none J_2 ∧ ((∃ J_7 : cw_M, cw_C (cc_w K) mX10_requireSibling [.ref (cw_a (cc_w K) 0), .int x2] J_2 none J_7 ∧ (∃ (v_23 : Int32) (J_23 : cw_M), cw_C (cc_w K) mX1_worthOfOwned [.ref (cw_a (cc_w K) 5), .ref (cw_a (cc_w K) 9), .int x1, .int x2] J_7 (some (.int v_23)) J_23 ∧ False)) ∨ (∃ (E1 : String) (J_7 : cw_M), cw_T (cc_w K) mX10_requireSibling [.ref (cw_a (cc_w K) 0), .int x2] J_2 E1 J_7 ∧ E = E1 ∧ J0 = J_7))) ∨ (∃ (E1 : String) (J_2 : cw_M), cw_T (cc_w K) mX10_requireSibling [.ref (cw_a (cc_w K) 0), .int x1] I E1 J_2 ∧ E = E1 ∧ J0 = J_2))) : cw_T (cc_w K) mX10_worthOfShare [.ref (cw_a (cc_w K) 0), .int x1, .int x2] I E J0 := by
  refine cw_tentry okX10_worthOfShare (Nat.le_of_ble_eq_true rfl) (show cw_B (cc_w K) mX10_worthOfShare (cw_Zx (cc_w K) E J0) 1 6 I 0 [(0, .ref (cw_a (cc_w K) 0)), (1, .int x1), (2, .int x2)] [] from ?_)
  refine cw_aload_n dX10_worthOfShare_0 0 rfl rfl ?_
  refine cw_iload_n dX10_worthOfShare_1 1 rfl rfl ?_
  rcases h with ⟨J_2, hc_2, h⟩ | ⟨E1, J_2, hc_2, h⟩
  · refine cw_callV (o := 0) (As := [.int x1]) hc_2 okX10_requireSibling rfl gX10_worthOfShare_X10_requireSibling (by decide) (show 0 < 32 by decide) rfl (ci := 8) rfl rfl (Nat.le_of_ble_eq_true rfl) dX10_worthOfShare_2 ?_
    refine cw_aload_n dX10_worthOfShare_5 0 rfl rfl ?_
    refine cw_iload_n dX10_worthOfShare_6 2 rfl rfl ?_
    rcases h with ⟨J_7, hc_7, h⟩ | ⟨E1, J_7, hc_7, h⟩
    · refine cw_callV (o := 0) (As := [.int x2]) hc_7 okX10_requireSibling rfl gX10_worthOfShare_X10_requireSibling (by decide) (show 0 < 32 by decide) rfl (ci := 8) rfl rfl (Nat.le_of_ble_eq_true rfl) dX10_worthOfShare_7 ?_
      refine cw_aload_n dX10_worthOfShare_10 0 rfl rfl ?_
      refine cw_getf (C := RX10) (T := TX10) (N := 10) (ci := 8) inX10_worthOfShare_RX10 0 (show 0 < 32 by decide) rfl rfl 2 (by decide) (by decide +kernel) rfl dX10_worthOfShare_11 ?_
      refine cw_aload_n dX10_worthOfShare_14 0 rfl rfl ?_
      refine cw_getf (C := RX10) (T := TX10) (N := 10) (ci := 8) inX10_worthOfShare_RX10 0 (show 0 < 32 by decide) rfl rfl 2 (by decide) (by decide +kernel) rfl dX10_worthOfShare_15 ?_
      refine cw_getf (C := RX1) (T := TX1) (N := 6) (ci := 0) inX10_worthOfShare_RX1 5 (show 5 < 32 by decide) rfl rfl 5 (by decide) (by decide +kernel) rfl dX10_worthOfShare_18 ?_
      refine cw_iload_n dX10_worthOfShare_21 1 rfl rfl ?_
      refine cw_iload_n dX10_worthOfShare_22 2 rfl rfl ?_
      obtain ⟨v_23, J_23, hc_23, h⟩ := h
      refine cw_callV (o := 5) (As := [.ref (cw_a (cc_w K) 9), .int x1, .int x2]) hc_23 okX1_worthOfOwned rfl gX10_worthOfShare_X1_worthOfOwned (by decide) (show 5 < 32 by decide) rfl (ci := 0) rfl rfl (Nat.le_of_ble_eq_true rfl) dX10_worthOfShare_23 ?_
      exact h.elim
    · exact cw_callX (o := 0) (As := [.int x2]) hc_7 okX10_requireSibling rfl gX10_worthOfShare_X10_requireSibling (by decide) (show 0 < 32 by decide) rfl (ci := 8) rfl rfl (Nat.le_of_ble_eq_true rfl) dX10_worthOfShare_7 h
  · exact cw_callX (o := 0) (As := [.int x1]) hc_2 okX10_requireSibling rfl gX10_worthOfShare_X10_requireSibling (by decide) (show 0 < 32 by decide) rfl (ci := 8) rfl rfl (Nat.le_of_ble_eq_true rfl) dX10_worthOfShare_2 h
set_option maxRecDepth 20000 in
set_option maxHeartbeats 4000000 in
theorem xX10_wouldSwap_0 {K : cw_K} {E : String} {J0 I : cw_M} {x1 : Int32} {x2 : Int32} (h : ((∃ J_2 : cw_M, cw_C (cc_w K) mX10_requireSibling [.ref (cw_a (cc_w K) 0), .int x1] I none J_2 ∧ ((∃ J_7 : cw_M, cw_C (cc_w K) mX10_requireSibling [.ref (cw_a (cc_w K) 0), .int x2] J_2 none J_7 ∧ (∃ (v_16 : Int32) (J_16 : cw_M), cw_C (cc_w K) mX3_hasEnvy [.ref (cw_a (cc_w K) 16), .int x1, .int x2] J_7 (some (.int v_16)) J_16 ∧ ((v_16 = 0 → False) ∧ (¬ v_16 = 0 → (∃ (v_28 : Int32) (J_28 : cw_M), cw_C (cc_w K) mX3_hasEnvy [.ref (cw_a (cc_w K) 16), .int x2, .int x1] J_16 (some (.int v_28)) J_28 ∧ ((v_28 = 0 → False) ∧ (¬ v_28 = 0 → False))))))) ∨ (∃ (E1 : String) (J_7 : cw_M), cw_T (cc_w K) mX10_requireSibling [.ref (cw_a (cc_w K) 0), .int x2] J_2 E1 J_7 ∧ E = E1 ∧ J0 = J_7))) ∨ (∃ (E1 : String) (J_2 : cw_M), cw_T (cc_w K) mX10_requireSibling [.ref (cw_a (cc_w K) 0), .int x1] I E1 J_2 ∧ E = E1 ∧ J0 = J_2))) : cw_T (cc_w K) mX10_wouldSwap [.ref (cw_a (cc_w K) 0), .int x1, .int x2] I E J0 := by
  refine cw_tentry okX10_wouldSwap (Nat.le_of_ble_eq_true rfl) (show cw_B (cc_w K) mX10_wouldSwap (cw_Zx (cc_w K) E J0) 1 6 I 0 [(0, .ref (cw_a (cc_w K) 0)), (1, .int x1), (2, .int x2)] [] from ?_)
  refine cw_aload_n dX10_wouldSwap_0 0 rfl rfl ?_
  refine cw_iload_n dX10_wouldSwap_1 1 rfl rfl ?_
  rcases h with ⟨J_2, hc_2, h⟩ | ⟨E1, J_2, hc_2, h⟩
  · refine cw_callV (o := 0) (As := [.int x1]) hc_2 okX10_requireSibling rfl gX10_wouldSwap_X10_requireSibling (by decide) (show 0 < 32 by decide) rfl (ci := 8) rfl rfl (Nat.le_of_ble_eq_true rfl) dX10_wouldSwap_2 ?_
    refine cw_aload_n dX10_wouldSwap_5 0 rfl rfl ?_
    refine cw_iload_n dX10_wouldSwap_6 2 rfl rfl ?_
    rcases h with ⟨J_7, hc_7, h⟩ | ⟨E1, J_7, hc_7, h⟩
    · refine cw_callV (o := 0) (As := [.int x2]) hc_7 okX10_requireSibling rfl gX10_wouldSwap_X10_requireSibling (by decide) (show 0 < 32 by decide) rfl (ci := 8) rfl rfl (Nat.le_of_ble_eq_true rfl) dX10_wouldSwap_7 ?_
      refine cw_aload_n dX10_wouldSwap_10 0 rfl rfl ?_
      refine cw_getf (C := RX10) (T := TX10) (N := 10) (ci := 8) inX10_wouldSwap_RX10 0 (show 0 < 32 by decide) rfl rfl 5 (by decide) (by decide +kernel) rfl dX10_wouldSwap_11 ?_
      refine cw_iload_n dX10_wouldSwap_14 1 rfl rfl ?_
      refine cw_iload_n dX10_wouldSwap_15 2 rfl rfl ?_
      obtain ⟨v_16, J_16, hc_16, h⟩ := h
      refine cw_callV (o := 16) (As := [.int x1, .int x2]) hc_16 okX3_hasEnvy rfl gX10_wouldSwap_X3_hasEnvy (by decide) (show 16 < 32 by decide) rfl (ci := 2) rfl rfl (Nat.le_of_ble_eq_true rfl) dX10_wouldSwap_16 ?_
      refine cw_if_eq (tgt := 38) dX10_wouldSwap_19 (by decide) (fun q => ?_) (fun q => ?_)
      · have h := h.1 q
        refine cw_iconst (v := 0) dX10_wouldSwap_38 (by decide) ?_
        exact h.elim
      · have h := h.2 q
        refine cw_aload_n dX10_wouldSwap_22 0 rfl rfl ?_
        refine cw_getf (C := RX10) (T := TX10) (N := 10) (ci := 8) inX10_wouldSwap_RX10 0 (show 0 < 32 by decide) rfl rfl 5 (by decide) (by decide +kernel) rfl dX10_wouldSwap_23 ?_
        refine cw_iload_n dX10_wouldSwap_26 2 rfl rfl ?_
        refine cw_iload_n dX10_wouldSwap_27 1 rfl rfl ?_
        obtain ⟨v_28, J_28, hc_28, h⟩ := h
        refine cw_callV (o := 16) (As := [.int x2, .int x1]) hc_28 okX3_hasEnvy rfl gX10_wouldSwap_X3_hasEnvy (by decide) (show 16 < 32 by decide) rfl (ci := 2) rfl rfl (Nat.le_of_ble_eq_true rfl) dX10_wouldSwap_28 ?_
        refine cw_if_eq (tgt := 38) dX10_wouldSwap_31 (by decide) (fun q => ?_) (fun q => ?_)
        · have h := h.1 q
          refine cw_iconst (v := 0) dX10_wouldSwap_38 (by decide) ?_
          exact h.elim
        · have h := h.2 q
          refine cw_iconst (v := 1) dX10_wouldSwap_34 (by decide) ?_
          refine cw_goto (tgt := 39) dX10_wouldSwap_35 (by decide) ?_
          exact h.elim
    · exact cw_callX (o := 0) (As := [.int x2]) hc_7 okX10_requireSibling rfl gX10_wouldSwap_X10_requireSibling (by decide) (show 0 < 32 by decide) rfl (ci := 8) rfl rfl (Nat.le_of_ble_eq_true rfl) dX10_wouldSwap_7 h
  · exact cw_callX (o := 0) (As := [.int x1]) hc_2 okX10_requireSibling rfl gX10_wouldSwap_X10_requireSibling (by decide) (show 0 < 32 by decide) rfl (ci := 8) rfl rfl (Nat.le_of_ble_eq_true rfl) dX10_wouldSwap_2 h
set_option maxRecDepth 20000 in
set_option maxHeartbeats 4000000 in
theorem eX7_addVerb_25 {K : cw_K} {r : Option Value} {J0 I : cw_M} {x1 : Nat} (hFV : cw_FV K) (h : ((30 ≤ (I 25 0) → (r = none ∧ J0 = I)) ∧ (¬ 30 ≤ (I 25 0) → ((x1 < 8 ∧ vp_in (I 25 0) 30) ∧ (r = none ∧ J0 = cw_st (cw_st I 26 (I 25 0).toNatClampNeg (nI (x1 + 1))) 25 0 (((cw_st I 26 (I 25 0).toNatClampNeg (nI (x1 + 1))) 25 0) + 1)))))) : cw_C (cc_w K) mX7_addVerb [.ref (cw_a (cc_w K) 25), .ref (cw_vd K x1)] I r J0 := by
  refine cw_entry okX7_addVerb (Nat.le_of_ble_eq_true rfl) (show cw_B (cc_w K) mX7_addVerb (cw_Z (cc_w K) r J0) 0 0 I 0 [(0, .ref (cw_a (cc_w K) 25)), (1, .ref (cw_vd K x1))] [] from ?_)
  refine cw_aload_n dX7_addVerb_0 0 rfl rfl ?_
  refine cw_getf (C := RX7) (T := TX7) (N := 6) (ci := 6) inX7_addVerb_RX7 25 (show 25 < 32 by decide) rfl rfl 0 (by decide) (by decide +kernel) rfl dX7_addVerb_1 ?_
  refine cw_bipush (v := 30) dX7_addVerb_4 (by decide) ?_
  refine cw_icmp_ge (tgt := 29) dX7_addVerb_6 (by decide) (fun q => ?_) (fun q => ?_)
  · have h := h.1 q
    exact cw_vret rfl dX7_addVerb_29 h
  · have h := h.2 q
    refine cw_aload_n dX7_addVerb_9 0 rfl rfl ?_
    refine cw_getf (C := RX7) (T := TX7) (N := 6) (ci := 6) inX7_addVerb_RX7 25 (show 25 < 32 by decide) rfl rfl 1 (by decide) (by decide +kernel) rfl dX7_addVerb_10 ?_
    refine cw_aload_n dX7_addVerb_13 0 rfl rfl ?_
    refine cw_getf (C := RX7) (T := TX7) (N := 6) (ci := 6) inX7_addVerb_RX7 25 (show 25 < 32 by decide) rfl rfl 0 (by decide) (by decide +kernel) rfl dX7_addVerb_14 ?_
    refine cw_aload_n dX7_addVerb_17 1 rfl rfl ?_
    obtain ⟨g_18, h⟩ := h
    refine cw_astv 26 (show 26 < 32 by decide) (fun _ => rfl) 2 rfl (fun A U H q => hFV.any A U H q _ g_18.1) dX7_addVerb_18 g_18.1 g_18.2 ?_
    refine cw_aload_n dX7_addVerb_19 0 rfl rfl ?_
    refine cw_dup dX7_addVerb_20 rfl ?_
    refine cw_getf (C := RX7) (T := TX7) (N := 6) (ci := 6) inX7_addVerb_RX7 25 (show 25 < 32 by decide) rfl rfl 0 (by decide) (by decide +kernel) rfl dX7_addVerb_21 ?_
    refine cw_iconst (v := 1) dX7_addVerb_24 (by decide) ?_
    refine cw_iadd dX7_addVerb_25 ?_
    refine cw_putf (C := RX7) (T := TX7) (N := 6) (ci := 6) inX7_addVerb_RX7 tyX7 tyX7_ok nmX7 25 (show 25 < 32 by decide) rfl rfl 0 (by decide) (by decide +kernel) rfl rfl (show 0 < 6 by decide) rfl dX7_addVerb_26 ?_
    exact cw_vret rfl dX7_addVerb_29 h
abbrev bX5_isWord_15_28 (K : cw_K) (r : Option Value) (J0 : cw_M) (x1 : Nat) (x2 : Int32) (I : cw_M) : Prop := cw_B (cc_w K) mX5_isWord (cw_Z (cc_w K) r J0) 0 0 I 28 [(0, .ref (cw_a (cc_w K) 15)), (1, .ref (cw_sd K x1)), (2, .int x2)] []
set_option maxRecDepth 20000 in
set_option maxHeartbeats 4000000 in
theorem eX5_isWord_15 {K : cw_K} {r : Option Value} {J0 I : cw_M} {x1 : Nat} (hFS : cw_FS (cw_Fc K) (cw_sd K) (cw_sv K)) (h : ((¬ (I 15 2) = 1 → (r = some (.int 0) ∧ J0 = I)) ∧ ((I 15 2) = 1 → (x1 < 16 ∧ ((((I 15 4) - (I 15 3)) = (cw_ln x1) → bX5_isWord_15_28 K r J0 x1 0 I) ∧ (¬ ((I 15 4) - (I 15 3)) = (cw_ln x1) → (r = some (.int 0) ∧ J0 = I))))))) : cw_C (cc_w K) mX5_isWord [.ref (cw_a (cc_w K) 15), .ref (cw_sd K x1)] I r J0 := by
  refine cw_entry okX5_isWord (Nat.le_of_ble_eq_true rfl) (show cw_B (cc_w K) mX5_isWord (cw_Z (cc_w K) r J0) 0 0 I 0 [(0, .ref (cw_a (cc_w K) 15)), (1, .ref (cw_sd K x1))] [] from ?_)
  refine cw_aload_n dX5_isWord_0 0 rfl rfl ?_
  refine cw_getf (C := RX5) (T := TX5) (N := 7) (ci := 4) inX5_isWord_RX5 15 (show 15 < 32 by decide) rfl rfl 2 (by decide) (by decide +kernel) rfl dX5_isWord_1 ?_
  refine cw_iconst (v := 1) dX5_isWord_4 (by decide) ?_
  refine cw_icmp_ne (tgt := 24) dX5_isWord_5 (by decide) (fun q => ?_) (fun q => ?_)
  · have h := h.1 q
    refine cw_iconst (v := 0) dX5_isWord_24 (by decide) ?_
    exact cw_bret rfl dX5_isWord_25 (by decide) h
  · have h := h.2 q
    refine cw_aload_n dX5_isWord_8 0 rfl rfl ?_
    refine cw_getf (C := RX5) (T := TX5) (N := 7) (ci := 4) inX5_isWord_RX5 15 (show 15 < 32 by decide) rfl rfl 4 (by decide) (by decide +kernel) rfl dX5_isWord_9 ?_
    refine cw_aload_n dX5_isWord_12 0 rfl rfl ?_
    refine cw_getf (C := RX5) (T := TX5) (N := 7) (ci := 4) inX5_isWord_RX5 15 (show 15 < 32 by decide) rfl rfl 3 (by decide) (by decide +kernel) rfl dX5_isWord_13 ?_
    refine cw_isub dX5_isWord_16 ?_
    refine cw_aload_n dX5_isWord_17 1 rfl rfl ?_
    obtain ⟨g_18, h⟩ := h
    refine cw_callK (As := []) (jd_length hFS g_18) okJ0_length_8abf5 rfl gX5_isWord_J0_length_8abf5 (by decide) (fun A U H q => (hFS.str A U H q g_18).1) rfl (Nat.le_of_ble_eq_true rfl) dX5_isWord_18 ?_
    refine cw_icmp_eq (tgt := 26) dX5_isWord_21 (by decide) (fun q => ?_) (fun q => ?_)
    · have h := h.1 q
      refine cw_iconst (v := 0) dX5_isWord_26 (by decide) ?_
      refine cw_istore_n dX5_isWord_27 rfl (by decide) rfl ?_
      refine cw_sub [1, 2, 0] rfl ?_
      exact h
    · have h := h.2 q
      refine cw_iconst (v := 0) dX5_isWord_24 (by decide) ?_
      exact cw_bret rfl dX5_isWord_25 (by decide) h
set_option maxRecDepth 20000 in
set_option maxHeartbeats 4000000 in
theorem tbX5_isWord_15_28 {K : cw_K} {r : Option Value} {J0 I : cw_M} {x1 : Nat} {x2 : Int32} (hFS : cw_FS (cw_Fc K) (cw_sd K) (cw_sv K)) (h : (x1 < 16 ∧ (((cw_ln x1) ≤ x2 → (r = some (.int 1) ∧ J0 = I)) ∧ (¬ (cw_ln x1) ≤ x2 → (vp_in ((I 15 3) + x2) 600 ∧ ((x1 < 16 ∧ vp_in x2 (cw_tx x1).length) ∧ (((I 2 ((I 15 3) + x2).toNatClampNeg) = (cw_ch x1 x2) → bX5_isWord_15_28 K r J0 x1 (x2 + 1) I) ∧ (¬ (I 2 ((I 15 3) + x2).toNatClampNeg) = (cw_ch x1 x2) → (r = some (.int 0) ∧ J0 = I))))))))) : bX5_isWord_15_28 K r J0 x1 x2 I := by
  refine cw_iload_n dX5_isWord_28 2 rfl rfl ?_
  refine cw_aload_n dX5_isWord_29 1 rfl rfl ?_
  obtain ⟨g_30, h⟩ := h
  refine cw_callK (As := []) (jd_length hFS g_30) okJ0_length_8abf5 rfl gX5_isWord_J0_length_8abf5 (by decide) (fun A U H q => (hFS.str A U H q g_30).1) rfl (Nat.le_of_ble_eq_true rfl) dX5_isWord_30 ?_
  refine cw_icmp_ge (tgt := 66) dX5_isWord_33 (by decide) (fun q => ?_) (fun q => ?_)
  · have h := h.1 q
    refine cw_iconst (v := 1) dX5_isWord_66 (by decide) ?_
    exact cw_bret rfl dX5_isWord_67 (by decide) h
  · have h := h.2 q
    refine cw_aload_n dX5_isWord_36 0 rfl rfl ?_
    refine cw_getf (C := RX5) (T := TX5) (N := 7) (ci := 4) inX5_isWord_RX5 15 (show 15 < 32 by decide) rfl rfl 6 (by decide) (by decide +kernel) rfl dX5_isWord_37 ?_
    refine cw_getf (C := RX8) (T := TX8) (N := 2) (ci := 7) inX5_isWord_RX8 1 (show 1 < 32 by decide) rfl rfl 0 (by decide) (by decide +kernel) rfl dX5_isWord_40 ?_
    refine cw_aload_n dX5_isWord_43 0 rfl rfl ?_
    refine cw_getf (C := RX5) (T := TX5) (N := 7) (ci := 4) inX5_isWord_RX5 15 (show 15 < 32 by decide) rfl rfl 3 (by decide) (by decide +kernel) rfl dX5_isWord_44 ?_
    refine cw_iload_n dX5_isWord_47 2 rfl rfl ?_
    refine cw_iadd dX5_isWord_48 ?_
    obtain ⟨g_49, h⟩ := h
    refine cw_iald 2 (show 2 < 32 by decide) rfl 0 rfl dX5_isWord_49 g_49 ?_
    refine cw_aload_n dX5_isWord_50 1 rfl rfl ?_
    refine cw_iload_n dX5_isWord_51 2 rfl rfl ?_
    obtain ⟨g_52, h⟩ := h
    refine cw_callK (As := [.int x2]) (jd_charAt hFS g_52.1 g_52.2) okJ0_charAt_5068e rfl gX5_isWord_J0_charAt_5068e (by decide) (fun A U H q => (hFS.str A U H q g_52.1).1) rfl (Nat.le_of_ble_eq_true rfl) dX5_isWord_52 ?_
    refine cw_icmp_eq (tgt := 60) dX5_isWord_55 (by decide) (fun q => ?_) (fun q => ?_)
    · have h := h.1 q
      refine cw_iinc (v := x2 + 1) dX5_isWord_60 (j := 2) rfl rfl (by decide) rfl ?_
      refine cw_goto (tgt := 28) dX5_isWord_63 (by decide) ?_
      refine cw_sub [1, 2, 0] rfl ?_
      exact h
    · have h := h.2 q
      refine cw_iconst (v := 0) dX5_isWord_58 (by decide) ?_
      exact cw_bret rfl dX5_isWord_59 (by decide) h
set_option maxRecDepth 20000 in
set_option maxHeartbeats 4000000 in
theorem eX5_takeWord_15 {K : cw_K} {r : Option Value} {J0 I : cw_M} {x1 : Nat} (h : (∃ (v_2 : Int32) (J_2 : cw_M), cw_C (cc_w K) mX5_isWord [.ref (cw_a (cc_w K) 15), .ref (cw_sd K x1)] I (some (.int v_2)) J_2 ∧ ((¬ v_2 = 0 → (∃ J_15 : cw_M, cw_C (cc_w K) mX5_advance [.ref (cw_a (cc_w K) 15)] J_2 none J_15 ∧ (r = some (.int 1) ∧ J0 = J_15))) ∧ (v_2 = 0 → (∃ (v_10 : Int32) (J_10 : cw_M), cw_C (cc_w K) mX5_refuse [.ref (cw_a (cc_w K) 15), .int 1] J_2 (some (.int v_10)) J_10 ∧ ((v_10 = 0 ∨ v_10 = 1) ∧ (r = some (.int v_10) ∧ J0 = J_10))))))) : cw_C (cc_w K) mX5_takeWord [.ref (cw_a (cc_w K) 15), .ref (cw_sd K x1)] I r J0 := by
  refine cw_entry okX5_takeWord (Nat.le_of_ble_eq_true rfl) (show cw_B (cc_w K) mX5_takeWord (cw_Z (cc_w K) r J0) 0 0 I 0 [(0, .ref (cw_a (cc_w K) 15)), (1, .ref (cw_sd K x1))] [] from ?_)
  refine cw_aload_n dX5_takeWord_0 0 rfl rfl ?_
  refine cw_aload_n dX5_takeWord_1 1 rfl rfl ?_
  obtain ⟨v_2, J_2, hc_2, h⟩ := h
  refine cw_callV (o := 15) (As := [.ref (cw_sd K x1)]) hc_2 okX5_isWord rfl gX5_takeWord_X5_isWord (by decide) (show 15 < 32 by decide) rfl (ci := 4) rfl rfl (Nat.le_of_ble_eq_true rfl) dX5_takeWord_2 ?_
  refine cw_if_ne (tgt := 14) dX5_takeWord_5 (by decide) (fun q => ?_) (fun q => ?_)
  · have h := h.1 q
    refine cw_aload_n dX5_takeWord_14 0 rfl rfl ?_
    obtain ⟨J_15, hc_15, h⟩ := h
    refine cw_callV (o := 15) (As := []) hc_15 okX5_advance rfl gX5_takeWord_X5_advance (by decide) (show 15 < 32 by decide) rfl (ci := 4) rfl rfl (Nat.le_of_ble_eq_true rfl) dX5_takeWord_15 ?_
    refine cw_iconst (v := 1) dX5_takeWord_18 (by decide) ?_
    exact cw_bret rfl dX5_takeWord_19 (by decide) h
  · have h := h.2 q
    refine cw_aload_n dX5_takeWord_8 0 rfl rfl ?_
    refine cw_iconst (v := 1) dX5_takeWord_9 (by decide) ?_
    obtain ⟨v_10, J_10, hc_10, h⟩ := h
    refine cw_callV (o := 15) (As := [.int 1]) hc_10 okX5_refuse rfl gX5_takeWord_X5_refuse (by decide) (show 15 < 32 by decide) rfl (ci := 4) rfl rfl (Nat.le_of_ble_eq_true rfl) dX5_takeWord_10 ?_
    exact cw_bret rfl dX5_takeWord_13 h.1 h.2
set_option maxRecDepth 20000 in
set_option maxHeartbeats 4000000 in
theorem eX7_isAllowed_25 {K : cw_K} {r : Option Value} {J0 I : cw_M} {x1 : Nat} {x2 : Int32} {x3 : Int32} {x4 : Int32} (hFV : cw_FV K) (h : (x1 < 8 ∧ (vp_in (nI x1) 8 ∧ (((cw_sm (nI x1).toNatClampNeg) = 1 → (∃ (v_55 : Int32) (J_55 : cw_M), cw_C (cc_w K) mX1_hasRun [.ref (cw_a (cc_w K) 5), .int x3, .int x4] I (some (.int v_55)) J_55 ∧ ((v_55 = 0 ∨ v_55 = 1) ∧ (r = some (.int v_55) ∧ J0 = J_55)))) ∧ (((cw_sm (nI x1).toNatClampNeg) = 2 → (∃ (v_65 : Int32) (J_65 : cw_M), cw_C (cc_w K) mX1_hasRun [.ref (cw_a (cc_w K) 5), .int x2, .int x3] I (some (.int v_65)) J_65 ∧ ((v_65 = 0 ∨ v_65 = 1) ∧ (r = some (.int v_65) ∧ J0 = J_65)))) ∧ (((cw_sm (nI x1).toNatClampNeg) = 3 → ((x2 = x3 → (r = some (.int 0) ∧ J0 = I)) ∧ (¬ x2 = x3 → (r = some (.int 1) ∧ J0 = I)))) ∧ (((cw_sm (nI x1).toNatClampNeg) = 4 → ((x2 = x3 → (r = some (.int 0) ∧ J0 = I)) ∧ (¬ x2 = x3 → (r = some (.int 1) ∧ J0 = I)))) ∧ (((cw_sm (nI x1).toNatClampNeg) = 5 → (∃ (v_85 : Int32) (J_85 : cw_M), cw_C (cc_w K) mX1_hasCell [.ref (cw_a (cc_w K) 5), .int x3] I (some (.int v_85)) J_85 ∧ ((v_85 = 0 → (r = some (.int 0) ∧ J0 = J_85)) ∧ (¬ v_85 = 0 → ((9 < x4 → (r = some (.int 0) ∧ J0 = J_85)) ∧ (¬ 9 < x4 → (r = some (.int 1) ∧ J0 = J_85))))))) ∧ (((cw_sm (nI x1).toNatClampNeg) = 6 → (∃ (v_109 : Int32) (J_109 : cw_M), cw_C (cc_w K) mX3_findCycle [.ref (cw_a (cc_w K) 16), .int x2] I (some (.int v_109)) J_109 ∧ ((v_109 = (-1) → (r = some (.int 0) ∧ J0 = J_109)) ∧ (¬ v_109 = (-1) → (r = some (.int 1) ∧ J0 = J_109))))) ∧ (¬ (cw_sm (nI x1).toNatClampNeg) = 1 → ¬ (cw_sm (nI x1).toNatClampNeg) = 2 → ¬ (cw_sm (nI x1).toNatClampNeg) = 3 → ¬ (cw_sm (nI x1).toNatClampNeg) = 4 → ¬ (cw_sm (nI x1).toNatClampNeg) = 5 → ¬ (cw_sm (nI x1).toNatClampNeg) = 6 → (r = some (.int 1) ∧ J0 = I))))))))))) : cw_C (cc_w K) mX7_isAllowed [.ref (cw_a (cc_w K) 25), .ref (cw_vd K x1), .int x2, .int x3, .int x4] I r J0 := by
  refine cw_entry okX7_isAllowed (Nat.le_of_ble_eq_true rfl) (show cw_B (cc_w K) mX7_isAllowed (cw_Z (cc_w K) r J0) 0 0 I 0 [(0, .ref (cw_a (cc_w K) 25)), (1, .ref (cw_vd K x1)), (2, .int x2), (3, .int x3), (4, .int x4)] [] from ?_)
  refine cw_gets (fun A U H q => hFV.sm A U H q) (by decide +kernel) dX7_isAllowed_0 ?_
  refine cw_aload_n dX7_isAllowed_3 1 rfl rfl ?_
  obtain ⟨g_4, h⟩ := h
  refine cw_callO hFV g_4 (by decide +kernel) (by decide) (Nat.le_of_ble_eq_true rfl) dX7_isAllowed_4 ?_
  obtain ⟨g_7, h⟩ := h
  refine cw_ti (fun A U H q => hFV.ma A U H q) g_7 rfl dX7_isAllowed_7 ?_
  by_cases q1 : (cw_sm (nI x1).toNatClampNeg) = 1
  · have h := h.1 q1
    refine cw_tableIn (tgt := 48) (off := 40) dX7_isAllowed_8 (by rw [q1]; decide) (by rw [q1]; decide) (by rw [q1]; decide +kernel) (by decide) ?_
    refine cw_aload_n dX7_isAllowed_48 0 rfl rfl ?_
    refine cw_getf (C := RX7) (T := TX7) (N := 6) (ci := 6) inX7_isAllowed_RX7 25 (show 25 < 32 by decide) rfl rfl 3 (by decide) (by decide +kernel) rfl dX7_isAllowed_49 ?_
    refine cw_iload_n dX7_isAllowed_52 3 rfl rfl ?_
    refine cw_iload dX7_isAllowed_53 4 rfl ?_
    obtain ⟨v_55, J_55, hc_55, h⟩ := h
    refine cw_callV (o := 5) (As := [.int x3, .int x4]) hc_55 okX1_hasRun rfl (nse_gi gX7_isAllowed_X1_hasRun (by decide +kernel)) (by decide) (show 5 < 32 by decide) rfl (ci := 0) rfl rfl (Nat.le_of_ble_eq_true rfl) dX7_isAllowed_55 ?_
    exact cw_bret rfl dX7_isAllowed_58 h.1 h.2
  · have h := h.2
    by_cases q2 : (cw_sm (nI x1).toNatClampNeg) = 2
    · have h := h.1 q2
      refine cw_tableIn (tgt := 59) (off := 51) dX7_isAllowed_8 (by rw [q2]; decide) (by rw [q2]; decide) (by rw [q2]; decide +kernel) (by decide) ?_
      refine cw_aload_n dX7_isAllowed_59 0 rfl rfl ?_
      refine cw_getf (C := RX7) (T := TX7) (N := 6) (ci := 6) inX7_isAllowed_RX7 25 (show 25 < 32 by decide) rfl rfl 3 (by decide) (by decide +kernel) rfl dX7_isAllowed_60 ?_
      refine cw_iload_n dX7_isAllowed_63 2 rfl rfl ?_
      refine cw_iload_n dX7_isAllowed_64 3 rfl rfl ?_
      obtain ⟨v_65, J_65, hc_65, h⟩ := h
      refine cw_callV (o := 5) (As := [.int x2, .int x3]) hc_65 okX1_hasRun rfl (nse_gi gX7_isAllowed_X1_hasRun (by decide +kernel)) (by decide) (show 5 < 32 by decide) rfl (ci := 0) rfl rfl (Nat.le_of_ble_eq_true rfl) dX7_isAllowed_65 ?_
      exact cw_bret rfl dX7_isAllowed_68 h.1 h.2
    · have h := h.2
      by_cases q3 : (cw_sm (nI x1).toNatClampNeg) = 3
      · have h := h.1 q3
        refine cw_tableIn (tgt := 69) (off := 61) dX7_isAllowed_8 (by rw [q3]; decide) (by rw [q3]; decide) (by rw [q3]; decide +kernel) (by decide) ?_
        refine cw_iload_n dX7_isAllowed_69 2 rfl rfl ?_
        refine cw_iload_n dX7_isAllowed_70 3 rfl rfl ?_
        refine cw_icmp_eq (tgt := 78) dX7_isAllowed_71 (by decide) (fun q => ?_) (fun q => ?_)
        · have h := h.1 q
          refine cw_iconst (v := 0) dX7_isAllowed_78 (by decide) ?_
          exact cw_bret rfl dX7_isAllowed_79 (by decide) h
        · have h := h.2 q
          refine cw_iconst (v := 1) dX7_isAllowed_74 (by decide) ?_
          refine cw_goto (tgt := 79) dX7_isAllowed_75 (by decide) ?_
          exact cw_bret rfl dX7_isAllowed_79 (by decide) h
      · have h := h.2
        by_cases q4 : (cw_sm (nI x1).toNatClampNeg) = 4
        · have h := h.1 q4
          refine cw_tableIn (tgt := 69) (off := 61) dX7_isAllowed_8 (by rw [q4]; decide) (by rw [q4]; decide) (by rw [q4]; decide +kernel) (by decide) ?_
          refine cw_iload_n dX7_isAllowed_69 2 rfl rfl ?_
          refine cw_iload_n dX7_isAllowed_70 3 rfl rfl ?_
          refine cw_icmp_eq (tgt := 78) dX7_isAllowed_71 (by decide) (fun q => ?_) (fun q => ?_)
          · have h := h.1 q
            refine cw_iconst (v := 0) dX7_isAllowed_78 (by decide) ?_
            exact cw_bret rfl dX7_isAllowed_79 (by decide) h
          · have h := h.2 q
            refine cw_iconst (v := 1) dX7_isAllowed_74 (by decide) ?_
            refine cw_goto (tgt := 79) dX7_isAllowed_75 (by decide) ?_
            exact cw_bret rfl dX7_isAllowed_79 (by decide) h
        · have h := h.2
          by_cases q5 : (cw_sm (nI x1).toNatClampNeg) = 5
          · have h := h.1 q5
            refine cw_tableIn (tgt := 80) (off := 72) dX7_isAllowed_8 (by rw [q5]; decide) (by rw [q5]; decide) (by rw [q5]; decide +kernel) (by decide) ?_
            refine cw_aload_n dX7_isAllowed_80 0 rfl rfl ?_
            refine cw_getf (C := RX7) (T := TX7) (N := 6) (ci := 6) inX7_isAllowed_RX7 25 (show 25 < 32 by decide) rfl rfl 3 (by decide) (by decide +kernel) rfl dX7_isAllowed_81 ?_
            refine cw_iload_n dX7_isAllowed_84 3 rfl rfl ?_
            obtain ⟨v_85, J_85, hc_85, h⟩ := h
            refine cw_callV (o := 5) (As := [.int x3]) hc_85 okX1_hasCell rfl (nse_gi gX7_isAllowed_X1_hasCell (by decide +kernel)) (by decide) (show 5 < 32 by decide) rfl (ci := 0) rfl rfl (Nat.le_of_ble_eq_true rfl) dX7_isAllowed_85 ?_
            refine cw_if_eq (tgt := 102) dX7_isAllowed_88 (by decide) (fun q => ?_) (fun q => ?_)
            · have h := h.1 q
              refine cw_iconst (v := 0) dX7_isAllowed_102 (by decide) ?_
              exact cw_bret rfl dX7_isAllowed_103 (by decide) h
            · have h := h.2 q
              refine cw_iload dX7_isAllowed_91 4 rfl ?_
              refine cw_bipush (v := 9) dX7_isAllowed_93 (by decide) ?_
              refine cw_icmp_gt (tgt := 102) dX7_isAllowed_95 (by decide) (fun q => ?_) (fun q => ?_)
              · have h := h.1 q
                refine cw_iconst (v := 0) dX7_isAllowed_102 (by decide) ?_
                exact cw_bret rfl dX7_isAllowed_103 (by decide) h
              · have h := h.2 q
                refine cw_iconst (v := 1) dX7_isAllowed_98 (by decide) ?_
                refine cw_goto (tgt := 103) dX7_isAllowed_99 (by decide) ?_
                exact cw_bret rfl dX7_isAllowed_103 (by decide) h
          · have h := h.2
            by_cases q6 : (cw_sm (nI x1).toNatClampNeg) = 6
            · have h := h.1 q6
              refine cw_tableIn (tgt := 104) (off := 96) dX7_isAllowed_8 (by rw [q6]; decide) (by rw [q6]; decide) (by rw [q6]; decide +kernel) (by decide) ?_
              refine cw_aload_n dX7_isAllowed_104 0 rfl rfl ?_
              refine cw_getf (C := RX7) (T := TX7) (N := 6) (ci := 6) inX7_isAllowed_RX7 25 (show 25 < 32 by decide) rfl rfl 4 (by decide) (by decide +kernel) rfl dX7_isAllowed_105 ?_
              refine cw_iload_n dX7_isAllowed_108 2 rfl rfl ?_
              obtain ⟨v_109, J_109, hc_109, h⟩ := h
              refine cw_callV (o := 16) (As := [.int x2]) hc_109 okX3_findCycle rfl (nse_gi gX7_isAllowed_X3_findCycle (by decide +kernel)) (by decide) (show 16 < 32 by decide) rfl (ci := 2) rfl rfl (Nat.le_of_ble_eq_true rfl) dX7_isAllowed_109 ?_
              refine cw_iconst (v := (-1)) dX7_isAllowed_112 (by decide) ?_
              refine cw_icmp_eq (tgt := 120) dX7_isAllowed_113 (by decide) (fun q => ?_) (fun q => ?_)
              · have h := h.1 q
                refine cw_iconst (v := 0) dX7_isAllowed_120 (by decide) ?_
                exact cw_bret rfl dX7_isAllowed_121 (by decide) h
              · have h := h.2 q
                refine cw_iconst (v := 1) dX7_isAllowed_116 (by decide) ?_
                refine cw_goto (tgt := 121) dX7_isAllowed_117 (by decide) ?_
                exact cw_bret rfl dX7_isAllowed_121 (by decide) h
            · have h := h.2
              have h := h q1 q2 q3 q4 q5 q6
              have n1 := lv_neT (a := 1) q1 (by decide)
              have n2 := lv_neT (a := 2) q2 (by decide)
              have n3 := lv_neT (a := 3) q3 (by decide)
              have n4 := lv_neT (a := 4) q4 (by decide)
              have n5 := lv_neT (a := 5) q5 (by decide)
              have n6 := lv_neT (a := 6) q6 (by decide)
              refine cw_tableOut (tgt := 122) dX7_isAllowed_8 (by omega) (by decide) ?_
              refine cw_iconst (v := 1) dX7_isAllowed_122 (by decide) ?_
              exact cw_bret rfl dX7_isAllowed_123 (by decide) h
set_option maxRecDepth 20000 in
set_option maxHeartbeats 4000000 in
theorem eX7_carryOut_25 {K : cw_K} {r : Option Value} {J0 I : cw_M} {x1 : Nat} {x2 : Int32} {x3 : Int32} {x4 : Int32} (hFV : cw_FV K) (h : (x1 < 8 ∧ (vp_in (nI x1) 8 ∧ (((cw_sm (nI x1).toNatClampNeg) = 1 → (∃ J_73 : cw_M, cw_C (cc_w K) mX1_assign [.ref (cw_a (cc_w K) 5), .ref (cw_a (cc_w K) 9), .int x2, .int x3, .int (x4 + 1)] I none J_73 ∧ (r = none ∧ J0 = J_73))) ∧ (((cw_sm (nI x1).toNatClampNeg) = 2 → (∃ J_95 : cw_M, cw_C (cc_w K) mX1_assign [.ref (cw_a (cc_w K) 5), .ref (cw_a (cc_w K) 9), .int (-1), .int x2, .int (x3 + 1)] I none J_95 ∧ (r = none ∧ J0 = J_95))) ∧ (((cw_sm (nI x1).toNatClampNeg) = 3 → (∃ J_107 : cw_M, cw_C (cc_w K) mX1_exchangeShares [.ref (cw_a (cc_w K) 5), .int x2, .int x3] I none J_107 ∧ (r = none ∧ J0 = J_107))) ∧ (((cw_sm (nI x1).toNatClampNeg) = 4 → (∃ (v_133 : Int32) (J_133 : cw_M), cw_C (cc_w K) mX6_cutAndChoose [.ref (cw_a (cc_w K) 20), .int x2, .int x3] I (some (.int v_133)) J_133 ∧ (r = none ∧ J0 = J_133))) ∧ (((cw_sm (nI x1).toNatClampNeg) = 5 → (∃ J_121 : cw_M, cw_C (cc_w K) mX1_putValue [.ref (cw_a (cc_w K) 5), .int x2, .int x3, .int x4] I none J_121 ∧ (r = none ∧ J0 = J_121))) ∧ (((cw_sm (nI x1).toNatClampNeg) = 6 → (∃ (v_181 : Int32) (J_181 : cw_M), cw_C (cc_w K) mX3_rotateThrough [.ref (cw_a (cc_w K) 16), .int x2] I (some (.int v_181)) J_181 ∧ (r = none ∧ J0 = J_181))) ∧ (((cw_sm (nI x1).toNatClampNeg) = 7 → (∃ J_151 : cw_M, cw_C (cc_w K) mX6_divideByKnife [.ref (cw_a (cc_w K) 20), .ref (cw_a (cc_w K) 9)] I none J_151 ∧ (r = none ∧ J0 = J_151))) ∧ (((cw_sm (nI x1).toNatClampNeg) = 8 → (∃ (v_169 : Int32) (J_169 : cw_M), cw_C (cc_w K) mX6_divideByRobin [.ref (cw_a (cc_w K) 20), .ref (cw_a (cc_w K) 9), .int x2] I (some (.int v_169)) J_169 ∧ (r = none ∧ J0 = J_169))) ∧ (¬ (cw_sm (nI x1).toNatClampNeg) = 1 → ¬ (cw_sm (nI x1).toNatClampNeg) = 2 → ¬ (cw_sm (nI x1).toNatClampNeg) = 3 → ¬ (cw_sm (nI x1).toNatClampNeg) = 4 → ¬ (cw_sm (nI x1).toNatClampNeg) = 5 → ¬ (cw_sm (nI x1).toNatClampNeg) = 6 → ¬ (cw_sm (nI x1).toNatClampNeg) = 7 → ¬ (cw_sm (nI x1).toNatClampNeg) = 8 → (r = none ∧ J0 = I))))))))))))) : cw_C (cc_w K) mX7_carryOut [.ref (cw_a (cc_w K) 25), .ref (cw_vd K x1), .int x2, .int x3, .int x4] I r J0 := by
  refine cw_entry okX7_carryOut (Nat.le_of_ble_eq_true rfl) (show cw_B (cc_w K) mX7_carryOut (cw_Z (cc_w K) r J0) 0 0 I 0 [(0, .ref (cw_a (cc_w K) 25)), (1, .ref (cw_vd K x1)), (2, .int x2), (3, .int x3), (4, .int x4)] [] from ?_)
  refine cw_gets (fun A U H q => hFV.sm A U H q) (by decide +kernel) dX7_carryOut_0 ?_
  refine cw_aload_n dX7_carryOut_3 1 rfl rfl ?_
  obtain ⟨g_4, h⟩ := h
  refine cw_callO hFV g_4 (by decide +kernel) (by decide) (Nat.le_of_ble_eq_true rfl) dX7_carryOut_4 ?_
  obtain ⟨g_7, h⟩ := h
  refine cw_ti (fun A U H q => hFV.ma A U H q) g_7 rfl dX7_carryOut_7 ?_
  by_cases q1 : (cw_sm (nI x1).toNatClampNeg) = 1
  · have h := h.1 q1
    refine cw_tableIn (tgt := 56) (off := 48) dX7_carryOut_8 (by rw [q1]; decide) (by rw [q1]; decide) (by rw [q1]; decide +kernel) (by decide) ?_
    refine cw_aload_n dX7_carryOut_56 0 rfl rfl ?_
    refine cw_getf (C := RX7) (T := TX7) (N := 6) (ci := 6) inX7_carryOut_RX7 25 (show 25 < 32 by decide) rfl rfl 3 (by decide) (by decide +kernel) rfl dX7_carryOut_57 ?_
    refine cw_aload_n dX7_carryOut_60 0 rfl rfl ?_
    refine cw_getf (C := RX7) (T := TX7) (N := 6) (ci := 6) inX7_carryOut_RX7 25 (show 25 < 32 by decide) rfl rfl 3 (by decide) (by decide +kernel) rfl dX7_carryOut_61 ?_
    refine cw_getf (C := RX1) (T := TX1) (N := 6) (ci := 0) inX7_carryOut_RX1 5 (show 5 < 32 by decide) rfl rfl 5 (by decide) (by decide +kernel) rfl dX7_carryOut_64 ?_
    refine cw_iload_n dX7_carryOut_67 2 rfl rfl ?_
    refine cw_iload_n dX7_carryOut_68 3 rfl rfl ?_
    refine cw_iload dX7_carryOut_69 4 rfl ?_
    refine cw_iconst (v := 1) dX7_carryOut_71 (by decide) ?_
    refine cw_iadd dX7_carryOut_72 ?_
    obtain ⟨J_73, hc_73, h⟩ := h
    refine cw_callV (o := 5) (As := [.ref (cw_a (cc_w K) 9), .int x2, .int x3, .int (x4 + 1)]) hc_73 okX1_assign rfl (nse_gi gX7_carryOut_X1_assign (by decide +kernel)) (by decide) (show 5 < 32 by decide) rfl (ci := 0) rfl rfl (Nat.le_of_ble_eq_true rfl) dX7_carryOut_73 ?_
    refine cw_goto (tgt := 188) dX7_carryOut_76 (by decide) ?_
    exact cw_vret rfl dX7_carryOut_188 h
  · have h := h.2
    by_cases q2 : (cw_sm (nI x1).toNatClampNeg) = 2
    · have h := h.1 q2
      refine cw_tableIn (tgt := 79) (off := 71) dX7_carryOut_8 (by rw [q2]; decide) (by rw [q2]; decide) (by rw [q2]; decide +kernel) (by decide) ?_
      refine cw_aload_n dX7_carryOut_79 0 rfl rfl ?_
      refine cw_getf (C := RX7) (T := TX7) (N := 6) (ci := 6) inX7_carryOut_RX7 25 (show 25 < 32 by decide) rfl rfl 3 (by decide) (by decide +kernel) rfl dX7_carryOut_80 ?_
      refine cw_aload_n dX7_carryOut_83 0 rfl rfl ?_
      refine cw_getf (C := RX7) (T := TX7) (N := 6) (ci := 6) inX7_carryOut_RX7 25 (show 25 < 32 by decide) rfl rfl 3 (by decide) (by decide +kernel) rfl dX7_carryOut_84 ?_
      refine cw_getf (C := RX1) (T := TX1) (N := 6) (ci := 0) inX7_carryOut_RX1 5 (show 5 < 32 by decide) rfl rfl 5 (by decide) (by decide +kernel) rfl dX7_carryOut_87 ?_
      refine cw_iconst (v := (-1)) dX7_carryOut_90 (by decide) ?_
      refine cw_iload_n dX7_carryOut_91 2 rfl rfl ?_
      refine cw_iload_n dX7_carryOut_92 3 rfl rfl ?_
      refine cw_iconst (v := 1) dX7_carryOut_93 (by decide) ?_
      refine cw_iadd dX7_carryOut_94 ?_
      obtain ⟨J_95, hc_95, h⟩ := h
      refine cw_callV (o := 5) (As := [.ref (cw_a (cc_w K) 9), .int (-1), .int x2, .int (x3 + 1)]) hc_95 okX1_assign rfl (nse_gi gX7_carryOut_X1_assign (by decide +kernel)) (by decide) (show 5 < 32 by decide) rfl (ci := 0) rfl rfl (Nat.le_of_ble_eq_true rfl) dX7_carryOut_95 ?_
      refine cw_goto (tgt := 188) dX7_carryOut_98 (by decide) ?_
      exact cw_vret rfl dX7_carryOut_188 h
    · have h := h.2
      by_cases q3 : (cw_sm (nI x1).toNatClampNeg) = 3
      · have h := h.1 q3
        refine cw_tableIn (tgt := 101) (off := 93) dX7_carryOut_8 (by rw [q3]; decide) (by rw [q3]; decide) (by rw [q3]; decide +kernel) (by decide) ?_
        refine cw_aload_n dX7_carryOut_101 0 rfl rfl ?_
        refine cw_getf (C := RX7) (T := TX7) (N := 6) (ci := 6) inX7_carryOut_RX7 25 (show 25 < 32 by decide) rfl rfl 3 (by decide) (by decide +kernel) rfl dX7_carryOut_102 ?_
        refine cw_iload_n dX7_carryOut_105 2 rfl rfl ?_
        refine cw_iload_n dX7_carryOut_106 3 rfl rfl ?_
        obtain ⟨J_107, hc_107, h⟩ := h
        refine cw_callV (o := 5) (As := [.int x2, .int x3]) hc_107 okX1_exchangeShares rfl (nse_gi gX7_carryOut_X1_exchangeShares (by decide +kernel)) (by decide) (show 5 < 32 by decide) rfl (ci := 0) rfl rfl (Nat.le_of_ble_eq_true rfl) dX7_carryOut_107 ?_
        refine cw_goto (tgt := 188) dX7_carryOut_110 (by decide) ?_
        exact cw_vret rfl dX7_carryOut_188 h
      · have h := h.2
        by_cases q4 : (cw_sm (nI x1).toNatClampNeg) = 4
        · have h := h.1 q4
          refine cw_tableIn (tgt := 127) (off := 119) dX7_carryOut_8 (by rw [q4]; decide) (by rw [q4]; decide) (by rw [q4]; decide +kernel) (by decide) ?_
          refine cw_aload_n dX7_carryOut_127 0 rfl rfl ?_
          refine cw_getf (C := RX7) (T := TX7) (N := 6) (ci := 6) inX7_carryOut_RX7 25 (show 25 < 32 by decide) rfl rfl 5 (by decide) (by decide +kernel) rfl dX7_carryOut_128 ?_
          refine cw_iload_n dX7_carryOut_131 2 rfl rfl ?_
          refine cw_iload_n dX7_carryOut_132 3 rfl rfl ?_
          obtain ⟨v_133, J_133, hc_133, h⟩ := h
          refine cw_callV (o := 20) (As := [.int x2, .int x3]) hc_133 okX6_cutAndChoose rfl (nse_gi gX7_carryOut_X6_cutAndChoose (by decide +kernel)) (by decide) (show 20 < 32 by decide) rfl (ci := 5) rfl rfl (Nat.le_of_ble_eq_true rfl) dX7_carryOut_133 ?_
          refine cw_pop dX7_carryOut_136 rfl ?_
          refine cw_goto (tgt := 188) dX7_carryOut_137 (by decide) ?_
          exact cw_vret rfl dX7_carryOut_188 h
        · have h := h.2
          by_cases q5 : (cw_sm (nI x1).toNatClampNeg) = 5
          · have h := h.1 q5
            refine cw_tableIn (tgt := 113) (off := 105) dX7_carryOut_8 (by rw [q5]; decide) (by rw [q5]; decide) (by rw [q5]; decide +kernel) (by decide) ?_
            refine cw_aload_n dX7_carryOut_113 0 rfl rfl ?_
            refine cw_getf (C := RX7) (T := TX7) (N := 6) (ci := 6) inX7_carryOut_RX7 25 (show 25 < 32 by decide) rfl rfl 3 (by decide) (by decide +kernel) rfl dX7_carryOut_114 ?_
            refine cw_iload_n dX7_carryOut_117 2 rfl rfl ?_
            refine cw_iload_n dX7_carryOut_118 3 rfl rfl ?_
            refine cw_iload dX7_carryOut_119 4 rfl ?_
            obtain ⟨J_121, hc_121, h⟩ := h
            refine cw_callV (o := 5) (As := [.int x2, .int x3, .int x4]) hc_121 okX1_putValue rfl (nse_gi gX7_carryOut_X1_putValue (by decide +kernel)) (by decide) (show 5 < 32 by decide) rfl (ci := 0) rfl rfl (Nat.le_of_ble_eq_true rfl) dX7_carryOut_121 ?_
            refine cw_goto (tgt := 188) dX7_carryOut_124 (by decide) ?_
            exact cw_vret rfl dX7_carryOut_188 h
          · have h := h.2
            by_cases q6 : (cw_sm (nI x1).toNatClampNeg) = 6
            · have h := h.1 q6
              refine cw_tableIn (tgt := 176) (off := 168) dX7_carryOut_8 (by rw [q6]; decide) (by rw [q6]; decide) (by rw [q6]; decide +kernel) (by decide) ?_
              refine cw_aload_n dX7_carryOut_176 0 rfl rfl ?_
              refine cw_getf (C := RX7) (T := TX7) (N := 6) (ci := 6) inX7_carryOut_RX7 25 (show 25 < 32 by decide) rfl rfl 4 (by decide) (by decide +kernel) rfl dX7_carryOut_177 ?_
              refine cw_iload_n dX7_carryOut_180 2 rfl rfl ?_
              obtain ⟨v_181, J_181, hc_181, h⟩ := h
              refine cw_callV (o := 16) (As := [.int x2]) hc_181 okX3_rotateThrough rfl (nse_gi gX7_carryOut_X3_rotateThrough (by decide +kernel)) (by decide) (show 16 < 32 by decide) rfl (ci := 2) rfl rfl (Nat.le_of_ble_eq_true rfl) dX7_carryOut_181 ?_
              refine cw_pop dX7_carryOut_184 rfl ?_
              refine cw_goto (tgt := 188) dX7_carryOut_185 (by decide) ?_
              exact cw_vret rfl dX7_carryOut_188 h
            · have h := h.2
              by_cases q7 : (cw_sm (nI x1).toNatClampNeg) = 7
              · have h := h.1 q7
                refine cw_tableIn (tgt := 140) (off := 132) dX7_carryOut_8 (by rw [q7]; decide) (by rw [q7]; decide) (by rw [q7]; decide +kernel) (by decide) ?_
                refine cw_aload_n dX7_carryOut_140 0 rfl rfl ?_
                refine cw_getf (C := RX7) (T := TX7) (N := 6) (ci := 6) inX7_carryOut_RX7 25 (show 25 < 32 by decide) rfl rfl 5 (by decide) (by decide +kernel) rfl dX7_carryOut_141 ?_
                refine cw_aload_n dX7_carryOut_144 0 rfl rfl ?_
                refine cw_getf (C := RX7) (T := TX7) (N := 6) (ci := 6) inX7_carryOut_RX7 25 (show 25 < 32 by decide) rfl rfl 3 (by decide) (by decide +kernel) rfl dX7_carryOut_145 ?_
                refine cw_getf (C := RX1) (T := TX1) (N := 6) (ci := 0) inX7_carryOut_RX1 5 (show 5 < 32 by decide) rfl rfl 5 (by decide) (by decide +kernel) rfl dX7_carryOut_148 ?_
                obtain ⟨J_151, hc_151, h⟩ := h
                refine cw_callV (o := 20) (As := [.ref (cw_a (cc_w K) 9)]) hc_151 okX6_divideByKnife rfl (nse_gi gX7_carryOut_X6_divideByKnife (by decide +kernel)) (by decide) (show 20 < 32 by decide) rfl (ci := 5) rfl rfl (Nat.le_of_ble_eq_true rfl) dX7_carryOut_151 ?_
                refine cw_goto (tgt := 188) dX7_carryOut_154 (by decide) ?_
                exact cw_vret rfl dX7_carryOut_188 h
              · have h := h.2
                by_cases q8 : (cw_sm (nI x1).toNatClampNeg) = 8
                · have h := h.1 q8
                  refine cw_tableIn (tgt := 157) (off := 149) dX7_carryOut_8 (by rw [q8]; decide) (by rw [q8]; decide) (by rw [q8]; decide +kernel) (by decide) ?_
                  refine cw_aload_n dX7_carryOut_157 0 rfl rfl ?_
                  refine cw_getf (C := RX7) (T := TX7) (N := 6) (ci := 6) inX7_carryOut_RX7 25 (show 25 < 32 by decide) rfl rfl 5 (by decide) (by decide +kernel) rfl dX7_carryOut_158 ?_
                  refine cw_aload_n dX7_carryOut_161 0 rfl rfl ?_
                  refine cw_getf (C := RX7) (T := TX7) (N := 6) (ci := 6) inX7_carryOut_RX7 25 (show 25 < 32 by decide) rfl rfl 3 (by decide) (by decide +kernel) rfl dX7_carryOut_162 ?_
                  refine cw_getf (C := RX1) (T := TX1) (N := 6) (ci := 0) inX7_carryOut_RX1 5 (show 5 < 32 by decide) rfl rfl 5 (by decide) (by decide +kernel) rfl dX7_carryOut_165 ?_
                  refine cw_iload_n dX7_carryOut_168 2 rfl rfl ?_
                  obtain ⟨v_169, J_169, hc_169, h⟩ := h
                  refine cw_callV (o := 20) (As := [.ref (cw_a (cc_w K) 9), .int x2]) hc_169 okX6_divideByRobin rfl (nse_gi gX7_carryOut_X6_divideByRobin (by decide +kernel)) (by decide) (show 20 < 32 by decide) rfl (ci := 5) rfl rfl (Nat.le_of_ble_eq_true rfl) dX7_carryOut_169 ?_
                  refine cw_pop dX7_carryOut_172 rfl ?_
                  refine cw_goto (tgt := 188) dX7_carryOut_173 (by decide) ?_
                  exact cw_vret rfl dX7_carryOut_188 h
                · have h := h.2
                  have h := h q1 q2 q3 q4 q5 q6 q7 q8
                  have n1 := lv_neT (a := 1) q1 (by decide)
                  have n2 := lv_neT (a := 2) q2 (by decide)
                  have n3 := lv_neT (a := 3) q3 (by decide)
                  have n4 := lv_neT (a := 4) q4 (by decide)
                  have n5 := lv_neT (a := 5) q5 (by decide)
                  have n6 := lv_neT (a := 6) q6 (by decide)
                  have n7 := lv_neT (a := 7) q7 (by decide)
                  have n8 := lv_neT (a := 8) q8 (by decide)
                  refine cw_tableOut (tgt := 188) dX7_carryOut_8 (by omega) (by decide) ?_
                  exact cw_vret rfl dX7_carryOut_188 h
