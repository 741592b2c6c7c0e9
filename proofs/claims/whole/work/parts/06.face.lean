/-! Blocks of Parser, Script and the face, laid by gen.py. -/
theorem inX10_adoptSetup_RX10 : ∀ x ∈ u_ws RX10 TX10 10, x ∈ wsX10_adoptSetup := by decide +kernel
theorem inX10_adoptSetup_RX8 : ∀ x ∈ u_ws RX8 TX8 2, x ∈ wsX10_adoptSetup := by decide +kernel
theorem inX10_bestFirst_RX10 : ∀ x ∈ u_ws RX10 TX10 10, x ∈ wsX10_bestFirst := by decide +kernel
theorem inX10_bestLeastWelfare_RX10 : ∀ x ∈ u_ws RX10 TX10 10, x ∈ wsX10_bestLeastWelfare := by decide +kernel
theorem inX10_cellCount_RX1 : ∀ x ∈ u_ws RX1 TX1 6, x ∈ wsX10_cellCount := by decide +kernel
theorem inX10_cellCount_RX10 : ∀ x ∈ u_ws RX10 TX10 10, x ∈ wsX10_cellCount := by decide +kernel
theorem inX10_cutCount_RX1 : ∀ x ∈ u_ws RX1 TX1 6, x ∈ wsX10_cutCount := by decide +kernel
theorem inX10_cutCount_RX10 : ∀ x ∈ u_ws RX10 TX10 10, x ∈ wsX10_cutCount := by decide +kernel
theorem inX10_cutFor_RX10 : ∀ x ∈ u_ws RX10 TX10 10, x ∈ wsX10_cutFor := by decide +kernel
theorem inX10_divideAndChoose_RX10 : ∀ x ∈ u_ws RX10 TX10 10, x ∈ wsX10_divideAndChoose := by decide +kernel
theorem inX10_envies_RX10 : ∀ x ∈ u_ws RX10 TX10 10, x ∈ wsX10_envies := by decide +kernel
theorem inX10_envyCount_RX10 : ∀ x ∈ u_ws RX10 TX10 10, x ∈ wsX10_envyCount := by decide +kernel
theorem inX10_envyCycleLength_RX10 : ∀ x ∈ u_ws RX10 TX10 10, x ∈ wsX10_envyCycleLength := by decide +kernel
theorem inX10_errorCode_RX10 : ∀ x ∈ u_ws RX10 TX10 10, x ∈ wsX10_errorCode := by decide +kernel
theorem inX10_errorCode_RX5 : ∀ x ∈ u_ws RX5 TX5 7, x ∈ wsX10_errorCode := by decide +kernel
theorem inX10_errorPosition_RX10 : ∀ x ∈ u_ws RX10 TX10 10, x ∈ wsX10_errorPosition := by decide +kernel
theorem inX10_errorPosition_RX5 : ∀ x ∈ u_ws RX5 TX5 7, x ∈ wsX10_errorPosition := by decide +kernel
theorem inX10_favouriteFreeCell_RX1 : ∀ x ∈ u_ws RX1 TX1 6, x ∈ wsX10_favouriteFreeCell := by decide +kernel
theorem inX10_favouriteFreeCell_RX10 : ∀ x ∈ u_ws RX10 TX10 10, x ∈ wsX10_favouriteFreeCell := by decide +kernel
theorem inX10_freeCount_RX10 : ∀ x ∈ u_ws RX10 TX10 10, x ∈ wsX10_freeCount := by decide +kernel
theorem inX10_give_RX1 : ∀ x ∈ u_ws RX1 TX1 6, x ∈ wsX10_give := by decide +kernel
theorem inX10_give_RX10 : ∀ x ∈ u_ws RX10 TX10 10, x ∈ wsX10_give := by decide +kernel
theorem inX10_greatestContiguousWelfare_RX10 : ∀ x ∈ u_ws RX10 TX10 10, x ∈ wsX10_greatestContiguousWelfare := by decide +kernel
theorem inX10_greatestTotalWelfare_RX1 : ∀ x ∈ u_ws RX1 TX1 6, x ∈ wsX10_greatestTotalWelfare := by decide +kernel
theorem inX10_greatestTotalWelfare_RX10 : ∀ x ∈ u_ws RX10 TX10 10, x ∈ wsX10_greatestTotalWelfare := by decide +kernel
theorem inX10_inconsistencies_RX1 : ∀ x ∈ u_ws RX1 TX1 6, x ∈ wsX10_inconsistencies := by decide +kernel
theorem inX10_inconsistencies_RX10 : ∀ x ∈ u_ws RX10 TX10 10, x ∈ wsX10_inconsistencies := by decide +kernel
theorem inX10_isSatisfied_RX10 : ∀ x ∈ u_ws RX10 TX10 10, x ∈ wsX10_isSatisfied := by decide +kernel
theorem inX10_leastWelfare_RX1 : ∀ x ∈ u_ws RX1 TX1 6, x ∈ wsX10_leastWelfare := by decide +kernel
theorem inX10_leastWelfare_RX10 : ∀ x ∈ u_ws RX10 TX10 10, x ∈ wsX10_leastWelfare := by decide +kernel
theorem inX10_mostEnvied_RX10 : ∀ x ∈ u_ws RX10 TX10 10, x ∈ wsX10_mostEnvied := by decide +kernel
theorem inX10_movingKnife_RX1 : ∀ x ∈ u_ws RX1 TX1 6, x ∈ wsX10_movingKnife := by decide +kernel
theorem inX10_movingKnife_RX10 : ∀ x ∈ u_ws RX10 TX10 10, x ∈ wsX10_movingKnife := by decide +kernel
theorem inX10_owner_RX1 : ∀ x ∈ u_ws RX1 TX1 6, x ∈ wsX10_owner := by decide +kernel
theorem inX10_owner_RX10 : ∀ x ∈ u_ws RX10 TX10 10, x ∈ wsX10_owner := by decide +kernel
theorem inX10_pieceCount_RX10 : ∀ x ∈ u_ws RX10 TX10 10, x ∈ wsX10_pieceCount := by decide +kernel
theorem inX10_release_RX1 : ∀ x ∈ u_ws RX1 TX1 6, x ∈ wsX10_release := by decide +kernel
theorem inX10_release_RX10 : ∀ x ∈ u_ws RX10 TX10 10, x ∈ wsX10_release := by decide +kernel
theorem inX10_roundRobin_RX1 : ∀ x ∈ u_ws RX1 TX1 6, x ∈ wsX10_roundRobin := by decide +kernel
theorem inX10_roundRobin_RX10 : ∀ x ∈ u_ws RX10 TX10 10, x ∈ wsX10_roundRobin := by decide +kernel
theorem inX10_satisfiedCount_RX10 : ∀ x ∈ u_ws RX10 TX10 10, x ∈ wsX10_satisfiedCount := by decide +kernel
theorem inX10_save_RX10 : ∀ x ∈ u_ws RX10 TX10 10, x ∈ wsX10_save := by decide +kernel
theorem inX10_shareSize_RX10 : ∀ x ∈ u_ws RX10 TX10 10, x ∈ wsX10_shareSize := by decide +kernel
theorem inX10_siblingCount_RX1 : ∀ x ∈ u_ws RX1 TX1 6, x ∈ wsX10_siblingCount := by decide +kernel
theorem inX10_siblingCount_RX10 : ∀ x ∈ u_ws RX10 TX10 10, x ∈ wsX10_siblingCount := by decide +kernel
theorem inX10_strongEnvyCount_RX10 : ∀ x ∈ u_ws RX10 TX10 10, x ∈ wsX10_strongEnvyCount := by decide +kernel
theorem inX10_swapShares_RX10 : ∀ x ∈ u_ws RX10 TX10 10, x ∈ wsX10_swapShares := by decide +kernel
theorem inX10_total_RX10 : ∀ x ∈ u_ws RX10 TX10 10, x ∈ wsX10_total := by decide +kernel
theorem inX10_totalWelfare_RX1 : ∀ x ∈ u_ws RX1 TX1 6, x ∈ wsX10_totalWelfare := by decide +kernel
theorem inX10_totalWelfare_RX10 : ∀ x ∈ u_ws RX10 TX10 10, x ∈ wsX10_totalWelfare := by decide +kernel
theorem inX10_value_RX10 : ∀ x ∈ u_ws RX10 TX10 10, x ∈ wsX10_value := by decide +kernel
theorem inX10_welfareByKnife_RX10 : ∀ x ∈ u_ws RX10 TX10 10, x ∈ wsX10_welfareByKnife := by decide +kernel
theorem inX10_welfareByRobin_RX10 : ∀ x ∈ u_ws RX10 TX10 10, x ∈ wsX10_welfareByRobin := by decide +kernel
theorem inX10_welfareProduct_RX1 : ∀ x ∈ u_ws RX1 TX1 6, x ∈ wsX10_welfareProduct := by decide +kernel
theorem inX10_welfareProduct_RX10 : ∀ x ∈ u_ws RX10 TX10 10, x ∈ wsX10_welfareProduct := by decide +kernel
theorem inX10_worth_RX10 : ∀ x ∈ u_ws RX10 TX10 10, x ∈ wsX10_worth := by decide +kernel
theorem inX10_worthOfShare_RX1 : ∀ x ∈ u_ws RX1 TX1 6, x ∈ wsX10_worthOfShare := by decide +kernel
theorem inX10_worthOfShare_RX10 : ∀ x ∈ u_ws RX10 TX10 10, x ∈ wsX10_worthOfShare := by decide +kernel
theorem inX10_wouldSwap_RX10 : ∀ x ∈ u_ws RX10 TX10 10, x ∈ wsX10_wouldSwap := by decide +kernel
theorem inX10_writeOwners_RX1 : ∀ x ∈ u_ws RX1 TX1 6, x ∈ wsX10_writeOwners := by decide +kernel
theorem inX10_writeOwners_RX10 : ∀ x ∈ u_ws RX10 TX10 10, x ∈ wsX10_writeOwners := by decide +kernel
theorem inX10_writeOwners_RX8 : ∀ x ∈ u_ws RX8 TX8 2, x ∈ wsX10_writeOwners := by decide +kernel
theorem inX10_writePiece_RX1 : ∀ x ∈ u_ws RX1 TX1 6, x ∈ wsX10_writePiece := by decide +kernel
theorem inX10_writePiece_RX10 : ∀ x ∈ u_ws RX10 TX10 10, x ∈ wsX10_writePiece := by decide +kernel
theorem inX5_advance_RX5 : ∀ x ∈ u_ws RX5 TX5 7, x ∈ wsX5_advance := by decide +kernel
theorem inX5_advance_RX8 : ∀ x ∈ u_ws RX8 TX8 2, x ∈ wsX5_advance := by decide +kernel
theorem inX5_begin_RX5 : ∀ x ∈ u_ws RX5 TX5 7, x ∈ wsX5_begin := by decide +kernel
theorem inX5_numberOfToken_RX5 : ∀ x ∈ u_ws RX5 TX5 7, x ∈ wsX5_numberOfToken := by decide +kernel
theorem inX5_numberOfToken_RX8 : ∀ x ∈ u_ws RX8 TX8 2, x ∈ wsX5_numberOfToken := by decide +kernel
theorem inX5_refuse_RX5 : ∀ x ∈ u_ws RX5 TX5 7, x ∈ wsX5_refuse := by decide +kernel
theorem inX5_takeKnownName_RX5 : ∀ x ∈ u_ws RX5 TX5 7, x ∈ wsX5_takeKnownName := by decide +kernel
theorem inX5_takeNewName_RX5 : ∀ x ∈ u_ws RX5 TX5 7, x ∈ wsX5_takeNewName := by decide +kernel
theorem inX5_takeNumber_RX5 : ∀ x ∈ u_ws RX5 TX5 7, x ∈ wsX5_takeNumber := by decide +kernel
theorem inX5_takeSemicolon_RX5 : ∀ x ∈ u_ws RX5 TX5 7, x ∈ wsX5_takeSemicolon := by decide +kernel
theorem inX7_clear_RX7 : ∀ x ∈ u_ws RX7 TX7 6, x ∈ wsX7_clear := by decide +kernel
theorem inX7_putArgument_RX7 : ∀ x ∈ u_ws RX7 TX7 6, x ∈ wsX7_putArgument := by decide +kernel
set_option maxRecDepth 20000 in
set_option maxHeartbeats 4000000 in
theorem eX10_adoptSetup_0 {K : cw_K} {r : Option Value} {J0 I : cw_M} (h : (∃ (v_8 : Int32) (J_8 : cw_M), cw_C (cc_w K) mX5_readSetup [.ref (cw_a (cc_w K) 15), .ref (cw_a (cc_w K) 10)] I (some (.int v_8)) J_8 ∧ ((v_8 = 0 → ((v_8 = 0 ∨ v_8 = 1) ∧ (r = some (.int v_8) ∧ J0 = cw_st J_8 1 1 0))) ∧ (¬ v_8 = 0 → (∃ J_32 : cw_M, cw_C (cc_w K) mX1_become [.ref (cw_a (cc_w K) 5), .ref (cw_a (cc_w K) 10)] (cw_st J_8 1 1 0) none J_32 ∧ (∃ J_39 : cw_M, cw_C (cc_w K) mX4_forgetAll [.ref (cw_a (cc_w K) 28)] J_32 none J_39 ∧ ((v_8 = 0 ∨ v_8 = 1) ∧ (r = some (.int v_8) ∧ J0 = J_39)))))))) : cw_C (cc_w K) mX10_adoptSetup [.ref (cw_a (cc_w K) 0)] I r J0 := by
  refine cw_entry okX10_adoptSetup (Nat.le_of_ble_eq_true rfl) (show cw_B (cc_w K) mX10_adoptSetup (cw_Z (cc_w K) r J0) 0 0 I 0 [(0, .ref (cw_a (cc_w K) 0))] [] from ?_)
  refine cw_aload_n dX10_adoptSetup_0 0 rfl rfl ?_
  refine cw_getf (C := RX10) (T := TX10) (N := 10) (ci := 8) inX10_adoptSetup_RX10 0 (show 0 < 32 by decide) rfl rfl 4 (by decide) (by decide +kernel) rfl dX10_adoptSetup_1 ?_
  refine cw_aload_n dX10_adoptSetup_4 0 rfl rfl ?_
  refine cw_getf (C := RX10) (T := TX10) (N := 10) (ci := 8) inX10_adoptSetup_RX10 0 (show 0 < 32 by decide) rfl rfl 3 (by decide) (by decide +kernel) rfl dX10_adoptSetup_5 ?_
  obtain ⟨v_8, J_8, hc_8, h⟩ := h
  refine cw_callV (o := 15) (As := [.ref (cw_a (cc_w K) 10)]) hc_8 okX5_readSetup rfl gX10_adoptSetup_X5_readSetup (by decide) (show 15 < 32 by decide) rfl (ci := 4) rfl rfl (Nat.le_of_ble_eq_true rfl) dX10_adoptSetup_8 ?_
  refine cw_istore_n dX10_adoptSetup_11 rfl (by decide) rfl ?_
  refine cw_aload_n dX10_adoptSetup_12 1 rfl rfl ?_
  refine cw_getf (C := RX10) (T := TX10) (N := 10) (ci := 8) inX10_adoptSetup_RX10 0 (show 0 < 32 by decide) rfl rfl 0 (by decide) (by decide +kernel) rfl dX10_adoptSetup_13 ?_
  refine cw_iconst (v := 0) dX10_adoptSetup_16 (by decide) ?_
  refine cw_putf (C := RX8) (T := TX8) (N := 2) (ci := 7) inX10_adoptSetup_RX8 tyX8 tyX8_ok nmX8 1 (show 1 < 32 by decide) rfl rfl 1 (by decide) (by decide +kernel) rfl rfl (show 1 < 2 by decide) rfl dX10_adoptSetup_17 ?_
  refine cw_iload_n dX10_adoptSetup_20 0 rfl rfl ?_
  refine cw_if_eq (tgt := 42) dX10_adoptSetup_21 (by decide) (fun q => ?_) (fun q => ?_)
  · have h := h.1 q
    refine cw_iload_n dX10_adoptSetup_42 0 rfl rfl ?_
    exact cw_bret rfl dX10_adoptSetup_43 h.1 h.2
  · have h := h.2 q
    refine cw_aload_n dX10_adoptSetup_24 1 rfl rfl ?_
    refine cw_getf (C := RX10) (T := TX10) (N := 10) (ci := 8) inX10_adoptSetup_RX10 0 (show 0 < 32 by decide) rfl rfl 2 (by decide) (by decide +kernel) rfl dX10_adoptSetup_25 ?_
    refine cw_aload_n dX10_adoptSetup_28 1 rfl rfl ?_
    refine cw_getf (C := RX10) (T := TX10) (N := 10) (ci := 8) inX10_adoptSetup_RX10 0 (show 0 < 32 by decide) rfl rfl 3 (by decide) (by decide +kernel) rfl dX10_adoptSetup_29 ?_
    obtain ⟨J_32, hc_32, h⟩ := h
    refine cw_callV (o := 5) (As := [.ref (cw_a (cc_w K) 10)]) hc_32 okX1_become rfl gX10_adoptSetup_X1_become (by decide) (show 5 < 32 by decide) rfl (ci := 0) rfl rfl (Nat.le_of_ble_eq_true rfl) dX10_adoptSetup_32 ?_
    refine cw_aload_n dX10_adoptSetup_35 1 rfl rfl ?_
    refine cw_getf (C := RX10) (T := TX10) (N := 10) (ci := 8) inX10_adoptSetup_RX10 0 (show 0 < 32 by decide) rfl rfl 9 (by decide) (by decide +kernel) rfl dX10_adoptSetup_36 ?_
    obtain ⟨J_39, hc_39, h⟩ := h
    refine cw_callV (o := 28) (As := []) hc_39 okX4_forgetAll rfl gX10_adoptSetup_X4_forgetAll (by decide) (show 28 < 32 by decide) rfl (ci := 3) rfl rfl (Nat.le_of_ble_eq_true rfl) dX10_adoptSetup_39 ?_
    refine cw_iload_n dX10_adoptSetup_42 0 rfl rfl ?_
    exact cw_bret rfl dX10_adoptSetup_43 h.1 h.2
set_option maxRecDepth 20000 in
set_option maxHeartbeats 4000000 in
theorem eX10_bestFirst_0 {K : cw_K} {r : Option Value} {J0 I : cw_M} (h : (∃ (v_4 : Int32) (J_4 : cw_M), cw_C (cc_w K) mX6_findBestFirst [.ref (cw_a (cc_w K) 20)] I (some (.int v_4)) J_4 ∧ (r = some (.int v_4) ∧ J0 = J_4))) : cw_C (cc_w K) mX10_bestFirst [.ref (cw_a (cc_w K) 0)] I r J0 := by
  refine cw_entry okX10_bestFirst (Nat.le_of_ble_eq_true rfl) (show cw_B (cc_w K) mX10_bestFirst (cw_Z (cc_w K) r J0) 0 0 I 0 [(0, .ref (cw_a (cc_w K) 0))] [] from ?_)
  refine cw_aload_n dX10_bestFirst_0 0 rfl rfl ?_
  refine cw_getf (C := RX10) (T := TX10) (N := 10) (ci := 8) inX10_bestFirst_RX10 0 (show 0 < 32 by decide) rfl rfl 6 (by decide) (by decide +kernel) rfl dX10_bestFirst_1 ?_
  obtain ⟨v_4, J_4, hc_4, h⟩ := h
  refine cw_callV (o := 20) (As := []) hc_4 okX6_findBestFirst rfl gX10_bestFirst_X6_findBestFirst (by decide) (show 20 < 32 by decide) rfl (ci := 5) rfl rfl (Nat.le_of_ble_eq_true rfl) dX10_bestFirst_4 ?_
  exact cw_iret rfl dX10_bestFirst_7 h
set_option maxRecDepth 20000 in
set_option maxHeartbeats 4000000 in
theorem eX10_bestLeastWelfare_0 {K : cw_K} {r : Option Value} {J0 I : cw_M} (h : (∃ (v_4 : Int32) (J_4 : cw_M), cw_C (cc_w K) mX2_findGreatestLeast [.ref (cw_a (cc_w K) 22)] I (some (.int v_4)) J_4 ∧ (r = some (.int v_4) ∧ J0 = J_4))) : cw_C (cc_w K) mX10_bestLeastWelfare [.ref (cw_a (cc_w K) 0)] I r J0 := by
  refine cw_entry okX10_bestLeastWelfare (Nat.le_of_ble_eq_true rfl) (show cw_B (cc_w K) mX10_bestLeastWelfare (cw_Z (cc_w K) r J0) 0 0 I 0 [(0, .ref (cw_a (cc_w K) 0))] [] from ?_)
  refine cw_aload_n dX10_bestLeastWelfare_0 0 rfl rfl ?_
  refine cw_getf (C := RX10) (T := TX10) (N := 10) (ci := 8) inX10_bestLeastWelfare_RX10 0 (show 0 < 32 by decide) rfl rfl 7 (by decide) (by decide +kernel) rfl dX10_bestLeastWelfare_1 ?_
  obtain ⟨v_4, J_4, hc_4, h⟩ := h
  refine cw_callV (o := 22) (As := []) hc_4 okX2_findGreatestLeast rfl gX10_bestLeastWelfare_X2_findGreatestLeast (by decide) (show 22 < 32 by decide) rfl (ci := 1) rfl rfl (Nat.le_of_ble_eq_true rfl) dX10_bestLeastWelfare_4 ?_
  exact cw_iret rfl dX10_bestLeastWelfare_7 h
set_option maxRecDepth 20000 in
set_option maxHeartbeats 4000000 in
theorem eX10_cellCount_0 {K : cw_K} {r : Option Value} {J0 I : cw_M} (h : (r = some (.int (I 5 0)) ∧ J0 = I)) : cw_C (cc_w K) mX10_cellCount [.ref (cw_a (cc_w K) 0)] I r J0 := by
  refine cw_entry okX10_cellCount (Nat.le_of_ble_eq_true rfl) (show cw_B (cc_w K) mX10_cellCount (cw_Z (cc_w K) r J0) 0 0 I 0 [(0, .ref (cw_a (cc_w K) 0))] [] from ?_)
  refine cw_aload_n dX10_cellCount_0 0 rfl rfl ?_
  refine cw_getf (C := RX10) (T := TX10) (N := 10) (ci := 8) inX10_cellCount_RX10 0 (show 0 < 32 by decide) rfl rfl 2 (by decide) (by decide +kernel) rfl dX10_cellCount_1 ?_
  refine cw_getf (C := RX1) (T := TX1) (N := 6) (ci := 0) inX10_cellCount_RX1 5 (show 5 < 32 by decide) rfl rfl 0 (by decide) (by decide +kernel) rfl dX10_cellCount_4 ?_
  exact cw_iret rfl dX10_cellCount_7 h
abbrev bX10_cutCount_0_4 (K : cw_K) (r : Option Value) (J0 : cw_M) (x1 : Int32) (x2 : Int32) (I : cw_M) : Prop := cw_B (cc_w K) mX10_cutCount (cw_Z (cc_w K) r J0) 0 0 I 4 [(0, .ref (cw_a (cc_w K) 0)), (1, .int x1), (2, .int x2)] []
set_option maxRecDepth 20000 in
set_option maxHeartbeats 4000000 in
theorem eX10_cutCount_0 {K : cw_K} {r : Option Value} {J0 I : cw_M} (h : bX10_cutCount_0_4 K r J0 0 0 I) : cw_C (cc_w K) mX10_cutCount [.ref (cw_a (cc_w K) 0)] I r J0 := by
  refine cw_entry okX10_cutCount (Nat.le_of_ble_eq_true rfl) (show cw_B (cc_w K) mX10_cutCount (cw_Z (cc_w K) r J0) 0 0 I 0 [(0, .ref (cw_a (cc_w K) 0))] [] from ?_)
  refine cw_iconst (v := 0) dX10_cutCount_0 (by decide) ?_
  refine cw_istore_n dX10_cutCount_1 rfl (by decide) rfl ?_
  refine cw_iconst (v := 0) dX10_cutCount_2 (by decide) ?_
  refine cw_istore_n dX10_cutCount_3 rfl (by decide) rfl ?_
  refine cw_sub [2, 1, 0] rfl ?_
  exact h
set_option maxRecDepth 20000 in
set_option maxHeartbeats 4000000 in
theorem tbX10_cutCount_0_4 {K : cw_K} {r : Option Value} {J0 I : cw_M} {x1 : Int32} {x2 : Int32} (h : ((((I 5 0) - 1) ≤ x2 → (r = some (.int x1) ∧ J0 = I)) ∧ (¬ ((I 5 0) - 1) ≤ x2 → (∃ (v_22 : Int32) (J_22 : cw_M), cw_C (cc_w K) mX1_endsPiece [.ref (cw_a (cc_w K) 5), .int x2] I (some (.int v_22)) J_22 ∧ ((v_22 = 0 → bX10_cutCount_0_4 K r J0 x1 (x2 + 1) J_22) ∧ (¬ v_22 = 0 → bX10_cutCount_0_4 K r J0 (x1 + 1) (x2 + 1) J_22)))))) : bX10_cutCount_0_4 K r J0 x1 x2 I := by
  refine cw_iload_n dX10_cutCount_4 2 rfl rfl ?_
  refine cw_aload_n dX10_cutCount_5 0 rfl rfl ?_
  refine cw_getf (C := RX10) (T := TX10) (N := 10) (ci := 8) inX10_cutCount_RX10 0 (show 0 < 32 by decide) rfl rfl 2 (by decide) (by decide +kernel) rfl dX10_cutCount_6 ?_
  refine cw_getf (C := RX1) (T := TX1) (N := 6) (ci := 0) inX10_cutCount_RX1 5 (show 5 < 32 by decide) rfl rfl 0 (by decide) (by decide +kernel) rfl dX10_cutCount_9 ?_
  refine cw_iconst (v := 1) dX10_cutCount_12 (by decide) ?_
  refine cw_isub dX10_cutCount_13 ?_
  refine cw_icmp_ge (tgt := 37) dX10_cutCount_14 (by decide) (fun q => ?_) (fun q => ?_)
  · have h := h.1 q
    refine cw_iload_n dX10_cutCount_37 1 rfl rfl ?_
    exact cw_iret rfl dX10_cutCount_38 h
  · have h := h.2 q
    refine cw_aload_n dX10_cutCount_17 0 rfl rfl ?_
    refine cw_getf (C := RX10) (T := TX10) (N := 10) (ci := 8) inX10_cutCount_RX10 0 (show 0 < 32 by decide) rfl rfl 2 (by decide) (by decide +kernel) rfl dX10_cutCount_18 ?_
    refine cw_iload_n dX10_cutCount_21 2 rfl rfl ?_
    obtain ⟨v_22, J_22, hc_22, h⟩ := h
    refine cw_callV (o := 5) (As := [.int x2]) hc_22 okX1_endsPiece rfl gX10_cutCount_X1_endsPiece (by decide) (show 5 < 32 by decide) rfl (ci := 0) rfl rfl (Nat.le_of_ble_eq_true rfl) dX10_cutCount_22 ?_
    refine cw_if_eq (tgt := 31) dX10_cutCount_25 (by decide) (fun q => ?_) (fun q => ?_)
    · have h := h.1 q
      refine cw_iinc (v := x2 + 1) dX10_cutCount_31 (j := 2) rfl rfl (by decide) rfl ?_
      refine cw_goto (tgt := 4) dX10_cutCount_34 (by decide) ?_
      refine cw_sub [1, 2, 0] rfl ?_
      exact h
    · have h := h.2 q
      refine cw_iinc (v := x1 + 1) dX10_cutCount_28 (j := 1) rfl rfl (by decide) rfl ?_
      refine cw_iinc (v := x2 + 1) dX10_cutCount_31 (j := 2) rfl rfl (by decide) rfl ?_
      refine cw_goto (tgt := 4) dX10_cutCount_34 (by decide) ?_
      refine cw_sub [2, 1, 0] rfl ?_
      exact h
set_option maxRecDepth 20000 in
set_option maxHeartbeats 4000000 in
theorem eX10_cutFor_0 {K : cw_K} {r : Option Value} {J0 I : cw_M} {x1 : Int32} (h : (∃ J_2 : cw_M, cw_C (cc_w K) mX10_requireSibling [.ref (cw_a (cc_w K) 0), .int x1] I none J_2 ∧ (∃ (v_10 : Int32) (J_10 : cw_M), cw_C (cc_w K) mX6_cutOf [.ref (cw_a (cc_w K) 20), .int x1] J_2 (some (.int v_10)) J_10 ∧ (r = some (.int v_10) ∧ J0 = J_10)))) : cw_C (cc_w K) mX10_cutFor [.ref (cw_a (cc_w K) 0), .int x1] I r J0 := by
  refine cw_entry okX10_cutFor (Nat.le_of_ble_eq_true rfl) (show cw_B (cc_w K) mX10_cutFor (cw_Z (cc_w K) r J0) 0 0 I 0 [(0, .ref (cw_a (cc_w K) 0)), (1, .int x1)] [] from ?_)
  refine cw_aload_n dX10_cutFor_0 0 rfl rfl ?_
  refine cw_iload_n dX10_cutFor_1 1 rfl rfl ?_
  obtain ⟨J_2, hc_2, h⟩ := h
  refine cw_callV (o := 0) (As := [.int x1]) hc_2 okX10_requireSibling rfl gX10_cutFor_X10_requireSibling (by decide) (show 0 < 32 by decide) rfl (ci := 8) rfl rfl (Nat.le_of_ble_eq_true rfl) dX10_cutFor_2 ?_
  refine cw_aload_n dX10_cutFor_5 0 rfl rfl ?_
  refine cw_getf (C := RX10) (T := TX10) (N := 10) (ci := 8) inX10_cutFor_RX10 0 (show 0 < 32 by decide) rfl rfl 6 (by decide) (by decide +kernel) rfl dX10_cutFor_6 ?_
  refine cw_iload_n dX10_cutFor_9 1 rfl rfl ?_
  obtain ⟨v_10, J_10, hc_10, h⟩ := h
  refine cw_callV (o := 20) (As := [.int x1]) hc_10 okX6_cutOf rfl gX10_cutFor_X6_cutOf (by decide) (show 20 < 32 by decide) rfl (ci := 5) rfl rfl (Nat.le_of_ble_eq_true rfl) dX10_cutFor_10 ?_
  exact cw_iret rfl dX10_cutFor_13 h
set_option maxRecDepth 20000 in
set_option maxHeartbeats 4000000 in
theorem eX10_divideAndChoose_0 {K : cw_K} {r : Option Value} {J0 I : cw_M} {x1 : Int32} {x2 : Int32} (h : (∃ J_2 : cw_M, cw_C (cc_w K) mX10_requireSibling [.ref (cw_a (cc_w K) 0), .int x1] I none J_2 ∧ (∃ J_7 : cw_M, cw_C (cc_w K) mX10_requireSibling [.ref (cw_a (cc_w K) 0), .int x2] J_2 none J_7 ∧ (∃ J_13 : cw_M, cw_C (cc_w K) mX10_requireDifferent [.ref (cw_a (cc_w K) 0), .int x1, .int x2] J_7 none J_13 ∧ (∃ J_24 : cw_M, cw_C (cc_w K) mX4_rememberForUndo [.ref (cw_a (cc_w K) 28), .ref (cw_a (cc_w K) 5)] J_13 none J_24 ∧ (∃ (v_33 : Int32) (J_33 : cw_M), cw_C (cc_w K) mX6_cutAndChoose [.ref (cw_a (cc_w K) 20), .int x1, .int x2] J_24 (some (.int v_33)) J_33 ∧ (r = some (.int v_33) ∧ J0 = J_33))))))) : cw_C (cc_w K) mX10_divideAndChoose [.ref (cw_a (cc_w K) 0), .int x1, .int x2] I r J0 := by
  refine cw_entry okX10_divideAndChoose (Nat.le_of_ble_eq_true rfl) (show cw_B (cc_w K) mX10_divideAndChoose (cw_Z (cc_w K) r J0) 0 0 I 0 [(0, .ref (cw_a (cc_w K) 0)), (1, .int x1), (2, .int x2)] [] from ?_)
  refine cw_aload_n dX10_divideAndChoose_0 0 rfl rfl ?_
  refine cw_iload_n dX10_divideAndChoose_1 1 rfl rfl ?_
  obtain ⟨J_2, hc_2, h⟩ := h
  refine cw_callV (o := 0) (As := [.int x1]) hc_2 okX10_requireSibling rfl gX10_divideAndChoose_X10_requireSibling (by decide) (show 0 < 32 by decide) rfl (ci := 8) rfl rfl (Nat.le_of_ble_eq_true rfl) dX10_divideAndChoose_2 ?_
  refine cw_aload_n dX10_divideAndChoose_5 0 rfl rfl ?_
  refine cw_iload_n dX10_divideAndChoose_6 2 rfl rfl ?_
  obtain ⟨J_7, hc_7, h⟩ := h
  refine cw_callV (o := 0) (As := [.int x2]) hc_7 okX10_requireSibling rfl gX10_divideAndChoose_X10_requireSibling (by decide) (show 0 < 32 by decide) rfl (ci := 8) rfl rfl (Nat.le_of_ble_eq_true rfl) dX10_divideAndChoose_7 ?_
  refine cw_aload_n dX10_divideAndChoose_10 0 rfl rfl ?_
  refine cw_iload_n dX10_divideAndChoose_11 1 rfl rfl ?_
  refine cw_iload_n dX10_divideAndChoose_12 2 rfl rfl ?_
  obtain ⟨J_13, hc_13, h⟩ := h
  refine cw_callV (o := 0) (As := [.int x1, .int x2]) hc_13 okX10_requireDifferent rfl gX10_divideAndChoose_X10_requireDifferent (by decide) (show 0 < 32 by decide) rfl (ci := 8) rfl rfl (Nat.le_of_ble_eq_true rfl) dX10_divideAndChoose_13 ?_
  refine cw_aload_n dX10_divideAndChoose_16 0 rfl rfl ?_
  refine cw_getf (C := RX10) (T := TX10) (N := 10) (ci := 8) inX10_divideAndChoose_RX10 0 (show 0 < 32 by decide) rfl rfl 9 (by decide) (by decide +kernel) rfl dX10_divideAndChoose_17 ?_
  refine cw_aload_n dX10_divideAndChoose_20 0 rfl rfl ?_
  refine cw_getf (C := RX10) (T := TX10) (N := 10) (ci := 8) inX10_divideAndChoose_RX10 0 (show 0 < 32 by decide) rfl rfl 2 (by decide) (by decide +kernel) rfl dX10_divideAndChoose_21 ?_
  obtain ⟨J_24, hc_24, h⟩ := h
  refine cw_callV (o := 28) (As := [.ref (cw_a (cc_w K) 5)]) hc_24 okX4_rememberForUndo rfl gX10_divideAndChoose_X4_rememberForUndo (by decide) (show 28 < 32 by decide) rfl (ci := 3) rfl rfl (Nat.le_of_ble_eq_true rfl) dX10_divideAndChoose_24 ?_
  refine cw_aload_n dX10_divideAndChoose_27 0 rfl rfl ?_
  refine cw_getf (C := RX10) (T := TX10) (N := 10) (ci := 8) inX10_divideAndChoose_RX10 0 (show 0 < 32 by decide) rfl rfl 6 (by decide) (by decide +kernel) rfl dX10_divideAndChoose_28 ?_
  refine cw_iload_n dX10_divideAndChoose_31 1 rfl rfl ?_
  refine cw_iload_n dX10_divideAndChoose_32 2 rfl rfl ?_
  obtain ⟨v_33, J_33, hc_33, h⟩ := h
  refine cw_callV (o := 20) (As := [.int x1, .int x2]) hc_33 okX6_cutAndChoose rfl gX10_divideAndChoose_X6_cutAndChoose (by decide) (show 20 < 32 by decide) rfl (ci := 5) rfl rfl (Nat.le_of_ble_eq_true rfl) dX10_divideAndChoose_33 ?_
  exact cw_iret rfl dX10_divideAndChoose_36 h
set_option maxRecDepth 20000 in
set_option maxHeartbeats 4000000 in
theorem eX10_envies_0 {K : cw_K} {r : Option Value} {J0 I : cw_M} {x1 : Int32} {x2 : Int32} (h : (∃ J_2 : cw_M, cw_C (cc_w K) mX10_requireSibling [.ref (cw_a (cc_w K) 0), .int x1] I none J_2 ∧ (∃ J_7 : cw_M, cw_C (cc_w K) mX10_requireSibling [.ref (cw_a (cc_w K) 0), .int x2] J_2 none J_7 ∧ (∃ (v_16 : Int32) (J_16 : cw_M), cw_C (cc_w K) mX3_hasEnvy [.ref (cw_a (cc_w K) 16), .int x1, .int x2] J_7 (some (.int v_16)) J_16 ∧ ((v_16 = 0 ∨ v_16 = 1) ∧ (r = some (.int v_16) ∧ J0 = J_16)))))) : cw_C (cc_w K) mX10_envies [.ref (cw_a (cc_w K) 0), .int x1, .int x2] I r J0 := by
  refine cw_entry okX10_envies (Nat.le_of_ble_eq_true rfl) (show cw_B (cc_w K) mX10_envies (cw_Z (cc_w K) r J0) 0 0 I 0 [(0, .ref (cw_a (cc_w K) 0)), (1, .int x1), (2, .int x2)] [] from ?_)
  refine cw_aload_n dX10_envies_0 0 rfl rfl ?_
  refine cw_iload_n dX10_envies_1 1 rfl rfl ?_
  obtain ⟨J_2, hc_2, h⟩ := h
  refine cw_callV (o := 0) (As := [.int x1]) hc_2 okX10_requireSibling rfl gX10_envies_X10_requireSibling (by decide) (show 0 < 32 by decide) rfl (ci := 8) rfl rfl (Nat.le_of_ble_eq_true rfl) dX10_envies_2 ?_
  refine cw_aload_n dX10_envies_5 0 rfl rfl ?_
  refine cw_iload_n dX10_envies_6 2 rfl rfl ?_
  obtain ⟨J_7, hc_7, h⟩ := h
  refine cw_callV (o := 0) (As := [.int x2]) hc_7 okX10_requireSibling rfl gX10_envies_X10_requireSibling (by decide) (show 0 < 32 by decide) rfl (ci := 8) rfl rfl (Nat.le_of_ble_eq_true rfl) dX10_envies_7 ?_
  refine cw_aload_n dX10_envies_10 0 rfl rfl ?_
  refine cw_getf (C := RX10) (T := TX10) (N := 10) (ci := 8) inX10_envies_RX10 0 (show 0 < 32 by decide) rfl rfl 5 (by decide) (by decide +kernel) rfl dX10_envies_11 ?_
  refine cw_iload_n dX10_envies_14 1 rfl rfl ?_
  refine cw_iload_n dX10_envies_15 2 rfl rfl ?_
  obtain ⟨v_16, J_16, hc_16, h⟩ := h
  refine cw_callV (o := 16) (As := [.int x1, .int x2]) hc_16 okX3_hasEnvy rfl gX10_envies_X3_hasEnvy (by decide) (show 16 < 32 by decide) rfl (ci := 2) rfl rfl (Nat.le_of_ble_eq_true rfl) dX10_envies_16 ?_
  exact cw_bret rfl dX10_envies_19 h.1 h.2
set_option maxRecDepth 20000 in
set_option maxHeartbeats 4000000 in
theorem eX10_envyCount_0 {K : cw_K} {r : Option Value} {J0 I : cw_M} (h : (∃ (v_4 : Int32) (J_4 : cw_M), cw_C (cc_w K) mX3_countEnvies [.ref (cw_a (cc_w K) 16)] I (some (.int v_4)) J_4 ∧ (r = some (.int v_4) ∧ J0 = J_4))) : cw_C (cc_w K) mX10_envyCount [.ref (cw_a (cc_w K) 0)] I r J0 := by
  refine cw_entry okX10_envyCount (Nat.le_of_ble_eq_true rfl) (show cw_B (cc_w K) mX10_envyCount (cw_Z (cc_w K) r J0) 0 0 I 0 [(0, .ref (cw_a (cc_w K) 0))] [] from ?_)
  refine cw_aload_n dX10_envyCount_0 0 rfl rfl ?_
  refine cw_getf (C := RX10) (T := TX10) (N := 10) (ci := 8) inX10_envyCount_RX10 0 (show 0 < 32 by decide) rfl rfl 5 (by decide) (by decide +kernel) rfl dX10_envyCount_1 ?_
  obtain ⟨v_4, J_4, hc_4, h⟩ := h
  refine cw_callV (o := 16) (As := []) hc_4 okX3_countEnvies rfl gX10_envyCount_X3_countEnvies (by decide) (show 16 < 32 by decide) rfl (ci := 2) rfl rfl (Nat.le_of_ble_eq_true rfl) dX10_envyCount_4 ?_
  exact cw_iret rfl dX10_envyCount_7 h
set_option maxRecDepth 20000 in
set_option maxHeartbeats 4000000 in
theorem eX10_envyCycleLength_0 {K : cw_K} {r : Option Value} {J0 I : cw_M} {x1 : Int32} (h : (∃ J_2 : cw_M, cw_C (cc_w K) mX10_requireSibling [.ref (cw_a (cc_w K) 0), .int x1] I none J_2 ∧ (∃ (v_10 : Int32) (J_10 : cw_M), cw_C (cc_w K) mX3_findCycle [.ref (cw_a (cc_w K) 16), .int x1] J_2 (some (.int v_10)) J_10 ∧ (r = some (.int v_10) ∧ J0 = J_10)))) : cw_C (cc_w K) mX10_envyCycleLength [.ref (cw_a (cc_w K) 0), .int x1] I r J0 := by
  refine cw_entry okX10_envyCycleLength (Nat.le_of_ble_eq_true rfl) (show cw_B (cc_w K) mX10_envyCycleLength (cw_Z (cc_w K) r J0) 0 0 I 0 [(0, .ref (cw_a (cc_w K) 0)), (1, .int x1)] [] from ?_)
  refine cw_aload_n dX10_envyCycleLength_0 0 rfl rfl ?_
  refine cw_iload_n dX10_envyCycleLength_1 1 rfl rfl ?_
  obtain ⟨J_2, hc_2, h⟩ := h
  refine cw_callV (o := 0) (As := [.int x1]) hc_2 okX10_requireSibling rfl gX10_envyCycleLength_X10_requireSibling (by decide) (show 0 < 32 by decide) rfl (ci := 8) rfl rfl (Nat.le_of_ble_eq_true rfl) dX10_envyCycleLength_2 ?_
  refine cw_aload_n dX10_envyCycleLength_5 0 rfl rfl ?_
  refine cw_getf (C := RX10) (T := TX10) (N := 10) (ci := 8) inX10_envyCycleLength_RX10 0 (show 0 < 32 by decide) rfl rfl 5 (by decide) (by decide +kernel) rfl dX10_envyCycleLength_6 ?_
  refine cw_iload_n dX10_envyCycleLength_9 1 rfl rfl ?_
  obtain ⟨v_10, J_10, hc_10, h⟩ := h
  refine cw_callV (o := 16) (As := [.int x1]) hc_10 okX3_findCycle rfl gX10_envyCycleLength_X3_findCycle (by decide) (show 16 < 32 by decide) rfl (ci := 2) rfl rfl (Nat.le_of_ble_eq_true rfl) dX10_envyCycleLength_10 ?_
  exact cw_iret rfl dX10_envyCycleLength_13 h
set_option maxRecDepth 20000 in
set_option maxHeartbeats 4000000 in
theorem eX10_errorCode_0 {K : cw_K} {r : Option Value} {J0 I : cw_M} (h : (r = some (.int (I 15 0)) ∧ J0 = I)) : cw_C (cc_w K) mX10_errorCode [.ref (cw_a (cc_w K) 0)] I r J0 := by
  refine cw_entry okX10_errorCode (Nat.le_of_ble_eq_true rfl) (show cw_B (cc_w K) mX10_errorCode (cw_Z (cc_w K) r J0) 0 0 I 0 [(0, .ref (cw_a (cc_w K) 0))] [] from ?_)
  refine cw_aload_n dX10_errorCode_0 0 rfl rfl ?_
  refine cw_getf (C := RX10) (T := TX10) (N := 10) (ci := 8) inX10_errorCode_RX10 0 (show 0 < 32 by decide) rfl rfl 4 (by decide) (by decide +kernel) rfl dX10_errorCode_1 ?_
  refine cw_getf (C := RX5) (T := TX5) (N := 7) (ci := 4) inX10_errorCode_RX5 15 (show 15 < 32 by decide) rfl rfl 0 (by decide) (by decide +kernel) rfl dX10_errorCode_4 ?_
  exact cw_iret rfl dX10_errorCode_7 h
set_option maxRecDepth 20000 in
set_option maxHeartbeats 4000000 in
theorem eX10_errorPosition_0 {K : cw_K} {r : Option Value} {J0 I : cw_M} (h : (r = some (.int (I 15 1)) ∧ J0 = I)) : cw_C (cc_w K) mX10_errorPosition [.ref (cw_a (cc_w K) 0)] I r J0 := by
  refine cw_entry okX10_errorPosition (Nat.le_of_ble_eq_true rfl) (show cw_B (cc_w K) mX10_errorPosition (cw_Z (cc_w K) r J0) 0 0 I 0 [(0, .ref (cw_a (cc_w K) 0))] [] from ?_)
  refine cw_aload_n dX10_errorPosition_0 0 rfl rfl ?_
  refine cw_getf (C := RX10) (T := TX10) (N := 10) (ci := 8) inX10_errorPosition_RX10 0 (show 0 < 32 by decide) rfl rfl 4 (by decide) (by decide +kernel) rfl dX10_errorPosition_1 ?_
  refine cw_getf (C := RX5) (T := TX5) (N := 7) (ci := 4) inX10_errorPosition_RX5 15 (show 15 < 32 by decide) rfl rfl 1 (by decide) (by decide +kernel) rfl dX10_errorPosition_4 ?_
  exact cw_iret rfl dX10_errorPosition_7 h
set_option maxRecDepth 20000 in
set_option maxHeartbeats 4000000 in
theorem eX10_favouriteFreeCell_0 {K : cw_K} {r : Option Value} {J0 I : cw_M} {x1 : Int32} (h : (∃ J_2 : cw_M, cw_C (cc_w K) mX10_requireSibling [.ref (cw_a (cc_w K) 0), .int x1] I none J_2 ∧ (∃ (v_17 : Int32) (J_17 : cw_M), cw_C (cc_w K) mX6_favouriteOf [.ref (cw_a (cc_w K) 20), .ref (cw_a (cc_w K) 9), .int x1] J_2 (some (.int v_17)) J_17 ∧ (r = some (.int v_17) ∧ J0 = J_17)))) : cw_C (cc_w K) mX10_favouriteFreeCell [.ref (cw_a (cc_w K) 0), .int x1] I r J0 := by
  refine cw_entry okX10_favouriteFreeCell (Nat.le_of_ble_eq_true rfl) (show cw_B (cc_w K) mX10_favouriteFreeCell (cw_Z (cc_w K) r J0) 0 0 I 0 [(0, .ref (cw_a (cc_w K) 0)), (1, .int x1)] [] from ?_)
  refine cw_aload_n dX10_favouriteFreeCell_0 0 rfl rfl ?_
  refine cw_iload_n dX10_favouriteFreeCell_1 1 rfl rfl ?_
  obtain ⟨J_2, hc_2, h⟩ := h
  refine cw_callV (o := 0) (As := [.int x1]) hc_2 okX10_requireSibling rfl gX10_favouriteFreeCell_X10_requireSibling (by decide) (show 0 < 32 by decide) rfl (ci := 8) rfl rfl (Nat.le_of_ble_eq_true rfl) dX10_favouriteFreeCell_2 ?_
  refine cw_aload_n dX10_favouriteFreeCell_5 0 rfl rfl ?_
  refine cw_getf (C := RX10) (T := TX10) (N := 10) (ci := 8) inX10_favouriteFreeCell_RX10 0 (show 0 < 32 by decide) rfl rfl 6 (by decide) (by decide +kernel) rfl dX10_favouriteFreeCell_6 ?_
  refine cw_aload_n dX10_favouriteFreeCell_9 0 rfl rfl ?_
  refine cw_getf (C := RX10) (T := TX10) (N := 10) (ci := 8) inX10_favouriteFreeCell_RX10 0 (show 0 < 32 by decide) rfl rfl 2 (by decide) (by decide +kernel) rfl dX10_favouriteFreeCell_10 ?_
  refine cw_getf (C := RX1) (T := TX1) (N := 6) (ci := 0) inX10_favouriteFreeCell_RX1 5 (show 5 < 32 by decide) rfl rfl 5 (by decide) (by decide +kernel) rfl dX10_favouriteFreeCell_13 ?_
  refine cw_iload_n dX10_favouriteFreeCell_16 1 rfl rfl ?_
  obtain ⟨v_17, J_17, hc_17, h⟩ := h
  refine cw_callV (o := 20) (As := [.ref (cw_a (cc_w K) 9), .int x1]) hc_17 okX6_favouriteOf rfl gX10_favouriteFreeCell_X6_favouriteOf (by decide) (show 20 < 32 by decide) rfl (ci := 5) rfl rfl (Nat.le_of_ble_eq_true rfl) dX10_favouriteFreeCell_17 ?_
  exact cw_iret rfl dX10_favouriteFreeCell_20 h
set_option maxRecDepth 20000 in
set_option maxHeartbeats 4000000 in
theorem eX10_freeCount_0 {K : cw_K} {r : Option Value} {J0 I : cw_M} (h : (∃ (v_5 : Int32) (J_5 : cw_M), cw_C (cc_w K) mX1_countOwned [.ref (cw_a (cc_w K) 5), .int (-1)] I (some (.int v_5)) J_5 ∧ (r = some (.int v_5) ∧ J0 = J_5))) : cw_C (cc_w K) mX10_freeCount [.ref (cw_a (cc_w K) 0)] I r J0 := by
  refine cw_entry okX10_freeCount (Nat.le_of_ble_eq_true rfl) (show cw_B (cc_w K) mX10_freeCount (cw_Z (cc_w K) r J0) 0 0 I 0 [(0, .ref (cw_a (cc_w K) 0))] [] from ?_)
  refine cw_aload_n dX10_freeCount_0 0 rfl rfl ?_
  refine cw_getf (C := RX10) (T := TX10) (N := 10) (ci := 8) inX10_freeCount_RX10 0 (show 0 < 32 by decide) rfl rfl 2 (by decide) (by decide +kernel) rfl dX10_freeCount_1 ?_
  refine cw_iconst (v := (-1)) dX10_freeCount_4 (by decide) ?_
  obtain ⟨v_5, J_5, hc_5, h⟩ := h
  refine cw_callV (o := 5) (As := [.int (-1)]) hc_5 okX1_countOwned rfl gX10_freeCount_X1_countOwned (by decide) (show 5 < 32 by decide) rfl (ci := 0) rfl rfl (Nat.le_of_ble_eq_true rfl) dX10_freeCount_5 ?_
  exact cw_iret rfl dX10_freeCount_8 h
set_option maxRecDepth 20000 in
set_option maxHeartbeats 4000000 in
theorem eX10_give_0 {K : cw_K} {r : Option Value} {J0 I : cw_M} {x1 : Int32} {x2 : Int32} {x3 : Int32} (h : (∃ J_2 : cw_M, cw_C (cc_w K) mX10_requireSibling [.ref (cw_a (cc_w K) 0), .int x1] I none J_2 ∧ (∃ J_8 : cw_M, cw_C (cc_w K) mX10_requireRun [.ref (cw_a (cc_w K) 0), .int x2, .int x3] J_2 none J_8 ∧ (∃ J_19 : cw_M, cw_C (cc_w K) mX4_rememberForUndo [.ref (cw_a (cc_w K) 28), .ref (cw_a (cc_w K) 5)] J_8 none J_19 ∧ (∃ J_38 : cw_M, cw_C (cc_w K) mX1_assign [.ref (cw_a (cc_w K) 5), .ref (cw_a (cc_w K) 9), .int x1, .int x2, .int (x3 + 1)] J_19 none J_38 ∧ (∃ (v_46 : Int32) (J_46 : cw_M), cw_C (cc_w K) mX1_welfareOf [.ref (cw_a (cc_w K) 5), .int x1] J_38 (some (.int v_46)) J_46 ∧ (r = some (.int v_46) ∧ J0 = J_46))))))) : cw_C (cc_w K) mX10_give [.ref (cw_a (cc_w K) 0), .int x1, .int x2, .int x3] I r J0 := by
  refine cw_entry okX10_give (Nat.le_of_ble_eq_true rfl) (show cw_B (cc_w K) mX10_give (cw_Z (cc_w K) r J0) 0 0 I 0 [(0, .ref (cw_a (cc_w K) 0)), (1, .int x1), (2, .int x2), (3, .int x3)] [] from ?_)
  refine cw_aload_n dX10_give_0 0 rfl rfl ?_
  refine cw_iload_n dX10_give_1 1 rfl rfl ?_
  obtain ⟨J_2, hc_2, h⟩ := h
  refine cw_callV (o := 0) (As := [.int x1]) hc_2 okX10_requireSibling rfl gX10_give_X10_requireSibling (by decide) (show 0 < 32 by decide) rfl (ci := 8) rfl rfl (Nat.le_of_ble_eq_true rfl) dX10_give_2 ?_
  refine cw_aload_n dX10_give_5 0 rfl rfl ?_
  refine cw_iload_n dX10_give_6 2 rfl rfl ?_
  refine cw_iload_n dX10_give_7 3 rfl rfl ?_
  obtain ⟨J_8, hc_8, h⟩ := h
  refine cw_callV (o := 0) (As := [.int x2, .int x3]) hc_8 okX10_requireRun rfl gX10_give_X10_requireRun (by decide) (show 0 < 32 by decide) rfl (ci := 8) rfl rfl (Nat.le_of_ble_eq_true rfl) dX10_give_8 ?_
  refine cw_aload_n dX10_give_11 0 rfl rfl ?_
  refine cw_getf (C := RX10) (T := TX10) (N := 10) (ci := 8) inX10_give_RX10 0 (show 0 < 32 by decide) rfl rfl 9 (by decide) (by decide +kernel) rfl dX10_give_12 ?_
  refine cw_aload_n dX10_give_15 0 rfl rfl ?_
  refine cw_getf (C := RX10) (T := TX10) (N := 10) (ci := 8) inX10_give_RX10 0 (show 0 < 32 by decide) rfl rfl 2 (by decide) (by decide +kernel) rfl dX10_give_16 ?_
  obtain ⟨J_19, hc_19, h⟩ := h
  refine cw_callV (o := 28) (As := [.ref (cw_a (cc_w K) 5)]) hc_19 okX4_rememberForUndo rfl gX10_give_X4_rememberForUndo (by decide) (show 28 < 32 by decide) rfl (ci := 3) rfl rfl (Nat.le_of_ble_eq_true rfl) dX10_give_19 ?_
  refine cw_aload_n dX10_give_22 0 rfl rfl ?_
  refine cw_getf (C := RX10) (T := TX10) (N := 10) (ci := 8) inX10_give_RX10 0 (show 0 < 32 by decide) rfl rfl 2 (by decide) (by decide +kernel) rfl dX10_give_23 ?_
  refine cw_aload_n dX10_give_26 0 rfl rfl ?_
  refine cw_getf (C := RX10) (T := TX10) (N := 10) (ci := 8) inX10_give_RX10 0 (show 0 < 32 by decide) rfl rfl 2 (by decide) (by decide +kernel) rfl dX10_give_27 ?_
  refine cw_getf (C := RX1) (T := TX1) (N := 6) (ci := 0) inX10_give_RX1 5 (show 5 < 32 by decide) rfl rfl 5 (by decide) (by decide +kernel) rfl dX10_give_30 ?_
  refine cw_iload_n dX10_give_33 1 rfl rfl ?_
  refine cw_iload_n dX10_give_34 2 rfl rfl ?_
  refine cw_iload_n dX10_give_35 3 rfl rfl ?_
  refine cw_iconst (v := 1) dX10_give_36 (by decide) ?_
  refine cw_iadd dX10_give_37 ?_
  obtain ⟨J_38, hc_38, h⟩ := h
  refine cw_callV (o := 5) (As := [.ref (cw_a (cc_w K) 9), .int x1, .int x2, .int (x3 + 1)]) hc_38 okX1_assign rfl gX10_give_X1_assign (by decide) (show 5 < 32 by decide) rfl (ci := 0) rfl rfl (Nat.le_of_ble_eq_true rfl) dX10_give_38 ?_
  refine cw_aload_n dX10_give_41 0 rfl rfl ?_
  refine cw_getf (C := RX10) (T := TX10) (N := 10) (ci := 8) inX10_give_RX10 0 (show 0 < 32 by decide) rfl rfl 2 (by decide) (by decide +kernel) rfl dX10_give_42 ?_
  refine cw_iload_n dX10_give_45 1 rfl rfl ?_
  obtain ⟨v_46, J_46, hc_46, h⟩ := h
  refine cw_callV (o := 5) (As := [.int x1]) hc_46 okX1_welfareOf rfl gX10_give_X1_welfareOf (by decide) (show 5 < 32 by decide) rfl (ci := 0) rfl rfl (Nat.le_of_ble_eq_true rfl) dX10_give_46 ?_
  exact cw_iret rfl dX10_give_49 h
set_option maxRecDepth 20000 in
set_option maxHeartbeats 4000000 in
theorem eX10_greatestContiguousWelfare_0 {K : cw_K} {r : Option Value} {J0 I : cw_M} (h : (∃ (v_4 : Int32) (J_4 : cw_M), cw_C (cc_w K) mX2_findGreatestSum [.ref (cw_a (cc_w K) 22)] I (some (.int v_4)) J_4 ∧ (r = some (.int v_4) ∧ J0 = J_4))) : cw_C (cc_w K) mX10_greatestContiguousWelfare [.ref (cw_a (cc_w K) 0)] I r J0 := by
  refine cw_entry okX10_greatestContiguousWelfare (Nat.le_of_ble_eq_true rfl) (show cw_B (cc_w K) mX10_greatestContiguousWelfare (cw_Z (cc_w K) r J0) 0 0 I 0 [(0, .ref (cw_a (cc_w K) 0))] [] from ?_)
  refine cw_aload_n dX10_greatestContiguousWelfare_0 0 rfl rfl ?_
  refine cw_getf (C := RX10) (T := TX10) (N := 10) (ci := 8) inX10_greatestContiguousWelfare_RX10 0 (show 0 < 32 by decide) rfl rfl 7 (by decide) (by decide +kernel) rfl dX10_greatestContiguousWelfare_1 ?_
  obtain ⟨v_4, J_4, hc_4, h⟩ := h
  refine cw_callV (o := 22) (As := []) hc_4 okX2_findGreatestSum rfl gX10_greatestContiguousWelfare_X2_findGreatestSum (by decide) (show 22 < 32 by decide) rfl (ci := 1) rfl rfl (Nat.le_of_ble_eq_true rfl) dX10_greatestContiguousWelfare_4 ?_
  exact cw_iret rfl dX10_greatestContiguousWelfare_7 h
abbrev bX10_greatestTotalWelfare_0_4 (K : cw_K) (r : Option Value) (J0 : cw_M) (x1 : Int32) (x2 : Int32) (I : cw_M) : Prop := cw_B (cc_w K) mX10_greatestTotalWelfare (cw_Z (cc_w K) r J0) 0 0 I 4 [(0, .ref (cw_a (cc_w K) 0)), (1, .int x1), (2, .int x2)] []
set_option maxRecDepth 20000 in
set_option maxHeartbeats 4000000 in
theorem eX10_greatestTotalWelfare_0 {K : cw_K} {r : Option Value} {J0 I : cw_M} (h : bX10_greatestTotalWelfare_0_4 K r J0 0 0 I) : cw_C (cc_w K) mX10_greatestTotalWelfare [.ref (cw_a (cc_w K) 0)] I r J0 := by
  refine cw_entry okX10_greatestTotalWelfare (Nat.le_of_ble_eq_true rfl) (show cw_B (cc_w K) mX10_greatestTotalWelfare (cw_Z (cc_w K) r J0) 0 0 I 0 [(0, .ref (cw_a (cc_w K) 0))] [] from ?_)
  refine cw_iconst (v := 0) dX10_greatestTotalWelfare_0 (by decide) ?_
  refine cw_istore_n dX10_greatestTotalWelfare_1 rfl (by decide) rfl ?_
  refine cw_iconst (v := 0) dX10_greatestTotalWelfare_2 (by decide) ?_
  refine cw_istore_n dX10_greatestTotalWelfare_3 rfl (by decide) rfl ?_
  refine cw_sub [2, 1, 0] rfl ?_
  exact h
set_option maxRecDepth 20000 in
set_option maxHeartbeats 4000000 in
theorem tbX10_greatestTotalWelfare_0_4 {K : cw_K} {r : Option Value} {J0 I : cw_M} {x1 : Int32} {x2 : Int32} (h : (((I 5 0) ≤ x2 → (r = some (.int x1) ∧ J0 = I)) ∧ (¬ (I 5 0) ≤ x2 → (∃ (v_21 : Int32) (J_21 : cw_M), cw_C (cc_w K) mX1_greatestValueOf [.ref (cw_a (cc_w K) 5), .int x2] I (some (.int v_21)) J_21 ∧ bX10_greatestTotalWelfare_0_4 K r J0 (x1 + v_21) (x2 + 1) J_21)))) : bX10_greatestTotalWelfare_0_4 K r J0 x1 x2 I := by
  refine cw_iload_n dX10_greatestTotalWelfare_4 2 rfl rfl ?_
  refine cw_aload_n dX10_greatestTotalWelfare_5 0 rfl rfl ?_
  refine cw_getf (C := RX10) (T := TX10) (N := 10) (ci := 8) inX10_greatestTotalWelfare_RX10 0 (show 0 < 32 by decide) rfl rfl 2 (by decide) (by decide +kernel) rfl dX10_greatestTotalWelfare_6 ?_
  refine cw_getf (C := RX1) (T := TX1) (N := 6) (ci := 0) inX10_greatestTotalWelfare_RX1 5 (show 5 < 32 by decide) rfl rfl 0 (by decide) (by decide +kernel) rfl dX10_greatestTotalWelfare_9 ?_
  refine cw_icmp_ge (tgt := 32) dX10_greatestTotalWelfare_12 (by decide) (fun q => ?_) (fun q => ?_)
  · have h := h.1 q
    refine cw_iload_n dX10_greatestTotalWelfare_32 1 rfl rfl ?_
    exact cw_iret rfl dX10_greatestTotalWelfare_33 h
  · have h := h.2 q
    refine cw_iload_n dX10_greatestTotalWelfare_15 1 rfl rfl ?_
    refine cw_aload_n dX10_greatestTotalWelfare_16 0 rfl rfl ?_
    refine cw_getf (C := RX10) (T := TX10) (N := 10) (ci := 8) inX10_greatestTotalWelfare_RX10 0 (show 0 < 32 by decide) rfl rfl 2 (by decide) (by decide +kernel) rfl dX10_greatestTotalWelfare_17 ?_
    refine cw_iload_n dX10_greatestTotalWelfare_20 2 rfl rfl ?_
    obtain ⟨v_21, J_21, hc_21, h⟩ := h
    refine cw_callV (o := 5) (As := [.int x2]) hc_21 okX1_greatestValueOf rfl gX10_greatestTotalWelfare_X1_greatestValueOf (by decide) (show 5 < 32 by decide) rfl (ci := 0) rfl rfl (Nat.le_of_ble_eq_true rfl) dX10_greatestTotalWelfare_21 ?_
    refine cw_iadd dX10_greatestTotalWelfare_24 ?_
    refine cw_istore_n dX10_greatestTotalWelfare_25 rfl (by decide) rfl ?_
    refine cw_iinc (v := x2 + 1) dX10_greatestTotalWelfare_26 (j := 2) rfl rfl (by decide) rfl ?_
    refine cw_goto (tgt := 4) dX10_greatestTotalWelfare_29 (by decide) ?_
    refine cw_sub [2, 1, 0] rfl ?_
    exact h
abbrev bX10_inconsistencies_0_19 (K : cw_K) (r : Option Value) (J0 : cw_M) (x1 : Int32) (x2 : Int32) (I : cw_M) : Prop := cw_B (cc_w K) mX10_inconsistencies (cw_Z (cc_w K) r J0) 0 0 I 19 [(0, .ref (cw_a (cc_w K) 0)), (1, .int x1), (2, .int x2)] []
set_option maxRecDepth 20000 in
set_option maxHeartbeats 4000000 in
theorem eX10_inconsistencies_0 {K : cw_K} {r : Option Value} {J0 I : cw_M} (h : (∃ (v_12 : Int32) (J_12 : cw_M), cw_C (cc_w K) mX1_countOwned [.ref (cw_a (cc_w K) 5), .int (-1)] I (some (.int v_12)) J_12 ∧ bX10_inconsistencies_0_19 K r J0 ((I 5 0) - v_12) 0 J_12)) : cw_C (cc_w K) mX10_inconsistencies [.ref (cw_a (cc_w K) 0)] I r J0 := by
  refine cw_entry okX10_inconsistencies (Nat.le_of_ble_eq_true rfl) (show cw_B (cc_w K) mX10_inconsistencies (cw_Z (cc_w K) r J0) 0 0 I 0 [(0, .ref (cw_a (cc_w K) 0))] [] from ?_)
  refine cw_aload_n dX10_inconsistencies_0 0 rfl rfl ?_
  refine cw_getf (C := RX10) (T := TX10) (N := 10) (ci := 8) inX10_inconsistencies_RX10 0 (show 0 < 32 by decide) rfl rfl 2 (by decide) (by decide +kernel) rfl dX10_inconsistencies_1 ?_
  refine cw_getf (C := RX1) (T := TX1) (N := 6) (ci := 0) inX10_inconsistencies_RX1 5 (show 5 < 32 by decide) rfl rfl 0 (by decide) (by decide +kernel) rfl dX10_inconsistencies_4 ?_
  refine cw_aload_n dX10_inconsistencies_7 0 rfl rfl ?_
  refine cw_getf (C := RX10) (T := TX10) (N := 10) (ci := 8) inX10_inconsistencies_RX10 0 (show 0 < 32 by decide) rfl rfl 2 (by decide) (by decide +kernel) rfl dX10_inconsistencies_8 ?_
  refine cw_iconst (v := (-1)) dX10_inconsistencies_11 (by decide) ?_
  obtain ⟨v_12, J_12, hc_12, h⟩ := h
  refine cw_callV (o := 5) (As := [.int (-1)]) hc_12 okX1_countOwned rfl gX10_inconsistencies_X1_countOwned (by decide) (show 5 < 32 by decide) rfl (ci := 0) rfl rfl (Nat.le_of_ble_eq_true rfl) dX10_inconsistencies_12 ?_
  refine cw_isub dX10_inconsistencies_15 ?_
  refine cw_istore_n dX10_inconsistencies_16 rfl (by decide) rfl ?_
  refine cw_iconst (v := 0) dX10_inconsistencies_17 (by decide) ?_
  refine cw_istore_n dX10_inconsistencies_18 rfl (by decide) rfl ?_
  refine cw_sub [2, 1, 0] rfl ?_
  exact h
set_option maxRecDepth 20000 in
set_option maxHeartbeats 4000000 in
theorem tbX10_inconsistencies_0_19 {K : cw_K} {r : Option Value} {J0 I : cw_M} {x1 : Int32} {x2 : Int32} (h : (((I 5 1) ≤ x2 → (r = some (.int x1) ∧ J0 = I)) ∧ (¬ (I 5 1) ≤ x2 → (∃ (v_36 : Int32) (J_36 : cw_M), cw_C (cc_w K) mX1_countOwned [.ref (cw_a (cc_w K) 5), .int x2] I (some (.int v_36)) J_36 ∧ (∃ (v_47 : Int32) (J_47 : cw_M), cw_C (cc_w K) mX3_hasEnvy [.ref (cw_a (cc_w K) 16), .int x2, .int x2] J_36 (some (.int v_47)) J_47 ∧ ((v_47 = 0 → bX10_inconsistencies_0_19 K r J0 (x1 - v_36) (x2 + 1) J_47) ∧ (¬ v_47 = 0 → bX10_inconsistencies_0_19 K r J0 ((x1 - v_36) + 1) (x2 + 1) J_47))))))) : bX10_inconsistencies_0_19 K r J0 x1 x2 I := by
  refine cw_iload_n dX10_inconsistencies_19 2 rfl rfl ?_
  refine cw_aload_n dX10_inconsistencies_20 0 rfl rfl ?_
  refine cw_getf (C := RX10) (T := TX10) (N := 10) (ci := 8) inX10_inconsistencies_RX10 0 (show 0 < 32 by decide) rfl rfl 2 (by decide) (by decide +kernel) rfl dX10_inconsistencies_21 ?_
  refine cw_getf (C := RX1) (T := TX1) (N := 6) (ci := 0) inX10_inconsistencies_RX1 5 (show 5 < 32 by decide) rfl rfl 1 (by decide) (by decide +kernel) rfl dX10_inconsistencies_24 ?_
  refine cw_icmp_ge (tgt := 62) dX10_inconsistencies_27 (by decide) (fun q => ?_) (fun q => ?_)
  · have h := h.1 q
    refine cw_iload_n dX10_inconsistencies_62 1 rfl rfl ?_
    exact cw_iret rfl dX10_inconsistencies_63 h
  · have h := h.2 q
    refine cw_iload_n dX10_inconsistencies_30 1 rfl rfl ?_
    refine cw_aload_n dX10_inconsistencies_31 0 rfl rfl ?_
    refine cw_getf (C := RX10) (T := TX10) (N := 10) (ci := 8) inX10_inconsistencies_RX10 0 (show 0 < 32 by decide) rfl rfl 2 (by decide) (by decide +kernel) rfl dX10_inconsistencies_32 ?_
    refine cw_iload_n dX10_inconsistencies_35 2 rfl rfl ?_
    obtain ⟨v_36, J_36, hc_36, h⟩ := h
    refine cw_callV (o := 5) (As := [.int x2]) hc_36 okX1_countOwned rfl gX10_inconsistencies_X1_countOwned (by decide) (show 5 < 32 by decide) rfl (ci := 0) rfl rfl (Nat.le_of_ble_eq_true rfl) dX10_inconsistencies_36 ?_
    refine cw_isub dX10_inconsistencies_39 ?_
    refine cw_istore_n dX10_inconsistencies_40 rfl (by decide) rfl ?_
    refine cw_aload_n dX10_inconsistencies_41 1 rfl rfl ?_
    refine cw_getf (C := RX10) (T := TX10) (N := 10) (ci := 8) inX10_inconsistencies_RX10 0 (show 0 < 32 by decide) rfl rfl 5 (by decide) (by decide +kernel) rfl dX10_inconsistencies_42 ?_
    refine cw_iload_n dX10_inconsistencies_45 2 rfl rfl ?_
    refine cw_iload_n dX10_inconsistencies_46 2 rfl rfl ?_
    obtain ⟨v_47, J_47, hc_47, h⟩ := h
    refine cw_callV (o := 16) (As := [.int x2, .int x2]) hc_47 okX3_hasEnvy rfl gX10_inconsistencies_X3_hasEnvy (by decide) (show 16 < 32 by decide) rfl (ci := 2) rfl rfl (Nat.le_of_ble_eq_true rfl) dX10_inconsistencies_47 ?_
    refine cw_if_eq (tgt := 56) dX10_inconsistencies_50 (by decide) (fun q => ?_) (fun q => ?_)
    · have h := h.1 q
      refine cw_iinc (v := x2 + 1) dX10_inconsistencies_56 (j := 2) rfl rfl (by decide) rfl ?_
      refine cw_goto (tgt := 19) dX10_inconsistencies_59 (by decide) ?_
      refine cw_sub [2, 1, 0] rfl ?_
      exact h
    · have h := h.2 q
      refine cw_iinc (v := (x1 - v_36) + 1) dX10_inconsistencies_53 (j := 0) rfl rfl (by decide) rfl ?_
      refine cw_iinc (v := x2 + 1) dX10_inconsistencies_56 (j := 2) rfl rfl (by decide) rfl ?_
      refine cw_goto (tgt := 19) dX10_inconsistencies_59 (by decide) ?_
      refine cw_sub [2, 1, 0] rfl ?_
      exact h
set_option maxRecDepth 20000 in
set_option maxHeartbeats 4000000 in
theorem eX10_isSatisfied_0 {K : cw_K} {r : Option Value} {J0 I : cw_M} {x1 : Int32} (h : (∃ J_2 : cw_M, cw_C (cc_w K) mX10_requireSibling [.ref (cw_a (cc_w K) 0), .int x1] I none J_2 ∧ (∃ (v_10 : Int32) (J_10 : cw_M), cw_C (cc_w K) mX3_hasFairShare [.ref (cw_a (cc_w K) 16), .int x1] J_2 (some (.int v_10)) J_10 ∧ ((v_10 = 0 ∨ v_10 = 1) ∧ (r = some (.int v_10) ∧ J0 = J_10))))) : cw_C (cc_w K) mX10_isSatisfied [.ref (cw_a (cc_w K) 0), .int x1] I r J0 := by
  refine cw_entry okX10_isSatisfied (Nat.le_of_ble_eq_true rfl) (show cw_B (cc_w K) mX10_isSatisfied (cw_Z (cc_w K) r J0) 0 0 I 0 [(0, .ref (cw_a (cc_w K) 0)), (1, .int x1)] [] from ?_)
  refine cw_aload_n dX10_isSatisfied_0 0 rfl rfl ?_
  refine cw_iload_n dX10_isSatisfied_1 1 rfl rfl ?_
  obtain ⟨J_2, hc_2, h⟩ := h
  refine cw_callV (o := 0) (As := [.int x1]) hc_2 okX10_requireSibling rfl gX10_isSatisfied_X10_requireSibling (by decide) (show 0 < 32 by decide) rfl (ci := 8) rfl rfl (Nat.le_of_ble_eq_true rfl) dX10_isSatisfied_2 ?_
  refine cw_aload_n dX10_isSatisfied_5 0 rfl rfl ?_
  refine cw_getf (C := RX10) (T := TX10) (N := 10) (ci := 8) inX10_isSatisfied_RX10 0 (show 0 < 32 by decide) rfl rfl 5 (by decide) (by decide +kernel) rfl dX10_isSatisfied_6 ?_
  refine cw_iload_n dX10_isSatisfied_9 1 rfl rfl ?_
  obtain ⟨v_10, J_10, hc_10, h⟩ := h
  refine cw_callV (o := 16) (As := [.int x1]) hc_10 okX3_hasFairShare rfl gX10_isSatisfied_X3_hasFairShare (by decide) (show 16 < 32 by decide) rfl (ci := 2) rfl rfl (Nat.le_of_ble_eq_true rfl) dX10_isSatisfied_10 ?_
  exact cw_bret rfl dX10_isSatisfied_13 h.1 h.2
set_option maxRecDepth 20000 in
set_option maxHeartbeats 4000000 in
theorem eX10_leastWelfare_0 {K : cw_K} {r : Option Value} {J0 I : cw_M} (h : (∃ (v_11 : Int32) (J_11 : cw_M), cw_C (cc_w K) mX1_leastWelfareAmong [.ref (cw_a (cc_w K) 5), .ref (cw_a (cc_w K) 9)] I (some (.int v_11)) J_11 ∧ (r = some (.int v_11) ∧ J0 = J_11))) : cw_C (cc_w K) mX10_leastWelfare [.ref (cw_a (cc_w K) 0)] I r J0 := by
  refine cw_entry okX10_leastWelfare (Nat.le_of_ble_eq_true rfl) (show cw_B (cc_w K) mX10_leastWelfare (cw_Z (cc_w K) r J0) 0 0 I 0 [(0, .ref (cw_a (cc_w K) 0))] [] from ?_)
  refine cw_aload_n dX10_leastWelfare_0 0 rfl rfl ?_
  refine cw_getf (C := RX10) (T := TX10) (N := 10) (ci := 8) inX10_leastWelfare_RX10 0 (show 0 < 32 by decide) rfl rfl 2 (by decide) (by decide +kernel) rfl dX10_leastWelfare_1 ?_
  refine cw_aload_n dX10_leastWelfare_4 0 rfl rfl ?_
  refine cw_getf (C := RX10) (T := TX10) (N := 10) (ci := 8) inX10_leastWelfare_RX10 0 (show 0 < 32 by decide) rfl rfl 2 (by decide) (by decide +kernel) rfl dX10_leastWelfare_5 ?_
  refine cw_getf (C := RX1) (T := TX1) (N := 6) (ci := 0) inX10_leastWelfare_RX1 5 (show 5 < 32 by decide) rfl rfl 5 (by decide) (by decide +kernel) rfl dX10_leastWelfare_8 ?_
  obtain ⟨v_11, J_11, hc_11, h⟩ := h
  refine cw_callV (o := 5) (As := [.ref (cw_a (cc_w K) 9)]) hc_11 okX1_leastWelfareAmong rfl gX10_leastWelfare_X1_leastWelfareAmong (by decide) (show 5 < 32 by decide) rfl (ci := 0) rfl rfl (Nat.le_of_ble_eq_true rfl) dX10_leastWelfare_11 ?_
  exact cw_iret rfl dX10_leastWelfare_14 h
set_option maxRecDepth 20000 in
set_option maxHeartbeats 4000000 in
theorem eX10_mostEnvied_0 {K : cw_K} {r : Option Value} {J0 I : cw_M} (h : (∃ (v_4 : Int32) (J_4 : cw_M), cw_C (cc_w K) mX3_findMostEnvied [.ref (cw_a (cc_w K) 16)] I (some (.int v_4)) J_4 ∧ (r = some (.int v_4) ∧ J0 = J_4))) : cw_C (cc_w K) mX10_mostEnvied [.ref (cw_a (cc_w K) 0)] I r J0 := by
  refine cw_entry okX10_mostEnvied (Nat.le_of_ble_eq_true rfl) (show cw_B (cc_w K) mX10_mostEnvied (cw_Z (cc_w K) r J0) 0 0 I 0 [(0, .ref (cw_a (cc_w K) 0))] [] from ?_)
  refine cw_aload_n dX10_mostEnvied_0 0 rfl rfl ?_
  refine cw_getf (C := RX10) (T := TX10) (N := 10) (ci := 8) inX10_mostEnvied_RX10 0 (show 0 < 32 by decide) rfl rfl 5 (by decide) (by decide +kernel) rfl dX10_mostEnvied_1 ?_
  obtain ⟨v_4, J_4, hc_4, h⟩ := h
  refine cw_callV (o := 16) (As := []) hc_4 okX3_findMostEnvied rfl gX10_mostEnvied_X3_findMostEnvied (by decide) (show 16 < 32 by decide) rfl (ci := 2) rfl rfl (Nat.le_of_ble_eq_true rfl) dX10_mostEnvied_4 ?_
  exact cw_iret rfl dX10_mostEnvied_7 h
set_option maxRecDepth 20000 in
set_option maxHeartbeats 4000000 in
theorem eX10_movingKnife_0 {K : cw_K} {r : Option Value} {J0 I : cw_M} (h : (∃ J_8 : cw_M, cw_C (cc_w K) mX4_rememberForUndo [.ref (cw_a (cc_w K) 28), .ref (cw_a (cc_w K) 5)] I none J_8 ∧ (∃ J_22 : cw_M, cw_C (cc_w K) mX6_divideByKnife [.ref (cw_a (cc_w K) 20), .ref (cw_a (cc_w K) 9)] J_8 none J_22 ∧ (∃ (v_29 : Int32) (J_29 : cw_M), cw_C (cc_w K) mX3_countFairShares [.ref (cw_a (cc_w K) 16)] J_22 (some (.int v_29)) J_29 ∧ (r = some (.int v_29) ∧ J0 = J_29))))) : cw_C (cc_w K) mX10_movingKnife [.ref (cw_a (cc_w K) 0)] I r J0 := by
  refine cw_entry okX10_movingKnife (Nat.le_of_ble_eq_true rfl) (show cw_B (cc_w K) mX10_movingKnife (cw_Z (cc_w K) r J0) 0 0 I 0 [(0, .ref (cw_a (cc_w K) 0))] [] from ?_)
  refine cw_aload_n dX10_movingKnife_0 0 rfl rfl ?_
  refine cw_getf (C := RX10) (T := TX10) (N := 10) (ci := 8) inX10_movingKnife_RX10 0 (show 0 < 32 by decide) rfl rfl 9 (by decide) (by decide +kernel) rfl dX10_movingKnife_1 ?_
  refine cw_aload_n dX10_movingKnife_4 0 rfl rfl ?_
  refine cw_getf (C := RX10) (T := TX10) (N := 10) (ci := 8) inX10_movingKnife_RX10 0 (show 0 < 32 by decide) rfl rfl 2 (by decide) (by decide +kernel) rfl dX10_movingKnife_5 ?_
  obtain ⟨J_8, hc_8, h⟩ := h
  refine cw_callV (o := 28) (As := [.ref (cw_a (cc_w K) 5)]) hc_8 okX4_rememberForUndo rfl gX10_movingKnife_X4_rememberForUndo (by decide) (show 28 < 32 by decide) rfl (ci := 3) rfl rfl (Nat.le_of_ble_eq_true rfl) dX10_movingKnife_8 ?_
  refine cw_aload_n dX10_movingKnife_11 0 rfl rfl ?_
  refine cw_getf (C := RX10) (T := TX10) (N := 10) (ci := 8) inX10_movingKnife_RX10 0 (show 0 < 32 by decide) rfl rfl 6 (by decide) (by decide +kernel) rfl dX10_movingKnife_12 ?_
  refine cw_aload_n dX10_movingKnife_15 0 rfl rfl ?_
  refine cw_getf (C := RX10) (T := TX10) (N := 10) (ci := 8) inX10_movingKnife_RX10 0 (show 0 < 32 by decide) rfl rfl 2 (by decide) (by decide +kernel) rfl dX10_movingKnife_16 ?_
  refine cw_getf (C := RX1) (T := TX1) (N := 6) (ci := 0) inX10_movingKnife_RX1 5 (show 5 < 32 by decide) rfl rfl 5 (by decide) (by decide +kernel) rfl dX10_movingKnife_19 ?_
  obtain ⟨J_22, hc_22, h⟩ := h
  refine cw_callV (o := 20) (As := [.ref (cw_a (cc_w K) 9)]) hc_22 okX6_divideByKnife rfl gX10_movingKnife_X6_divideByKnife (by decide) (show 20 < 32 by decide) rfl (ci := 5) rfl rfl (Nat.le_of_ble_eq_true rfl) dX10_movingKnife_22 ?_
  refine cw_aload_n dX10_movingKnife_25 0 rfl rfl ?_
  refine cw_getf (C := RX10) (T := TX10) (N := 10) (ci := 8) inX10_movingKnife_RX10 0 (show 0 < 32 by decide) rfl rfl 5 (by decide) (by decide +kernel) rfl dX10_movingKnife_26 ?_
  obtain ⟨v_29, J_29, hc_29, h⟩ := h
  refine cw_callV (o := 16) (As := []) hc_29 okX3_countFairShares rfl gX10_movingKnife_X3_countFairShares (by decide) (show 16 < 32 by decide) rfl (ci := 2) rfl rfl (Nat.le_of_ble_eq_true rfl) dX10_movingKnife_29 ?_
  exact cw_iret rfl dX10_movingKnife_32 h
set_option maxRecDepth 20000 in
set_option maxHeartbeats 4000000 in
theorem eX10_owner_0 {K : cw_K} {r : Option Value} {J0 I : cw_M} {x1 : Int32} (h : (∃ J_2 : cw_M, cw_C (cc_w K) mX10_requireCell [.ref (cw_a (cc_w K) 0), .int x1] I none J_2 ∧ (vp_in x1 24 ∧ (r = some (.int (J_2 9 x1.toNatClampNeg)) ∧ J0 = J_2)))) : cw_C (cc_w K) mX10_owner [.ref (cw_a (cc_w K) 0), .int x1] I r J0 := by
  refine cw_entry okX10_owner (Nat.le_of_ble_eq_true rfl) (show cw_B (cc_w K) mX10_owner (cw_Z (cc_w K) r J0) 0 0 I 0 [(0, .ref (cw_a (cc_w K) 0)), (1, .int x1)] [] from ?_)
  refine cw_aload_n dX10_owner_0 0 rfl rfl ?_
  refine cw_iload_n dX10_owner_1 1 rfl rfl ?_
  obtain ⟨J_2, hc_2, h⟩ := h
  refine cw_callV (o := 0) (As := [.int x1]) hc_2 okX10_requireCell rfl gX10_owner_X10_requireCell (by decide) (show 0 < 32 by decide) rfl (ci := 8) rfl rfl (Nat.le_of_ble_eq_true rfl) dX10_owner_2 ?_
  refine cw_aload_n dX10_owner_5 0 rfl rfl ?_
  refine cw_getf (C := RX10) (T := TX10) (N := 10) (ci := 8) inX10_owner_RX10 0 (show 0 < 32 by decide) rfl rfl 2 (by decide) (by decide +kernel) rfl dX10_owner_6 ?_
  refine cw_getf (C := RX1) (T := TX1) (N := 6) (ci := 0) inX10_owner_RX1 5 (show 5 < 32 by decide) rfl rfl 5 (by decide) (by decide +kernel) rfl dX10_owner_9 ?_
  refine cw_iload_n dX10_owner_12 1 rfl rfl ?_
  obtain ⟨g_13, h⟩ := h
  refine cw_iald 9 (show 9 < 32 by decide) rfl 0 rfl dX10_owner_13 g_13 ?_
  exact cw_iret rfl dX10_owner_14 h
set_option maxRecDepth 20000 in
set_option maxHeartbeats 4000000 in
theorem eX10_pieceCount_0 {K : cw_K} {r : Option Value} {J0 I : cw_M} {x1 : Int32} (h : (∃ J_2 : cw_M, cw_C (cc_w K) mX10_requireSibling [.ref (cw_a (cc_w K) 0), .int x1] I none J_2 ∧ (∃ (v_10 : Int32) (J_10 : cw_M), cw_C (cc_w K) mX1_countPieces [.ref (cw_a (cc_w K) 5), .int x1] J_2 (some (.int v_10)) J_10 ∧ (r = some (.int v_10) ∧ J0 = J_10)))) : cw_C (cc_w K) mX10_pieceCount [.ref (cw_a (cc_w K) 0), .int x1] I r J0 := by
  refine cw_entry okX10_pieceCount (Nat.le_of_ble_eq_true rfl) (show cw_B (cc_w K) mX10_pieceCount (cw_Z (cc_w K) r J0) 0 0 I 0 [(0, .ref (cw_a (cc_w K) 0)), (1, .int x1)] [] from ?_)
  refine cw_aload_n dX10_pieceCount_0 0 rfl rfl ?_
  refine cw_iload_n dX10_pieceCount_1 1 rfl rfl ?_
  obtain ⟨J_2, hc_2, h⟩ := h
  refine cw_callV (o := 0) (As := [.int x1]) hc_2 okX10_requireSibling rfl gX10_pieceCount_X10_requireSibling (by decide) (show 0 < 32 by decide) rfl (ci := 8) rfl rfl (Nat.le_of_ble_eq_true rfl) dX10_pieceCount_2 ?_
  refine cw_aload_n dX10_pieceCount_5 0 rfl rfl ?_
  refine cw_getf (C := RX10) (T := TX10) (N := 10) (ci := 8) inX10_pieceCount_RX10 0 (show 0 < 32 by decide) rfl rfl 2 (by decide) (by decide +kernel) rfl dX10_pieceCount_6 ?_
  refine cw_iload_n dX10_pieceCount_9 1 rfl rfl ?_
  obtain ⟨v_10, J_10, hc_10, h⟩ := h
  refine cw_callV (o := 5) (As := [.int x1]) hc_10 okX1_countPieces rfl gX10_pieceCount_X1_countPieces (by decide) (show 5 < 32 by decide) rfl (ci := 0) rfl rfl (Nat.le_of_ble_eq_true rfl) dX10_pieceCount_10 ?_
  exact cw_iret rfl dX10_pieceCount_13 h
set_option maxRecDepth 20000 in
set_option maxHeartbeats 4000000 in
theorem eX10_release_0 {K : cw_K} {r : Option Value} {J0 I : cw_M} {x1 : Int32} {x2 : Int32} (h : (∃ J_3 : cw_M, cw_C (cc_w K) mX10_requireRun [.ref (cw_a (cc_w K) 0), .int x1, .int x2] I none J_3 ∧ (∃ J_14 : cw_M, cw_C (cc_w K) mX4_rememberForUndo [.ref (cw_a (cc_w K) 28), .ref (cw_a (cc_w K) 5)] J_3 none J_14 ∧ (∃ J_33 : cw_M, cw_C (cc_w K) mX1_assign [.ref (cw_a (cc_w K) 5), .ref (cw_a (cc_w K) 9), .int (-1), .int x1, .int (x2 + 1)] J_14 none J_33 ∧ (∃ (v_41 : Int32) (J_41 : cw_M), cw_C (cc_w K) mX1_countOwned [.ref (cw_a (cc_w K) 5), .int (-1)] J_33 (some (.int v_41)) J_41 ∧ (r = some (.int v_41) ∧ J0 = J_41)))))) : cw_C (cc_w K) mX10_release [.ref (cw_a (cc_w K) 0), .int x1, .int x2] I r J0 := by
  refine cw_entry okX10_release (Nat.le_of_ble_eq_true rfl) (show cw_B (cc_w K) mX10_release (cw_Z (cc_w K) r J0) 0 0 I 0 [(0, .ref (cw_a (cc_w K) 0)), (1, .int x1), (2, .int x2)] [] from ?_)
  refine cw_aload_n dX10_release_0 0 rfl rfl ?_
  refine cw_iload_n dX10_release_1 1 rfl rfl ?_
  refine cw_iload_n dX10_release_2 2 rfl rfl ?_
  obtain ⟨J_3, hc_3, h⟩ := h
  refine cw_callV (o := 0) (As := [.int x1, .int x2]) hc_3 okX10_requireRun rfl gX10_release_X10_requireRun (by decide) (show 0 < 32 by decide) rfl (ci := 8) rfl rfl (Nat.le_of_ble_eq_true rfl) dX10_release_3 ?_
  refine cw_aload_n dX10_release_6 0 rfl rfl ?_
  refine cw_getf (C := RX10) (T := TX10) (N := 10) (ci := 8) inX10_release_RX10 0 (show 0 < 32 by decide) rfl rfl 9 (by decide) (by decide +kernel) rfl dX10_release_7 ?_
  refine cw_aload_n dX10_release_10 0 rfl rfl ?_
  refine cw_getf (C := RX10) (T := TX10) (N := 10) (ci := 8) inX10_release_RX10 0 (show 0 < 32 by decide) rfl rfl 2 (by decide) (by decide +kernel) rfl dX10_release_11 ?_
  obtain ⟨J_14, hc_14, h⟩ := h
  refine cw_callV (o := 28) (As := [.ref (cw_a (cc_w K) 5)]) hc_14 okX4_rememberForUndo rfl gX10_release_X4_rememberForUndo (by decide) (show 28 < 32 by decide) rfl (ci := 3) rfl rfl (Nat.le_of_ble_eq_true rfl) dX10_release_14 ?_
  refine cw_aload_n dX10_release_17 0 rfl rfl ?_
  refine cw_getf (C := RX10) (T := TX10) (N := 10) (ci := 8) inX10_release_RX10 0 (show 0 < 32 by decide) rfl rfl 2 (by decide) (by decide +kernel) rfl dX10_release_18 ?_
  refine cw_aload_n dX10_release_21 0 rfl rfl ?_
  refine cw_getf (C := RX10) (T := TX10) (N := 10) (ci := 8) inX10_release_RX10 0 (show 0 < 32 by decide) rfl rfl 2 (by decide) (by decide +kernel) rfl dX10_release_22 ?_
  refine cw_getf (C := RX1) (T := TX1) (N := 6) (ci := 0) inX10_release_RX1 5 (show 5 < 32 by decide) rfl rfl 5 (by decide) (by decide +kernel) rfl dX10_release_25 ?_
  refine cw_iconst (v := (-1)) dX10_release_28 (by decide) ?_
  refine cw_iload_n dX10_release_29 1 rfl rfl ?_
  refine cw_iload_n dX10_release_30 2 rfl rfl ?_
  refine cw_iconst (v := 1) dX10_release_31 (by decide) ?_
  refine cw_iadd dX10_release_32 ?_
  obtain ⟨J_33, hc_33, h⟩ := h
  refine cw_callV (o := 5) (As := [.ref (cw_a (cc_w K) 9), .int (-1), .int x1, .int (x2 + 1)]) hc_33 okX1_assign rfl gX10_release_X1_assign (by decide) (show 5 < 32 by decide) rfl (ci := 0) rfl rfl (Nat.le_of_ble_eq_true rfl) dX10_release_33 ?_
  refine cw_aload_n dX10_release_36 0 rfl rfl ?_
  refine cw_getf (C := RX10) (T := TX10) (N := 10) (ci := 8) inX10_release_RX10 0 (show 0 < 32 by decide) rfl rfl 2 (by decide) (by decide +kernel) rfl dX10_release_37 ?_
  refine cw_iconst (v := (-1)) dX10_release_40 (by decide) ?_
  obtain ⟨v_41, J_41, hc_41, h⟩ := h
  refine cw_callV (o := 5) (As := [.int (-1)]) hc_41 okX1_countOwned rfl gX10_release_X1_countOwned (by decide) (show 5 < 32 by decide) rfl (ci := 0) rfl rfl (Nat.le_of_ble_eq_true rfl) dX10_release_41 ?_
  exact cw_iret rfl dX10_release_44 h
set_option maxRecDepth 20000 in
set_option maxHeartbeats 4000000 in
theorem eX10_roundRobin_0 {K : cw_K} {r : Option Value} {J0 I : cw_M} {x1 : Int32} (h : (∃ J_2 : cw_M, cw_C (cc_w K) mX10_requireSibling [.ref (cw_a (cc_w K) 0), .int x1] I none J_2 ∧ (∃ J_13 : cw_M, cw_C (cc_w K) mX4_rememberForUndo [.ref (cw_a (cc_w K) 28), .ref (cw_a (cc_w K) 5)] J_2 none J_13 ∧ (∃ (v_28 : Int32) (J_28 : cw_M), cw_C (cc_w K) mX6_divideByRobin [.ref (cw_a (cc_w K) 20), .ref (cw_a (cc_w K) 9), .int x1] J_13 (some (.int v_28)) J_28 ∧ (r = some (.int v_28) ∧ J0 = J_28))))) : cw_C (cc_w K) mX10_roundRobin [.ref (cw_a (cc_w K) 0), .int x1] I r J0 := by
  refine cw_entry okX10_roundRobin (Nat.le_of_ble_eq_true rfl) (show cw_B (cc_w K) mX10_roundRobin (cw_Z (cc_w K) r J0) 0 0 I 0 [(0, .ref (cw_a (cc_w K) 0)), (1, .int x1)] [] from ?_)
  refine cw_aload_n dX10_roundRobin_0 0 rfl rfl ?_
  refine cw_iload_n dX10_roundRobin_1 1 rfl rfl ?_
  obtain ⟨J_2, hc_2, h⟩ := h
  refine cw_callV (o := 0) (As := [.int x1]) hc_2 okX10_requireSibling rfl gX10_roundRobin_X10_requireSibling (by decide) (show 0 < 32 by decide) rfl (ci := 8) rfl rfl (Nat.le_of_ble_eq_true rfl) dX10_roundRobin_2 ?_
  refine cw_aload_n dX10_roundRobin_5 0 rfl rfl ?_
  refine cw_getf (C := RX10) (T := TX10) (N := 10) (ci := 8) inX10_roundRobin_RX10 0 (show 0 < 32 by decide) rfl rfl 9 (by decide) (by decide +kernel) rfl dX10_roundRobin_6 ?_
  refine cw_aload_n dX10_roundRobin_9 0 rfl rfl ?_
  refine cw_getf (C := RX10) (T := TX10) (N := 10) (ci := 8) inX10_roundRobin_RX10 0 (show 0 < 32 by decide) rfl rfl 2 (by decide) (by decide +kernel) rfl dX10_roundRobin_10 ?_
  obtain ⟨J_13, hc_13, h⟩ := h
  refine cw_callV (o := 28) (As := [.ref (cw_a (cc_w K) 5)]) hc_13 okX4_rememberForUndo rfl gX10_roundRobin_X4_rememberForUndo (by decide) (show 28 < 32 by decide) rfl (ci := 3) rfl rfl (Nat.le_of_ble_eq_true rfl) dX10_roundRobin_13 ?_
  refine cw_aload_n dX10_roundRobin_16 0 rfl rfl ?_
  refine cw_getf (C := RX10) (T := TX10) (N := 10) (ci := 8) inX10_roundRobin_RX10 0 (show 0 < 32 by decide) rfl rfl 6 (by decide) (by decide +kernel) rfl dX10_roundRobin_17 ?_
  refine cw_aload_n dX10_roundRobin_20 0 rfl rfl ?_
  refine cw_getf (C := RX10) (T := TX10) (N := 10) (ci := 8) inX10_roundRobin_RX10 0 (show 0 < 32 by decide) rfl rfl 2 (by decide) (by decide +kernel) rfl dX10_roundRobin_21 ?_
  refine cw_getf (C := RX1) (T := TX1) (N := 6) (ci := 0) inX10_roundRobin_RX1 5 (show 5 < 32 by decide) rfl rfl 5 (by decide) (by decide +kernel) rfl dX10_roundRobin_24 ?_
  refine cw_iload_n dX10_roundRobin_27 1 rfl rfl ?_
  obtain ⟨v_28, J_28, hc_28, h⟩ := h
  refine cw_callV (o := 20) (As := [.ref (cw_a (cc_w K) 9), .int x1]) hc_28 okX6_divideByRobin rfl gX10_roundRobin_X6_divideByRobin (by decide) (show 20 < 32 by decide) rfl (ci := 5) rfl rfl (Nat.le_of_ble_eq_true rfl) dX10_roundRobin_28 ?_
  exact cw_iret rfl dX10_roundRobin_31 h
set_option maxRecDepth 20000 in
set_option maxHeartbeats 4000000 in
theorem eX10_satisfiedCount_0 {K : cw_K} {r : Option Value} {J0 I : cw_M} (h : (∃ (v_4 : Int32) (J_4 : cw_M), cw_C (cc_w K) mX3_countFairShares [.ref (cw_a (cc_w K) 16)] I (some (.int v_4)) J_4 ∧ (r = some (.int v_4) ∧ J0 = J_4))) : cw_C (cc_w K) mX10_satisfiedCount [.ref (cw_a (cc_w K) 0)] I r J0 := by
  refine cw_entry okX10_satisfiedCount (Nat.le_of_ble_eq_true rfl) (show cw_B (cc_w K) mX10_satisfiedCount (cw_Z (cc_w K) r J0) 0 0 I 0 [(0, .ref (cw_a (cc_w K) 0))] [] from ?_)
  refine cw_aload_n dX10_satisfiedCount_0 0 rfl rfl ?_
  refine cw_getf (C := RX10) (T := TX10) (N := 10) (ci := 8) inX10_satisfiedCount_RX10 0 (show 0 < 32 by decide) rfl rfl 5 (by decide) (by decide +kernel) rfl dX10_satisfiedCount_1 ?_
  obtain ⟨v_4, J_4, hc_4, h⟩ := h
  refine cw_callV (o := 16) (As := []) hc_4 okX3_countFairShares rfl gX10_satisfiedCount_X3_countFairShares (by decide) (show 16 < 32 by decide) rfl (ci := 2) rfl rfl (Nat.le_of_ble_eq_true rfl) dX10_satisfiedCount_4 ?_
  exact cw_iret rfl dX10_satisfiedCount_7 h
set_option maxRecDepth 20000 in
set_option maxHeartbeats 4000000 in
theorem eX10_save_0 {K : cw_K} {r : Option Value} {J0 I : cw_M} {x1 : Int32} (h : (∃ J_2 : cw_M, cw_C (cc_w K) mX10_requireSlot [.ref (cw_a (cc_w K) 0), .int x1] I none J_2 ∧ (∃ J_14 : cw_M, cw_C (cc_w K) mX4_saveTo [.ref (cw_a (cc_w K) 28), .int x1, .ref (cw_a (cc_w K) 5)] J_2 none J_14 ∧ (∃ (v_22 : Int32) (J_22 : cw_M), cw_C (cc_w K) mX1_countOwned [.ref (cw_a (cc_w K) 5), .int (-1)] J_14 (some (.int v_22)) J_22 ∧ (r = some (.int v_22) ∧ J0 = J_22))))) : cw_C (cc_w K) mX10_save [.ref (cw_a (cc_w K) 0), .int x1] I r J0 := by
  refine cw_entry okX10_save (Nat.le_of_ble_eq_true rfl) (show cw_B (cc_w K) mX10_save (cw_Z (cc_w K) r J0) 0 0 I 0 [(0, .ref (cw_a (cc_w K) 0)), (1, .int x1)] [] from ?_)
  refine cw_aload_n dX10_save_0 0 rfl rfl ?_
  refine cw_iload_n dX10_save_1 1 rfl rfl ?_
  obtain ⟨J_2, hc_2, h⟩ := h
  refine cw_callV (o := 0) (As := [.int x1]) hc_2 okX10_requireSlot rfl gX10_save_X10_requireSlot (by decide) (show 0 < 32 by decide) rfl (ci := 8) rfl rfl (Nat.le_of_ble_eq_true rfl) dX10_save_2 ?_
  refine cw_aload_n dX10_save_5 0 rfl rfl ?_
  refine cw_getf (C := RX10) (T := TX10) (N := 10) (ci := 8) inX10_save_RX10 0 (show 0 < 32 by decide) rfl rfl 9 (by decide) (by decide +kernel) rfl dX10_save_6 ?_
  refine cw_iload_n dX10_save_9 1 rfl rfl ?_
  refine cw_aload_n dX10_save_10 0 rfl rfl ?_
  refine cw_getf (C := RX10) (T := TX10) (N := 10) (ci := 8) inX10_save_RX10 0 (show 0 < 32 by decide) rfl rfl 2 (by decide) (by decide +kernel) rfl dX10_save_11 ?_
  obtain ⟨J_14, hc_14, h⟩ := h
  refine cw_callV (o := 28) (As := [.int x1, .ref (cw_a (cc_w K) 5)]) hc_14 okX4_saveTo rfl gX10_save_X4_saveTo (by decide) (show 28 < 32 by decide) rfl (ci := 3) rfl rfl (Nat.le_of_ble_eq_true rfl) dX10_save_14 ?_
  refine cw_aload_n dX10_save_17 0 rfl rfl ?_
  refine cw_getf (C := RX10) (T := TX10) (N := 10) (ci := 8) inX10_save_RX10 0 (show 0 < 32 by decide) rfl rfl 2 (by decide) (by decide +kernel) rfl dX10_save_18 ?_
  refine cw_iconst (v := (-1)) dX10_save_21 (by decide) ?_
  obtain ⟨v_22, J_22, hc_22, h⟩ := h
  refine cw_callV (o := 5) (As := [.int (-1)]) hc_22 okX1_countOwned rfl gX10_save_X1_countOwned (by decide) (show 5 < 32 by decide) rfl (ci := 0) rfl rfl (Nat.le_of_ble_eq_true rfl) dX10_save_22 ?_
  exact cw_iret rfl dX10_save_25 h
set_option maxRecDepth 20000 in
set_option maxHeartbeats 4000000 in
theorem eX10_shareSize_0 {K : cw_K} {r : Option Value} {J0 I : cw_M} {x1 : Int32} (h : (∃ J_2 : cw_M, cw_C (cc_w K) mX10_requireSibling [.ref (cw_a (cc_w K) 0), .int x1] I none J_2 ∧ (∃ (v_10 : Int32) (J_10 : cw_M), cw_C (cc_w K) mX1_countOwned [.ref (cw_a (cc_w K) 5), .int x1] J_2 (some (.int v_10)) J_10 ∧ (r = some (.int v_10) ∧ J0 = J_10)))) : cw_C (cc_w K) mX10_shareSize [.ref (cw_a (cc_w K) 0), .int x1] I r J0 := by
  refine cw_entry okX10_shareSize (Nat.le_of_ble_eq_true rfl) (show cw_B (cc_w K) mX10_shareSize (cw_Z (cc_w K) r J0) 0 0 I 0 [(0, .ref (cw_a (cc_w K) 0)), (1, .int x1)] [] from ?_)
  refine cw_aload_n dX10_shareSize_0 0 rfl rfl ?_
  refine cw_iload_n dX10_shareSize_1 1 rfl rfl ?_
  obtain ⟨J_2, hc_2, h⟩ := h
  refine cw_callV (o := 0) (As := [.int x1]) hc_2 okX10_requireSibling rfl gX10_shareSize_X10_requireSibling (by decide) (show 0 < 32 by decide) rfl (ci := 8) rfl rfl (Nat.le_of_ble_eq_true rfl) dX10_shareSize_2 ?_
  refine cw_aload_n dX10_shareSize_5 0 rfl rfl ?_
  refine cw_getf (C := RX10) (T := TX10) (N := 10) (ci := 8) inX10_shareSize_RX10 0 (show 0 < 32 by decide) rfl rfl 2 (by decide) (by decide +kernel) rfl dX10_shareSize_6 ?_
  refine cw_iload_n dX10_shareSize_9 1 rfl rfl ?_
  obtain ⟨v_10, J_10, hc_10, h⟩ := h
  refine cw_callV (o := 5) (As := [.int x1]) hc_10 okX1_countOwned rfl gX10_shareSize_X1_countOwned (by decide) (show 5 < 32 by decide) rfl (ci := 0) rfl rfl (Nat.le_of_ble_eq_true rfl) dX10_shareSize_10 ?_
  exact cw_iret rfl dX10_shareSize_13 h
set_option maxRecDepth 20000 in
set_option maxHeartbeats 4000000 in
theorem eX10_siblingCount_0 {K : cw_K} {r : Option Value} {J0 I : cw_M} (h : (r = some (.int (I 5 1)) ∧ J0 = I)) : cw_C (cc_w K) mX10_siblingCount [.ref (cw_a (cc_w K) 0)] I r J0 := by
  refine cw_entry okX10_siblingCount (Nat.le_of_ble_eq_true rfl) (show cw_B (cc_w K) mX10_siblingCount (cw_Z (cc_w K) r J0) 0 0 I 0 [(0, .ref (cw_a (cc_w K) 0))] [] from ?_)
  refine cw_aload_n dX10_siblingCount_0 0 rfl rfl ?_
  refine cw_getf (C := RX10) (T := TX10) (N := 10) (ci := 8) inX10_siblingCount_RX10 0 (show 0 < 32 by decide) rfl rfl 2 (by decide) (by decide +kernel) rfl dX10_siblingCount_1 ?_
  refine cw_getf (C := RX1) (T := TX1) (N := 6) (ci := 0) inX10_siblingCount_RX1 5 (show 5 < 32 by decide) rfl rfl 1 (by decide) (by decide +kernel) rfl dX10_siblingCount_4 ?_
  exact cw_iret rfl dX10_siblingCount_7 h
set_option maxRecDepth 20000 in
set_option maxHeartbeats 4000000 in
theorem eX10_strongEnvyCount_0 {K : cw_K} {r : Option Value} {J0 I : cw_M} (h : (∃ (v_4 : Int32) (J_4 : cw_M), cw_C (cc_w K) mX3_countStrongEnvies [.ref (cw_a (cc_w K) 16)] I (some (.int v_4)) J_4 ∧ (r = some (.int v_4) ∧ J0 = J_4))) : cw_C (cc_w K) mX10_strongEnvyCount [.ref (cw_a (cc_w K) 0)] I r J0 := by
  refine cw_entry okX10_strongEnvyCount (Nat.le_of_ble_eq_true rfl) (show cw_B (cc_w K) mX10_strongEnvyCount (cw_Z (cc_w K) r J0) 0 0 I 0 [(0, .ref (cw_a (cc_w K) 0))] [] from ?_)
  refine cw_aload_n dX10_strongEnvyCount_0 0 rfl rfl ?_
  refine cw_getf (C := RX10) (T := TX10) (N := 10) (ci := 8) inX10_strongEnvyCount_RX10 0 (show 0 < 32 by decide) rfl rfl 5 (by decide) (by decide +kernel) rfl dX10_strongEnvyCount_1 ?_
  obtain ⟨v_4, J_4, hc_4, h⟩ := h
  refine cw_callV (o := 16) (As := []) hc_4 okX3_countStrongEnvies rfl gX10_strongEnvyCount_X3_countStrongEnvies (by decide) (show 16 < 32 by decide) rfl (ci := 2) rfl rfl (Nat.le_of_ble_eq_true rfl) dX10_strongEnvyCount_4 ?_
  exact cw_iret rfl dX10_strongEnvyCount_7 h
set_option maxRecDepth 20000 in
set_option maxHeartbeats 4000000 in
theorem eX10_swapShares_0 {K : cw_K} {r : Option Value} {J0 I : cw_M} {x1 : Int32} {x2 : Int32} (h : (∃ J_2 : cw_M, cw_C (cc_w K) mX10_requireSibling [.ref (cw_a (cc_w K) 0), .int x1] I none J_2 ∧ (∃ J_7 : cw_M, cw_C (cc_w K) mX10_requireSibling [.ref (cw_a (cc_w K) 0), .int x2] J_2 none J_7 ∧ (∃ J_13 : cw_M, cw_C (cc_w K) mX10_requireDifferent [.ref (cw_a (cc_w K) 0), .int x1, .int x2] J_7 none J_13 ∧ (∃ J_24 : cw_M, cw_C (cc_w K) mX4_rememberForUndo [.ref (cw_a (cc_w K) 28), .ref (cw_a (cc_w K) 5)] J_13 none J_24 ∧ (∃ J_33 : cw_M, cw_C (cc_w K) mX1_exchangeShares [.ref (cw_a (cc_w K) 5), .int x1, .int x2] J_24 none J_33 ∧ (∃ (v_40 : Int32) (J_40 : cw_M), cw_C (cc_w K) mX3_countEnvies [.ref (cw_a (cc_w K) 16)] J_33 (some (.int v_40)) J_40 ∧ (r = some (.int v_40) ∧ J0 = J_40)))))))) : cw_C (cc_w K) mX10_swapShares [.ref (cw_a (cc_w K) 0), .int x1, .int x2] I r J0 := by
  refine cw_entry okX10_swapShares (Nat.le_of_ble_eq_true rfl) (show cw_B (cc_w K) mX10_swapShares (cw_Z (cc_w K) r J0) 0 0 I 0 [(0, .ref (cw_a (cc_w K) 0)), (1, .int x1), (2, .int x2)] [] from ?_)
  refine cw_aload_n dX10_swapShares_0 0 rfl rfl ?_
  refine cw_iload_n dX10_swapShares_1 1 rfl rfl ?_
  obtain ⟨J_2, hc_2, h⟩ := h
  refine cw_callV (o := 0) (As := [.int x1]) hc_2 okX10_requireSibling rfl gX10_swapShares_X10_requireSibling (by decide) (show 0 < 32 by decide) rfl (ci := 8) rfl rfl (Nat.le_of_ble_eq_true rfl) dX10_swapShares_2 ?_
  refine cw_aload_n dX10_swapShares_5 0 rfl rfl ?_
  refine cw_iload_n dX10_swapShares_6 2 rfl rfl ?_
  obtain ⟨J_7, hc_7, h⟩ := h
  refine cw_callV (o := 0) (As := [.int x2]) hc_7 okX10_requireSibling rfl gX10_swapShares_X10_requireSibling (by decide) (show 0 < 32 by decide) rfl (ci := 8) rfl rfl (Nat.le_of_ble_eq_true rfl) dX10_swapShares_7 ?_
  refine cw_aload_n dX10_swapShares_10 0 rfl rfl ?_
  refine cw_iload_n dX10_swapShares_11 1 rfl rfl ?_
  refine cw_iload_n dX10_swapShares_12 2 rfl rfl ?_
  obtain ⟨J_13, hc_13, h⟩ := h
  refine cw_callV (o := 0) (As := [.int x1, .int x2]) hc_13 okX10_requireDifferent rfl gX10_swapShares_X10_requireDifferent (by decide) (show 0 < 32 by decide) rfl (ci := 8) rfl rfl (Nat.le_of_ble_eq_true rfl) dX10_swapShares_13 ?_
  refine cw_aload_n dX10_swapShares_16 0 rfl rfl ?_
  refine cw_getf (C := RX10) (T := TX10) (N := 10) (ci := 8) inX10_swapShares_RX10 0 (show 0 < 32 by decide) rfl rfl 9 (by decide) (by decide +kernel) rfl dX10_swapShares_17 ?_
  refine cw_aload_n dX10_swapShares_20 0 rfl rfl ?_
  refine cw_getf (C := RX10) (T := TX10) (N := 10) (ci := 8) inX10_swapShares_RX10 0 (show 0 < 32 by decide) rfl rfl 2 (by decide) (by decide +kernel) rfl dX10_swapShares_21 ?_
  obtain ⟨J_24, hc_24, h⟩ := h
  refine cw_callV (o := 28) (As := [.ref (cw_a (cc_w K) 5)]) hc_24 okX4_rememberForUndo rfl gX10_swapShares_X4_rememberForUndo (by decide) (show 28 < 32 by decide) rfl (ci := 3) rfl rfl (Nat.le_of_ble_eq_true rfl) dX10_swapShares_24 ?_
  refine cw_aload_n dX10_swapShares_27 0 rfl rfl ?_
  refine cw_getf (C := RX10) (T := TX10) (N := 10) (ci := 8) inX10_swapShares_RX10 0 (show 0 < 32 by decide) rfl rfl 2 (by decide) (by decide +kernel) rfl dX10_swapShares_28 ?_
  refine cw_iload_n dX10_swapShares_31 1 rfl rfl ?_
  refine cw_iload_n dX10_swapShares_32 2 rfl rfl ?_
  obtain ⟨J_33, hc_33, h⟩ := h
  refine cw_callV (o := 5) (As := [.int x1, .int x2]) hc_33 okX1_exchangeShares rfl gX10_swapShares_X1_exchangeShares (by decide) (show 5 < 32 by decide) rfl (ci := 0) rfl rfl (Nat.le_of_ble_eq_true rfl) dX10_swapShares_33 ?_
  refine cw_aload_n dX10_swapShares_36 0 rfl rfl ?_
  refine cw_getf (C := RX10) (T := TX10) (N := 10) (ci := 8) inX10_swapShares_RX10 0 (show 0 < 32 by decide) rfl rfl 5 (by decide) (by decide +kernel) rfl dX10_swapShares_37 ?_
  obtain ⟨v_40, J_40, hc_40, h⟩ := h
  refine cw_callV (o := 16) (As := []) hc_40 okX3_countEnvies rfl gX10_swapShares_X3_countEnvies (by decide) (show 16 < 32 by decide) rfl (ci := 2) rfl rfl (Nat.le_of_ble_eq_true rfl) dX10_swapShares_40 ?_
  exact cw_iret rfl dX10_swapShares_43 h
set_option maxRecDepth 20000 in
set_option maxHeartbeats 4000000 in
theorem eX10_total_0 {K : cw_K} {r : Option Value} {J0 I : cw_M} {x1 : Int32} (h : (∃ J_2 : cw_M, cw_C (cc_w K) mX10_requireSibling [.ref (cw_a (cc_w K) 0), .int x1] I none J_2 ∧ (∃ (v_10 : Int32) (J_10 : cw_M), cw_C (cc_w K) mX1_worthOfAll [.ref (cw_a (cc_w K) 5), .int x1] J_2 (some (.int v_10)) J_10 ∧ (r = some (.int v_10) ∧ J0 = J_10)))) : cw_C (cc_w K) mX10_total [.ref (cw_a (cc_w K) 0), .int x1] I r J0 := by
  refine cw_entry okX10_total (Nat.le_of_ble_eq_true rfl) (show cw_B (cc_w K) mX10_total (cw_Z (cc_w K) r J0) 0 0 I 0 [(0, .ref (cw_a (cc_w K) 0)), (1, .int x1)] [] from ?_)
  refine cw_aload_n dX10_total_0 0 rfl rfl ?_
  refine cw_iload_n dX10_total_1 1 rfl rfl ?_
  obtain ⟨J_2, hc_2, h⟩ := h
  refine cw_callV (o := 0) (As := [.int x1]) hc_2 okX10_requireSibling rfl gX10_total_X10_requireSibling (by decide) (show 0 < 32 by decide) rfl (ci := 8) rfl rfl (Nat.le_of_ble_eq_true rfl) dX10_total_2 ?_
  refine cw_aload_n dX10_total_5 0 rfl rfl ?_
  refine cw_getf (C := RX10) (T := TX10) (N := 10) (ci := 8) inX10_total_RX10 0 (show 0 < 32 by decide) rfl rfl 2 (by decide) (by decide +kernel) rfl dX10_total_6 ?_
  refine cw_iload_n dX10_total_9 1 rfl rfl ?_
  obtain ⟨v_10, J_10, hc_10, h⟩ := h
  refine cw_callV (o := 5) (As := [.int x1]) hc_10 okX1_worthOfAll rfl gX10_total_X1_worthOfAll (by decide) (show 5 < 32 by decide) rfl (ci := 0) rfl rfl (Nat.le_of_ble_eq_true rfl) dX10_total_10 ?_
  exact cw_iret rfl dX10_total_13 h
abbrev bX10_totalWelfare_0_4 (K : cw_K) (r : Option Value) (J0 : cw_M) (x1 : Int32) (x2 : Int32) (I : cw_M) : Prop := cw_B (cc_w K) mX10_totalWelfare (cw_Z (cc_w K) r J0) 0 0 I 4 [(0, .ref (cw_a (cc_w K) 0)), (1, .int x1), (2, .int x2)] []
set_option maxRecDepth 20000 in
set_option maxHeartbeats 4000000 in
theorem eX10_totalWelfare_0 {K : cw_K} {r : Option Value} {J0 I : cw_M} (h : bX10_totalWelfare_0_4 K r J0 0 0 I) : cw_C (cc_w K) mX10_totalWelfare [.ref (cw_a (cc_w K) 0)] I r J0 := by
  refine cw_entry okX10_totalWelfare (Nat.le_of_ble_eq_true rfl) (show cw_B (cc_w K) mX10_totalWelfare (cw_Z (cc_w K) r J0) 0 0 I 0 [(0, .ref (cw_a (cc_w K) 0))] [] from ?_)
  refine cw_iconst (v := 0) dX10_totalWelfare_0 (by decide) ?_
  refine cw_istore_n dX10_totalWelfare_1 rfl (by decide) rfl ?_
  refine cw_iconst (v := 0) dX10_totalWelfare_2 (by decide) ?_
  refine cw_istore_n dX10_totalWelfare_3 rfl (by decide) rfl ?_
  refine cw_sub [2, 1, 0] rfl ?_
  exact h
set_option maxRecDepth 20000 in
set_option maxHeartbeats 4000000 in
theorem tbX10_totalWelfare_0_4 {K : cw_K} {r : Option Value} {J0 I : cw_M} {x1 : Int32} {x2 : Int32} (h : (((I 5 1) ≤ x2 → (r = some (.int x1) ∧ J0 = I)) ∧ (¬ (I 5 1) ≤ x2 → (∃ (v_21 : Int32) (J_21 : cw_M), cw_C (cc_w K) mX1_welfareOf [.ref (cw_a (cc_w K) 5), .int x2] I (some (.int v_21)) J_21 ∧ bX10_totalWelfare_0_4 K r J0 (x1 + v_21) (x2 + 1) J_21)))) : bX10_totalWelfare_0_4 K r J0 x1 x2 I := by
  refine cw_iload_n dX10_totalWelfare_4 2 rfl rfl ?_
  refine cw_aload_n dX10_totalWelfare_5 0 rfl rfl ?_
  refine cw_getf (C := RX10) (T := TX10) (N := 10) (ci := 8) inX10_totalWelfare_RX10 0 (show 0 < 32 by decide) rfl rfl 2 (by decide) (by decide +kernel) rfl dX10_totalWelfare_6 ?_
  refine cw_getf (C := RX1) (T := TX1) (N := 6) (ci := 0) inX10_totalWelfare_RX1 5 (show 5 < 32 by decide) rfl rfl 1 (by decide) (by decide +kernel) rfl dX10_totalWelfare_9 ?_
  refine cw_icmp_ge (tgt := 32) dX10_totalWelfare_12 (by decide) (fun q => ?_) (fun q => ?_)
  · have h := h.1 q
    refine cw_iload_n dX10_totalWelfare_32 1 rfl rfl ?_
    exact cw_iret rfl dX10_totalWelfare_33 h
  · have h := h.2 q
    refine cw_iload_n dX10_totalWelfare_15 1 rfl rfl ?_
    refine cw_aload_n dX10_totalWelfare_16 0 rfl rfl ?_
    refine cw_getf (C := RX10) (T := TX10) (N := 10) (ci := 8) inX10_totalWelfare_RX10 0 (show 0 < 32 by decide) rfl rfl 2 (by decide) (by decide +kernel) rfl dX10_totalWelfare_17 ?_
    refine cw_iload_n dX10_totalWelfare_20 2 rfl rfl ?_
    obtain ⟨v_21, J_21, hc_21, h⟩ := h
    refine cw_callV (o := 5) (As := [.int x2]) hc_21 okX1_welfareOf rfl gX10_totalWelfare_X1_welfareOf (by decide) (show 5 < 32 by decide) rfl (ci := 0) rfl rfl (Nat.le_of_ble_eq_true rfl) dX10_totalWelfare_21 ?_
    refine cw_iadd dX10_totalWelfare_24 ?_
    refine cw_istore_n dX10_totalWelfare_25 rfl (by decide) rfl ?_
    refine cw_iinc (v := x2 + 1) dX10_totalWelfare_26 (j := 2) rfl rfl (by decide) rfl ?_
    refine cw_goto (tgt := 4) dX10_totalWelfare_29 (by decide) ?_
    refine cw_sub [2, 1, 0] rfl ?_
    exact h
set_option maxRecDepth 20000 in
set_option maxHeartbeats 4000000 in
theorem eX10_value_0 {K : cw_K} {r : Option Value} {J0 I : cw_M} {x1 : Int32} {x2 : Int32} (h : (∃ J_2 : cw_M, cw_C (cc_w K) mX10_requireSibling [.ref (cw_a (cc_w K) 0), .int x1] I none J_2 ∧ (∃ J_7 : cw_M, cw_C (cc_w K) mX10_requireCell [.ref (cw_a (cc_w K) 0), .int x2] J_2 none J_7 ∧ (∃ (v_16 : Int32) (J_16 : cw_M), cw_C (cc_w K) mX1_valueOf [.ref (cw_a (cc_w K) 5), .int x1, .int x2] J_7 (some (.int v_16)) J_16 ∧ (r = some (.int v_16) ∧ J0 = J_16))))) : cw_C (cc_w K) mX10_value [.ref (cw_a (cc_w K) 0), .int x1, .int x2] I r J0 := by
  refine cw_entry okX10_value (Nat.le_of_ble_eq_true rfl) (show cw_B (cc_w K) mX10_value (cw_Z (cc_w K) r J0) 0 0 I 0 [(0, .ref (cw_a (cc_w K) 0)), (1, .int x1), (2, .int x2)] [] from ?_)
  refine cw_aload_n dX10_value_0 0 rfl rfl ?_
  refine cw_iload_n dX10_value_1 1 rfl rfl ?_
  obtain ⟨J_2, hc_2, h⟩ := h
  refine cw_callV (o := 0) (As := [.int x1]) hc_2 okX10_requireSibling rfl gX10_value_X10_requireSibling (by decide) (show 0 < 32 by decide) rfl (ci := 8) rfl rfl (Nat.le_of_ble_eq_true rfl) dX10_value_2 ?_
  refine cw_aload_n dX10_value_5 0 rfl rfl ?_
  refine cw_iload_n dX10_value_6 2 rfl rfl ?_
  obtain ⟨J_7, hc_7, h⟩ := h
  refine cw_callV (o := 0) (As := [.int x2]) hc_7 okX10_requireCell rfl gX10_value_X10_requireCell (by decide) (show 0 < 32 by decide) rfl (ci := 8) rfl rfl (Nat.le_of_ble_eq_true rfl) dX10_value_7 ?_
  refine cw_aload_n dX10_value_10 0 rfl rfl ?_
  refine cw_getf (C := RX10) (T := TX10) (N := 10) (ci := 8) inX10_value_RX10 0 (show 0 < 32 by decide) rfl rfl 2 (by decide) (by decide +kernel) rfl dX10_value_11 ?_
  refine cw_iload_n dX10_value_14 1 rfl rfl ?_
  refine cw_iload_n dX10_value_15 2 rfl rfl ?_
  obtain ⟨v_16, J_16, hc_16, h⟩ := h
  refine cw_callV (o := 5) (As := [.int x1, .int x2]) hc_16 okX1_valueOf rfl gX10_value_X1_valueOf (by decide) (show 5 < 32 by decide) rfl (ci := 0) rfl rfl (Nat.le_of_ble_eq_true rfl) dX10_value_16 ?_
  exact cw_iret rfl dX10_value_19 h
set_option maxRecDepth 20000 in
set_option maxHeartbeats 4000000 in
theorem eX10_welfareByKnife_0 {K : cw_K} {r : Option Value} {J0 I : cw_M} {x1 : Int32} (h : (∃ J_2 : cw_M, cw_C (cc_w K) mX10_requireSibling [.ref (cw_a (cc_w K) 0), .int x1] I none J_2 ∧ (∃ (v_10 : Int32) (J_10 : cw_M), cw_C (cc_w K) mX6_tryKnife [.ref (cw_a (cc_w K) 20), .int x1] J_2 (some (.int v_10)) J_10 ∧ (r = some (.int v_10) ∧ J0 = J_10)))) : cw_C (cc_w K) mX10_welfareByKnife [.ref (cw_a (cc_w K) 0), .int x1] I r J0 := by
  refine cw_entry okX10_welfareByKnife (Nat.le_of_ble_eq_true rfl) (show cw_B (cc_w K) mX10_welfareByKnife (cw_Z (cc_w K) r J0) 0 0 I 0 [(0, .ref (cw_a (cc_w K) 0)), (1, .int x1)] [] from ?_)
  refine cw_aload_n dX10_welfareByKnife_0 0 rfl rfl ?_
  refine cw_iload_n dX10_welfareByKnife_1 1 rfl rfl ?_
  obtain ⟨J_2, hc_2, h⟩ := h
  refine cw_callV (o := 0) (As := [.int x1]) hc_2 okX10_requireSibling rfl gX10_welfareByKnife_X10_requireSibling (by decide) (show 0 < 32 by decide) rfl (ci := 8) rfl rfl (Nat.le_of_ble_eq_true rfl) dX10_welfareByKnife_2 ?_
  refine cw_aload_n dX10_welfareByKnife_5 0 rfl rfl ?_
  refine cw_getf (C := RX10) (T := TX10) (N := 10) (ci := 8) inX10_welfareByKnife_RX10 0 (show 0 < 32 by decide) rfl rfl 6 (by decide) (by decide +kernel) rfl dX10_welfareByKnife_6 ?_
  refine cw_iload_n dX10_welfareByKnife_9 1 rfl rfl ?_
  obtain ⟨v_10, J_10, hc_10, h⟩ := h
  refine cw_callV (o := 20) (As := [.int x1]) hc_10 okX6_tryKnife rfl gX10_welfareByKnife_X6_tryKnife (by decide) (show 20 < 32 by decide) rfl (ci := 5) rfl rfl (Nat.le_of_ble_eq_true rfl) dX10_welfareByKnife_10 ?_
  exact cw_iret rfl dX10_welfareByKnife_13 h
set_option maxRecDepth 20000 in
set_option maxHeartbeats 4000000 in
theorem eX10_welfareByRobin_0 {K : cw_K} {r : Option Value} {J0 I : cw_M} {x1 : Int32} {x2 : Int32} (h : (∃ J_2 : cw_M, cw_C (cc_w K) mX10_requireSibling [.ref (cw_a (cc_w K) 0), .int x1] I none J_2 ∧ (∃ J_7 : cw_M, cw_C (cc_w K) mX10_requireSibling [.ref (cw_a (cc_w K) 0), .int x2] J_2 none J_7 ∧ (∃ (v_16 : Int32) (J_16 : cw_M), cw_C (cc_w K) mX6_tryRobin [.ref (cw_a (cc_w K) 20), .int x1, .int x2] J_7 (some (.int v_16)) J_16 ∧ (r = some (.int v_16) ∧ J0 = J_16))))) : cw_C (cc_w K) mX10_welfareByRobin [.ref (cw_a (cc_w K) 0), .int x1, .int x2] I r J0 := by
  refine cw_entry okX10_welfareByRobin (Nat.le_of_ble_eq_true rfl) (show cw_B (cc_w K) mX10_welfareByRobin (cw_Z (cc_w K) r J0) 0 0 I 0 [(0, .ref (cw_a (cc_w K) 0)), (1, .int x1), (2, .int x2)] [] from ?_)
  refine cw_aload_n dX10_welfareByRobin_0 0 rfl rfl ?_
  refine cw_iload_n dX10_welfareByRobin_1 1 rfl rfl ?_
  obtain ⟨J_2, hc_2, h⟩ := h
  refine cw_callV (o := 0) (As := [.int x1]) hc_2 okX10_requireSibling rfl gX10_welfareByRobin_X10_requireSibling (by decide) (show 0 < 32 by decide) rfl (ci := 8) rfl rfl (Nat.le_of_ble_eq_true rfl) dX10_welfareByRobin_2 ?_
  refine cw_aload_n dX10_welfareByRobin_5 0 rfl rfl ?_
  refine cw_iload_n dX10_welfareByRobin_6 2 rfl rfl ?_
  obtain ⟨J_7, hc_7, h⟩ := h
  refine cw_callV (o := 0) (As := [.int x2]) hc_7 okX10_requireSibling rfl gX10_welfareByRobin_X10_requireSibling (by decide) (show 0 < 32 by decide) rfl (ci := 8) rfl rfl (Nat.le_of_ble_eq_true rfl) dX10_welfareByRobin_7 ?_
  refine cw_aload_n dX10_welfareByRobin_10 0 rfl rfl ?_
  refine cw_getf (C := RX10) (T := TX10) (N := 10) (ci := 8) inX10_welfareByRobin_RX10 0 (show 0 < 32 by decide) rfl rfl 6 (by decide) (by decide +kernel) rfl dX10_welfareByRobin_11 ?_
  refine cw_iload_n dX10_welfareByRobin_14 1 rfl rfl ?_
  refine cw_iload_n dX10_welfareByRobin_15 2 rfl rfl ?_
  obtain ⟨v_16, J_16, hc_16, h⟩ := h
  refine cw_callV (o := 20) (As := [.int x1, .int x2]) hc_16 okX6_tryRobin rfl gX10_welfareByRobin_X6_tryRobin (by decide) (show 20 < 32 by decide) rfl (ci := 5) rfl rfl (Nat.le_of_ble_eq_true rfl) dX10_welfareByRobin_16 ?_
  exact cw_iret rfl dX10_welfareByRobin_19 h
abbrev bX10_welfareProduct_0_4 (K : cw_K) (r : Option Value) (J0 : cw_M) (x1 : Int64) (x3 : Int32) (I : cw_M) : Prop := cw_B (cc_w K) mX10_welfareProduct (cw_Z (cc_w K) r J0) 0 0 I 4 [(0, .ref (cw_a (cc_w K) 0)), (1, .long x1), (3, .int x3)] []
set_option maxRecDepth 20000 in
set_option maxHeartbeats 4000000 in
theorem eX10_welfareProduct_0 {K : cw_K} {r : Option Value} {J0 I : cw_M} (h : bX10_welfareProduct_0_4 K r J0 1 0 I) : cw_C (cc_w K) mX10_welfareProduct [.ref (cw_a (cc_w K) 0)] I r J0 := by
  refine cw_entry okX10_welfareProduct (Nat.le_of_ble_eq_true rfl) (show cw_B (cc_w K) mX10_welfareProduct (cw_Z (cc_w K) r J0) 0 0 I 0 [(0, .ref (cw_a (cc_w K) 0))] [] from ?_)
  refine cw_lconst (v := 1) dX10_welfareProduct_0 (by decide) ?_
  refine cw_lstore_n dX10_welfareProduct_1 rfl (by decide) rfl ?_
  refine cw_iconst (v := 0) dX10_welfareProduct_2 (by decide) ?_
  refine cw_istore_n dX10_welfareProduct_3 rfl (by decide) rfl ?_
  refine cw_sub [2, 1, 0] rfl ?_
  exact h
set_option maxRecDepth 20000 in
set_option maxHeartbeats 4000000 in
theorem tbX10_welfareProduct_0_4 {K : cw_K} {r : Option Value} {J0 I : cw_M} {x1 : Int64} {x3 : Int32} (h : (((I 5 1) ≤ x3 → (r = some (.long x1) ∧ J0 = I)) ∧ (¬ (I 5 1) ≤ x3 → (∃ (v_21 : Int32) (J_21 : cw_M), cw_C (cc_w K) mX1_welfareOf [.ref (cw_a (cc_w K) 5), .int x3] I (some (.int v_21)) J_21 ∧ bX10_welfareProduct_0_4 K r J0 (x1 * v_21.toInt64) (x3 + 1) J_21)))) : bX10_welfareProduct_0_4 K r J0 x1 x3 I := by
  refine cw_iload_n dX10_welfareProduct_4 2 rfl rfl ?_
  refine cw_aload_n dX10_welfareProduct_5 0 rfl rfl ?_
  refine cw_getf (C := RX10) (T := TX10) (N := 10) (ci := 8) inX10_welfareProduct_RX10 0 (show 0 < 32 by decide) rfl rfl 2 (by decide) (by decide +kernel) rfl dX10_welfareProduct_6 ?_
  refine cw_getf (C := RX1) (T := TX1) (N := 6) (ci := 0) inX10_welfareProduct_RX1 5 (show 5 < 32 by decide) rfl rfl 1 (by decide) (by decide +kernel) rfl dX10_welfareProduct_9 ?_
  refine cw_icmp_ge (tgt := 33) dX10_welfareProduct_12 (by decide) (fun q => ?_) (fun q => ?_)
  · have h := h.1 q
    refine cw_lload_n dX10_welfareProduct_33 1 rfl rfl ?_
    exact cw_lret rfl dX10_welfareProduct_34 h
  · have h := h.2 q
    refine cw_lload_n dX10_welfareProduct_15 1 rfl rfl ?_
    refine cw_aload_n dX10_welfareProduct_16 0 rfl rfl ?_
    refine cw_getf (C := RX10) (T := TX10) (N := 10) (ci := 8) inX10_welfareProduct_RX10 0 (show 0 < 32 by decide) rfl rfl 2 (by decide) (by decide +kernel) rfl dX10_welfareProduct_17 ?_
    refine cw_iload_n dX10_welfareProduct_20 2 rfl rfl ?_
    obtain ⟨v_21, J_21, hc_21, h⟩ := h
    refine cw_callV (o := 5) (As := [.int x3]) hc_21 okX1_welfareOf rfl gX10_welfareProduct_X1_welfareOf (by decide) (show 5 < 32 by decide) rfl (ci := 0) rfl rfl (Nat.le_of_ble_eq_true rfl) dX10_welfareProduct_21 ?_
    refine cw_i2l dX10_welfareProduct_24 rfl ?_
    refine cw_lmul dX10_welfareProduct_25 ?_
    refine cw_lstore_n dX10_welfareProduct_26 rfl (by decide) rfl ?_
    refine cw_iinc (v := x3 + 1) dX10_welfareProduct_27 (j := 2) rfl rfl (by decide) rfl ?_
    refine cw_goto (tgt := 4) dX10_welfareProduct_30 (by decide) ?_
    refine cw_sub [2, 1, 0] rfl ?_
    exact h
set_option maxRecDepth 20000 in
set_option maxHeartbeats 4000000 in
theorem eX10_worth_0 {K : cw_K} {r : Option Value} {J0 I : cw_M} {x1 : Int32} {x2 : Int32} {x3 : Int32} (h : (∃ J_2 : cw_M, cw_C (cc_w K) mX10_requireSibling [.ref (cw_a (cc_w K) 0), .int x1] I none J_2 ∧ (∃ J_8 : cw_M, cw_C (cc_w K) mX10_requireRun [.ref (cw_a (cc_w K) 0), .int x2, .int x3] J_2 none J_8 ∧ (∃ (v_20 : Int32) (J_20 : cw_M), cw_C (cc_w K) mX1_worthOfRun [.ref (cw_a (cc_w K) 5), .int x1, .int x2, .int (x3 + 1)] J_8 (some (.int v_20)) J_20 ∧ (r = some (.int v_20) ∧ J0 = J_20))))) : cw_C (cc_w K) mX10_worth [.ref (cw_a (cc_w K) 0), .int x1, .int x2, .int x3] I r J0 := by
  refine cw_entry okX10_worth (Nat.le_of_ble_eq_true rfl) (show cw_B (cc_w K) mX10_worth (cw_Z (cc_w K) r J0) 0 0 I 0 [(0, .ref (cw_a (cc_w K) 0)), (1, .int x1), (2, .int x2), (3, .int x3)] [] from ?_)
  refine cw_aload_n dX10_worth_0 0 rfl rfl ?_
  refine cw_iload_n dX10_worth_1 1 rfl rfl ?_
  obtain ⟨J_2, hc_2, h⟩ := h
  refine cw_callV (o := 0) (As := [.int x1]) hc_2 okX10_requireSibling rfl gX10_worth_X10_requireSibling (by decide) (show 0 < 32 by decide) rfl (ci := 8) rfl rfl (Nat.le_of_ble_eq_true rfl) dX10_worth_2 ?_
  refine cw_aload_n dX10_worth_5 0 rfl rfl ?_
  refine cw_iload_n dX10_worth_6 2 rfl rfl ?_
  refine cw_iload_n dX10_worth_7 3 rfl rfl ?_
  obtain ⟨J_8, hc_8, h⟩ := h
  refine cw_callV (o := 0) (As := [.int x2, .int x3]) hc_8 okX10_requireRun rfl gX10_worth_X10_requireRun (by decide) (show 0 < 32 by decide) rfl (ci := 8) rfl rfl (Nat.le_of_ble_eq_true rfl) dX10_worth_8 ?_
  refine cw_aload_n dX10_worth_11 0 rfl rfl ?_
  refine cw_getf (C := RX10) (T := TX10) (N := 10) (ci := 8) inX10_worth_RX10 0 (show 0 < 32 by decide) rfl rfl 2 (by decide) (by decide +kernel) rfl dX10_worth_12 ?_
  refine cw_iload_n dX10_worth_15 1 rfl rfl ?_
  refine cw_iload_n dX10_worth_16 2 rfl rfl ?_
  refine cw_iload_n dX10_worth_17 3 rfl rfl ?_
  refine cw_iconst (v := 1) dX10_worth_18 (by decide) ?_
  refine cw_iadd dX10_worth_19 ?_
  obtain ⟨v_20, J_20, hc_20, h⟩ := h
  refine cw_callV (o := 5) (As := [.int x1, .int x2, .int (x3 + 1)]) hc_20 okX1_worthOfRun rfl gX10_worth_X1_worthOfRun (by decide) (show 5 < 32 by decide) rfl (ci := 0) rfl rfl (Nat.le_of_ble_eq_true rfl) dX10_worth_20 ?_
  exact cw_iret rfl dX10_worth_23 h
set_option maxRecDepth 20000 in
set_option maxHeartbeats 4000000 in
theorem eX10_worthOfShare_0 {K : cw_K} {r : Option Value} {J0 I : cw_M} {x1 : Int32} {x2 : Int32} (h : (∃ J_2 : cw_M, cw_C (cc_w K) mX10_requireSibling [.ref (cw_a (cc_w K) 0), .int x1] I none J_2 ∧ (∃ J_7 : cw_M, cw_C (cc_w K) mX10_requireSibling [.ref (cw_a (cc_w K) 0), .int x2] J_2 none J_7 ∧ (∃ (v_23 : Int32) (J_23 : cw_M), cw_C (cc_w K) mX1_worthOfOwned [.ref (cw_a (cc_w K) 5), .ref (cw_a (cc_w K) 9), .int x1, .int x2] J_7 (some (.int v_23)) J_23 ∧ (r = some (.int v_23) ∧ J0 = J_23))))) : cw_C (cc_w K) mX10_worthOfShare [.ref (cw_a (cc_w K) 0), .int x1, .int x2] I r J0 := by
  refine cw_entry okX10_worthOfShare (Nat.le_of_ble_eq_true rfl) (show cw_B (cc_w K) mX10_worthOfShare (cw_Z (cc_w K) r J0) 0 0 I 0 [(0, .ref (cw_a (cc_w K) 0)), (1, .int x1), (2, .int x2)] [] from ?_)
  refine cw_aload_n dX10_worthOfShare_0 0 rfl rfl ?_
  refine cw_iload_n dX10_worthOfShare_1 1 rfl rfl ?_
  obtain ⟨J_2, hc_2, h⟩ := h
  refine cw_callV (o := 0) (As := [.int x1]) hc_2 okX10_requireSibling rfl gX10_worthOfShare_X10_requireSibling (by decide) (show 0 < 32 by decide) rfl (ci := 8) rfl rfl (Nat.le_of_ble_eq_true rfl) dX10_worthOfShare_2 ?_
  refine cw_aload_n dX10_worthOfShare_5 0 rfl rfl ?_
  refine cw_iload_n dX10_worthOfShare_6 2 rfl rfl ?_
  obtain ⟨J_7, hc_7, h⟩ := h
  refine cw_callV (o := 0) (As := [.int x2]) hc_7 okX10_requireSibling rfl gX10_worthOfShare_X10_requireSibling (by decide) (show 0 < 32 by decide) rfl (ci := 8) rfl rfl (Nat.le_of_ble_eq_true rfl) dX10_worthOfShare_7 ?_
  refine cw_aload_n dX10_worthOfShare_10 0 rfl rfl ?_
  refine cw_getf (C := RX10) (T := TX10) (N := 10) (ci := 8) inX10_worthOfShare_RX10 0 (show 0 < 32 by decide) rfl rfl 2 (by decide) (by decide +kernel) rfl dX10_worthOfShare_11 ?_
  refine cw_aload_n dX10_worthOfShare_14 0 rfl rfl ?_
  refine cw_getf (C := RX10) (T := TX10) (N := 10) (ci := 8) inX10_worthOfShare_RX10 0 (show 0 < 32 by decide) rfl rfl 2 (by decide) (by decide +kernel) rfl dX10_worthOfShare_15 ?_
  refine cw_getf (C := RX1) (T := TX1) (N := 6) (ci := 0) inX10_worthOfShare_RX1 5 (show 5 < 32 by decide) rfl rfl 5 (by decide) (by decide +kernel) rfl dX10_worthOfShare_18 ?_
  refine cw_iload_n dX10_worthOfShare_21 1 rfl rfl ?_
  refine cw_iload_n dX10_worthOfShare_22 2 rfl rfl ?_
  obtain ⟨v_23, J_23, hc_23, h⟩ := h
  refine cw_callV (o := 5) (As := [.ref (cw_a (cc_w K) 9), .int x1, .int x2]) hc_23 okX1_worthOfOwned rfl gX10_worthOfShare_X1_worthOfOwned (by decide) (show 5 < 32 by decide) rfl (ci := 0) rfl rfl (Nat.le_of_ble_eq_true rfl) dX10_worthOfShare_23 ?_
  exact cw_iret rfl dX10_worthOfShare_26 h
set_option maxRecDepth 20000 in
set_option maxHeartbeats 4000000 in
theorem eX10_wouldSwap_0 {K : cw_K} {r : Option Value} {J0 I : cw_M} {x1 : Int32} {x2 : Int32} (h : (∃ J_2 : cw_M, cw_C (cc_w K) mX10_requireSibling [.ref (cw_a (cc_w K) 0), .int x1] I none J_2 ∧ (∃ J_7 : cw_M, cw_C (cc_w K) mX10_requireSibling [.ref (cw_a (cc_w K) 0), .int x2] J_2 none J_7 ∧ (∃ (v_16 : Int32) (J_16 : cw_M), cw_C (cc_w K) mX3_hasEnvy [.ref (cw_a (cc_w K) 16), .int x1, .int x2] J_7 (some (.int v_16)) J_16 ∧ ((v_16 = 0 → (r = some (.int 0) ∧ J0 = J_16)) ∧ (¬ v_16 = 0 → (∃ (v_28 : Int32) (J_28 : cw_M), cw_C (cc_w K) mX3_hasEnvy [.ref (cw_a (cc_w K) 16), .int x2, .int x1] J_16 (some (.int v_28)) J_28 ∧ ((v_28 = 0 → (r = some (.int 0) ∧ J0 = J_28)) ∧ (¬ v_28 = 0 → (r = some (.int 1) ∧ J0 = J_28)))))))))) : cw_C (cc_w K) mX10_wouldSwap [.ref (cw_a (cc_w K) 0), .int x1, .int x2] I r J0 := by
  refine cw_entry okX10_wouldSwap (Nat.le_of_ble_eq_true rfl) (show cw_B (cc_w K) mX10_wouldSwap (cw_Z (cc_w K) r J0) 0 0 I 0 [(0, .ref (cw_a (cc_w K) 0)), (1, .int x1), (2, .int x2)] [] from ?_)
  refine cw_aload_n dX10_wouldSwap_0 0 rfl rfl ?_
  refine cw_iload_n dX10_wouldSwap_1 1 rfl rfl ?_
  obtain ⟨J_2, hc_2, h⟩ := h
  refine cw_callV (o := 0) (As := [.int x1]) hc_2 okX10_requireSibling rfl gX10_wouldSwap_X10_requireSibling (by decide) (show 0 < 32 by decide) rfl (ci := 8) rfl rfl (Nat.le_of_ble_eq_true rfl) dX10_wouldSwap_2 ?_
  refine cw_aload_n dX10_wouldSwap_5 0 rfl rfl ?_
  refine cw_iload_n dX10_wouldSwap_6 2 rfl rfl ?_
  obtain ⟨J_7, hc_7, h⟩ := h
  refine cw_callV (o := 0) (As := [.int x2]) hc_7 okX10_requireSibling rfl gX10_wouldSwap_X10_requireSibling (by decide) (show 0 < 32 by decide) rfl (ci := 8) rfl rfl (Nat.le_of_ble_eq_true rfl) dX10_wouldSwap_7 ?_
  refine cw_aload_n dX10_wouldSwap_10 0 rfl rfl ?_
  refine cw_getf (C := RX10) (T := TX10) (N := 10) (ci := 8) inX10_wouldSwap_RX10 0 (show 0 < 32 by decide) rfl rfl 5 (by decide) (by decide +kernel) rfl dX10_wouldSwap_11 ?_
  refine cw_iload_n dX10_wouldSwap_14 1 rfl rfl ?_
  refine cw_iload_n dX10_wouldSwap_15 2 rfl rfl ?_
  obtain ⟨v_16, J_16, hc_16, h⟩ := h
  refine cw_callV (o := 16) (As := [.int x1, .int x2]) hc_16 okX3_hasEnvy rfl gX10_wouldSwap_X3_hasEnvy (by decide) (show 16 < 32 by decide) rfl (ci := 2) rfl rfl (Nat.le_of_ble_eq_true rfl) dX10_wouldSwap_16 ?_
  refine cw_if_eq (tgt := 38) dX10_wouldSwap_19 (by decide) (fun q => ?_) (fun q => ?_)
  · have h := h.1 q
    refine cw_iconst (v := 0) dX10_wouldSwap_38 (by decide) ?_
    exact cw_bret rfl dX10_wouldSwap_39 (by decide) h
  · have h := h.2 q
    refine cw_aload_n dX10_wouldSwap_22 0 rfl rfl ?_
    refine cw_getf (C := RX10) (T := TX10) (N := 10) (ci := 8) inX10_wouldSwap_RX10 0 (show 0 < 32 by decide) rfl rfl 5 (by decide) (by decide +kernel) rfl dX10_wouldSwap_23 ?_
    refine cw_iload_n dX10_wouldSwap_26 2 rfl rfl ?_
    refine cw_iload_n dX10_wouldSwap_27 1 rfl rfl ?_
    obtain ⟨v_28, J_28, hc_28, h⟩ := h
    refine cw_callV (o := 16) (As := [.int x2, .int x1]) hc_28 okX3_hasEnvy rfl gX10_wouldSwap_X3_hasEnvy (by decide) (show 16 < 32 by decide) rfl (ci := 2) rfl rfl (Nat.le_of_ble_eq_true rfl) dX10_wouldSwap_28 ?_
    refine cw_if_eq (tgt := 38) dX10_wouldSwap_31 (by decide) (fun q => ?_) (fun q => ?_)
    · have h := h.1 q
      refine cw_iconst (v := 0) dX10_wouldSwap_38 (by decide) ?_
      exact cw_bret rfl dX10_wouldSwap_39 (by decide) h
    · have h := h.2 q
      refine cw_iconst (v := 1) dX10_wouldSwap_34 (by decide) ?_
      refine cw_goto (tgt := 39) dX10_wouldSwap_35 (by decide) ?_
      exact cw_bret rfl dX10_wouldSwap_39 (by decide) h
abbrev bX10_writeOwners_0_12 (K : cw_K) (r : Option Value) (J0 : cw_M) (x1 : Int32) (x2 : Int32) (I : cw_M) : Prop := cw_B (cc_w K) mX10_writeOwners (cw_Z (cc_w K) r J0) 0 0 I 12 [(0, .ref (cw_a (cc_w K) 0)), (1, .int x1), (2, .int x2)] []
set_option maxRecDepth 20000 in
set_option maxHeartbeats 4000000 in
theorem eX10_writeOwners_0 {K : cw_K} {r : Option Value} {J0 I : cw_M} (h : bX10_writeOwners_0_12 K r J0 0 0 (cw_st I 3 1 0)) : cw_C (cc_w K) mX10_writeOwners [.ref (cw_a (cc_w K) 0)] I r J0 := by
  refine cw_entry okX10_writeOwners (Nat.le_of_ble_eq_true rfl) (show cw_B (cc_w K) mX10_writeOwners (cw_Z (cc_w K) r J0) 0 0 I 0 [(0, .ref (cw_a (cc_w K) 0))] [] from ?_)
  refine cw_aload_n dX10_writeOwners_0 0 rfl rfl ?_
  refine cw_getf (C := RX10) (T := TX10) (N := 10) (ci := 8) inX10_writeOwners_RX10 0 (show 0 < 32 by decide) rfl rfl 1 (by decide) (by decide +kernel) rfl dX10_writeOwners_1 ?_
  refine cw_iconst (v := 0) dX10_writeOwners_4 (by decide) ?_
  refine cw_putf (C := RX8) (T := TX8) (N := 2) (ci := 7) inX10_writeOwners_RX8 tyX8 tyX8_ok nmX8 3 (show 3 < 32 by decide) rfl rfl 1 (by decide) (by decide +kernel) rfl rfl (show 1 < 2 by decide) rfl dX10_writeOwners_5 ?_
  refine cw_iconst (v := 0) dX10_writeOwners_8 (by decide) ?_
  refine cw_istore_n dX10_writeOwners_9 rfl (by decide) rfl ?_
  refine cw_iconst (v := 0) dX10_writeOwners_10 (by decide) ?_
  refine cw_istore_n dX10_writeOwners_11 rfl (by decide) rfl ?_
  refine cw_sub [2, 1, 0] rfl ?_
  exact h
set_option maxRecDepth 20000 in
set_option maxHeartbeats 4000000 in
theorem tbX10_writeOwners_0_12 {K : cw_K} {r : Option Value} {J0 I : cw_M} {x1 : Int32} {x2 : Int32} (h : (((I 5 0) ≤ x2 → (r = some (.int (I 3 1)) ∧ J0 = I)) ∧ (¬ (I 5 0) ≤ x2 → (∃ (v_28 : Int32) (J_28 : cw_M), cw_C (cc_w K) mX1_endsPiece [.ref (cw_a (cc_w K) 5), .int x2] I (some (.int v_28)) J_28 ∧ ((v_28 = 0 → bX10_writeOwners_0_12 K r J0 x1 (x2 + 1) J_28) ∧ (¬ v_28 = 0 → (∃ J_39 : cw_M, cw_C (cc_w K) mX10_writePiece [.ref (cw_a (cc_w K) 0), .int x1, .int (x2 + 1)] J_28 none J_39 ∧ bX10_writeOwners_0_12 K r J0 (x2 + 1) (x2 + 1) J_39))))))) : bX10_writeOwners_0_12 K r J0 x1 x2 I := by
  refine cw_iload_n dX10_writeOwners_12 2 rfl rfl ?_
  refine cw_aload_n dX10_writeOwners_13 0 rfl rfl ?_
  refine cw_getf (C := RX10) (T := TX10) (N := 10) (ci := 8) inX10_writeOwners_RX10 0 (show 0 < 32 by decide) rfl rfl 2 (by decide) (by decide +kernel) rfl dX10_writeOwners_14 ?_
  refine cw_getf (C := RX1) (T := TX1) (N := 6) (ci := 0) inX10_writeOwners_RX1 5 (show 5 < 32 by decide) rfl rfl 0 (by decide) (by decide +kernel) rfl dX10_writeOwners_17 ?_
  refine cw_icmp_ge (tgt := 52) dX10_writeOwners_20 (by decide) (fun q => ?_) (fun q => ?_)
  · have h := h.1 q
    refine cw_aload_n dX10_writeOwners_52 0 rfl rfl ?_
    refine cw_getf (C := RX10) (T := TX10) (N := 10) (ci := 8) inX10_writeOwners_RX10 0 (show 0 < 32 by decide) rfl rfl 1 (by decide) (by decide +kernel) rfl dX10_writeOwners_53 ?_
    refine cw_getf (C := RX8) (T := TX8) (N := 2) (ci := 7) inX10_writeOwners_RX8 3 (show 3 < 32 by decide) rfl rfl 1 (by decide) (by decide +kernel) rfl dX10_writeOwners_56 ?_
    exact cw_iret rfl dX10_writeOwners_59 h
  · have h := h.2 q
    refine cw_aload_n dX10_writeOwners_23 0 rfl rfl ?_
    refine cw_getf (C := RX10) (T := TX10) (N := 10) (ci := 8) inX10_writeOwners_RX10 0 (show 0 < 32 by decide) rfl rfl 2 (by decide) (by decide +kernel) rfl dX10_writeOwners_24 ?_
    refine cw_iload_n dX10_writeOwners_27 2 rfl rfl ?_
    obtain ⟨v_28, J_28, hc_28, h⟩ := h
    refine cw_callV (o := 5) (As := [.int x2]) hc_28 okX1_endsPiece rfl gX10_writeOwners_X1_endsPiece (by decide) (show 5 < 32 by decide) rfl (ci := 0) rfl rfl (Nat.le_of_ble_eq_true rfl) dX10_writeOwners_28 ?_
    refine cw_if_eq (tgt := 46) dX10_writeOwners_31 (by decide) (fun q => ?_) (fun q => ?_)
    · have h := h.1 q
      refine cw_iinc (v := x2 + 1) dX10_writeOwners_46 (j := 2) rfl rfl (by decide) rfl ?_
      refine cw_goto (tgt := 12) dX10_writeOwners_49 (by decide) ?_
      refine cw_sub [1, 2, 0] rfl ?_
      exact h
    · have h := h.2 q
      refine cw_aload_n dX10_writeOwners_34 0 rfl rfl ?_
      refine cw_iload_n dX10_writeOwners_35 1 rfl rfl ?_
      refine cw_iload_n dX10_writeOwners_36 2 rfl rfl ?_
      refine cw_iconst (v := 1) dX10_writeOwners_37 (by decide) ?_
      refine cw_iadd dX10_writeOwners_38 ?_
      obtain ⟨J_39, hc_39, h⟩ := h
      refine cw_callV (o := 0) (As := [.int x1, .int (x2 + 1)]) hc_39 okX10_writePiece rfl gX10_writeOwners_X10_writePiece (by decide) (show 0 < 32 by decide) rfl (ci := 8) rfl rfl (Nat.le_of_ble_eq_true rfl) dX10_writeOwners_39 ?_
      refine cw_iload_n dX10_writeOwners_42 2 rfl rfl ?_
      refine cw_iconst (v := 1) dX10_writeOwners_43 (by decide) ?_
      refine cw_iadd dX10_writeOwners_44 ?_
      refine cw_istore_n dX10_writeOwners_45 rfl (by decide) rfl ?_
      refine cw_iinc (v := x2 + 1) dX10_writeOwners_46 (j := 2) rfl rfl (by decide) rfl ?_
      refine cw_goto (tgt := 12) dX10_writeOwners_49 (by decide) ?_
      refine cw_sub [2, 1, 0] rfl ?_
      exact h
abbrev bX10_writePiece_0_51 (K : cw_K) (r : Option Value) (J0 : cw_M) (x3 : Int32) (x4 : Int32) (I : cw_M) : Prop := cw_B (cc_w K) mX10_writePiece (cw_Z (cc_w K) r J0) 0 0 I 51 [(0, .ref (cw_a (cc_w K) 0)), (3, .int x3), (4, .int x4)] []
set_option maxRecDepth 20000 in
set_option maxHeartbeats 4000000 in
theorem eX10_writePiece_0 {K : cw_K} {r : Option Value} {J0 I : cw_M} {x1 : Int32} {x2 : Int32} (h : ((x1 ≤ 0 → (∃ J_20 : cw_M, cw_C (cc_w K) mX8_addNumber [.ref (cw_a (cc_w K) 3), .int (x2 - x1)] I none J_20 ∧ (vp_in x1 24 ∧ ((¬ (J_20 9 x1.toNatClampNeg) = (-1) → bX10_writePiece_0_51 K r J0 (J_20 9 x1.toNatClampNeg) 0 J_20) ∧ ((J_20 9 x1.toNatClampNeg) = (-1) → (∃ J_44 : cw_M, cw_C (cc_w K) mX8_add [.ref (cw_a (cc_w K) 3), .int 45] J_20 none J_44 ∧ (r = none ∧ J0 = J_44))))))) ∧ (¬ x1 ≤ 0 → (∃ J_10 : cw_M, cw_C (cc_w K) mX8_add [.ref (cw_a (cc_w K) 3), .int 32] I none J_10 ∧ (∃ J_20 : cw_M, cw_C (cc_w K) mX8_addNumber [.ref (cw_a (cc_w K) 3), .int (x2 - x1)] J_10 none J_20 ∧ (vp_in x1 24 ∧ ((¬ (J_20 9 x1.toNatClampNeg) = (-1) → bX10_writePiece_0_51 K r J0 (J_20 9 x1.toNatClampNeg) 0 J_20) ∧ ((J_20 9 x1.toNatClampNeg) = (-1) → (∃ J_44 : cw_M, cw_C (cc_w K) mX8_add [.ref (cw_a (cc_w K) 3), .int 45] J_20 none J_44 ∧ (r = none ∧ J0 = J_44)))))))))) : cw_C (cc_w K) mX10_writePiece [.ref (cw_a (cc_w K) 0), .int x1, .int x2] I r J0 := by
  refine cw_entry okX10_writePiece (Nat.le_of_ble_eq_true rfl) (show cw_B (cc_w K) mX10_writePiece (cw_Z (cc_w K) r J0) 0 0 I 0 [(0, .ref (cw_a (cc_w K) 0)), (1, .int x1), (2, .int x2)] [] from ?_)
  refine cw_iload_n dX10_writePiece_0 1 rfl rfl ?_
  refine cw_if_le (tgt := 13) dX10_writePiece_1 (by decide) (fun q => ?_) (fun q => ?_)
  · have h := h.1 q
    refine cw_aload_n dX10_writePiece_13 0 rfl rfl ?_
    refine cw_getf (C := RX10) (T := TX10) (N := 10) (ci := 8) inX10_writePiece_RX10 0 (show 0 < 32 by decide) rfl rfl 1 (by decide) (by decide +kernel) rfl dX10_writePiece_14 ?_
    refine cw_iload_n dX10_writePiece_17 2 rfl rfl ?_
    refine cw_iload_n dX10_writePiece_18 1 rfl rfl ?_
    refine cw_isub dX10_writePiece_19 ?_
    obtain ⟨J_20, hc_20, h⟩ := h
    refine cw_callV (o := 3) (As := [.int (x2 - x1)]) hc_20 okX8_addNumber rfl gX10_writePiece_X8_addNumber (by decide) (show 3 < 32 by decide) rfl (ci := 7) rfl rfl (Nat.le_of_ble_eq_true rfl) dX10_writePiece_20 ?_
    refine cw_aload_n dX10_writePiece_23 0 rfl rfl ?_
    refine cw_getf (C := RX10) (T := TX10) (N := 10) (ci := 8) inX10_writePiece_RX10 0 (show 0 < 32 by decide) rfl rfl 2 (by decide) (by decide +kernel) rfl dX10_writePiece_24 ?_
    refine cw_getf (C := RX1) (T := TX1) (N := 6) (ci := 0) inX10_writePiece_RX1 5 (show 5 < 32 by decide) rfl rfl 5 (by decide) (by decide +kernel) rfl dX10_writePiece_27 ?_
    refine cw_iload_n dX10_writePiece_30 1 rfl rfl ?_
    obtain ⟨g_31, h⟩ := h
    refine cw_iald 9 (show 9 < 32 by decide) rfl 0 rfl dX10_writePiece_31 g_31 ?_
    refine cw_istore_n dX10_writePiece_32 rfl (by decide) rfl ?_
    refine cw_iload_n dX10_writePiece_33 0 rfl rfl ?_
    refine cw_iconst (v := (-1)) dX10_writePiece_34 (by decide) ?_
    refine cw_icmp_ne (tgt := 48) dX10_writePiece_35 (by decide) (fun q => ?_) (fun q => ?_)
    · have h := h.1 q
      refine cw_iconst (v := 0) dX10_writePiece_48 (by decide) ?_
      refine cw_istore dX10_writePiece_49 (by decide) rfl ?_
      refine cw_sub [2, 1, 0] rfl ?_
      exact h
    · have h := h.2 q
      refine cw_aload_n dX10_writePiece_38 1 rfl rfl ?_
      refine cw_getf (C := RX10) (T := TX10) (N := 10) (ci := 8) inX10_writePiece_RX10 0 (show 0 < 32 by decide) rfl rfl 1 (by decide) (by decide +kernel) rfl dX10_writePiece_39 ?_
      refine cw_bipush (v := 45) dX10_writePiece_42 (by decide) ?_
      obtain ⟨J_44, hc_44, h⟩ := h
      refine cw_callV (o := 3) (As := [.int 45]) hc_44 okX8_add rfl gX10_writePiece_X8_add (by decide) (show 3 < 32 by decide) rfl (ci := 7) rfl rfl (Nat.le_of_ble_eq_true rfl) dX10_writePiece_44 ?_
      exact cw_vret rfl dX10_writePiece_47 h
  · have h := h.2 q
    refine cw_aload_n dX10_writePiece_4 0 rfl rfl ?_
    refine cw_getf (C := RX10) (T := TX10) (N := 10) (ci := 8) inX10_writePiece_RX10 0 (show 0 < 32 by decide) rfl rfl 1 (by decide) (by decide +kernel) rfl dX10_writePiece_5 ?_
    refine cw_bipush (v := 32) dX10_writePiece_8 (by decide) ?_
    obtain ⟨J_10, hc_10, h⟩ := h
    refine cw_callV (o := 3) (As := [.int 32]) hc_10 okX8_add rfl gX10_writePiece_X8_add (by decide) (show 3 < 32 by decide) rfl (ci := 7) rfl rfl (Nat.le_of_ble_eq_true rfl) dX10_writePiece_10 ?_
    refine cw_aload_n dX10_writePiece_13 0 rfl rfl ?_
    refine cw_getf (C := RX10) (T := TX10) (N := 10) (ci := 8) inX10_writePiece_RX10 0 (show 0 < 32 by decide) rfl rfl 1 (by decide) (by decide +kernel) rfl dX10_writePiece_14 ?_
    refine cw_iload_n dX10_writePiece_17 2 rfl rfl ?_
    refine cw_iload_n dX10_writePiece_18 1 rfl rfl ?_
    refine cw_isub dX10_writePiece_19 ?_
    obtain ⟨J_20, hc_20, h⟩ := h
    refine cw_callV (o := 3) (As := [.int (x2 - x1)]) hc_20 okX8_addNumber rfl gX10_writePiece_X8_addNumber (by decide) (show 3 < 32 by decide) rfl (ci := 7) rfl rfl (Nat.le_of_ble_eq_true rfl) dX10_writePiece_20 ?_
    refine cw_aload_n dX10_writePiece_23 0 rfl rfl ?_
    refine cw_getf (C := RX10) (T := TX10) (N := 10) (ci := 8) inX10_writePiece_RX10 0 (show 0 < 32 by decide) rfl rfl 2 (by decide) (by decide +kernel) rfl dX10_writePiece_24 ?_
    refine cw_getf (C := RX1) (T := TX1) (N := 6) (ci := 0) inX10_writePiece_RX1 5 (show 5 < 32 by decide) rfl rfl 5 (by decide) (by decide +kernel) rfl dX10_writePiece_27 ?_
    refine cw_iload_n dX10_writePiece_30 1 rfl rfl ?_
    obtain ⟨g_31, h⟩ := h
    refine cw_iald 9 (show 9 < 32 by decide) rfl 0 rfl dX10_writePiece_31 g_31 ?_
    refine cw_istore_n dX10_writePiece_32 rfl (by decide) rfl ?_
    refine cw_iload_n dX10_writePiece_33 0 rfl rfl ?_
    refine cw_iconst (v := (-1)) dX10_writePiece_34 (by decide) ?_
    refine cw_icmp_ne (tgt := 48) dX10_writePiece_35 (by decide) (fun q => ?_) (fun q => ?_)
    · have h := h.1 q
      refine cw_iconst (v := 0) dX10_writePiece_48 (by decide) ?_
      refine cw_istore dX10_writePiece_49 (by decide) rfl ?_
      refine cw_sub [2, 1, 0] rfl ?_
      exact h
    · have h := h.2 q
      refine cw_aload_n dX10_writePiece_38 1 rfl rfl ?_
      refine cw_getf (C := RX10) (T := TX10) (N := 10) (ci := 8) inX10_writePiece_RX10 0 (show 0 < 32 by decide) rfl rfl 1 (by decide) (by decide +kernel) rfl dX10_writePiece_39 ?_
      refine cw_bipush (v := 45) dX10_writePiece_42 (by decide) ?_
      obtain ⟨J_44, hc_44, h⟩ := h
      refine cw_callV (o := 3) (As := [.int 45]) hc_44 okX8_add rfl gX10_writePiece_X8_add (by decide) (show 3 < 32 by decide) rfl (ci := 7) rfl rfl (Nat.le_of_ble_eq_true rfl) dX10_writePiece_44 ?_
      exact cw_vret rfl dX10_writePiece_47 h
set_option maxRecDepth 20000 in
set_option maxHeartbeats 4000000 in
theorem tbX10_writePiece_0_51 {K : cw_K} {r : Option Value} {J0 I : cw_M} {x3 : Int32} {x4 : Int32} (h : (vp_in x3 6 ∧ (((I 7 x3.toNatClampNeg) ≤ x4 → (r = none ∧ J0 = I)) ∧ (¬ (I 7 x3.toNatClampNeg) ≤ x4 → (vp_in ((x3 * 6) + x4) 36 ∧ (∃ J_84 : cw_M, cw_C (cc_w K) mX8_add [.ref (cw_a (cc_w K) 3), .int (I 6 ((x3 * 6) + x4).toNatClampNeg)] I none J_84 ∧ bX10_writePiece_0_51 K r J0 x3 (x4 + 1) J_84)))))) : bX10_writePiece_0_51 K r J0 x3 x4 I := by
  refine cw_iload dX10_writePiece_51 2 rfl ?_
  refine cw_aload_n dX10_writePiece_53 0 rfl rfl ?_
  refine cw_getf (C := RX10) (T := TX10) (N := 10) (ci := 8) inX10_writePiece_RX10 0 (show 0 < 32 by decide) rfl rfl 2 (by decide) (by decide +kernel) rfl dX10_writePiece_54 ?_
  refine cw_getf (C := RX1) (T := TX1) (N := 6) (ci := 0) inX10_writePiece_RX1 5 (show 5 < 32 by decide) rfl rfl 3 (by decide) (by decide +kernel) rfl dX10_writePiece_57 ?_
  refine cw_iload_n dX10_writePiece_60 1 rfl rfl ?_
  obtain ⟨g_61, h⟩ := h
  refine cw_iald 7 (show 7 < 32 by decide) rfl 0 rfl dX10_writePiece_61 g_61 ?_
  refine cw_icmp_ge (tgt := 93) dX10_writePiece_62 (by decide) (fun q => ?_) (fun q => ?_)
  · have h := h.1 q
    exact cw_vret rfl dX10_writePiece_93 h
  · have h := h.2 q
    refine cw_aload_n dX10_writePiece_65 0 rfl rfl ?_
    refine cw_getf (C := RX10) (T := TX10) (N := 10) (ci := 8) inX10_writePiece_RX10 0 (show 0 < 32 by decide) rfl rfl 1 (by decide) (by decide +kernel) rfl dX10_writePiece_66 ?_
    refine cw_aload_n dX10_writePiece_69 0 rfl rfl ?_
    refine cw_getf (C := RX10) (T := TX10) (N := 10) (ci := 8) inX10_writePiece_RX10 0 (show 0 < 32 by decide) rfl rfl 2 (by decide) (by decide +kernel) rfl dX10_writePiece_70 ?_
    refine cw_getf (C := RX1) (T := TX1) (N := 6) (ci := 0) inX10_writePiece_RX1 5 (show 5 < 32 by decide) rfl rfl 2 (by decide) (by decide +kernel) rfl dX10_writePiece_73 ?_
    refine cw_iload_n dX10_writePiece_76 1 rfl rfl ?_
    refine cw_bipush (v := 6) dX10_writePiece_77 (by decide) ?_
    refine cw_imul dX10_writePiece_79 ?_
    refine cw_iload dX10_writePiece_80 2 rfl ?_
    refine cw_iadd dX10_writePiece_82 ?_
    obtain ⟨g_83, h⟩ := h
    refine cw_iald 6 (show 6 < 32 by decide) rfl 0 rfl dX10_writePiece_83 g_83 ?_
    obtain ⟨J_84, hc_84, h⟩ := h
    refine cw_callV (o := 3) (As := [.int (I 6 ((x3 * 6) + x4).toNatClampNeg)]) hc_84 okX8_add rfl gX10_writePiece_X8_add (by decide) (show 3 < 32 by decide) rfl (ci := 7) rfl rfl (Nat.le_of_ble_eq_true rfl) dX10_writePiece_84 ?_
    refine cw_iinc (v := x4 + 1) dX10_writePiece_87 (j := 2) rfl rfl (by decide) rfl ?_
    refine cw_goto (tgt := 51) dX10_writePiece_90 (by decide) ?_
    refine cw_sub [1, 2, 0] rfl ?_
    exact h
abbrev bX5_advance_15_8 (K : cw_K) (r : Option Value) (J0 : cw_M) (I : cw_M) : Prop := cw_B (cc_w K) mX5_advance (cw_Z (cc_w K) r J0) 0 0 I 8 [(0, .ref (cw_a (cc_w K) 15))] []
abbrev bX5_advance_15_91 (K : cw_K) (r : Option Value) (J0 : cw_M) (I : cw_M) : Prop := cw_B (cc_w K) mX5_advance (cw_Z (cc_w K) r J0) 0 0 I 91 [(0, .ref (cw_a (cc_w K) 15))] []
abbrev bX5_advance_15_115 (K : cw_K) (r : Option Value) (J0 : cw_M) (I : cw_M) : Prop := cw_B (cc_w K) mX5_advance (cw_Z (cc_w K) r J0) 0 0 I 115 [(0, .ref (cw_a (cc_w K) 15))] []
abbrev bX5_advance_15_151 (K : cw_K) (r : Option Value) (J0 : cw_M) (x1 : Int32) (I : cw_M) : Prop := cw_B (cc_w K) mX5_advance (cw_Z (cc_w K) r J0) 0 0 I 151 [(0, .ref (cw_a (cc_w K) 15)), (1, .int x1)] []
set_option maxRecDepth 20000 in
set_option maxHeartbeats 4000000 in
theorem eX5_advance_15 {K : cw_K} {r : Option Value} {J0 I : cw_M} (h : bX5_advance_15_8 K r J0 (cw_st I 15 3 (I 15 4))) : cw_C (cc_w K) mX5_advance [.ref (cw_a (cc_w K) 15)] I r J0 := by
  refine cw_entry okX5_advance (Nat.le_of_ble_eq_true rfl) (show cw_B (cc_w K) mX5_advance (cw_Z (cc_w K) r J0) 0 0 I 0 [(0, .ref (cw_a (cc_w K) 15))] [] from ?_)
  refine cw_aload_n dX5_advance_0 0 rfl rfl ?_
  refine cw_aload_n dX5_advance_1 0 rfl rfl ?_
  refine cw_getf (C := RX5) (T := TX5) (N := 7) (ci := 4) inX5_advance_RX5 15 (show 15 < 32 by decide) rfl rfl 4 (by decide) (by decide +kernel) rfl dX5_advance_2 ?_
  refine cw_putf (C := RX5) (T := TX5) (N := 7) (ci := 4) inX5_advance_RX5 tyX5 tyX5_ok nmX5 15 (show 15 < 32 by decide) rfl rfl 3 (by decide) (by decide +kernel) rfl rfl (show 3 < 7 by decide) rfl dX5_advance_5 ?_
  exact h
set_option maxRecDepth 20000 in
set_option maxHeartbeats 4000000 in
theorem tbX5_advance_15_8 {K : cw_K} {r : Option Value} {J0 I : cw_M} (h : (((I 1 1) ≤ (I 15 3) → (((I 1 1) ≤ (I 15 3) → bX5_advance_15_91 K r J0 (cw_st I 15 2 0)) ∧ (¬ (I 1 1) ≤ (I 15 3) → (vp_in (I 15 3) 600 ∧ (∃ (v_81 : Int32) (J_81 : cw_M), cw_C (cc_w K) mX5_kindOf [.int (I 2 (I 15 3).toNatClampNeg)] I (some (.int v_81)) J_81 ∧ bX5_advance_15_91 K r J0 (cw_st J_81 15 2 v_81)))))) ∧ (¬ (I 1 1) ≤ (I 15 3) → (vp_in (I 15 3) 600 ∧ (∃ (v_34 : Int32) (J_34 : cw_M), cw_C (cc_w K) mX5_kindOf [.int (I 2 (I 15 3).toNatClampNeg)] I (some (.int v_34)) J_34 ∧ ((¬ v_34 = 4 → (((J_34 1 1) ≤ (J_34 15 3) → bX5_advance_15_91 K r J0 (cw_st J_34 15 2 0)) ∧ (¬ (J_34 1 1) ≤ (J_34 15 3) → (vp_in (J_34 15 3) 600 ∧ (∃ (v_81 : Int32) (J_81 : cw_M), cw_C (cc_w K) mX5_kindOf [.int (J_34 2 (J_34 15 3).toNatClampNeg)] J_34 (some (.int v_81)) J_81 ∧ bX5_advance_15_91 K r J0 (cw_st J_81 15 2 v_81)))))) ∧ (v_34 = 4 → bX5_advance_15_8 K r J0 (cw_st J_34 15 3 ((J_34 15 3) + 1))))))))) : bX5_advance_15_8 K r J0  I := by
  refine cw_aload_n dX5_advance_8 0 rfl rfl ?_
  refine cw_getf (C := RX5) (T := TX5) (N := 7) (ci := 4) inX5_advance_RX5 15 (show 15 < 32 by decide) rfl rfl 3 (by decide) (by decide +kernel) rfl dX5_advance_9 ?_
  refine cw_aload_n dX5_advance_12 0 rfl rfl ?_
  refine cw_getf (C := RX5) (T := TX5) (N := 7) (ci := 4) inX5_advance_RX5 15 (show 15 < 32 by decide) rfl rfl 6 (by decide) (by decide +kernel) rfl dX5_advance_13 ?_
  refine cw_getf (C := RX8) (T := TX8) (N := 2) (ci := 7) inX5_advance_RX8 1 (show 1 < 32 by decide) rfl rfl 1 (by decide) (by decide +kernel) rfl dX5_advance_16 ?_
  refine cw_icmp_ge (tgt := 54) dX5_advance_19 (by decide) (fun q => ?_) (fun q => ?_)
  · have h := h.1 q
    refine cw_aload_n dX5_advance_54 0 rfl rfl ?_
    refine cw_aload_n dX5_advance_55 0 rfl rfl ?_
    refine cw_getf (C := RX5) (T := TX5) (N := 7) (ci := 4) inX5_advance_RX5 15 (show 15 < 32 by decide) rfl rfl 3 (by decide) (by decide +kernel) rfl dX5_advance_56 ?_
    refine cw_aload_n dX5_advance_59 0 rfl rfl ?_
    refine cw_getf (C := RX5) (T := TX5) (N := 7) (ci := 4) inX5_advance_RX5 15 (show 15 < 32 by decide) rfl rfl 6 (by decide) (by decide +kernel) rfl dX5_advance_60 ?_
    refine cw_getf (C := RX8) (T := TX8) (N := 2) (ci := 7) inX5_advance_RX8 1 (show 1 < 32 by decide) rfl rfl 1 (by decide) (by decide +kernel) rfl dX5_advance_63 ?_
    refine cw_icmp_ge (tgt := 87) dX5_advance_66 (by decide) (fun q => ?_) (fun q => ?_)
    · have h := h.1 q
      refine cw_iconst (v := 0) dX5_advance_87 (by decide) ?_
      refine cw_putf (C := RX5) (T := TX5) (N := 7) (ci := 4) inX5_advance_RX5 tyX5 tyX5_ok nmX5 15 (show 15 < 32 by decide) rfl rfl 2 (by decide) (by decide +kernel) rfl rfl (show 2 < 7 by decide) rfl dX5_advance_88 ?_
      exact h
    · have h := h.2 q
      refine cw_aload_n dX5_advance_69 0 rfl rfl ?_
      refine cw_getf (C := RX5) (T := TX5) (N := 7) (ci := 4) inX5_advance_RX5 15 (show 15 < 32 by decide) rfl rfl 6 (by decide) (by decide +kernel) rfl dX5_advance_70 ?_
      refine cw_getf (C := RX8) (T := TX8) (N := 2) (ci := 7) inX5_advance_RX8 1 (show 1 < 32 by decide) rfl rfl 0 (by decide) (by decide +kernel) rfl dX5_advance_73 ?_
      refine cw_aload_n dX5_advance_76 0 rfl rfl ?_
      refine cw_getf (C := RX5) (T := TX5) (N := 7) (ci := 4) inX5_advance_RX5 15 (show 15 < 32 by decide) rfl rfl 3 (by decide) (by decide +kernel) rfl dX5_advance_77 ?_
      obtain ⟨g_80, h⟩ := h
      refine cw_iald 2 (show 2 < 32 by decide) rfl 0 rfl dX5_advance_80 g_80 ?_
      obtain ⟨v_81, J_81, hc_81, h⟩ := h
      refine cw_callS (As := [.int (I 2 (I 15 3).toNatClampNeg)]) hc_81 okX5_kindOf rfl gX5_advance_X5_kindOf (by decide) rfl rfl (Nat.le_of_ble_eq_true rfl) dX5_advance_81 ?_
      refine cw_goto (tgt := 88) dX5_advance_84 (by decide) ?_
      refine cw_putf (C := RX5) (T := TX5) (N := 7) (ci := 4) inX5_advance_RX5 tyX5 tyX5_ok nmX5 15 (show 15 < 32 by decide) rfl rfl 2 (by decide) (by decide +kernel) rfl rfl (show 2 < 7 by decide) rfl dX5_advance_88 ?_
      exact h
  · have h := h.2 q
    refine cw_aload_n dX5_advance_22 0 rfl rfl ?_
    refine cw_getf (C := RX5) (T := TX5) (N := 7) (ci := 4) inX5_advance_RX5 15 (show 15 < 32 by decide) rfl rfl 6 (by decide) (by decide +kernel) rfl dX5_advance_23 ?_
    refine cw_getf (C := RX8) (T := TX8) (N := 2) (ci := 7) inX5_advance_RX8 1 (show 1 < 32 by decide) rfl rfl 0 (by decide) (by decide +kernel) rfl dX5_advance_26 ?_
    refine cw_aload_n dX5_advance_29 0 rfl rfl ?_
    refine cw_getf (C := RX5) (T := TX5) (N := 7) (ci := 4) inX5_advance_RX5 15 (show 15 < 32 by decide) rfl rfl 3 (by decide) (by decide +kernel) rfl dX5_advance_30 ?_
    obtain ⟨g_33, h⟩ := h
    refine cw_iald 2 (show 2 < 32 by decide) rfl 0 rfl dX5_advance_33 g_33 ?_
    obtain ⟨v_34, J_34, hc_34, h⟩ := h
    refine cw_callS (As := [.int (I 2 (I 15 3).toNatClampNeg)]) hc_34 okX5_kindOf rfl gX5_advance_X5_kindOf (by decide) rfl rfl (Nat.le_of_ble_eq_true rfl) dX5_advance_34 ?_
    refine cw_iconst (v := 4) dX5_advance_37 (by decide) ?_
    refine cw_icmp_ne (tgt := 54) dX5_advance_38 (by decide) (fun q => ?_) (fun q => ?_)
    · have h := h.1 q
      refine cw_aload_n dX5_advance_54 0 rfl rfl ?_
      refine cw_aload_n dX5_advance_55 0 rfl rfl ?_
      refine cw_getf (C := RX5) (T := TX5) (N := 7) (ci := 4) inX5_advance_RX5 15 (show 15 < 32 by decide) rfl rfl 3 (by decide) (by decide +kernel) rfl dX5_advance_56 ?_
      refine cw_aload_n dX5_advance_59 0 rfl rfl ?_
      refine cw_getf (C := RX5) (T := TX5) (N := 7) (ci := 4) inX5_advance_RX5 15 (show 15 < 32 by decide) rfl rfl 6 (by decide) (by decide +kernel) rfl dX5_advance_60 ?_
      refine cw_getf (C := RX8) (T := TX8) (N := 2) (ci := 7) inX5_advance_RX8 1 (show 1 < 32 by decide) rfl rfl 1 (by decide) (by decide +kernel) rfl dX5_advance_63 ?_
      refine cw_icmp_ge (tgt := 87) dX5_advance_66 (by decide) (fun q => ?_) (fun q => ?_)
      · have h := h.1 q
        refine cw_iconst (v := 0) dX5_advance_87 (by decide) ?_
        refine cw_putf (C := RX5) (T := TX5) (N := 7) (ci := 4) inX5_advance_RX5 tyX5 tyX5_ok nmX5 15 (show 15 < 32 by decide) rfl rfl 2 (by decide) (by decide +kernel) rfl rfl (show 2 < 7 by decide) rfl dX5_advance_88 ?_
        exact h
      · have h := h.2 q
        refine cw_aload_n dX5_advance_69 0 rfl rfl ?_
        refine cw_getf (C := RX5) (T := TX5) (N := 7) (ci := 4) inX5_advance_RX5 15 (show 15 < 32 by decide) rfl rfl 6 (by decide) (by decide +kernel) rfl dX5_advance_70 ?_
        refine cw_getf (C := RX8) (T := TX8) (N := 2) (ci := 7) inX5_advance_RX8 1 (show 1 < 32 by decide) rfl rfl 0 (by decide) (by decide +kernel) rfl dX5_advance_73 ?_
        refine cw_aload_n dX5_advance_76 0 rfl rfl ?_
        refine cw_getf (C := RX5) (T := TX5) (N := 7) (ci := 4) inX5_advance_RX5 15 (show 15 < 32 by decide) rfl rfl 3 (by decide) (by decide +kernel) rfl dX5_advance_77 ?_
        obtain ⟨g_80, h⟩ := h
        refine cw_iald 2 (show 2 < 32 by decide) rfl 0 rfl dX5_advance_80 g_80 ?_
        obtain ⟨v_81, J_81, hc_81, h⟩ := h
        refine cw_callS (As := [.int (J_34 2 (J_34 15 3).toNatClampNeg)]) hc_81 okX5_kindOf rfl gX5_advance_X5_kindOf (by decide) rfl rfl (Nat.le_of_ble_eq_true rfl) dX5_advance_81 ?_
        refine cw_goto (tgt := 88) dX5_advance_84 (by decide) ?_
        refine cw_putf (C := RX5) (T := TX5) (N := 7) (ci := 4) inX5_advance_RX5 tyX5 tyX5_ok nmX5 15 (show 15 < 32 by decide) rfl rfl 2 (by decide) (by decide +kernel) rfl rfl (show 2 < 7 by decide) rfl dX5_advance_88 ?_
        exact h
    · have h := h.2 q
      refine cw_aload_n dX5_advance_41 0 rfl rfl ?_
      refine cw_dup dX5_advance_42 rfl ?_
      refine cw_getf (C := RX5) (T := TX5) (N := 7) (ci := 4) inX5_advance_RX5 15 (show 15 < 32 by decide) rfl rfl 3 (by decide) (by decide +kernel) rfl dX5_advance_43 ?_
      refine cw_iconst (v := 1) dX5_advance_46 (by decide) ?_
      refine cw_iadd dX5_advance_47 ?_
      refine cw_putf (C := RX5) (T := TX5) (N := 7) (ci := 4) inX5_advance_RX5 tyX5 tyX5_ok nmX5 15 (show 15 < 32 by decide) rfl rfl 3 (by decide) (by decide +kernel) rfl rfl (show 3 < 7 by decide) rfl dX5_advance_48 ?_
      refine cw_goto (tgt := 8) dX5_advance_51 (by decide) ?_
      exact h
set_option maxRecDepth 20000 in
set_option maxHeartbeats 4000000 in
theorem tbX5_advance_15_91 {K : cw_K} {r : Option Value} {J0 I : cw_M} (h : ((¬ (I 15 2) = 0 → bX5_advance_15_115 K r J0 (cw_st I 15 4 ((I 15 3) + 1))) ∧ ((I 15 2) = 0 → bX5_advance_15_115 K r J0 (cw_st I 15 4 (I 15 3))))) : bX5_advance_15_91 K r J0  I := by
  refine cw_aload_n dX5_advance_91 0 rfl rfl ?_
  refine cw_aload_n dX5_advance_92 0 rfl rfl ?_
  refine cw_getf (C := RX5) (T := TX5) (N := 7) (ci := 4) inX5_advance_RX5 15 (show 15 < 32 by decide) rfl rfl 2 (by decide) (by decide +kernel) rfl dX5_advance_93 ?_
  refine cw_if_ne (tgt := 106) dX5_advance_96 (by decide) (fun q => ?_) (fun q => ?_)
  · have h := h.1 q
    refine cw_aload_n dX5_advance_106 0 rfl rfl ?_
    refine cw_getf (C := RX5) (T := TX5) (N := 7) (ci := 4) inX5_advance_RX5 15 (show 15 < 32 by decide) rfl rfl 3 (by decide) (by decide +kernel) rfl dX5_advance_107 ?_
    refine cw_iconst (v := 1) dX5_advance_110 (by decide) ?_
    refine cw_iadd dX5_advance_111 ?_
    refine cw_putf (C := RX5) (T := TX5) (N := 7) (ci := 4) inX5_advance_RX5 tyX5 tyX5_ok nmX5 15 (show 15 < 32 by decide) rfl rfl 4 (by decide) (by decide +kernel) rfl rfl (show 4 < 7 by decide) rfl dX5_advance_112 ?_
    exact h
  · have h := h.2 q
    refine cw_aload_n dX5_advance_99 0 rfl rfl ?_
    refine cw_getf (C := RX5) (T := TX5) (N := 7) (ci := 4) inX5_advance_RX5 15 (show 15 < 32 by decide) rfl rfl 3 (by decide) (by decide +kernel) rfl dX5_advance_100 ?_
    refine cw_goto (tgt := 112) dX5_advance_103 (by decide) ?_
    refine cw_putf (C := RX5) (T := TX5) (N := 7) (ci := 4) inX5_advance_RX5 tyX5 tyX5_ok nmX5 15 (show 15 < 32 by decide) rfl rfl 4 (by decide) (by decide +kernel) rfl rfl (show 4 < 7 by decide) rfl dX5_advance_112 ?_
    exact h
set_option maxRecDepth 20000 in
set_option maxHeartbeats 4000000 in
theorem tbX5_advance_15_115 {K : cw_K} {r : Option Value} {J0 I : cw_M} (h : (((I 15 2) = 1 → ((¬ (I 15 2) = 1 → bX5_advance_15_151 K r J0 ((I 15 3) + 2) I) ∧ ((I 15 2) = 1 → bX5_advance_15_151 K r J0 ((I 15 3) + 8) I))) ∧ (¬ (I 15 2) = 1 → ((¬ (I 15 2) = 2 → (r = none ∧ J0 = I)) ∧ ((I 15 2) = 2 → ((¬ (I 15 2) = 1 → bX5_advance_15_151 K r J0 ((I 15 3) + 2) I) ∧ ((I 15 2) = 1 → bX5_advance_15_151 K r J0 ((I 15 3) + 8) I))))))) : bX5_advance_15_115 K r J0  I := by
  refine cw_aload_n dX5_advance_115 0 rfl rfl ?_
  refine cw_getf (C := RX5) (T := TX5) (N := 7) (ci := 4) inX5_advance_RX5 15 (show 15 < 32 by decide) rfl rfl 2 (by decide) (by decide +kernel) rfl dX5_advance_116 ?_
  refine cw_iconst (v := 1) dX5_advance_119 (by decide) ?_
  refine cw_icmp_eq (tgt := 131) dX5_advance_120 (by decide) (fun q => ?_) (fun q => ?_)
  · have h := h.1 q
    refine cw_aload_n dX5_advance_131 0 rfl rfl ?_
    refine cw_getf (C := RX5) (T := TX5) (N := 7) (ci := 4) inX5_advance_RX5 15 (show 15 < 32 by decide) rfl rfl 3 (by decide) (by decide +kernel) rfl dX5_advance_132 ?_
    refine cw_aload_n dX5_advance_135 0 rfl rfl ?_
    refine cw_getf (C := RX5) (T := TX5) (N := 7) (ci := 4) inX5_advance_RX5 15 (show 15 < 32 by decide) rfl rfl 2 (by decide) (by decide +kernel) rfl dX5_advance_136 ?_
    refine cw_iconst (v := 1) dX5_advance_139 (by decide) ?_
    refine cw_icmp_ne (tgt := 148) dX5_advance_140 (by decide) (fun q => ?_) (fun q => ?_)
    · have h := h.1 q
      refine cw_iconst (v := 2) dX5_advance_148 (by decide) ?_
      refine cw_iadd dX5_advance_149 ?_
      refine cw_istore_n dX5_advance_150 rfl (by decide) rfl ?_
      refine cw_sub [1, 0] rfl ?_
      exact h
    · have h := h.2 q
      refine cw_bipush (v := 8) dX5_advance_143 (by decide) ?_
      refine cw_goto (tgt := 149) dX5_advance_145 (by decide) ?_
      refine cw_iadd dX5_advance_149 ?_
      refine cw_istore_n dX5_advance_150 rfl (by decide) rfl ?_
      refine cw_sub [1, 0] rfl ?_
      exact h
  · have h := h.2 q
    refine cw_aload_n dX5_advance_123 0 rfl rfl ?_
    refine cw_getf (C := RX5) (T := TX5) (N := 7) (ci := 4) inX5_advance_RX5 15 (show 15 < 32 by decide) rfl rfl 2 (by decide) (by decide +kernel) rfl dX5_advance_124 ?_
    refine cw_iconst (v := 2) dX5_advance_127 (by decide) ?_
    refine cw_icmp_ne (tgt := 220) dX5_advance_128 (by decide) (fun q => ?_) (fun q => ?_)
    · have h := h.1 q
      exact cw_vret rfl dX5_advance_220 h
    · have h := h.2 q
      refine cw_aload_n dX5_advance_131 0 rfl rfl ?_
      refine cw_getf (C := RX5) (T := TX5) (N := 7) (ci := 4) inX5_advance_RX5 15 (show 15 < 32 by decide) rfl rfl 3 (by decide) (by decide +kernel) rfl dX5_advance_132 ?_
      refine cw_aload_n dX5_advance_135 0 rfl rfl ?_
      refine cw_getf (C := RX5) (T := TX5) (N := 7) (ci := 4) inX5_advance_RX5 15 (show 15 < 32 by decide) rfl rfl 2 (by decide) (by decide +kernel) rfl dX5_advance_136 ?_
      refine cw_iconst (v := 1) dX5_advance_139 (by decide) ?_
      refine cw_icmp_ne (tgt := 148) dX5_advance_140 (by decide) (fun q => ?_) (fun q => ?_)
      · have h := h.1 q
        refine cw_iconst (v := 2) dX5_advance_148 (by decide) ?_
        refine cw_iadd dX5_advance_149 ?_
        refine cw_istore_n dX5_advance_150 rfl (by decide) rfl ?_
        refine cw_sub [1, 0] rfl ?_
        exact h
      · have h := h.2 q
        refine cw_bipush (v := 8) dX5_advance_143 (by decide) ?_
        refine cw_goto (tgt := 149) dX5_advance_145 (by decide) ?_
        refine cw_iadd dX5_advance_149 ?_
        refine cw_istore_n dX5_advance_150 rfl (by decide) rfl ?_
        refine cw_sub [1, 0] rfl ?_
        exact h
set_option maxRecDepth 20000 in
set_option maxHeartbeats 4000000 in
theorem tbX5_advance_15_151 {K : cw_K} {r : Option Value} {J0 I : cw_M} {x1 : Int32} (h : (((I 1 1) ≤ (I 15 4) → (((I 15 4) ≤ x1 → (r = none ∧ J0 = cw_st I 15 2 (I 15 2))) ∧ (¬ (I 15 4) ≤ x1 → (r = none ∧ J0 = cw_st I 15 2 5)))) ∧ (¬ (I 1 1) ≤ (I 15 4) → (vp_in (I 15 4) 600 ∧ (∃ (v_177 : Int32) (J_177 : cw_M), cw_C (cc_w K) mX5_kindOf [.int (I 2 (I 15 4).toNatClampNeg)] I (some (.int v_177)) J_177 ∧ ((¬ v_177 = (J_177 15 2) → (((J_177 15 4) ≤ x1 → (r = none ∧ J0 = cw_st J_177 15 2 (J_177 15 2))) ∧ (¬ (J_177 15 4) ≤ x1 → (r = none ∧ J0 = cw_st J_177 15 2 5)))) ∧ (v_177 = (J_177 15 2) → bX5_advance_15_151 K r J0 x1 (cw_st J_177 15 4 ((J_177 15 4) + 1))))))))) : bX5_advance_15_151 K r J0 x1 I := by
  refine cw_aload_n dX5_advance_151 0 rfl rfl ?_
  refine cw_getf (C := RX5) (T := TX5) (N := 7) (ci := 4) inX5_advance_RX5 15 (show 15 < 32 by decide) rfl rfl 4 (by decide) (by decide +kernel) rfl dX5_advance_152 ?_
  refine cw_aload_n dX5_advance_155 0 rfl rfl ?_
  refine cw_getf (C := RX5) (T := TX5) (N := 7) (ci := 4) inX5_advance_RX5 15 (show 15 < 32 by decide) rfl rfl 6 (by decide) (by decide +kernel) rfl dX5_advance_156 ?_
  refine cw_getf (C := RX8) (T := TX8) (N := 2) (ci := 7) inX5_advance_RX8 1 (show 1 < 32 by decide) rfl rfl 1 (by decide) (by decide +kernel) rfl dX5_advance_159 ?_
  refine cw_icmp_ge (tgt := 200) dX5_advance_162 (by decide) (fun q => ?_) (fun q => ?_)
  · have h := h.1 q
    refine cw_aload_n dX5_advance_200 0 rfl rfl ?_
    refine cw_aload_n dX5_advance_201 0 rfl rfl ?_
    refine cw_getf (C := RX5) (T := TX5) (N := 7) (ci := 4) inX5_advance_RX5 15 (show 15 < 32 by decide) rfl rfl 4 (by decide) (by decide +kernel) rfl dX5_advance_202 ?_
    refine cw_iload_n dX5_advance_205 1 rfl rfl ?_
    refine cw_icmp_le (tgt := 213) dX5_advance_206 (by decide) (fun q => ?_) (fun q => ?_)
    · have h := h.1 q
      refine cw_aload_n dX5_advance_213 0 rfl rfl ?_
      refine cw_getf (C := RX5) (T := TX5) (N := 7) (ci := 4) inX5_advance_RX5 15 (show 15 < 32 by decide) rfl rfl 2 (by decide) (by decide +kernel) rfl dX5_advance_214 ?_
      refine cw_putf (C := RX5) (T := TX5) (N := 7) (ci := 4) inX5_advance_RX5 tyX5 tyX5_ok nmX5 15 (show 15 < 32 by decide) rfl rfl 2 (by decide) (by decide +kernel) rfl rfl (show 2 < 7 by decide) rfl dX5_advance_217 ?_
      exact cw_vret rfl dX5_advance_220 h
    · have h := h.2 q
      refine cw_iconst (v := 5) dX5_advance_209 (by decide) ?_
      refine cw_goto (tgt := 217) dX5_advance_210 (by decide) ?_
      refine cw_putf (C := RX5) (T := TX5) (N := 7) (ci := 4) inX5_advance_RX5 tyX5 tyX5_ok nmX5 15 (show 15 < 32 by decide) rfl rfl 2 (by decide) (by decide +kernel) rfl rfl (show 2 < 7 by decide) rfl dX5_advance_217 ?_
      exact cw_vret rfl dX5_advance_220 h
  · have h := h.2 q
    refine cw_aload_n dX5_advance_165 0 rfl rfl ?_
    refine cw_getf (C := RX5) (T := TX5) (N := 7) (ci := 4) inX5_advance_RX5 15 (show 15 < 32 by decide) rfl rfl 6 (by decide) (by decide +kernel) rfl dX5_advance_166 ?_
    refine cw_getf (C := RX8) (T := TX8) (N := 2) (ci := 7) inX5_advance_RX8 1 (show 1 < 32 by decide) rfl rfl 0 (by decide) (by decide +kernel) rfl dX5_advance_169 ?_
    refine cw_aload_n dX5_advance_172 0 rfl rfl ?_
    refine cw_getf (C := RX5) (T := TX5) (N := 7) (ci := 4) inX5_advance_RX5 15 (show 15 < 32 by decide) rfl rfl 4 (by decide) (by decide +kernel) rfl dX5_advance_173 ?_
    obtain ⟨g_176, h⟩ := h
    refine cw_iald 2 (show 2 < 32 by decide) rfl 0 rfl dX5_advance_176 g_176 ?_
    obtain ⟨v_177, J_177, hc_177, h⟩ := h
    refine cw_callS (As := [.int (I 2 (I 15 4).toNatClampNeg)]) hc_177 okX5_kindOf rfl gX5_advance_X5_kindOf (by decide) rfl rfl (Nat.le_of_ble_eq_true rfl) dX5_advance_177 ?_
    refine cw_aload_n dX5_advance_180 0 rfl rfl ?_
    refine cw_getf (C := RX5) (T := TX5) (N := 7) (ci := 4) inX5_advance_RX5 15 (show 15 < 32 by decide) rfl rfl 2 (by decide) (by decide +kernel) rfl dX5_advance_181 ?_
    refine cw_icmp_ne (tgt := 200) dX5_advance_184 (by decide) (fun q => ?_) (fun q => ?_)
    · have h := h.1 q
      refine cw_aload_n dX5_advance_200 0 rfl rfl ?_
      refine cw_aload_n dX5_advance_201 0 rfl rfl ?_
      refine cw_getf (C := RX5) (T := TX5) (N := 7) (ci := 4) inX5_advance_RX5 15 (show 15 < 32 by decide) rfl rfl 4 (by decide) (by decide +kernel) rfl dX5_advance_202 ?_
      refine cw_iload_n dX5_advance_205 1 rfl rfl ?_
      refine cw_icmp_le (tgt := 213) dX5_advance_206 (by decide) (fun q => ?_) (fun q => ?_)
      · have h := h.1 q
        refine cw_aload_n dX5_advance_213 0 rfl rfl ?_
        refine cw_getf (C := RX5) (T := TX5) (N := 7) (ci := 4) inX5_advance_RX5 15 (show 15 < 32 by decide) rfl rfl 2 (by decide) (by decide +kernel) rfl dX5_advance_214 ?_
        refine cw_putf (C := RX5) (T := TX5) (N := 7) (ci := 4) inX5_advance_RX5 tyX5 tyX5_ok nmX5 15 (show 15 < 32 by decide) rfl rfl 2 (by decide) (by decide +kernel) rfl rfl (show 2 < 7 by decide) rfl dX5_advance_217 ?_
        exact cw_vret rfl dX5_advance_220 h
      · have h := h.2 q
        refine cw_iconst (v := 5) dX5_advance_209 (by decide) ?_
        refine cw_goto (tgt := 217) dX5_advance_210 (by decide) ?_
        refine cw_putf (C := RX5) (T := TX5) (N := 7) (ci := 4) inX5_advance_RX5 tyX5 tyX5_ok nmX5 15 (show 15 < 32 by decide) rfl rfl 2 (by decide) (by decide +kernel) rfl rfl (show 2 < 7 by decide) rfl dX5_advance_217 ?_
        exact cw_vret rfl dX5_advance_220 h
    · have h := h.2 q
      refine cw_aload_n dX5_advance_187 0 rfl rfl ?_
      refine cw_dup dX5_advance_188 rfl ?_
      refine cw_getf (C := RX5) (T := TX5) (N := 7) (ci := 4) inX5_advance_RX5 15 (show 15 < 32 by decide) rfl rfl 4 (by decide) (by decide +kernel) rfl dX5_advance_189 ?_
      refine cw_iconst (v := 1) dX5_advance_192 (by decide) ?_
      refine cw_iadd dX5_advance_193 ?_
      refine cw_putf (C := RX5) (T := TX5) (N := 7) (ci := 4) inX5_advance_RX5 tyX5 tyX5_ok nmX5 15 (show 15 < 32 by decide) rfl rfl 4 (by decide) (by decide +kernel) rfl rfl (show 4 < 7 by decide) rfl dX5_advance_194 ?_
      refine cw_goto (tgt := 151) dX5_advance_197 (by decide) ?_
      exact h
set_option maxRecDepth 20000 in
set_option maxHeartbeats 4000000 in
theorem eX5_begin_15 {K : cw_K} {r : Option Value} {J0 I : cw_M} (h : (∃ J_16 : cw_M, cw_C (cc_w K) mX5_advance [.ref (cw_a (cc_w K) 15)] (cw_st (cw_st (cw_st I 15 0 0) 15 1 (-1)) 15 4 0) none J_16 ∧ (r = none ∧ J0 = J_16))) : cw_C (cc_w K) mX5_begin [.ref (cw_a (cc_w K) 15)] I r J0 := by
  refine cw_entry okX5_begin (Nat.le_of_ble_eq_true rfl) (show cw_B (cc_w K) mX5_begin (cw_Z (cc_w K) r J0) 0 0 I 0 [(0, .ref (cw_a (cc_w K) 15))] [] from ?_)
  refine cw_aload_n dX5_begin_0 0 rfl rfl ?_
  refine cw_iconst (v := 0) dX5_begin_1 (by decide) ?_
  refine cw_putf (C := RX5) (T := TX5) (N := 7) (ci := 4) inX5_begin_RX5 tyX5 tyX5_ok nmX5 15 (show 15 < 32 by decide) rfl rfl 0 (by decide) (by decide +kernel) rfl rfl (show 0 < 7 by decide) rfl dX5_begin_2 ?_
  refine cw_aload_n dX5_begin_5 0 rfl rfl ?_
  refine cw_iconst (v := (-1)) dX5_begin_6 (by decide) ?_
  refine cw_putf (C := RX5) (T := TX5) (N := 7) (ci := 4) inX5_begin_RX5 tyX5 tyX5_ok nmX5 15 (show 15 < 32 by decide) rfl rfl 1 (by decide) (by decide +kernel) rfl rfl (show 1 < 7 by decide) rfl dX5_begin_7 ?_
  refine cw_aload_n dX5_begin_10 0 rfl rfl ?_
  refine cw_iconst (v := 0) dX5_begin_11 (by decide) ?_
  refine cw_putf (C := RX5) (T := TX5) (N := 7) (ci := 4) inX5_begin_RX5 tyX5 tyX5_ok nmX5 15 (show 15 < 32 by decide) rfl rfl 4 (by decide) (by decide +kernel) rfl rfl (show 4 < 7 by decide) rfl dX5_begin_12 ?_
  refine cw_aload_n dX5_begin_15 0 rfl rfl ?_
  obtain ⟨J_16, hc_16, h⟩ := h
  refine cw_callV (o := 15) (As := []) hc_16 okX5_advance rfl gX5_begin_X5_advance (by decide) (show 15 < 32 by decide) rfl (ci := 4) rfl rfl (Nat.le_of_ble_eq_true rfl) dX5_begin_16 ?_
  exact cw_vret rfl dX5_begin_19 h
set_option maxRecDepth 20000 in
set_option maxHeartbeats 4000000 in
theorem eX5_kindOf {K : cw_K} {r : Option Value} {J0 I : cw_M} {x0 : Int32} (h : ((x0 < 97 → ((x0 < 48 → ((x0 = 32 → (r = some (.int 4) ∧ J0 = I)) ∧ (¬ x0 = 32 → ((¬ x0 = 10 → ((¬ x0 = 59 → (r = some (.int 5) ∧ J0 = I)) ∧ (x0 = 59 → (r = some (.int 3) ∧ J0 = I)))) ∧ (x0 = 10 → (r = some (.int 4) ∧ J0 = I)))))) ∧ (¬ x0 < 48 → ((57 < x0 → ((x0 = 32 → (r = some (.int 4) ∧ J0 = I)) ∧ (¬ x0 = 32 → ((¬ x0 = 10 → ((¬ x0 = 59 → (r = some (.int 5) ∧ J0 = I)) ∧ (x0 = 59 → (r = some (.int 3) ∧ J0 = I)))) ∧ (x0 = 10 → (r = some (.int 4) ∧ J0 = I)))))) ∧ (¬ 57 < x0 → (r = some (.int 2) ∧ J0 = I)))))) ∧ (¬ x0 < 97 → ((122 < x0 → ((x0 < 48 → ((x0 = 32 → (r = some (.int 4) ∧ J0 = I)) ∧ (¬ x0 = 32 → ((¬ x0 = 10 → ((¬ x0 = 59 → (r = some (.int 5) ∧ J0 = I)) ∧ (x0 = 59 → (r = some (.int 3) ∧ J0 = I)))) ∧ (x0 = 10 → (r = some (.int 4) ∧ J0 = I)))))) ∧ (¬ x0 < 48 → ((57 < x0 → ((x0 = 32 → (r = some (.int 4) ∧ J0 = I)) ∧ (¬ x0 = 32 → ((¬ x0 = 10 → ((¬ x0 = 59 → (r = some (.int 5) ∧ J0 = I)) ∧ (x0 = 59 → (r = some (.int 3) ∧ J0 = I)))) ∧ (x0 = 10 → (r = some (.int 4) ∧ J0 = I)))))) ∧ (¬ 57 < x0 → (r = some (.int 2) ∧ J0 = I)))))) ∧ (¬ 122 < x0 → (r = some (.int 1) ∧ J0 = I)))))) : cw_C (cc_w K) mX5_kindOf [.int x0] I r J0 := by
  refine cw_entry okX5_kindOf (Nat.le_of_ble_eq_true rfl) (show cw_B (cc_w K) mX5_kindOf (cw_Z (cc_w K) r J0) 0 0 I 0 [(0, .int x0)] [] from ?_)
  refine cw_iload_n dX5_kindOf_0 0 rfl rfl ?_
  refine cw_bipush (v := 97) dX5_kindOf_1 (by decide) ?_
  refine cw_icmp_lt (tgt := 14) dX5_kindOf_3 (by decide) (fun q => ?_) (fun q => ?_)
  · have h := h.1 q
    refine cw_iload_n dX5_kindOf_14 0 rfl rfl ?_
    refine cw_bipush (v := 48) dX5_kindOf_15 (by decide) ?_
    refine cw_icmp_lt (tgt := 28) dX5_kindOf_17 (by decide) (fun q => ?_) (fun q => ?_)
    · have h := h.1 q
      refine cw_iload_n dX5_kindOf_28 0 rfl rfl ?_
      refine cw_bipush (v := 32) dX5_kindOf_29 (by decide) ?_
      refine cw_icmp_eq (tgt := 40) dX5_kindOf_31 (by decide) (fun q => ?_) (fun q => ?_)
      · have h := h.1 q
        refine cw_iconst (v := 4) dX5_kindOf_40 (by decide) ?_
        exact cw_iret rfl dX5_kindOf_41 h
      · have h := h.2 q
        refine cw_iload_n dX5_kindOf_34 0 rfl rfl ?_
        refine cw_bipush (v := 10) dX5_kindOf_35 (by decide) ?_
        refine cw_icmp_ne (tgt := 42) dX5_kindOf_37 (by decide) (fun q => ?_) (fun q => ?_)
        · have h := h.1 q
          refine cw_iload_n dX5_kindOf_42 0 rfl rfl ?_
          refine cw_bipush (v := 59) dX5_kindOf_43 (by decide) ?_
          refine cw_icmp_ne (tgt := 52) dX5_kindOf_45 (by decide) (fun q => ?_) (fun q => ?_)
          · have h := h.1 q
            refine cw_iconst (v := 5) dX5_kindOf_52 (by decide) ?_
            exact cw_iret rfl dX5_kindOf_53 h
          · have h := h.2 q
            refine cw_iconst (v := 3) dX5_kindOf_48 (by decide) ?_
            refine cw_goto (tgt := 53) dX5_kindOf_49 (by decide) ?_
            exact cw_iret rfl dX5_kindOf_53 h
        · have h := h.2 q
          refine cw_iconst (v := 4) dX5_kindOf_40 (by decide) ?_
          exact cw_iret rfl dX5_kindOf_41 h
    · have h := h.2 q
      refine cw_iload_n dX5_kindOf_20 0 rfl rfl ?_
      refine cw_bipush (v := 57) dX5_kindOf_21 (by decide) ?_
      refine cw_icmp_gt (tgt := 28) dX5_kindOf_23 (by decide) (fun q => ?_) (fun q => ?_)
      · have h := h.1 q
        refine cw_iload_n dX5_kindOf_28 0 rfl rfl ?_
        refine cw_bipush (v := 32) dX5_kindOf_29 (by decide) ?_
        refine cw_icmp_eq (tgt := 40) dX5_kindOf_31 (by decide) (fun q => ?_) (fun q => ?_)
        · have h := h.1 q
          refine cw_iconst (v := 4) dX5_kindOf_40 (by decide) ?_
          exact cw_iret rfl dX5_kindOf_41 h
        · have h := h.2 q
          refine cw_iload_n dX5_kindOf_34 0 rfl rfl ?_
          refine cw_bipush (v := 10) dX5_kindOf_35 (by decide) ?_
          refine cw_icmp_ne (tgt := 42) dX5_kindOf_37 (by decide) (fun q => ?_) (fun q => ?_)
          · have h := h.1 q
            refine cw_iload_n dX5_kindOf_42 0 rfl rfl ?_
            refine cw_bipush (v := 59) dX5_kindOf_43 (by decide) ?_
            refine cw_icmp_ne (tgt := 52) dX5_kindOf_45 (by decide) (fun q => ?_) (fun q => ?_)
            · have h := h.1 q
              refine cw_iconst (v := 5) dX5_kindOf_52 (by decide) ?_
              exact cw_iret rfl dX5_kindOf_53 h
            · have h := h.2 q
              refine cw_iconst (v := 3) dX5_kindOf_48 (by decide) ?_
              refine cw_goto (tgt := 53) dX5_kindOf_49 (by decide) ?_
              exact cw_iret rfl dX5_kindOf_53 h
          · have h := h.2 q
            refine cw_iconst (v := 4) dX5_kindOf_40 (by decide) ?_
            exact cw_iret rfl dX5_kindOf_41 h
      · have h := h.2 q
        refine cw_iconst (v := 2) dX5_kindOf_26 (by decide) ?_
        exact cw_iret rfl dX5_kindOf_27 h
  · have h := h.2 q
    refine cw_iload_n dX5_kindOf_6 0 rfl rfl ?_
    refine cw_bipush (v := 122) dX5_kindOf_7 (by decide) ?_
    refine cw_icmp_gt (tgt := 14) dX5_kindOf_9 (by decide) (fun q => ?_) (fun q => ?_)
    · have h := h.1 q
      refine cw_iload_n dX5_kindOf_14 0 rfl rfl ?_
      refine cw_bipush (v := 48) dX5_kindOf_15 (by decide) ?_
      refine cw_icmp_lt (tgt := 28) dX5_kindOf_17 (by decide) (fun q => ?_) (fun q => ?_)
      · have h := h.1 q
        refine cw_iload_n dX5_kindOf_28 0 rfl rfl ?_
        refine cw_bipush (v := 32) dX5_kindOf_29 (by decide) ?_
        refine cw_icmp_eq (tgt := 40) dX5_kindOf_31 (by decide) (fun q => ?_) (fun q => ?_)
        · have h := h.1 q
          refine cw_iconst (v := 4) dX5_kindOf_40 (by decide) ?_
          exact cw_iret rfl dX5_kindOf_41 h
        · have h := h.2 q
          refine cw_iload_n dX5_kindOf_34 0 rfl rfl ?_
          refine cw_bipush (v := 10) dX5_kindOf_35 (by decide) ?_
          refine cw_icmp_ne (tgt := 42) dX5_kindOf_37 (by decide) (fun q => ?_) (fun q => ?_)
          · have h := h.1 q
            refine cw_iload_n dX5_kindOf_42 0 rfl rfl ?_
            refine cw_bipush (v := 59) dX5_kindOf_43 (by decide) ?_
            refine cw_icmp_ne (tgt := 52) dX5_kindOf_45 (by decide) (fun q => ?_) (fun q => ?_)
            · have h := h.1 q
              refine cw_iconst (v := 5) dX5_kindOf_52 (by decide) ?_
              exact cw_iret rfl dX5_kindOf_53 h
            · have h := h.2 q
              refine cw_iconst (v := 3) dX5_kindOf_48 (by decide) ?_
              refine cw_goto (tgt := 53) dX5_kindOf_49 (by decide) ?_
              exact cw_iret rfl dX5_kindOf_53 h
          · have h := h.2 q
            refine cw_iconst (v := 4) dX5_kindOf_40 (by decide) ?_
            exact cw_iret rfl dX5_kindOf_41 h
      · have h := h.2 q
        refine cw_iload_n dX5_kindOf_20 0 rfl rfl ?_
        refine cw_bipush (v := 57) dX5_kindOf_21 (by decide) ?_
        refine cw_icmp_gt (tgt := 28) dX5_kindOf_23 (by decide) (fun q => ?_) (fun q => ?_)
        · have h := h.1 q
          refine cw_iload_n dX5_kindOf_28 0 rfl rfl ?_
          refine cw_bipush (v := 32) dX5_kindOf_29 (by decide) ?_
          refine cw_icmp_eq (tgt := 40) dX5_kindOf_31 (by decide) (fun q => ?_) (fun q => ?_)
          · have h := h.1 q
            refine cw_iconst (v := 4) dX5_kindOf_40 (by decide) ?_
            exact cw_iret rfl dX5_kindOf_41 h
          · have h := h.2 q
            refine cw_iload_n dX5_kindOf_34 0 rfl rfl ?_
            refine cw_bipush (v := 10) dX5_kindOf_35 (by decide) ?_
            refine cw_icmp_ne (tgt := 42) dX5_kindOf_37 (by decide) (fun q => ?_) (fun q => ?_)
            · have h := h.1 q
              refine cw_iload_n dX5_kindOf_42 0 rfl rfl ?_
              refine cw_bipush (v := 59) dX5_kindOf_43 (by decide) ?_
              refine cw_icmp_ne (tgt := 52) dX5_kindOf_45 (by decide) (fun q => ?_) (fun q => ?_)
              · have h := h.1 q
                refine cw_iconst (v := 5) dX5_kindOf_52 (by decide) ?_
                exact cw_iret rfl dX5_kindOf_53 h
              · have h := h.2 q
                refine cw_iconst (v := 3) dX5_kindOf_48 (by decide) ?_
                refine cw_goto (tgt := 53) dX5_kindOf_49 (by decide) ?_
                exact cw_iret rfl dX5_kindOf_53 h
            · have h := h.2 q
              refine cw_iconst (v := 4) dX5_kindOf_40 (by decide) ?_
              exact cw_iret rfl dX5_kindOf_41 h
        · have h := h.2 q
          refine cw_iconst (v := 2) dX5_kindOf_26 (by decide) ?_
          exact cw_iret rfl dX5_kindOf_27 h
    · have h := h.2 q
      refine cw_iconst (v := 1) dX5_kindOf_12 (by decide) ?_
      exact cw_iret rfl dX5_kindOf_13 h
abbrev bX5_numberOfToken_15_7 (K : cw_K) (r : Option Value) (J0 : cw_M) (x1 : Int32) (x2 : Int32) (I : cw_M) : Prop := cw_B (cc_w K) mX5_numberOfToken (cw_Z (cc_w K) r J0) 0 0 I 7 [(0, .ref (cw_a (cc_w K) 15)), (1, .int x1), (2, .int x2)] []
set_option maxRecDepth 20000 in
set_option maxHeartbeats 4000000 in
theorem eX5_numberOfToken_15 {K : cw_K} {r : Option Value} {J0 I : cw_M} (h : bX5_numberOfToken_15_7 K r J0 0 (I 15 3) I) : cw_C (cc_w K) mX5_numberOfToken [.ref (cw_a (cc_w K) 15)] I r J0 := by
  refine cw_entry okX5_numberOfToken (Nat.le_of_ble_eq_true rfl) (show cw_B (cc_w K) mX5_numberOfToken (cw_Z (cc_w K) r J0) 0 0 I 0 [(0, .ref (cw_a (cc_w K) 15))] [] from ?_)
  refine cw_iconst (v := 0) dX5_numberOfToken_0 (by decide) ?_
  refine cw_istore_n dX5_numberOfToken_1 rfl (by decide) rfl ?_
  refine cw_aload_n dX5_numberOfToken_2 1 rfl rfl ?_
  refine cw_getf (C := RX5) (T := TX5) (N := 7) (ci := 4) inX5_numberOfToken_RX5 15 (show 15 < 32 by decide) rfl rfl 3 (by decide) (by decide +kernel) rfl dX5_numberOfToken_3 ?_
  refine cw_istore_n dX5_numberOfToken_6 rfl (by decide) rfl ?_
  refine cw_sub [2, 1, 0] rfl ?_
  exact h
set_option maxRecDepth 20000 in
set_option maxHeartbeats 4000000 in
theorem tbX5_numberOfToken_15_7 {K : cw_K} {r : Option Value} {J0 I : cw_M} {x1 : Int32} {x2 : Int32} (h : (((I 15 4) ≤ x2 → (r = some (.int x1) ∧ J0 = I)) ∧ (¬ (I 15 4) ≤ x2 → (vp_in x2 600 ∧ bX5_numberOfToken_15_7 K r J0 (((10 * x1) + (I 2 x2.toNatClampNeg)) - 48) (x2 + 1) I)))) : bX5_numberOfToken_15_7 K r J0 x1 x2 I := by
  refine cw_iload_n dX5_numberOfToken_7 2 rfl rfl ?_
  refine cw_aload_n dX5_numberOfToken_8 0 rfl rfl ?_
  refine cw_getf (C := RX5) (T := TX5) (N := 7) (ci := 4) inX5_numberOfToken_RX5 15 (show 15 < 32 by decide) rfl rfl 4 (by decide) (by decide +kernel) rfl dX5_numberOfToken_9 ?_
  refine cw_icmp_ge (tgt := 39) dX5_numberOfToken_12 (by decide) (fun q => ?_) (fun q => ?_)
  · have h := h.1 q
    refine cw_iload_n dX5_numberOfToken_39 1 rfl rfl ?_
    exact cw_iret rfl dX5_numberOfToken_40 h
  · have h := h.2 q
    refine cw_bipush (v := 10) dX5_numberOfToken_15 (by decide) ?_
    refine cw_iload_n dX5_numberOfToken_17 1 rfl rfl ?_
    refine cw_imul dX5_numberOfToken_18 ?_
    refine cw_aload_n dX5_numberOfToken_19 0 rfl rfl ?_
    refine cw_getf (C := RX5) (T := TX5) (N := 7) (ci := 4) inX5_numberOfToken_RX5 15 (show 15 < 32 by decide) rfl rfl 6 (by decide) (by decide +kernel) rfl dX5_numberOfToken_20 ?_
    refine cw_getf (C := RX8) (T := TX8) (N := 2) (ci := 7) inX5_numberOfToken_RX8 1 (show 1 < 32 by decide) rfl rfl 0 (by decide) (by decide +kernel) rfl dX5_numberOfToken_23 ?_
    refine cw_iload_n dX5_numberOfToken_26 2 rfl rfl ?_
    obtain ⟨g_27, h⟩ := h
    refine cw_iald 2 (show 2 < 32 by decide) rfl 0 rfl dX5_numberOfToken_27 g_27 ?_
    refine cw_iadd dX5_numberOfToken_28 ?_
    refine cw_bipush (v := 48) dX5_numberOfToken_29 (by decide) ?_
    refine cw_isub dX5_numberOfToken_31 ?_
    refine cw_istore_n dX5_numberOfToken_32 rfl (by decide) rfl ?_
    refine cw_iinc (v := x2 + 1) dX5_numberOfToken_33 (j := 2) rfl rfl (by decide) rfl ?_
    refine cw_goto (tgt := 7) dX5_numberOfToken_36 (by decide) ?_
    refine cw_sub [2, 1, 0] rfl ?_
    exact h
set_option maxRecDepth 20000 in
set_option maxHeartbeats 4000000 in
theorem eX5_refuse_15 {K : cw_K} {r : Option Value} {J0 I : cw_M} {x1 : Int32} (h : (r = some (.int 0) ∧ J0 = cw_st (cw_st I 15 0 x1) 15 1 ((cw_st I 15 0 x1) 15 3))) : cw_C (cc_w K) mX5_refuse [.ref (cw_a (cc_w K) 15), .int x1] I r J0 := by
  refine cw_entry okX5_refuse (Nat.le_of_ble_eq_true rfl) (show cw_B (cc_w K) mX5_refuse (cw_Z (cc_w K) r J0) 0 0 I 0 [(0, .ref (cw_a (cc_w K) 15)), (1, .int x1)] [] from ?_)
  refine cw_aload_n dX5_refuse_0 0 rfl rfl ?_
  refine cw_iload_n dX5_refuse_1 1 rfl rfl ?_
  refine cw_putf (C := RX5) (T := TX5) (N := 7) (ci := 4) inX5_refuse_RX5 tyX5 tyX5_ok nmX5 15 (show 15 < 32 by decide) rfl rfl 0 (by decide) (by decide +kernel) rfl rfl (show 0 < 7 by decide) rfl dX5_refuse_2 ?_
  refine cw_aload_n dX5_refuse_5 0 rfl rfl ?_
  refine cw_aload_n dX5_refuse_6 0 rfl rfl ?_
  refine cw_getf (C := RX5) (T := TX5) (N := 7) (ci := 4) inX5_refuse_RX5 15 (show 15 < 32 by decide) rfl rfl 3 (by decide) (by decide +kernel) rfl dX5_refuse_7 ?_
  refine cw_putf (C := RX5) (T := TX5) (N := 7) (ci := 4) inX5_refuse_RX5 tyX5 tyX5_ok nmX5 15 (show 15 < 32 by decide) rfl rfl 1 (by decide) (by decide +kernel) rfl rfl (show 1 < 7 by decide) rfl dX5_refuse_10 ?_
  refine cw_iconst (v := 0) dX5_refuse_13 (by decide) ?_
  exact cw_bret rfl dX5_refuse_14 (by decide) h
set_option maxRecDepth 20000 in
set_option maxHeartbeats 4000000 in
theorem eX5_takeKnownName_15_5 {K : cw_K} {r : Option Value} {J0 I : cw_M} (h : (((I 15 2) = 1 → (∃ (v_33 : Int32) (J_33 : cw_M), cw_C (cc_w K) mX1_findName [.ref (cw_a (cc_w K) 5), .ref (cw_a (cc_w K) 1), .int (I 15 3), .int ((I 15 4) - (I 15 3))] I (some (.int v_33)) J_33 ∧ ((¬ ((cw_st J_33 15 5 v_33) 15 5) = (-1) → (∃ J_54 : cw_M, cw_C (cc_w K) mX5_advance [.ref (cw_a (cc_w K) 15)] (cw_st J_33 15 5 v_33) none J_54 ∧ (r = some (.int 1) ∧ J0 = J_54))) ∧ (((cw_st J_33 15 5 v_33) 15 5) = (-1) → (∃ (v_49 : Int32) (J_49 : cw_M), cw_C (cc_w K) mX5_refuse [.ref (cw_a (cc_w K) 15), .int 3] (cw_st J_33 15 5 v_33) (some (.int v_49)) J_49 ∧ ((v_49 = 0 ∨ v_49 = 1) ∧ (r = some (.int v_49) ∧ J0 = J_49))))))) ∧ (¬ (I 15 2) = 1 → (∃ (v_10 : Int32) (J_10 : cw_M), cw_C (cc_w K) mX5_refuse [.ref (cw_a (cc_w K) 15), .int 1] I (some (.int v_10)) J_10 ∧ ((v_10 = 0 ∨ v_10 = 1) ∧ (r = some (.int v_10) ∧ J0 = J_10)))))) : cw_C (cc_w K) mX5_takeKnownName [.ref (cw_a (cc_w K) 15), .ref (cw_a (cc_w K) 5)] I r J0 := by
  refine cw_entry okX5_takeKnownName (Nat.le_of_ble_eq_true rfl) (show cw_B (cc_w K) mX5_takeKnownName (cw_Z (cc_w K) r J0) 0 0 I 0 [(0, .ref (cw_a (cc_w K) 15)), (1, .ref (cw_a (cc_w K) 5))] [] from ?_)
  refine cw_aload_n dX5_takeKnownName_0 0 rfl rfl ?_
  refine cw_getf (C := RX5) (T := TX5) (N := 7) (ci := 4) inX5_takeKnownName_RX5 15 (show 15 < 32 by decide) rfl rfl 2 (by decide) (by decide +kernel) rfl dX5_takeKnownName_1 ?_
  refine cw_iconst (v := 1) dX5_takeKnownName_4 (by decide) ?_
  refine cw_icmp_eq (tgt := 14) dX5_takeKnownName_5 (by decide) (fun q => ?_) (fun q => ?_)
  · have h := h.1 q
    refine cw_aload_n dX5_takeKnownName_14 0 rfl rfl ?_
    refine cw_aload_n dX5_takeKnownName_15 1 rfl rfl ?_
    refine cw_aload_n dX5_takeKnownName_16 0 rfl rfl ?_
    refine cw_getf (C := RX5) (T := TX5) (N := 7) (ci := 4) inX5_takeKnownName_RX5 15 (show 15 < 32 by decide) rfl rfl 6 (by decide) (by decide +kernel) rfl dX5_takeKnownName_17 ?_
    refine cw_aload_n dX5_takeKnownName_20 0 rfl rfl ?_
    refine cw_getf (C := RX5) (T := TX5) (N := 7) (ci := 4) inX5_takeKnownName_RX5 15 (show 15 < 32 by decide) rfl rfl 3 (by decide) (by decide +kernel) rfl dX5_takeKnownName_21 ?_
    refine cw_aload_n dX5_takeKnownName_24 0 rfl rfl ?_
    refine cw_getf (C := RX5) (T := TX5) (N := 7) (ci := 4) inX5_takeKnownName_RX5 15 (show 15 < 32 by decide) rfl rfl 4 (by decide) (by decide +kernel) rfl dX5_takeKnownName_25 ?_
    refine cw_aload_n dX5_takeKnownName_28 0 rfl rfl ?_
    refine cw_getf (C := RX5) (T := TX5) (N := 7) (ci := 4) inX5_takeKnownName_RX5 15 (show 15 < 32 by decide) rfl rfl 3 (by decide) (by decide +kernel) rfl dX5_takeKnownName_29 ?_
    refine cw_isub dX5_takeKnownName_32 ?_
    obtain ⟨v_33, J_33, hc_33, h⟩ := h
    refine cw_callV (o := 5) (As := [.ref (cw_a (cc_w K) 1), .int (I 15 3), .int ((I 15 4) - (I 15 3))]) hc_33 okX1_findName rfl gX5_takeKnownName_X1_findName (by decide) (show 5 < 32 by decide) rfl (ci := 0) rfl rfl (Nat.le_of_ble_eq_true rfl) dX5_takeKnownName_33 ?_
    refine cw_putf (C := RX5) (T := TX5) (N := 7) (ci := 4) inX5_takeKnownName_RX5 tyX5 tyX5_ok nmX5 15 (show 15 < 32 by decide) rfl rfl 5 (by decide) (by decide +kernel) rfl rfl (show 5 < 7 by decide) rfl dX5_takeKnownName_36 ?_
    refine cw_aload_n dX5_takeKnownName_39 0 rfl rfl ?_
    refine cw_getf (C := RX5) (T := TX5) (N := 7) (ci := 4) inX5_takeKnownName_RX5 15 (show 15 < 32 by decide) rfl rfl 5 (by decide) (by decide +kernel) rfl dX5_takeKnownName_40 ?_
    refine cw_iconst (v := (-1)) dX5_takeKnownName_43 (by decide) ?_
    refine cw_icmp_ne (tgt := 53) dX5_takeKnownName_44 (by decide) (fun q => ?_) (fun q => ?_)
    · have h := h.1 q
      refine cw_aload_n dX5_takeKnownName_53 0 rfl rfl ?_
      obtain ⟨J_54, hc_54, h⟩ := h
      refine cw_callV (o := 15) (As := []) hc_54 okX5_advance rfl gX5_takeKnownName_X5_advance (by decide) (show 15 < 32 by decide) rfl (ci := 4) rfl rfl (Nat.le_of_ble_eq_true rfl) dX5_takeKnownName_54 ?_
      refine cw_iconst (v := 1) dX5_takeKnownName_57 (by decide) ?_
      exact cw_bret rfl dX5_takeKnownName_58 (by decide) h
    · have h := h.2 q
      refine cw_aload_n dX5_takeKnownName_47 0 rfl rfl ?_
      refine cw_iconst (v := 3) dX5_takeKnownName_48 (by decide) ?_
      obtain ⟨v_49, J_49, hc_49, h⟩ := h
      refine cw_callV (o := 15) (As := [.int 3]) hc_49 okX5_refuse rfl gX5_takeKnownName_X5_refuse (by decide) (show 15 < 32 by decide) rfl (ci := 4) rfl rfl (Nat.le_of_ble_eq_true rfl) dX5_takeKnownName_49 ?_
      exact cw_bret rfl dX5_takeKnownName_52 h.1 h.2
  · have h := h.2 q
    refine cw_aload_n dX5_takeKnownName_8 0 rfl rfl ?_
    refine cw_iconst (v := 1) dX5_takeKnownName_9 (by decide) ?_
    obtain ⟨v_10, J_10, hc_10, h⟩ := h
    refine cw_callV (o := 15) (As := [.int 1]) hc_10 okX5_refuse rfl gX5_takeKnownName_X5_refuse (by decide) (show 15 < 32 by decide) rfl (ci := 4) rfl rfl (Nat.le_of_ble_eq_true rfl) dX5_takeKnownName_10 ?_
    exact cw_bret rfl dX5_takeKnownName_13 h.1 h.2
set_option maxRecDepth 20000 in
set_option maxHeartbeats 4000000 in
theorem eX5_takeNewName_15_10 {K : cw_K} {r : Option Value} {J0 I : cw_M} {x2 : Int32} (h : (((I 15 2) = 1 → ((6 < ((I 15 4) - (I 15 3)) → (∃ (v_49 : Int32) (J_49 : cw_M), cw_C (cc_w K) mX5_refuse [.ref (cw_a (cc_w K) 15), .int 3] I (some (.int v_49)) J_49 ∧ ((v_49 = 0 ∨ v_49 = 1) ∧ (r = some (.int v_49) ∧ J0 = J_49)))) ∧ (¬ 6 < ((I 15 4) - (I 15 3)) → (∃ (v_40 : Int32) (J_40 : cw_M), cw_C (cc_w K) mX1_findName [.ref (cw_a (cc_w K) 10), .ref (cw_a (cc_w K) 1), .int (I 15 3), .int ((I 15 4) - (I 15 3))] I (some (.int v_40)) J_40 ∧ ((v_40 = (-1) → (∃ J_64 : cw_M, cw_C (cc_w K) mX1_putName [.ref (cw_a (cc_w K) 10), .int x2, .ref (cw_a (cc_w K) 1), .int (J_40 15 3), .int ((I 15 4) - (I 15 3))] J_40 none J_64 ∧ (∃ J_68 : cw_M, cw_C (cc_w K) mX5_advance [.ref (cw_a (cc_w K) 15)] J_64 none J_68 ∧ (r = some (.int 1) ∧ J0 = J_68)))) ∧ (¬ v_40 = (-1) → (∃ (v_49 : Int32) (J_49 : cw_M), cw_C (cc_w K) mX5_refuse [.ref (cw_a (cc_w K) 15), .int 3] J_40 (some (.int v_49)) J_49 ∧ ((v_49 = 0 ∨ v_49 = 1) ∧ (r = some (.int v_49) ∧ J0 = J_49))))))))) ∧ (¬ (I 15 2) = 1 → (∃ (v_10 : Int32) (J_10 : cw_M), cw_C (cc_w K) mX5_refuse [.ref (cw_a (cc_w K) 15), .int 1] I (some (.int v_10)) J_10 ∧ ((v_10 = 0 ∨ v_10 = 1) ∧ (r = some (.int v_10) ∧ J0 = J_10)))))) : cw_C (cc_w K) mX5_takeNewName [.ref (cw_a (cc_w K) 15), .ref (cw_a (cc_w K) 10), .int x2] I r J0 := by
  refine cw_entry okX5_takeNewName (Nat.le_of_ble_eq_true rfl) (show cw_B (cc_w K) mX5_takeNewName (cw_Z (cc_w K) r J0) 0 0 I 0 [(0, .ref (cw_a (cc_w K) 15)), (1, .ref (cw_a (cc_w K) 10)), (2, .int x2)] [] from ?_)
  refine cw_aload_n dX5_takeNewName_0 0 rfl rfl ?_
  refine cw_getf (C := RX5) (T := TX5) (N := 7) (ci := 4) inX5_takeNewName_RX5 15 (show 15 < 32 by decide) rfl rfl 2 (by decide) (by decide +kernel) rfl dX5_takeNewName_1 ?_
  refine cw_iconst (v := 1) dX5_takeNewName_4 (by decide) ?_
  refine cw_icmp_eq (tgt := 14) dX5_takeNewName_5 (by decide) (fun q => ?_) (fun q => ?_)
  · have h := h.1 q
    refine cw_aload_n dX5_takeNewName_14 0 rfl rfl ?_
    refine cw_getf (C := RX5) (T := TX5) (N := 7) (ci := 4) inX5_takeNewName_RX5 15 (show 15 < 32 by decide) rfl rfl 4 (by decide) (by decide +kernel) rfl dX5_takeNewName_15 ?_
    refine cw_aload_n dX5_takeNewName_18 0 rfl rfl ?_
    refine cw_getf (C := RX5) (T := TX5) (N := 7) (ci := 4) inX5_takeNewName_RX5 15 (show 15 < 32 by decide) rfl rfl 3 (by decide) (by decide +kernel) rfl dX5_takeNewName_19 ?_
    refine cw_isub dX5_takeNewName_22 ?_
    refine cw_istore_n dX5_takeNewName_23 rfl (by decide) rfl ?_
    refine cw_iload_n dX5_takeNewName_24 0 rfl rfl ?_
    refine cw_bipush (v := 6) dX5_takeNewName_25 (by decide) ?_
    refine cw_icmp_gt (tgt := 47) dX5_takeNewName_27 (by decide) (fun q => ?_) (fun q => ?_)
    · have h := h.1 q
      refine cw_aload_n dX5_takeNewName_47 1 rfl rfl ?_
      refine cw_iconst (v := 3) dX5_takeNewName_48 (by decide) ?_
      obtain ⟨v_49, J_49, hc_49, h⟩ := h
      refine cw_callV (o := 15) (As := [.int 3]) hc_49 okX5_refuse rfl gX5_takeNewName_X5_refuse (by decide) (show 15 < 32 by decide) rfl (ci := 4) rfl rfl (Nat.le_of_ble_eq_true rfl) dX5_takeNewName_49 ?_
      exact cw_bret rfl dX5_takeNewName_52 h.1 h.2
    · have h := h.2 q
      refine cw_aload_n dX5_takeNewName_30 2 rfl rfl ?_
      refine cw_aload_n dX5_takeNewName_31 1 rfl rfl ?_
      refine cw_getf (C := RX5) (T := TX5) (N := 7) (ci := 4) inX5_takeNewName_RX5 15 (show 15 < 32 by decide) rfl rfl 6 (by decide) (by decide +kernel) rfl dX5_takeNewName_32 ?_
      refine cw_aload_n dX5_takeNewName_35 1 rfl rfl ?_
      refine cw_getf (C := RX5) (T := TX5) (N := 7) (ci := 4) inX5_takeNewName_RX5 15 (show 15 < 32 by decide) rfl rfl 3 (by decide) (by decide +kernel) rfl dX5_takeNewName_36 ?_
      refine cw_iload_n dX5_takeNewName_39 0 rfl rfl ?_
      obtain ⟨v_40, J_40, hc_40, h⟩ := h
      refine cw_callV (o := 10) (As := [.ref (cw_a (cc_w K) 1), .int (I 15 3), .int ((I 15 4) - (I 15 3))]) hc_40 okX1_findName rfl gX5_takeNewName_X1_findName (by decide) (show 10 < 32 by decide) rfl (ci := 0) rfl rfl (Nat.le_of_ble_eq_true rfl) dX5_takeNewName_40 ?_
      refine cw_iconst (v := (-1)) dX5_takeNewName_43 (by decide) ?_
      refine cw_icmp_eq (tgt := 53) dX5_takeNewName_44 (by decide) (fun q => ?_) (fun q => ?_)
      · have h := h.1 q
        refine cw_aload_n dX5_takeNewName_53 2 rfl rfl ?_
        refine cw_iload_n dX5_takeNewName_54 3 rfl rfl ?_
        refine cw_aload_n dX5_takeNewName_55 1 rfl rfl ?_
        refine cw_getf (C := RX5) (T := TX5) (N := 7) (ci := 4) inX5_takeNewName_RX5 15 (show 15 < 32 by decide) rfl rfl 6 (by decide) (by decide +kernel) rfl dX5_takeNewName_56 ?_
        refine cw_aload_n dX5_takeNewName_59 1 rfl rfl ?_
        refine cw_getf (C := RX5) (T := TX5) (N := 7) (ci := 4) inX5_takeNewName_RX5 15 (show 15 < 32 by decide) rfl rfl 3 (by decide) (by decide +kernel) rfl dX5_takeNewName_60 ?_
        refine cw_iload_n dX5_takeNewName_63 0 rfl rfl ?_
        obtain ⟨J_64, hc_64, h⟩ := h
        refine cw_callV (o := 10) (As := [.int x2, .ref (cw_a (cc_w K) 1), .int (J_40 15 3), .int ((I 15 4) - (I 15 3))]) hc_64 okX1_putName rfl gX5_takeNewName_X1_putName (by decide) (show 10 < 32 by decide) rfl (ci := 0) rfl rfl (Nat.le_of_ble_eq_true rfl) dX5_takeNewName_64 ?_
        refine cw_aload_n dX5_takeNewName_67 1 rfl rfl ?_
        obtain ⟨J_68, hc_68, h⟩ := h
        refine cw_callV (o := 15) (As := []) hc_68 okX5_advance rfl gX5_takeNewName_X5_advance (by decide) (show 15 < 32 by decide) rfl (ci := 4) rfl rfl (Nat.le_of_ble_eq_true rfl) dX5_takeNewName_68 ?_
        refine cw_iconst (v := 1) dX5_takeNewName_71 (by decide) ?_
        exact cw_bret rfl dX5_takeNewName_72 (by decide) h
      · have h := h.2 q
        refine cw_aload_n dX5_takeNewName_47 1 rfl rfl ?_
        refine cw_iconst (v := 3) dX5_takeNewName_48 (by decide) ?_
        obtain ⟨v_49, J_49, hc_49, h⟩ := h
        refine cw_callV (o := 15) (As := [.int 3]) hc_49 okX5_refuse rfl gX5_takeNewName_X5_refuse (by decide) (show 15 < 32 by decide) rfl (ci := 4) rfl rfl (Nat.le_of_ble_eq_true rfl) dX5_takeNewName_49 ?_
        exact cw_bret rfl dX5_takeNewName_52 h.1 h.2
  · have h := h.2 q
    refine cw_aload_n dX5_takeNewName_8 0 rfl rfl ?_
    refine cw_iconst (v := 1) dX5_takeNewName_9 (by decide) ?_
    obtain ⟨v_10, J_10, hc_10, h⟩ := h
    refine cw_callV (o := 15) (As := [.int 1]) hc_10 okX5_refuse rfl gX5_takeNewName_X5_refuse (by decide) (show 15 < 32 by decide) rfl (ci := 4) rfl rfl (Nat.le_of_ble_eq_true rfl) dX5_takeNewName_10 ?_
    exact cw_bret rfl dX5_takeNewName_13 h.1 h.2
set_option maxRecDepth 20000 in
set_option maxHeartbeats 4000000 in
theorem eX5_takeNumber_15 {K : cw_K} {r : Option Value} {J0 I : cw_M} {x1 : Int32} {x2 : Int32} (h : (((I 15 2) = 2 → (∃ (v_16 : Int32) (J_16 : cw_M), cw_C (cc_w K) mX5_numberOfToken [.ref (cw_a (cc_w K) 15)] I (some (.int v_16)) J_16 ∧ ((((cw_st J_16 15 5 v_16) 15 5) < x1 → (∃ (v_40 : Int32) (J_40 : cw_M), cw_C (cc_w K) mX5_refuse [.ref (cw_a (cc_w K) 15), .int 2] (cw_st J_16 15 5 v_16) (some (.int v_40)) J_40 ∧ ((v_40 = 0 ∨ v_40 = 1) ∧ (r = some (.int v_40) ∧ J0 = J_40)))) ∧ (¬ ((cw_st J_16 15 5 v_16) 15 5) < x1 → ((((cw_st J_16 15 5 v_16) 15 5) ≤ x2 → (∃ J_45 : cw_M, cw_C (cc_w K) mX5_advance [.ref (cw_a (cc_w K) 15)] (cw_st J_16 15 5 v_16) none J_45 ∧ (r = some (.int 1) ∧ J0 = J_45))) ∧ (¬ ((cw_st J_16 15 5 v_16) 15 5) ≤ x2 → (∃ (v_40 : Int32) (J_40 : cw_M), cw_C (cc_w K) mX5_refuse [.ref (cw_a (cc_w K) 15), .int 2] (cw_st J_16 15 5 v_16) (some (.int v_40)) J_40 ∧ ((v_40 = 0 ∨ v_40 = 1) ∧ (r = some (.int v_40) ∧ J0 = J_40))))))))) ∧ (¬ (I 15 2) = 2 → (∃ (v_10 : Int32) (J_10 : cw_M), cw_C (cc_w K) mX5_refuse [.ref (cw_a (cc_w K) 15), .int 1] I (some (.int v_10)) J_10 ∧ ((v_10 = 0 ∨ v_10 = 1) ∧ (r = some (.int v_10) ∧ J0 = J_10)))))) : cw_C (cc_w K) mX5_takeNumber [.ref (cw_a (cc_w K) 15), .int x1, .int x2] I r J0 := by
  refine cw_entry okX5_takeNumber (Nat.le_of_ble_eq_true rfl) (show cw_B (cc_w K) mX5_takeNumber (cw_Z (cc_w K) r J0) 0 0 I 0 [(0, .ref (cw_a (cc_w K) 15)), (1, .int x1), (2, .int x2)] [] from ?_)
  refine cw_aload_n dX5_takeNumber_0 0 rfl rfl ?_
  refine cw_getf (C := RX5) (T := TX5) (N := 7) (ci := 4) inX5_takeNumber_RX5 15 (show 15 < 32 by decide) rfl rfl 2 (by decide) (by decide +kernel) rfl dX5_takeNumber_1 ?_
  refine cw_iconst (v := 2) dX5_takeNumber_4 (by decide) ?_
  refine cw_icmp_eq (tgt := 14) dX5_takeNumber_5 (by decide) (fun q => ?_) (fun q => ?_)
  · have h := h.1 q
    refine cw_aload_n dX5_takeNumber_14 0 rfl rfl ?_
    refine cw_aload_n dX5_takeNumber_15 0 rfl rfl ?_
    obtain ⟨v_16, J_16, hc_16, h⟩ := h
    refine cw_callV (o := 15) (As := []) hc_16 okX5_numberOfToken rfl gX5_takeNumber_X5_numberOfToken (by decide) (show 15 < 32 by decide) rfl (ci := 4) rfl rfl (Nat.le_of_ble_eq_true rfl) dX5_takeNumber_16 ?_
    refine cw_putf (C := RX5) (T := TX5) (N := 7) (ci := 4) inX5_takeNumber_RX5 tyX5 tyX5_ok nmX5 15 (show 15 < 32 by decide) rfl rfl 5 (by decide) (by decide +kernel) rfl rfl (show 5 < 7 by decide) rfl dX5_takeNumber_19 ?_
    refine cw_aload_n dX5_takeNumber_22 0 rfl rfl ?_
    refine cw_getf (C := RX5) (T := TX5) (N := 7) (ci := 4) inX5_takeNumber_RX5 15 (show 15 < 32 by decide) rfl rfl 5 (by decide) (by decide +kernel) rfl dX5_takeNumber_23 ?_
    refine cw_iload_n dX5_takeNumber_26 1 rfl rfl ?_
    refine cw_icmp_lt (tgt := 38) dX5_takeNumber_27 (by decide) (fun q => ?_) (fun q => ?_)
    · have h := h.1 q
      refine cw_aload_n dX5_takeNumber_38 0 rfl rfl ?_
      refine cw_iconst (v := 2) dX5_takeNumber_39 (by decide) ?_
      obtain ⟨v_40, J_40, hc_40, h⟩ := h
      refine cw_callV (o := 15) (As := [.int 2]) hc_40 okX5_refuse rfl gX5_takeNumber_X5_refuse (by decide) (show 15 < 32 by decide) rfl (ci := 4) rfl rfl (Nat.le_of_ble_eq_true rfl) dX5_takeNumber_40 ?_
      exact cw_bret rfl dX5_takeNumber_43 h.1 h.2
    · have h := h.2 q
      refine cw_aload_n dX5_takeNumber_30 0 rfl rfl ?_
      refine cw_getf (C := RX5) (T := TX5) (N := 7) (ci := 4) inX5_takeNumber_RX5 15 (show 15 < 32 by decide) rfl rfl 5 (by decide) (by decide +kernel) rfl dX5_takeNumber_31 ?_
      refine cw_iload_n dX5_takeNumber_34 2 rfl rfl ?_
      refine cw_icmp_le (tgt := 44) dX5_takeNumber_35 (by decide) (fun q => ?_) (fun q => ?_)
      · have h := h.1 q
        refine cw_aload_n dX5_takeNumber_44 0 rfl rfl ?_
        obtain ⟨J_45, hc_45, h⟩ := h
        refine cw_callV (o := 15) (As := []) hc_45 okX5_advance rfl gX5_takeNumber_X5_advance (by decide) (show 15 < 32 by decide) rfl (ci := 4) rfl rfl (Nat.le_of_ble_eq_true rfl) dX5_takeNumber_45 ?_
        refine cw_iconst (v := 1) dX5_takeNumber_48 (by decide) ?_
        exact cw_bret rfl dX5_takeNumber_49 (by decide) h
      · have h := h.2 q
        refine cw_aload_n dX5_takeNumber_38 0 rfl rfl ?_
        refine cw_iconst (v := 2) dX5_takeNumber_39 (by decide) ?_
        obtain ⟨v_40, J_40, hc_40, h⟩ := h
        refine cw_callV (o := 15) (As := [.int 2]) hc_40 okX5_refuse rfl gX5_takeNumber_X5_refuse (by decide) (show 15 < 32 by decide) rfl (ci := 4) rfl rfl (Nat.le_of_ble_eq_true rfl) dX5_takeNumber_40 ?_
        exact cw_bret rfl dX5_takeNumber_43 h.1 h.2
  · have h := h.2 q
    refine cw_aload_n dX5_takeNumber_8 0 rfl rfl ?_
    refine cw_iconst (v := 1) dX5_takeNumber_9 (by decide) ?_
    obtain ⟨v_10, J_10, hc_10, h⟩ := h
    refine cw_callV (o := 15) (As := [.int 1]) hc_10 okX5_refuse rfl gX5_takeNumber_X5_refuse (by decide) (show 15 < 32 by decide) rfl (ci := 4) rfl rfl (Nat.le_of_ble_eq_true rfl) dX5_takeNumber_10 ?_
    exact cw_bret rfl dX5_takeNumber_13 h.1 h.2
set_option maxRecDepth 20000 in
set_option maxHeartbeats 4000000 in
theorem eX5_takeSemicolon_15 {K : cw_K} {r : Option Value} {J0 I : cw_M} (h : (((I 15 2) = 3 → (∃ J_15 : cw_M, cw_C (cc_w K) mX5_advance [.ref (cw_a (cc_w K) 15)] I none J_15 ∧ (r = some (.int 1) ∧ J0 = J_15))) ∧ (¬ (I 15 2) = 3 → (∃ (v_10 : Int32) (J_10 : cw_M), cw_C (cc_w K) mX5_refuse [.ref (cw_a (cc_w K) 15), .int 1] I (some (.int v_10)) J_10 ∧ ((v_10 = 0 ∨ v_10 = 1) ∧ (r = some (.int v_10) ∧ J0 = J_10)))))) : cw_C (cc_w K) mX5_takeSemicolon [.ref (cw_a (cc_w K) 15)] I r J0 := by
  refine cw_entry okX5_takeSemicolon (Nat.le_of_ble_eq_true rfl) (show cw_B (cc_w K) mX5_takeSemicolon (cw_Z (cc_w K) r J0) 0 0 I 0 [(0, .ref (cw_a (cc_w K) 15))] [] from ?_)
  refine cw_aload_n dX5_takeSemicolon_0 0 rfl rfl ?_
  refine cw_getf (C := RX5) (T := TX5) (N := 7) (ci := 4) inX5_takeSemicolon_RX5 15 (show 15 < 32 by decide) rfl rfl 2 (by decide) (by decide +kernel) rfl dX5_takeSemicolon_1 ?_
  refine cw_iconst (v := 3) dX5_takeSemicolon_4 (by decide) ?_
  refine cw_icmp_eq (tgt := 14) dX5_takeSemicolon_5 (by decide) (fun q => ?_) (fun q => ?_)
  · have h := h.1 q
    refine cw_aload_n dX5_takeSemicolon_14 0 rfl rfl ?_
    obtain ⟨J_15, hc_15, h⟩ := h
    refine cw_callV (o := 15) (As := []) hc_15 okX5_advance rfl gX5_takeSemicolon_X5_advance (by decide) (show 15 < 32 by decide) rfl (ci := 4) rfl rfl (Nat.le_of_ble_eq_true rfl) dX5_takeSemicolon_15 ?_
    refine cw_iconst (v := 1) dX5_takeSemicolon_18 (by decide) ?_
    exact cw_bret rfl dX5_takeSemicolon_19 (by decide) h
  · have h := h.2 q
    refine cw_aload_n dX5_takeSemicolon_8 0 rfl rfl ?_
    refine cw_iconst (v := 1) dX5_takeSemicolon_9 (by decide) ?_
    obtain ⟨v_10, J_10, hc_10, h⟩ := h
    refine cw_callV (o := 15) (As := [.int 1]) hc_10 okX5_refuse rfl gX5_takeSemicolon_X5_refuse (by decide) (show 15 < 32 by decide) rfl (ci := 4) rfl rfl (Nat.le_of_ble_eq_true rfl) dX5_takeSemicolon_10 ?_
    exact cw_bret rfl dX5_takeSemicolon_13 h.1 h.2
set_option maxRecDepth 20000 in
set_option maxHeartbeats 4000000 in
theorem eX7_clear_25 {K : cw_K} {r : Option Value} {J0 I : cw_M} (h : (r = none ∧ J0 = cw_st I 25 0 0)) : cw_C (cc_w K) mX7_clear [.ref (cw_a (cc_w K) 25)] I r J0 := by
  refine cw_entry okX7_clear (Nat.le_of_ble_eq_true rfl) (show cw_B (cc_w K) mX7_clear (cw_Z (cc_w K) r J0) 0 0 I 0 [(0, .ref (cw_a (cc_w K) 25))] [] from ?_)
  refine cw_aload_n dX7_clear_0 0 rfl rfl ?_
  refine cw_iconst (v := 0) dX7_clear_1 (by decide) ?_
  refine cw_putf (C := RX7) (T := TX7) (N := 6) (ci := 6) inX7_clear_RX7 tyX7 tyX7_ok nmX7 25 (show 25 < 32 by decide) rfl rfl 0 (by decide) (by decide +kernel) rfl rfl (show 0 < 6 by decide) rfl dX7_clear_2 ?_
  exact cw_vret rfl dX7_clear_5 h
set_option maxRecDepth 20000 in
set_option maxHeartbeats 4000000 in
theorem eX7_putArgument_25 {K : cw_K} {r : Option Value} {J0 I : cw_M} {x1 : Int32} {x2 : Int32} (h : (((I 25 0) ≤ 0 → (r = none ∧ J0 = I)) ∧ (¬ (I 25 0) ≤ 0 → ((3 ≤ x1 → (r = none ∧ J0 = I)) ∧ (¬ 3 ≤ x1 → (vp_in ((((I 25 0) - 1) * 3) + x1) 90 ∧ (r = none ∧ J0 = cw_st I 27 ((((I 25 0) - 1) * 3) + x1).toNatClampNeg x2))))))) : cw_C (cc_w K) mX7_putArgument [.ref (cw_a (cc_w K) 25), .int x1, .int x2] I r J0 := by
  refine cw_entry okX7_putArgument (Nat.le_of_ble_eq_true rfl) (show cw_B (cc_w K) mX7_putArgument (cw_Z (cc_w K) r J0) 0 0 I 0 [(0, .ref (cw_a (cc_w K) 25)), (1, .int x1), (2, .int x2)] [] from ?_)
  refine cw_aload_n dX7_putArgument_0 0 rfl rfl ?_
  refine cw_getf (C := RX7) (T := TX7) (N := 6) (ci := 6) inX7_putArgument_RX7 25 (show 25 < 32 by decide) rfl rfl 0 (by decide) (by decide +kernel) rfl dX7_putArgument_1 ?_
  refine cw_if_le (tgt := 28) dX7_putArgument_4 (by decide) (fun q => ?_) (fun q => ?_)
  · have h := h.1 q
    exact cw_vret rfl dX7_putArgument_28 h
  · have h := h.2 q
    refine cw_iload_n dX7_putArgument_7 1 rfl rfl ?_
    refine cw_iconst (v := 3) dX7_putArgument_8 (by decide) ?_
    refine cw_icmp_ge (tgt := 28) dX7_putArgument_9 (by decide) (fun q => ?_) (fun q => ?_)
    · have h := h.1 q
      exact cw_vret rfl dX7_putArgument_28 h
    · have h := h.2 q
      refine cw_aload_n dX7_putArgument_12 0 rfl rfl ?_
      refine cw_getf (C := RX7) (T := TX7) (N := 6) (ci := 6) inX7_putArgument_RX7 25 (show 25 < 32 by decide) rfl rfl 2 (by decide) (by decide +kernel) rfl dX7_putArgument_13 ?_
      refine cw_aload_n dX7_putArgument_16 0 rfl rfl ?_
      refine cw_getf (C := RX7) (T := TX7) (N := 6) (ci := 6) inX7_putArgument_RX7 25 (show 25 < 32 by decide) rfl rfl 0 (by decide) (by decide +kernel) rfl dX7_putArgument_17 ?_
      refine cw_iconst (v := 1) dX7_putArgument_20 (by decide) ?_
      refine cw_isub dX7_putArgument_21 ?_
      refine cw_iconst (v := 3) dX7_putArgument_22 (by decide) ?_
      refine cw_imul dX7_putArgument_23 ?_
      refine cw_iload_n dX7_putArgument_24 1 rfl rfl ?_
      refine cw_iadd dX7_putArgument_25 ?_
      refine cw_iload_n dX7_putArgument_26 2 rfl rfl ?_
      obtain ⟨g_27, h⟩ := h
      refine cw_iast 27 (show 27 < 32 by decide) (fun _ => rfl) 0 rfl dX7_putArgument_27 g_27 ?_
      exact cw_vret rfl dX7_putArgument_28 h
