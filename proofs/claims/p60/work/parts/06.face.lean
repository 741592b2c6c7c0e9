/-! Blocks of Parser and the face, laid by gen.py. -/
theorem inX10_adoptSetup_RX10 : ∀ x ∈ u_ws RX10 TX10 10, x ∈ wsX10_adoptSetup := by decide +kernel
theorem inX10_adoptSetup_RX8 : ∀ x ∈ u_ws RX8 TX8 2, x ∈ wsX10_adoptSetup := by decide +kernel
theorem inX10_append_RX10 : ∀ x ∈ u_ws RX10 TX10 10, x ∈ wsX10_append := by decide +kernel
theorem inX10_append_RX8 : ∀ x ∈ u_ws RX8 TX8 2, x ∈ wsX10_append := by decide +kernel
theorem inX10_cellCount_RX1 : ∀ x ∈ u_ws RX1 TX1 6, x ∈ wsX10_cellCount := by decide +kernel
theorem inX10_cellCount_RX10 : ∀ x ∈ u_ws RX10 TX10 10, x ∈ wsX10_cellCount := by decide +kernel
theorem inX10_divideAndChoose_RX10 : ∀ x ∈ u_ws RX10 TX10 10, x ∈ wsX10_divideAndChoose := by decide +kernel
theorem inX10_envies_RX10 : ∀ x ∈ u_ws RX10 TX10 10, x ∈ wsX10_envies := by decide +kernel
theorem inX10_envyCycleLength_RX10 : ∀ x ∈ u_ws RX10 TX10 10, x ∈ wsX10_envyCycleLength := by decide +kernel
theorem inX10_envyCycleMember_RX10 : ∀ x ∈ u_ws RX10 TX10 10, x ∈ wsE_envyCycleMember := by decide +kernel
theorem inX10_envyCycleMember_RX3 : ∀ x ∈ u_ws RX3 TX3 4, x ∈ wsE_envyCycleMember := by decide +kernel
theorem inX10_freeCount_RX10 : ∀ x ∈ u_ws RX10 TX10 10, x ∈ wsX10_freeCount := by decide +kernel
theorem inX10_give_RX1 : ∀ x ∈ u_ws RX1 TX1 6, x ∈ wsX10_give := by decide +kernel
theorem inX10_give_RX10 : ∀ x ∈ u_ws RX10 TX10 10, x ∈ wsX10_give := by decide +kernel
theorem inX10_inconsistencies_RX1 : ∀ x ∈ u_ws RX1 TX1 6, x ∈ wsX10_inconsistencies := by decide +kernel
theorem inX10_inconsistencies_RX10 : ∀ x ∈ u_ws RX10 TX10 10, x ∈ wsX10_inconsistencies := by decide +kernel
theorem inX10_isMild_RX10 : ∀ x ∈ u_ws RX10 TX10 10, x ∈ wsX10_isMild := by decide +kernel
theorem inX10_isSatisfied_RX10 : ∀ x ∈ u_ws RX10 TX10 10, x ∈ wsX10_isSatisfied := by decide +kernel
theorem inX10_leastWelfare_RX1 : ∀ x ∈ u_ws RX1 TX1 6, x ∈ wsX10_leastWelfare := by decide +kernel
theorem inX10_leastWelfare_RX10 : ∀ x ∈ u_ws RX10 TX10 10, x ∈ wsX10_leastWelfare := by decide +kernel
theorem inX10_load_RX1 : ∀ x ∈ u_ws RX1 TX1 6, x ∈ wsX10_load := by decide +kernel
theorem inX10_load_RX10 : ∀ x ∈ u_ws RX10 TX10 10, x ∈ wsX10_load := by decide +kernel
theorem inX10_movingKnife_RX1 : ∀ x ∈ u_ws RX1 TX1 6, x ∈ wsX10_movingKnife := by decide +kernel
theorem inX10_movingKnife_RX10 : ∀ x ∈ u_ws RX10 TX10 10, x ∈ wsX10_movingKnife := by decide +kernel
theorem inX10_owner_RX1 : ∀ x ∈ u_ws RX1 TX1 6, x ∈ wsX10_owner := by decide +kernel
theorem inX10_owner_RX10 : ∀ x ∈ u_ws RX10 TX10 10, x ∈ wsX10_owner := by decide +kernel
theorem inX10_release_RX1 : ∀ x ∈ u_ws RX1 TX1 6, x ∈ wsX10_release := by decide +kernel
theorem inX10_release_RX10 : ∀ x ∈ u_ws RX10 TX10 10, x ∈ wsX10_release := by decide +kernel
theorem inX10_requireCell_RX10 : ∀ x ∈ u_ws RX10 TX10 10, x ∈ wsX10_requireCell := by decide +kernel
theorem inX10_requireRun_RX10 : ∀ x ∈ u_ws RX10 TX10 10, x ∈ wsX10_requireRun := by decide +kernel
theorem inX10_requireSibling_RX10 : ∀ x ∈ u_ws RX10 TX10 10, x ∈ wsX10_requireSibling := by decide +kernel
theorem inX10_rotate_RX10 : ∀ x ∈ u_ws RX10 TX10 10, x ∈ wsX10_rotate := by decide +kernel
theorem inX10_roundRobin_RX1 : ∀ x ∈ u_ws RX1 TX1 6, x ∈ wsX10_roundRobin := by decide +kernel
theorem inX10_roundRobin_RX10 : ∀ x ∈ u_ws RX10 TX10 10, x ∈ wsX10_roundRobin := by decide +kernel
theorem inX10_setValue_RX10 : ∀ x ∈ u_ws RX10 TX10 10, x ∈ wsX10_setValue := by decide +kernel
theorem inX10_siblingCount_RX1 : ∀ x ∈ u_ws RX1 TX1 6, x ∈ wsX10_siblingCount := by decide +kernel
theorem inX10_siblingCount_RX10 : ∀ x ∈ u_ws RX10 TX10 10, x ∈ wsX10_siblingCount := by decide +kernel
theorem inX10_strongEnvyCount_RX10 : ∀ x ∈ u_ws RX10 TX10 10, x ∈ wsX10_strongEnvyCount := by decide +kernel
theorem inX10_swapShares_RX10 : ∀ x ∈ u_ws RX10 TX10 10, x ∈ wsX10_swapShares := by decide +kernel
theorem inX10_totalWelfare_RX1 : ∀ x ∈ u_ws RX1 TX1 6, x ∈ wsX10_totalWelfare := by decide +kernel
theorem inX10_totalWelfare_RX10 : ∀ x ∈ u_ws RX10 TX10 10, x ∈ wsX10_totalWelfare := by decide +kernel
theorem inX10_truncate_RX10 : ∀ x ∈ u_ws RX10 TX10 10, x ∈ wsX10_truncate := by decide +kernel
theorem inX10_truncate_RX8 : ∀ x ∈ u_ws RX8 TX8 2, x ∈ wsX10_truncate := by decide +kernel
theorem inX10_value_RX10 : ∀ x ∈ u_ws RX10 TX10 10, x ∈ wsX10_value := by decide +kernel
theorem inX10_worthOfShare_RX1 : ∀ x ∈ u_ws RX1 TX1 6, x ∈ wsX10_worthOfShare := by decide +kernel
theorem inX10_worthOfShare_RX10 : ∀ x ∈ u_ws RX10 TX10 10, x ∈ wsX10_worthOfShare := by decide +kernel
theorem inX5_advance_RX5 : ∀ x ∈ u_ws RX5 TX5 7, x ∈ wsX5_advance := by decide +kernel
theorem inX5_advance_RX8 : ∀ x ∈ u_ws RX8 TX8 2, x ∈ wsX5_advance := by decide +kernel
theorem inX5_begin_RX5 : ∀ x ∈ u_ws RX5 TX5 7, x ∈ wsX5_begin := by decide +kernel
theorem inX5_numberOfToken_RX5 : ∀ x ∈ u_ws RX5 TX5 7, x ∈ wsX5_numberOfToken := by decide +kernel
theorem inX5_numberOfToken_RX8 : ∀ x ∈ u_ws RX8 TX8 2, x ∈ wsX5_numberOfToken := by decide +kernel
theorem inX5_readSetup_RX1 : ∀ x ∈ u_ws RX1 TX1 6, x ∈ wsX5_readSetup := by decide +kernel
theorem inX5_readSetup_RX5 : ∀ x ∈ u_ws RX5 TX5 7, x ∈ wsX5_readSetup := by decide +kernel
theorem inX5_readSibling_RX1 : ∀ x ∈ u_ws RX1 TX1 6, x ∈ wsX5_readSibling := by decide +kernel
theorem inX5_readSibling_RX5 : ∀ x ∈ u_ws RX5 TX5 7, x ∈ wsX5_readSibling := by decide +kernel
theorem inX5_refuse_RX5 : ∀ x ∈ u_ws RX5 TX5 7, x ∈ wsX5_refuse := by decide +kernel
theorem inX5_takeNewName_RX5 : ∀ x ∈ u_ws RX5 TX5 7, x ∈ wsX5_takeNewName := by decide +kernel
theorem inX5_takeNumber_RX5 : ∀ x ∈ u_ws RX5 TX5 7, x ∈ wsX5_takeNumber := by decide +kernel
theorem inX5_takeSemicolon_RX5 : ∀ x ∈ u_ws RX5 TX5 7, x ∈ wsX5_takeSemicolon := by decide +kernel
theorem inX5_isWord_RX5 : ∀ x ∈ u_ws RX5 TX5 7, x ∈ wsX5_isWord := by decide +kernel
theorem inX5_isWord_RX8 : ∀ x ∈ u_ws RX8 TX8 2, x ∈ wsX5_isWord := by decide +kernel
set_option maxRecDepth 20000 in
set_option maxHeartbeats 4000000 in
theorem eX10_adoptSetup_0 {K : cw_K} {r : Option Value} {J0 I : cw_M} (h : (∃ (v_8 : Int32) (J_8 : cw_M), cw_C (cc_w K) mX5_readSetup [.ref (cw_a (cc_w K) 15), .ref (cw_a (cc_w K) 10)] I (some (.int v_8)) J_8 ∧ ((v_8 = 0 → ((v_8 = 0 ∨ v_8 = 1) ∧ (r = some (.int v_8) ∧ J0 = cw_st J_8 1 1 0))) ∧ (¬ v_8 = 0 → (∃ J_32 : cw_M, cw_C (cc_w K) mX1_become [.ref (cw_a (cc_w K) 5), .ref (cw_a (cc_w K) 10)] (cw_st J_8 1 1 0) none J_32 ∧ (∃ J_39 : cw_M, cw_C (cc_w K) mX4_forgetAll [.ref (cw_a (cc_w K) 28)] J_32 none J_39 ∧ ((v_8 = 0 ∨ v_8 = 1) ∧ (r = some (.int v_8) ∧ J0 = J_39)))))))) : cw_C (cc_w K) mX10_adoptSetup [.ref (cw_a (cc_w K) 0)] I r J0 := by
  refine cw_entry okX10_adoptSetup (Nat.le_of_ble_eq_true rfl) (show cw_B (cc_w K) (cc_w K) mX10_adoptSetup (cw_Z (cc_w K) r J0) 0 0 0 0 I 0 [(0, .ref (cw_a (cc_w K) 0))] [] from ?_)
  refine cw_aload_n dX10_adoptSetup_0 0 rfl rfl ?_
  refine cw_getf (C := RX10) (T := TX10) (N := 10) (ci := 10) inX10_adoptSetup_RX10 0 (show 0 < 32 by decide) rfl rfl 4 (by decide) (by decide +kernel) rfl dX10_adoptSetup_1 ?_
  refine cw_aload_n dX10_adoptSetup_4 0 rfl rfl ?_
  refine cw_getf (C := RX10) (T := TX10) (N := 10) (ci := 10) inX10_adoptSetup_RX10 0 (show 0 < 32 by decide) rfl rfl 3 (by decide) (by decide +kernel) rfl dX10_adoptSetup_5 ?_
  obtain ⟨v_8, J_8, hc_8, h⟩ := h
  refine cw_callV (o := 15) (As := [.ref (cw_a (cc_w K) 10)]) hc_8 okX5_readSetup rfl gX10_adoptSetup_X5_readSetup (by decide) (show 15 < 32 by decide) rfl (ci := 6) rfl rfl (Nat.le_of_ble_eq_true rfl) dX10_adoptSetup_8 ?_
  refine cw_istore_n dX10_adoptSetup_11 rfl (by decide) rfl ?_
  refine cw_aload_n dX10_adoptSetup_12 1 rfl rfl ?_
  refine cw_getf (C := RX10) (T := TX10) (N := 10) (ci := 10) inX10_adoptSetup_RX10 0 (show 0 < 32 by decide) rfl rfl 0 (by decide) (by decide +kernel) rfl dX10_adoptSetup_13 ?_
  refine cw_iconst (v := 0) dX10_adoptSetup_16 (by decide) ?_
  refine cw_putf (C := RX8) (T := TX8) (N := 2) (ci := 9) inX10_adoptSetup_RX8 tyX8 tyX8_ok nmX8 1 (show 1 < 32 by decide) rfl rfl 1 (by decide) (by decide +kernel) rfl rfl (show 1 < 2 by decide) rfl dX10_adoptSetup_17 ?_
  refine cw_iload_n dX10_adoptSetup_20 0 rfl rfl ?_
  refine cw_if_eq (tgt := 42) dX10_adoptSetup_21 (by decide) (fun q => ?_) (fun q => ?_)
  · have h := h.1 q
    refine cw_iload_n dX10_adoptSetup_42 0 rfl rfl ?_
    exact cw_bret rfl dX10_adoptSetup_43 h.1 h.2
  · have h := h.2 q
    refine cw_aload_n dX10_adoptSetup_24 1 rfl rfl ?_
    refine cw_getf (C := RX10) (T := TX10) (N := 10) (ci := 10) inX10_adoptSetup_RX10 0 (show 0 < 32 by decide) rfl rfl 2 (by decide) (by decide +kernel) rfl dX10_adoptSetup_25 ?_
    refine cw_aload_n dX10_adoptSetup_28 1 rfl rfl ?_
    refine cw_getf (C := RX10) (T := TX10) (N := 10) (ci := 10) inX10_adoptSetup_RX10 0 (show 0 < 32 by decide) rfl rfl 3 (by decide) (by decide +kernel) rfl dX10_adoptSetup_29 ?_
    obtain ⟨J_32, hc_32, h⟩ := h
    refine cw_callV (o := 5) (As := [.ref (cw_a (cc_w K) 10)]) hc_32 okX1_become rfl gX10_adoptSetup_X1_become (by decide) (show 5 < 32 by decide) rfl (ci := 2) rfl rfl (Nat.le_of_ble_eq_true rfl) dX10_adoptSetup_32 ?_
    refine cw_aload_n dX10_adoptSetup_35 1 rfl rfl ?_
    refine cw_getf (C := RX10) (T := TX10) (N := 10) (ci := 10) inX10_adoptSetup_RX10 0 (show 0 < 32 by decide) rfl rfl 9 (by decide) (by decide +kernel) rfl dX10_adoptSetup_36 ?_
    obtain ⟨J_39, hc_39, h⟩ := h
    refine cw_callV (o := 28) (As := []) hc_39 okX4_forgetAll rfl gX10_adoptSetup_X4_forgetAll (by decide) (show 28 < 32 by decide) rfl (ci := 5) rfl rfl (Nat.le_of_ble_eq_true rfl) dX10_adoptSetup_39 ?_
    refine cw_iload_n dX10_adoptSetup_42 0 rfl rfl ?_
    exact cw_bret rfl dX10_adoptSetup_43 h.1 h.2
set_option maxRecDepth 20000 in
set_option maxHeartbeats 4000000 in
theorem eX10_append_0 {K : cw_K} {r : Option Value} {J0 I : cw_M} {x1 : Int32} {x2 : Int32} {x3 : Int32} {x4 : Int32} {x5 : Int32} (h : ((((I 1 1) + 20) ≤ 600 → (∃ J_31 : cw_M, cw_C (cc_w K) mX8_addFourBytes [.ref (cw_a (cc_w K) 1), .int x1] I none J_31 ∧ (∃ J_39 : cw_M, cw_C (cc_w K) mX8_addFourBytes [.ref (cw_a (cc_w K) 1), .int x2] J_31 none J_39 ∧ (∃ J_47 : cw_M, cw_C (cc_w K) mX8_addFourBytes [.ref (cw_a (cc_w K) 1), .int x3] J_39 none J_47 ∧ (∃ J_56 : cw_M, cw_C (cc_w K) mX8_addFourBytes [.ref (cw_a (cc_w K) 1), .int x4] J_47 none J_56 ∧ (∃ J_65 : cw_M, cw_C (cc_w K) mX8_addFourBytes [.ref (cw_a (cc_w K) 1), .int x5] J_56 none J_65 ∧ (r = some (.int (J_65 1 1)) ∧ J0 = J_65))))))) ∧ (¬ ((I 1 1) + 20) ≤ 600 → False))) : cw_C (cc_w K) mX10_append [.ref (cw_a (cc_w K) 0), .int x1, .int x2, .int x3, .int x4, .int x5] I r J0 := by
  refine cw_entry okX10_append (Nat.le_of_ble_eq_true rfl) (show cw_B (cc_w K) (cc_w K) mX10_append (cw_Z (cc_w K) r J0) 0 0 0 0 I 0 [(0, .ref (cw_a (cc_w K) 0)), (1, .int x1), (2, .int x2), (3, .int x3), (4, .int x4), (5, .int x5)] [] from ?_)
  refine cw_aload_n dX10_append_0 0 rfl rfl ?_
  refine cw_getf (C := RX10) (T := TX10) (N := 10) (ci := 10) inX10_append_RX10 0 (show 0 < 32 by decide) rfl rfl 0 (by decide) (by decide +kernel) rfl dX10_append_1 ?_
  refine cw_getf (C := RX8) (T := TX8) (N := 2) (ci := 9) inX10_append_RX8 1 (show 1 < 32 by decide) rfl rfl 1 (by decide) (by decide +kernel) rfl dX10_append_4 ?_
  refine cw_bipush (v := 20) dX10_append_7 (by decide) ?_
  refine cw_iadd dX10_append_9 ?_
  refine cw_sipush (v := 600) dX10_append_10 (by decide) ?_
  refine cw_icmp_le (tgt := 26) dX10_append_13 (by decide) (fun q => ?_) (fun q => ?_)
  · have h := h.1 q
    refine cw_aload_n dX10_append_26 0 rfl rfl ?_
    refine cw_getf (C := RX10) (T := TX10) (N := 10) (ci := 10) inX10_append_RX10 0 (show 0 < 32 by decide) rfl rfl 0 (by decide) (by decide +kernel) rfl dX10_append_27 ?_
    refine cw_iload_n dX10_append_30 1 rfl rfl ?_
    obtain ⟨J_31, hc_31, h⟩ := h
    refine cw_callV (o := 1) (As := [.int x1]) hc_31 okX8_addFourBytes rfl gX10_append_X8_addFourBytes (by decide) (show 1 < 32 by decide) rfl (ci := 9) rfl rfl (Nat.le_of_ble_eq_true rfl) dX10_append_31 ?_
    refine cw_aload_n dX10_append_34 0 rfl rfl ?_
    refine cw_getf (C := RX10) (T := TX10) (N := 10) (ci := 10) inX10_append_RX10 0 (show 0 < 32 by decide) rfl rfl 0 (by decide) (by decide +kernel) rfl dX10_append_35 ?_
    refine cw_iload_n dX10_append_38 2 rfl rfl ?_
    obtain ⟨J_39, hc_39, h⟩ := h
    refine cw_callV (o := 1) (As := [.int x2]) hc_39 okX8_addFourBytes rfl gX10_append_X8_addFourBytes (by decide) (show 1 < 32 by decide) rfl (ci := 9) rfl rfl (Nat.le_of_ble_eq_true rfl) dX10_append_39 ?_
    refine cw_aload_n dX10_append_42 0 rfl rfl ?_
    refine cw_getf (C := RX10) (T := TX10) (N := 10) (ci := 10) inX10_append_RX10 0 (show 0 < 32 by decide) rfl rfl 0 (by decide) (by decide +kernel) rfl dX10_append_43 ?_
    refine cw_iload_n dX10_append_46 3 rfl rfl ?_
    obtain ⟨J_47, hc_47, h⟩ := h
    refine cw_callV (o := 1) (As := [.int x3]) hc_47 okX8_addFourBytes rfl gX10_append_X8_addFourBytes (by decide) (show 1 < 32 by decide) rfl (ci := 9) rfl rfl (Nat.le_of_ble_eq_true rfl) dX10_append_47 ?_
    refine cw_aload_n dX10_append_50 0 rfl rfl ?_
    refine cw_getf (C := RX10) (T := TX10) (N := 10) (ci := 10) inX10_append_RX10 0 (show 0 < 32 by decide) rfl rfl 0 (by decide) (by decide +kernel) rfl dX10_append_51 ?_
    refine cw_iload dX10_append_54 4 rfl ?_
    obtain ⟨J_56, hc_56, h⟩ := h
    refine cw_callV (o := 1) (As := [.int x4]) hc_56 okX8_addFourBytes rfl gX10_append_X8_addFourBytes (by decide) (show 1 < 32 by decide) rfl (ci := 9) rfl rfl (Nat.le_of_ble_eq_true rfl) dX10_append_56 ?_
    refine cw_aload_n dX10_append_59 0 rfl rfl ?_
    refine cw_getf (C := RX10) (T := TX10) (N := 10) (ci := 10) inX10_append_RX10 0 (show 0 < 32 by decide) rfl rfl 0 (by decide) (by decide +kernel) rfl dX10_append_60 ?_
    refine cw_iload dX10_append_63 5 rfl ?_
    obtain ⟨J_65, hc_65, h⟩ := h
    refine cw_callV (o := 1) (As := [.int x5]) hc_65 okX8_addFourBytes rfl gX10_append_X8_addFourBytes (by decide) (show 1 < 32 by decide) rfl (ci := 9) rfl rfl (Nat.le_of_ble_eq_true rfl) dX10_append_65 ?_
    refine cw_aload_n dX10_append_68 0 rfl rfl ?_
    refine cw_getf (C := RX10) (T := TX10) (N := 10) (ci := 10) inX10_append_RX10 0 (show 0 < 32 by decide) rfl rfl 0 (by decide) (by decide +kernel) rfl dX10_append_69 ?_
    refine cw_getf (C := RX8) (T := TX8) (N := 2) (ci := 9) inX10_append_RX8 1 (show 1 < 32 by decide) rfl rfl 1 (by decide) (by decide +kernel) rfl dX10_append_72 ?_
    exact cw_iret rfl dX10_append_75 h
  · have h := h.2 q
    exact h.elim
set_option maxRecDepth 20000 in
set_option maxHeartbeats 4000000 in
theorem eX10_cellCount_0 {K : cw_K} {r : Option Value} {J0 I : cw_M} (h : (r = some (.int (I 5 0)) ∧ J0 = I)) : cw_C (cc_w K) mX10_cellCount [.ref (cw_a (cc_w K) 0)] I r J0 := by
  refine cw_entry okX10_cellCount (Nat.le_of_ble_eq_true rfl) (show cw_B (cc_w K) (cc_w K) mX10_cellCount (cw_Z (cc_w K) r J0) 0 0 0 0 I 0 [(0, .ref (cw_a (cc_w K) 0))] [] from ?_)
  refine cw_aload_n dX10_cellCount_0 0 rfl rfl ?_
  refine cw_getf (C := RX10) (T := TX10) (N := 10) (ci := 10) inX10_cellCount_RX10 0 (show 0 < 32 by decide) rfl rfl 2 (by decide) (by decide +kernel) rfl dX10_cellCount_1 ?_
  refine cw_getf (C := RX1) (T := TX1) (N := 6) (ci := 2) inX10_cellCount_RX1 5 (show 5 < 32 by decide) rfl rfl 0 (by decide) (by decide +kernel) rfl dX10_cellCount_4 ?_
  exact cw_iret rfl dX10_cellCount_7 h
set_option maxRecDepth 20000 in
set_option maxHeartbeats 4000000 in
theorem eX10_divideAndChoose_0 {K : cw_K} {r : Option Value} {J0 I : cw_M} {x1 : Int32} {x2 : Int32} (h : (∃ J_2 : cw_M, cw_C (cc_w K) mX10_requireSibling [.ref (cw_a (cc_w K) 0), .int x1] I none J_2 ∧ (∃ J_7 : cw_M, cw_C (cc_w K) mX10_requireSibling [.ref (cw_a (cc_w K) 0), .int x2] J_2 none J_7 ∧ (∃ J_13 : cw_M, cw_C (cc_w K) mX10_requireDifferent [.ref (cw_a (cc_w K) 0), .int x1, .int x2] J_7 none J_13 ∧ (∃ J_24 : cw_M, cw_C (cc_w K) mX4_rememberForUndo [.ref (cw_a (cc_w K) 28), .ref (cw_a (cc_w K) 5)] J_13 none J_24 ∧ (∃ (v_33 : Int32) (J_33 : cw_M), cw_C (cc_w K) mX6_cutAndChoose [.ref (cw_a (cc_w K) 20), .int x1, .int x2] J_24 (some (.int v_33)) J_33 ∧ (r = some (.int v_33) ∧ J0 = J_33))))))) : cw_C (cc_w K) mX10_divideAndChoose [.ref (cw_a (cc_w K) 0), .int x1, .int x2] I r J0 := by
  refine cw_entry okX10_divideAndChoose (Nat.le_of_ble_eq_true rfl) (show cw_B (cc_w K) (cc_w K) mX10_divideAndChoose (cw_Z (cc_w K) r J0) 0 0 0 0 I 0 [(0, .ref (cw_a (cc_w K) 0)), (1, .int x1), (2, .int x2)] [] from ?_)
  refine cw_aload_n dX10_divideAndChoose_0 0 rfl rfl ?_
  refine cw_iload_n dX10_divideAndChoose_1 1 rfl rfl ?_
  obtain ⟨J_2, hc_2, h⟩ := h
  refine cw_callV (o := 0) (As := [.int x1]) hc_2 okX10_requireSibling rfl gX10_divideAndChoose_X10_requireSibling (by decide) (show 0 < 32 by decide) rfl (ci := 10) rfl rfl (Nat.le_of_ble_eq_true rfl) dX10_divideAndChoose_2 ?_
  refine cw_aload_n dX10_divideAndChoose_5 0 rfl rfl ?_
  refine cw_iload_n dX10_divideAndChoose_6 2 rfl rfl ?_
  obtain ⟨J_7, hc_7, h⟩ := h
  refine cw_callV (o := 0) (As := [.int x2]) hc_7 okX10_requireSibling rfl gX10_divideAndChoose_X10_requireSibling (by decide) (show 0 < 32 by decide) rfl (ci := 10) rfl rfl (Nat.le_of_ble_eq_true rfl) dX10_divideAndChoose_7 ?_
  refine cw_aload_n dX10_divideAndChoose_10 0 rfl rfl ?_
  refine cw_iload_n dX10_divideAndChoose_11 1 rfl rfl ?_
  refine cw_iload_n dX10_divideAndChoose_12 2 rfl rfl ?_
  obtain ⟨J_13, hc_13, h⟩ := h
  refine cw_callV (o := 0) (As := [.int x1, .int x2]) hc_13 okX10_requireDifferent rfl gX10_divideAndChoose_X10_requireDifferent (by decide) (show 0 < 32 by decide) rfl (ci := 10) rfl rfl (Nat.le_of_ble_eq_true rfl) dX10_divideAndChoose_13 ?_
  refine cw_aload_n dX10_divideAndChoose_16 0 rfl rfl ?_
  refine cw_getf (C := RX10) (T := TX10) (N := 10) (ci := 10) inX10_divideAndChoose_RX10 0 (show 0 < 32 by decide) rfl rfl 9 (by decide) (by decide +kernel) rfl dX10_divideAndChoose_17 ?_
  refine cw_aload_n dX10_divideAndChoose_20 0 rfl rfl ?_
  refine cw_getf (C := RX10) (T := TX10) (N := 10) (ci := 10) inX10_divideAndChoose_RX10 0 (show 0 < 32 by decide) rfl rfl 2 (by decide) (by decide +kernel) rfl dX10_divideAndChoose_21 ?_
  obtain ⟨J_24, hc_24, h⟩ := h
  refine cw_callV (o := 28) (As := [.ref (cw_a (cc_w K) 5)]) hc_24 okX4_rememberForUndo rfl gX10_divideAndChoose_X4_rememberForUndo (by decide) (show 28 < 32 by decide) rfl (ci := 5) rfl rfl (Nat.le_of_ble_eq_true rfl) dX10_divideAndChoose_24 ?_
  refine cw_aload_n dX10_divideAndChoose_27 0 rfl rfl ?_
  refine cw_getf (C := RX10) (T := TX10) (N := 10) (ci := 10) inX10_divideAndChoose_RX10 0 (show 0 < 32 by decide) rfl rfl 6 (by decide) (by decide +kernel) rfl dX10_divideAndChoose_28 ?_
  refine cw_iload_n dX10_divideAndChoose_31 1 rfl rfl ?_
  refine cw_iload_n dX10_divideAndChoose_32 2 rfl rfl ?_
  obtain ⟨v_33, J_33, hc_33, h⟩ := h
  refine cw_callV (o := 20) (As := [.int x1, .int x2]) hc_33 okX6_cutAndChoose rfl gX10_divideAndChoose_X6_cutAndChoose (by decide) (show 20 < 32 by decide) rfl (ci := 7) rfl rfl (Nat.le_of_ble_eq_true rfl) dX10_divideAndChoose_33 ?_
  exact cw_iret rfl dX10_divideAndChoose_36 h
set_option maxRecDepth 20000 in
set_option maxHeartbeats 4000000 in
theorem eX10_envies_0 {K : cw_K} {r : Option Value} {J0 I : cw_M} {x1 : Int32} {x2 : Int32} (h : (∃ J_2 : cw_M, cw_C (cc_w K) mX10_requireSibling [.ref (cw_a (cc_w K) 0), .int x1] I none J_2 ∧ (∃ J_7 : cw_M, cw_C (cc_w K) mX10_requireSibling [.ref (cw_a (cc_w K) 0), .int x2] J_2 none J_7 ∧ (∃ (v_16 : Int32) (J_16 : cw_M), cw_C (cc_w K) mX3_hasEnvy [.ref (cw_a (cc_w K) 16), .int x1, .int x2] J_7 (some (.int v_16)) J_16 ∧ ((v_16 = 0 ∨ v_16 = 1) ∧ (r = some (.int v_16) ∧ J0 = J_16)))))) : cw_C (cc_w K) mX10_envies [.ref (cw_a (cc_w K) 0), .int x1, .int x2] I r J0 := by
  refine cw_entry okX10_envies (Nat.le_of_ble_eq_true rfl) (show cw_B (cc_w K) (cc_w K) mX10_envies (cw_Z (cc_w K) r J0) 0 0 0 0 I 0 [(0, .ref (cw_a (cc_w K) 0)), (1, .int x1), (2, .int x2)] [] from ?_)
  refine cw_aload_n dX10_envies_0 0 rfl rfl ?_
  refine cw_iload_n dX10_envies_1 1 rfl rfl ?_
  obtain ⟨J_2, hc_2, h⟩ := h
  refine cw_callV (o := 0) (As := [.int x1]) hc_2 okX10_requireSibling rfl gX10_envies_X10_requireSibling (by decide) (show 0 < 32 by decide) rfl (ci := 10) rfl rfl (Nat.le_of_ble_eq_true rfl) dX10_envies_2 ?_
  refine cw_aload_n dX10_envies_5 0 rfl rfl ?_
  refine cw_iload_n dX10_envies_6 2 rfl rfl ?_
  obtain ⟨J_7, hc_7, h⟩ := h
  refine cw_callV (o := 0) (As := [.int x2]) hc_7 okX10_requireSibling rfl gX10_envies_X10_requireSibling (by decide) (show 0 < 32 by decide) rfl (ci := 10) rfl rfl (Nat.le_of_ble_eq_true rfl) dX10_envies_7 ?_
  refine cw_aload_n dX10_envies_10 0 rfl rfl ?_
  refine cw_getf (C := RX10) (T := TX10) (N := 10) (ci := 10) inX10_envies_RX10 0 (show 0 < 32 by decide) rfl rfl 5 (by decide) (by decide +kernel) rfl dX10_envies_11 ?_
  refine cw_iload_n dX10_envies_14 1 rfl rfl ?_
  refine cw_iload_n dX10_envies_15 2 rfl rfl ?_
  obtain ⟨v_16, J_16, hc_16, h⟩ := h
  refine cw_callV (o := 16) (As := [.int x1, .int x2]) hc_16 okX3_hasEnvy rfl gX10_envies_X3_hasEnvy (by decide) (show 16 < 32 by decide) rfl (ci := 4) rfl rfl (Nat.le_of_ble_eq_true rfl) dX10_envies_16 ?_
  exact cw_bret rfl dX10_envies_19 h.1 h.2
set_option maxRecDepth 20000 in
set_option maxHeartbeats 4000000 in
theorem eX10_envyCycleLength_0 {K : cw_K} {r : Option Value} {J0 I : cw_M} {x1 : Int32} (h : (∃ J_2 : cw_M, cw_C (cc_w K) mX10_requireSibling [.ref (cw_a (cc_w K) 0), .int x1] I none J_2 ∧ (∃ (v_10 : Int32) (J_10 : cw_M), cw_C (cc_w K) mX3_findCycle [.ref (cw_a (cc_w K) 16), .int x1] J_2 (some (.int v_10)) J_10 ∧ (r = some (.int v_10) ∧ J0 = J_10)))) : cw_C (cc_w K) mX10_envyCycleLength [.ref (cw_a (cc_w K) 0), .int x1] I r J0 := by
  refine cw_entry okX10_envyCycleLength (Nat.le_of_ble_eq_true rfl) (show cw_B (cc_w K) (cc_w K) mX10_envyCycleLength (cw_Z (cc_w K) r J0) 0 0 0 0 I 0 [(0, .ref (cw_a (cc_w K) 0)), (1, .int x1)] [] from ?_)
  refine cw_aload_n dX10_envyCycleLength_0 0 rfl rfl ?_
  refine cw_iload_n dX10_envyCycleLength_1 1 rfl rfl ?_
  obtain ⟨J_2, hc_2, h⟩ := h
  refine cw_callV (o := 0) (As := [.int x1]) hc_2 okX10_requireSibling rfl gX10_envyCycleLength_X10_requireSibling (by decide) (show 0 < 32 by decide) rfl (ci := 10) rfl rfl (Nat.le_of_ble_eq_true rfl) dX10_envyCycleLength_2 ?_
  refine cw_aload_n dX10_envyCycleLength_5 0 rfl rfl ?_
  refine cw_getf (C := RX10) (T := TX10) (N := 10) (ci := 10) inX10_envyCycleLength_RX10 0 (show 0 < 32 by decide) rfl rfl 5 (by decide) (by decide +kernel) rfl dX10_envyCycleLength_6 ?_
  refine cw_iload_n dX10_envyCycleLength_9 1 rfl rfl ?_
  obtain ⟨v_10, J_10, hc_10, h⟩ := h
  refine cw_callV (o := 16) (As := [.int x1]) hc_10 okX3_findCycle rfl gX10_envyCycleLength_X3_findCycle (by decide) (show 16 < 32 by decide) rfl (ci := 4) rfl rfl (Nat.le_of_ble_eq_true rfl) dX10_envyCycleLength_10 ?_
  exact cw_iret rfl dX10_envyCycleLength_13 h
set_option maxRecDepth 20000 in
set_option maxHeartbeats 4000000 in
theorem eX10_envyCycleMember_0 {K : cw_K} {r : Option Value} {J0 I : cw_M} {x1 : Int32} {x2 : Int32} (h : (∃ J_2 : cw_M, cw_C (cc_w K) mX10_requireSibling [.ref (cw_a (cc_w K) 0), .int x1] I none J_2 ∧ ((x2 < 0 → False) ∧ (¬ x2 < 0 → (∃ (v_15 : Int32) (J_15 : cw_M), cw_C (cc_w K) mX3_findCycle [.ref (cw_a (cc_w K) 16), .int x1] J_2 (some (.int v_15)) J_15 ∧ ((x2 < v_15 → (vp_in x2 6 ∧ (r = some (.int (J_15 17 x2.toNatClampNeg)) ∧ J0 = J_15))) ∧ (¬ x2 < v_15 → False))))))) : cw_C (cc_w K) mX10_envyCycleMember [.ref (cw_a (cc_w K) 0), .int x1, .int x2] I r J0 := by
  refine cw_entry okX10_envyCycleMember (Nat.le_of_ble_eq_true rfl) (show cw_B (cc_w K) (cc_w K) mX10_envyCycleMember (cw_Z (cc_w K) r J0) 0 0 0 0 I 0 [(0, .ref (cw_a (cc_w K) 0)), (1, .int x1), (2, .int x2)] [] from ?_)
  refine cw_aload_n dX10_envyCycleMember_0 0 rfl rfl ?_
  refine cw_iload_n dX10_envyCycleMember_1 1 rfl rfl ?_
  obtain ⟨J_2, hc_2, h⟩ := h
  refine cw_callV (o := 0) (As := [.int x1]) hc_2 okX10_requireSibling rfl gE_X10_requireSibling (by decide) (show 0 < 32 by decide) rfl (ci := 10) rfl rfl (Nat.le_of_ble_eq_true rfl) dX10_envyCycleMember_2 ?_
  refine cw_iload_n dX10_envyCycleMember_5 2 rfl rfl ?_
  refine cw_if_lt (tgt := 21) dX10_envyCycleMember_6 (by decide) (fun q => ?_) (fun q => ?_)
  · have h := h.1 q
    exact h.elim
  · have h := h.2 q
    refine cw_iload_n dX10_envyCycleMember_9 2 rfl rfl ?_
    refine cw_aload_n dX10_envyCycleMember_10 0 rfl rfl ?_
    refine cw_getf (C := RX10) (T := TX10) (N := 10) (ci := 10) inX10_envyCycleMember_RX10 0 (show 0 < 32 by decide) rfl rfl 5 (by decide) (by decide +kernel) rfl dX10_envyCycleMember_11 ?_
    refine cw_iload_n dX10_envyCycleMember_14 1 rfl rfl ?_
    obtain ⟨v_15, J_15, hc_15, h⟩ := h
    refine cw_callV (o := 16) (As := [.int x1]) hc_15 okX3_findCycle rfl gE_X3_findCycle (by decide) (show 16 < 32 by decide) rfl (ci := 4) rfl rfl (Nat.le_of_ble_eq_true rfl) dX10_envyCycleMember_15 ?_
    refine cw_icmp_lt (tgt := 31) dX10_envyCycleMember_18 (by decide) (fun q => ?_) (fun q => ?_)
    · have h := h.1 q
      refine cw_aload_n dX10_envyCycleMember_31 0 rfl rfl ?_
      refine cw_getf (C := RX10) (T := TX10) (N := 10) (ci := 10) inX10_envyCycleMember_RX10 0 (show 0 < 32 by decide) rfl rfl 5 (by decide) (by decide +kernel) rfl dX10_envyCycleMember_32 ?_
      refine cw_getf (C := RX3) (T := TX3) (N := 4) (ci := 4) inX10_envyCycleMember_RX3 16 (show 16 < 32 by decide) rfl rfl 0 (by decide) (by decide +kernel) rfl dX10_envyCycleMember_35 ?_
      refine cw_iload_n dX10_envyCycleMember_38 2 rfl rfl ?_
      obtain ⟨g_39, h⟩ := h
      refine cw_iald 17 (show 17 < 32 by decide) rfl 0 rfl dX10_envyCycleMember_39 g_39 ?_
      exact cw_iret rfl dX10_envyCycleMember_40 h
    · have h := h.2 q
      exact h.elim
set_option maxRecDepth 20000 in
set_option maxHeartbeats 4000000 in
theorem eX10_freeCount_0 {K : cw_K} {r : Option Value} {J0 I : cw_M} (h : (∃ (v_5 : Int32) (J_5 : cw_M), cw_C (cc_w K) mX1_countOwned [.ref (cw_a (cc_w K) 5), .int (-1)] I (some (.int v_5)) J_5 ∧ (r = some (.int v_5) ∧ J0 = J_5))) : cw_C (cc_w K) mX10_freeCount [.ref (cw_a (cc_w K) 0)] I r J0 := by
  refine cw_entry okX10_freeCount (Nat.le_of_ble_eq_true rfl) (show cw_B (cc_w K) (cc_w K) mX10_freeCount (cw_Z (cc_w K) r J0) 0 0 0 0 I 0 [(0, .ref (cw_a (cc_w K) 0))] [] from ?_)
  refine cw_aload_n dX10_freeCount_0 0 rfl rfl ?_
  refine cw_getf (C := RX10) (T := TX10) (N := 10) (ci := 10) inX10_freeCount_RX10 0 (show 0 < 32 by decide) rfl rfl 2 (by decide) (by decide +kernel) rfl dX10_freeCount_1 ?_
  refine cw_iconst (v := (-1)) dX10_freeCount_4 (by decide) ?_
  obtain ⟨v_5, J_5, hc_5, h⟩ := h
  refine cw_callV (o := 5) (As := [.int (-1)]) hc_5 okX1_countOwned rfl gX10_freeCount_X1_countOwned (by decide) (show 5 < 32 by decide) rfl (ci := 2) rfl rfl (Nat.le_of_ble_eq_true rfl) dX10_freeCount_5 ?_
  exact cw_iret rfl dX10_freeCount_8 h
set_option maxRecDepth 20000 in
set_option maxHeartbeats 4000000 in
theorem eX10_give_0 {K : cw_K} {r : Option Value} {J0 I : cw_M} {x1 : Int32} {x2 : Int32} {x3 : Int32} (h : (∃ J_2 : cw_M, cw_C (cc_w K) mX10_requireSibling [.ref (cw_a (cc_w K) 0), .int x1] I none J_2 ∧ (∃ J_8 : cw_M, cw_C (cc_w K) mX10_requireRun [.ref (cw_a (cc_w K) 0), .int x2, .int x3] J_2 none J_8 ∧ (∃ J_19 : cw_M, cw_C (cc_w K) mX4_rememberForUndo [.ref (cw_a (cc_w K) 28), .ref (cw_a (cc_w K) 5)] J_8 none J_19 ∧ (∃ J_38 : cw_M, cw_C (cc_w K) mX1_assign [.ref (cw_a (cc_w K) 5), .ref (cw_a (cc_w K) 9), .int x1, .int x2, .int (x3 + 1)] J_19 none J_38 ∧ (∃ (v_46 : Int32) (J_46 : cw_M), cw_C (cc_w K) mX1_welfareOf [.ref (cw_a (cc_w K) 5), .int x1] J_38 (some (.int v_46)) J_46 ∧ (r = some (.int v_46) ∧ J0 = J_46))))))) : cw_C (cc_w K) mX10_give [.ref (cw_a (cc_w K) 0), .int x1, .int x2, .int x3] I r J0 := by
  refine cw_entry okX10_give (Nat.le_of_ble_eq_true rfl) (show cw_B (cc_w K) (cc_w K) mX10_give (cw_Z (cc_w K) r J0) 0 0 0 0 I 0 [(0, .ref (cw_a (cc_w K) 0)), (1, .int x1), (2, .int x2), (3, .int x3)] [] from ?_)
  refine cw_aload_n dX10_give_0 0 rfl rfl ?_
  refine cw_iload_n dX10_give_1 1 rfl rfl ?_
  obtain ⟨J_2, hc_2, h⟩ := h
  refine cw_callV (o := 0) (As := [.int x1]) hc_2 okX10_requireSibling rfl gX10_give_X10_requireSibling (by decide) (show 0 < 32 by decide) rfl (ci := 10) rfl rfl (Nat.le_of_ble_eq_true rfl) dX10_give_2 ?_
  refine cw_aload_n dX10_give_5 0 rfl rfl ?_
  refine cw_iload_n dX10_give_6 2 rfl rfl ?_
  refine cw_iload_n dX10_give_7 3 rfl rfl ?_
  obtain ⟨J_8, hc_8, h⟩ := h
  refine cw_callV (o := 0) (As := [.int x2, .int x3]) hc_8 okX10_requireRun rfl gX10_give_X10_requireRun (by decide) (show 0 < 32 by decide) rfl (ci := 10) rfl rfl (Nat.le_of_ble_eq_true rfl) dX10_give_8 ?_
  refine cw_aload_n dX10_give_11 0 rfl rfl ?_
  refine cw_getf (C := RX10) (T := TX10) (N := 10) (ci := 10) inX10_give_RX10 0 (show 0 < 32 by decide) rfl rfl 9 (by decide) (by decide +kernel) rfl dX10_give_12 ?_
  refine cw_aload_n dX10_give_15 0 rfl rfl ?_
  refine cw_getf (C := RX10) (T := TX10) (N := 10) (ci := 10) inX10_give_RX10 0 (show 0 < 32 by decide) rfl rfl 2 (by decide) (by decide +kernel) rfl dX10_give_16 ?_
  obtain ⟨J_19, hc_19, h⟩ := h
  refine cw_callV (o := 28) (As := [.ref (cw_a (cc_w K) 5)]) hc_19 okX4_rememberForUndo rfl gX10_give_X4_rememberForUndo (by decide) (show 28 < 32 by decide) rfl (ci := 5) rfl rfl (Nat.le_of_ble_eq_true rfl) dX10_give_19 ?_
  refine cw_aload_n dX10_give_22 0 rfl rfl ?_
  refine cw_getf (C := RX10) (T := TX10) (N := 10) (ci := 10) inX10_give_RX10 0 (show 0 < 32 by decide) rfl rfl 2 (by decide) (by decide +kernel) rfl dX10_give_23 ?_
  refine cw_aload_n dX10_give_26 0 rfl rfl ?_
  refine cw_getf (C := RX10) (T := TX10) (N := 10) (ci := 10) inX10_give_RX10 0 (show 0 < 32 by decide) rfl rfl 2 (by decide) (by decide +kernel) rfl dX10_give_27 ?_
  refine cw_getf (C := RX1) (T := TX1) (N := 6) (ci := 2) inX10_give_RX1 5 (show 5 < 32 by decide) rfl rfl 5 (by decide) (by decide +kernel) rfl dX10_give_30 ?_
  refine cw_iload_n dX10_give_33 1 rfl rfl ?_
  refine cw_iload_n dX10_give_34 2 rfl rfl ?_
  refine cw_iload_n dX10_give_35 3 rfl rfl ?_
  refine cw_iconst (v := 1) dX10_give_36 (by decide) ?_
  refine cw_iadd dX10_give_37 ?_
  obtain ⟨J_38, hc_38, h⟩ := h
  refine cw_callV (o := 5) (As := [.ref (cw_a (cc_w K) 9), .int x1, .int x2, .int (x3 + 1)]) hc_38 okX1_assign rfl gX10_give_X1_assign (by decide) (show 5 < 32 by decide) rfl (ci := 2) rfl rfl (Nat.le_of_ble_eq_true rfl) dX10_give_38 ?_
  refine cw_aload_n dX10_give_41 0 rfl rfl ?_
  refine cw_getf (C := RX10) (T := TX10) (N := 10) (ci := 10) inX10_give_RX10 0 (show 0 < 32 by decide) rfl rfl 2 (by decide) (by decide +kernel) rfl dX10_give_42 ?_
  refine cw_iload_n dX10_give_45 1 rfl rfl ?_
  obtain ⟨v_46, J_46, hc_46, h⟩ := h
  refine cw_callV (o := 5) (As := [.int x1]) hc_46 okX1_welfareOf rfl gX10_give_X1_welfareOf (by decide) (show 5 < 32 by decide) rfl (ci := 2) rfl rfl (Nat.le_of_ble_eq_true rfl) dX10_give_46 ?_
  exact cw_iret rfl dX10_give_49 h
abbrev bX10_inconsistencies_0_19 (K : cw_K) (r : Option Value) (J0 : cw_M) (x1 : Int32) (x2 : Int32) (I : cw_M) : Prop := cw_B (cc_w K) (cc_w K) mX10_inconsistencies (cw_Z (cc_w K) r J0) 0 0 0 0 I 19 [(0, .ref (cw_a (cc_w K) 0)), (1, .int x1), (2, .int x2)] []
set_option maxRecDepth 20000 in
set_option maxHeartbeats 4000000 in
theorem eX10_inconsistencies_0 {K : cw_K} {r : Option Value} {J0 I : cw_M} (h : (∃ (v_12 : Int32) (J_12 : cw_M), cw_C (cc_w K) mX1_countOwned [.ref (cw_a (cc_w K) 5), .int (-1)] I (some (.int v_12)) J_12 ∧ bX10_inconsistencies_0_19 K r J0 ((I 5 0) - v_12) 0 J_12)) : cw_C (cc_w K) mX10_inconsistencies [.ref (cw_a (cc_w K) 0)] I r J0 := by
  refine cw_entry okX10_inconsistencies (Nat.le_of_ble_eq_true rfl) (show cw_B (cc_w K) (cc_w K) mX10_inconsistencies (cw_Z (cc_w K) r J0) 0 0 0 0 I 0 [(0, .ref (cw_a (cc_w K) 0))] [] from ?_)
  refine cw_aload_n dX10_inconsistencies_0 0 rfl rfl ?_
  refine cw_getf (C := RX10) (T := TX10) (N := 10) (ci := 10) inX10_inconsistencies_RX10 0 (show 0 < 32 by decide) rfl rfl 2 (by decide) (by decide +kernel) rfl dX10_inconsistencies_1 ?_
  refine cw_getf (C := RX1) (T := TX1) (N := 6) (ci := 2) inX10_inconsistencies_RX1 5 (show 5 < 32 by decide) rfl rfl 0 (by decide) (by decide +kernel) rfl dX10_inconsistencies_4 ?_
  refine cw_aload_n dX10_inconsistencies_7 0 rfl rfl ?_
  refine cw_getf (C := RX10) (T := TX10) (N := 10) (ci := 10) inX10_inconsistencies_RX10 0 (show 0 < 32 by decide) rfl rfl 2 (by decide) (by decide +kernel) rfl dX10_inconsistencies_8 ?_
  refine cw_iconst (v := (-1)) dX10_inconsistencies_11 (by decide) ?_
  obtain ⟨v_12, J_12, hc_12, h⟩ := h
  refine cw_callV (o := 5) (As := [.int (-1)]) hc_12 okX1_countOwned rfl gX10_inconsistencies_X1_countOwned (by decide) (show 5 < 32 by decide) rfl (ci := 2) rfl rfl (Nat.le_of_ble_eq_true rfl) dX10_inconsistencies_12 ?_
  refine cw_isub dX10_inconsistencies_15 ?_
  refine cw_istore_n dX10_inconsistencies_16 rfl (by decide) rfl ?_
  refine cw_iconst (v := 0) dX10_inconsistencies_17 (by decide) ?_
  refine cw_istore_n dX10_inconsistencies_18 rfl (by decide) rfl ?_
  refine cw_sub [2, 1, 0] rfl ?_
  exact h
set_option maxRecDepth 20000 in
set_option maxHeartbeats 4000000 in
theorem tbX10_inconsistencies_0_19 {K : cw_K} {r : Option Value} {J0 I : cw_M} {x1 : Int32} {x2 : Int32} (h : (((I 5 1) ≤ x2 → (r = some (.int x1) ∧ J0 = I)) ∧ (¬ (I 5 1) ≤ x2 → (∃ (v_36 : Int32) (J_36 : cw_M), cw_C (cc_w K) mX1_countOwned [.ref (cw_a (cc_w K) 5), .int x2] I (some (.int v_36)) J_36 ∧ (∃ (v_47 : Int32) (J_47 : cw_M), cw_C (cc_w K) mX3_hasEnvy [.ref (cw_a (cc_w K) 16), .int x2, .int x2] J_36 (some (.int v_47)) J_47 ∧ ((v_47 = 0 → bX10_inconsistencies_0_19 K r J0 (x1 - v_36) (x2 + 1) J_47) ∧ (¬ v_47 = 0 → bX10_inconsistencies_0_19 K r J0 ((x1 - v_36) + 1) (x2 + 1) J_47))))))) : bX10_inconsistencies_0_19 K r J0 x1 x2 I := by
  refine cw_iload_n dX10_inconsistencies_19 2 rfl rfl ?_
  refine cw_aload_n dX10_inconsistencies_20 0 rfl rfl ?_
  refine cw_getf (C := RX10) (T := TX10) (N := 10) (ci := 10) inX10_inconsistencies_RX10 0 (show 0 < 32 by decide) rfl rfl 2 (by decide) (by decide +kernel) rfl dX10_inconsistencies_21 ?_
  refine cw_getf (C := RX1) (T := TX1) (N := 6) (ci := 2) inX10_inconsistencies_RX1 5 (show 5 < 32 by decide) rfl rfl 1 (by decide) (by decide +kernel) rfl dX10_inconsistencies_24 ?_
  refine cw_icmp_ge (tgt := 62) dX10_inconsistencies_27 (by decide) (fun q => ?_) (fun q => ?_)
  · have h := h.1 q
    refine cw_iload_n dX10_inconsistencies_62 1 rfl rfl ?_
    exact cw_iret rfl dX10_inconsistencies_63 h
  · have h := h.2 q
    refine cw_iload_n dX10_inconsistencies_30 1 rfl rfl ?_
    refine cw_aload_n dX10_inconsistencies_31 0 rfl rfl ?_
    refine cw_getf (C := RX10) (T := TX10) (N := 10) (ci := 10) inX10_inconsistencies_RX10 0 (show 0 < 32 by decide) rfl rfl 2 (by decide) (by decide +kernel) rfl dX10_inconsistencies_32 ?_
    refine cw_iload_n dX10_inconsistencies_35 2 rfl rfl ?_
    obtain ⟨v_36, J_36, hc_36, h⟩ := h
    refine cw_callV (o := 5) (As := [.int x2]) hc_36 okX1_countOwned rfl gX10_inconsistencies_X1_countOwned (by decide) (show 5 < 32 by decide) rfl (ci := 2) rfl rfl (Nat.le_of_ble_eq_true rfl) dX10_inconsistencies_36 ?_
    refine cw_isub dX10_inconsistencies_39 ?_
    refine cw_istore_n dX10_inconsistencies_40 rfl (by decide) rfl ?_
    refine cw_aload_n dX10_inconsistencies_41 1 rfl rfl ?_
    refine cw_getf (C := RX10) (T := TX10) (N := 10) (ci := 10) inX10_inconsistencies_RX10 0 (show 0 < 32 by decide) rfl rfl 5 (by decide) (by decide +kernel) rfl dX10_inconsistencies_42 ?_
    refine cw_iload_n dX10_inconsistencies_45 2 rfl rfl ?_
    refine cw_iload_n dX10_inconsistencies_46 2 rfl rfl ?_
    obtain ⟨v_47, J_47, hc_47, h⟩ := h
    refine cw_callV (o := 16) (As := [.int x2, .int x2]) hc_47 okX3_hasEnvy rfl gX10_inconsistencies_X3_hasEnvy (by decide) (show 16 < 32 by decide) rfl (ci := 4) rfl rfl (Nat.le_of_ble_eq_true rfl) dX10_inconsistencies_47 ?_
    refine cw_if_eq (tgt := 56) dX10_inconsistencies_50 (by decide) (fun q => ?_) (fun q => ?_)
    · have h := h.1 q
      refine cw_iinc (v := x2 + 1) dX10_inconsistencies_56 (j := 2) rfl rfl (by decide) rfl ?_
      refine cw_goto (tgt := 19) dX10_inconsistencies_59 (by decide) ?_
      refine cw_sub [2, 1, 0] rfl ?_
      exact h
    · have h := h.2 q
      refine cw_iinc (v := (x1 - v_36) + 1) dX10_inconsistencies_53 (j := 0) rfl rfl (by decide) rfl ?_
      refine cw_iinc (v := x2 + 1) dX10_inconsistencies_56 (j := 2) rfl rfl (by decide) rfl ?_
      refine cw_goto (tgt := 19) dX10_inconsistencies_59 (by decide) ?_
      refine cw_sub [2, 1, 0] rfl ?_
      exact h
set_option maxRecDepth 20000 in
set_option maxHeartbeats 4000000 in
theorem eX10_isMild_0 {K : cw_K} {r : Option Value} {J0 I : cw_M} {x1 : Int32} {x2 : Int32} (h : (∃ J_2 : cw_M, cw_C (cc_w K) mX10_requireSibling [.ref (cw_a (cc_w K) 0), .int x1] I none J_2 ∧ (∃ J_7 : cw_M, cw_C (cc_w K) mX10_requireSibling [.ref (cw_a (cc_w K) 0), .int x2] J_2 none J_7 ∧ (∃ (v_16 : Int32) (J_16 : cw_M), cw_C (cc_w K) mX3_hasEnvy [.ref (cw_a (cc_w K) 16), .int x1, .int x2] J_7 (some (.int v_16)) J_16 ∧ ((¬ v_16 = 0 → (∃ (v_38 : Int32) (J_38 : cw_M), cw_C (cc_w K) mX3_hasStrongEnvy [.ref (cw_a (cc_w K) 16), .int x1, .int x2] J_16 (some (.int v_38)) J_38 ∧ ((¬ v_38 = 0 → (r = some (.int 0) ∧ J0 = J_38)) ∧ (v_38 = 0 → (r = some (.int 1) ∧ J0 = J_38))))) ∧ (v_16 = 0 → False)))))) : cw_C (cc_w K) mX10_isMild [.ref (cw_a (cc_w K) 0), .int x1, .int x2] I r J0 := by
  refine cw_entry okX10_isMild (Nat.le_of_ble_eq_true rfl) (show cw_B (cc_w K) (cc_w K) mX10_isMild (cw_Z (cc_w K) r J0) 0 0 0 0 I 0 [(0, .ref (cw_a (cc_w K) 0)), (1, .int x1), (2, .int x2)] [] from ?_)
  refine cw_aload_n dX10_isMild_0 0 rfl rfl ?_
  refine cw_iload_n dX10_isMild_1 1 rfl rfl ?_
  obtain ⟨J_2, hc_2, h⟩ := h
  refine cw_callV (o := 0) (As := [.int x1]) hc_2 okX10_requireSibling rfl gX10_isMild_X10_requireSibling (by decide) (show 0 < 32 by decide) rfl (ci := 10) rfl rfl (Nat.le_of_ble_eq_true rfl) dX10_isMild_2 ?_
  refine cw_aload_n dX10_isMild_5 0 rfl rfl ?_
  refine cw_iload_n dX10_isMild_6 2 rfl rfl ?_
  obtain ⟨J_7, hc_7, h⟩ := h
  refine cw_callV (o := 0) (As := [.int x2]) hc_7 okX10_requireSibling rfl gX10_isMild_X10_requireSibling (by decide) (show 0 < 32 by decide) rfl (ci := 10) rfl rfl (Nat.le_of_ble_eq_true rfl) dX10_isMild_7 ?_
  refine cw_aload_n dX10_isMild_10 0 rfl rfl ?_
  refine cw_getf (C := RX10) (T := TX10) (N := 10) (ci := 10) inX10_isMild_RX10 0 (show 0 < 32 by decide) rfl rfl 5 (by decide) (by decide +kernel) rfl dX10_isMild_11 ?_
  refine cw_iload_n dX10_isMild_14 1 rfl rfl ?_
  refine cw_iload_n dX10_isMild_15 2 rfl rfl ?_
  obtain ⟨v_16, J_16, hc_16, h⟩ := h
  refine cw_callV (o := 16) (As := [.int x1, .int x2]) hc_16 okX3_hasEnvy rfl gX10_isMild_X3_hasEnvy (by decide) (show 16 < 32 by decide) rfl (ci := 4) rfl rfl (Nat.le_of_ble_eq_true rfl) dX10_isMild_16 ?_
  refine cw_if_ne (tgt := 32) dX10_isMild_19 (by decide) (fun q => ?_) (fun q => ?_)
  · have h := h.1 q
    refine cw_aload_n dX10_isMild_32 0 rfl rfl ?_
    refine cw_getf (C := RX10) (T := TX10) (N := 10) (ci := 10) inX10_isMild_RX10 0 (show 0 < 32 by decide) rfl rfl 5 (by decide) (by decide +kernel) rfl dX10_isMild_33 ?_
    refine cw_iload_n dX10_isMild_36 1 rfl rfl ?_
    refine cw_iload_n dX10_isMild_37 2 rfl rfl ?_
    obtain ⟨v_38, J_38, hc_38, h⟩ := h
    refine cw_callV (o := 16) (As := [.int x1, .int x2]) hc_38 okX3_hasStrongEnvy rfl gX10_isMild_X3_hasStrongEnvy (by decide) (show 16 < 32 by decide) rfl (ci := 4) rfl rfl (Nat.le_of_ble_eq_true rfl) dX10_isMild_38 ?_
    refine cw_if_ne (tgt := 48) dX10_isMild_41 (by decide) (fun q => ?_) (fun q => ?_)
    · have h := h.1 q
      refine cw_iconst (v := 0) dX10_isMild_48 (by decide) ?_
      exact cw_bret rfl dX10_isMild_49 (by decide) h
    · have h := h.2 q
      refine cw_iconst (v := 1) dX10_isMild_44 (by decide) ?_
      refine cw_goto (tgt := 49) dX10_isMild_45 (by decide) ?_
      exact cw_bret rfl dX10_isMild_49 (by decide) h
  · have h := h.2 q
    exact h.elim
set_option maxRecDepth 20000 in
set_option maxHeartbeats 4000000 in
theorem eX10_isSatisfied_0 {K : cw_K} {r : Option Value} {J0 I : cw_M} {x1 : Int32} (h : (∃ J_2 : cw_M, cw_C (cc_w K) mX10_requireSibling [.ref (cw_a (cc_w K) 0), .int x1] I none J_2 ∧ (∃ (v_10 : Int32) (J_10 : cw_M), cw_C (cc_w K) mX3_hasFairShare [.ref (cw_a (cc_w K) 16), .int x1] J_2 (some (.int v_10)) J_10 ∧ ((v_10 = 0 ∨ v_10 = 1) ∧ (r = some (.int v_10) ∧ J0 = J_10))))) : cw_C (cc_w K) mX10_isSatisfied [.ref (cw_a (cc_w K) 0), .int x1] I r J0 := by
  refine cw_entry okX10_isSatisfied (Nat.le_of_ble_eq_true rfl) (show cw_B (cc_w K) (cc_w K) mX10_isSatisfied (cw_Z (cc_w K) r J0) 0 0 0 0 I 0 [(0, .ref (cw_a (cc_w K) 0)), (1, .int x1)] [] from ?_)
  refine cw_aload_n dX10_isSatisfied_0 0 rfl rfl ?_
  refine cw_iload_n dX10_isSatisfied_1 1 rfl rfl ?_
  obtain ⟨J_2, hc_2, h⟩ := h
  refine cw_callV (o := 0) (As := [.int x1]) hc_2 okX10_requireSibling rfl gX10_isSatisfied_X10_requireSibling (by decide) (show 0 < 32 by decide) rfl (ci := 10) rfl rfl (Nat.le_of_ble_eq_true rfl) dX10_isSatisfied_2 ?_
  refine cw_aload_n dX10_isSatisfied_5 0 rfl rfl ?_
  refine cw_getf (C := RX10) (T := TX10) (N := 10) (ci := 10) inX10_isSatisfied_RX10 0 (show 0 < 32 by decide) rfl rfl 5 (by decide) (by decide +kernel) rfl dX10_isSatisfied_6 ?_
  refine cw_iload_n dX10_isSatisfied_9 1 rfl rfl ?_
  obtain ⟨v_10, J_10, hc_10, h⟩ := h
  refine cw_callV (o := 16) (As := [.int x1]) hc_10 okX3_hasFairShare rfl gX10_isSatisfied_X3_hasFairShare (by decide) (show 16 < 32 by decide) rfl (ci := 4) rfl rfl (Nat.le_of_ble_eq_true rfl) dX10_isSatisfied_10 ?_
  exact cw_bret rfl dX10_isSatisfied_13 h.1 h.2
set_option maxRecDepth 20000 in
set_option maxHeartbeats 4000000 in
theorem eX10_leastWelfare_0 {K : cw_K} {r : Option Value} {J0 I : cw_M} (h : (∃ (v_11 : Int32) (J_11 : cw_M), cw_C (cc_w K) mX1_leastWelfareAmong [.ref (cw_a (cc_w K) 5), .ref (cw_a (cc_w K) 9)] I (some (.int v_11)) J_11 ∧ (r = some (.int v_11) ∧ J0 = J_11))) : cw_C (cc_w K) mX10_leastWelfare [.ref (cw_a (cc_w K) 0)] I r J0 := by
  refine cw_entry okX10_leastWelfare (Nat.le_of_ble_eq_true rfl) (show cw_B (cc_w K) (cc_w K) mX10_leastWelfare (cw_Z (cc_w K) r J0) 0 0 0 0 I 0 [(0, .ref (cw_a (cc_w K) 0))] [] from ?_)
  refine cw_aload_n dX10_leastWelfare_0 0 rfl rfl ?_
  refine cw_getf (C := RX10) (T := TX10) (N := 10) (ci := 10) inX10_leastWelfare_RX10 0 (show 0 < 32 by decide) rfl rfl 2 (by decide) (by decide +kernel) rfl dX10_leastWelfare_1 ?_
  refine cw_aload_n dX10_leastWelfare_4 0 rfl rfl ?_
  refine cw_getf (C := RX10) (T := TX10) (N := 10) (ci := 10) inX10_leastWelfare_RX10 0 (show 0 < 32 by decide) rfl rfl 2 (by decide) (by decide +kernel) rfl dX10_leastWelfare_5 ?_
  refine cw_getf (C := RX1) (T := TX1) (N := 6) (ci := 2) inX10_leastWelfare_RX1 5 (show 5 < 32 by decide) rfl rfl 5 (by decide) (by decide +kernel) rfl dX10_leastWelfare_8 ?_
  obtain ⟨v_11, J_11, hc_11, h⟩ := h
  refine cw_callV (o := 5) (As := [.ref (cw_a (cc_w K) 9)]) hc_11 okX1_leastWelfareAmong rfl gX10_leastWelfare_X1_leastWelfareAmong (by decide) (show 5 < 32 by decide) rfl (ci := 2) rfl rfl (Nat.le_of_ble_eq_true rfl) dX10_leastWelfare_11 ?_
  exact cw_iret rfl dX10_leastWelfare_14 h
set_option maxRecDepth 20000 in
set_option maxHeartbeats 4000000 in
theorem eX10_load_0 {K : cw_K} {r : Option Value} {J0 I : cw_M} (h : (∃ (v_1 : Int32) (J_1 : cw_M), cw_C (cc_w K) mX10_adoptSetup [.ref (cw_a (cc_w K) 0)] I (some (.int v_1)) J_1 ∧ ((¬ v_1 = 0 → (r = some (.int (J_1 5 1)) ∧ J0 = J_1)) ∧ (v_1 = 0 → False)))) : cw_C (cc_w K) mX10_load [.ref (cw_a (cc_w K) 0)] I r J0 := by
  refine cw_entry okX10_load (Nat.le_of_ble_eq_true rfl) (show cw_B (cc_w K) (cc_w K) mX10_load (cw_Z (cc_w K) r J0) 0 0 0 0 I 0 [(0, .ref (cw_a (cc_w K) 0))] [] from ?_)
  refine cw_aload_n dX10_load_0 0 rfl rfl ?_
  obtain ⟨v_1, J_1, hc_1, h⟩ := h
  refine cw_callV (o := 0) (As := []) hc_1 okX10_adoptSetup rfl gX10_load_X10_adoptSetup (by decide) (show 0 < 32 by decide) rfl (ci := 10) rfl rfl (Nat.le_of_ble_eq_true rfl) dX10_load_1 ?_
  refine cw_if_ne (tgt := 17) dX10_load_4 (by decide) (fun q => ?_) (fun q => ?_)
  · have h := h.1 q
    refine cw_aload_n dX10_load_17 0 rfl rfl ?_
    refine cw_getf (C := RX10) (T := TX10) (N := 10) (ci := 10) inX10_load_RX10 0 (show 0 < 32 by decide) rfl rfl 2 (by decide) (by decide +kernel) rfl dX10_load_18 ?_
    refine cw_getf (C := RX1) (T := TX1) (N := 6) (ci := 2) inX10_load_RX1 5 (show 5 < 32 by decide) rfl rfl 1 (by decide) (by decide +kernel) rfl dX10_load_21 ?_
    exact cw_iret rfl dX10_load_24 h
  · have h := h.2 q
    exact h.elim
set_option maxRecDepth 20000 in
set_option maxHeartbeats 4000000 in
theorem eX10_movingKnife_0 {K : cw_K} {r : Option Value} {J0 I : cw_M} (h : (∃ J_8 : cw_M, cw_C (cc_w K) mX4_rememberForUndo [.ref (cw_a (cc_w K) 28), .ref (cw_a (cc_w K) 5)] I none J_8 ∧ (∃ J_22 : cw_M, cw_C (cc_w K) mX6_divideByKnife [.ref (cw_a (cc_w K) 20), .ref (cw_a (cc_w K) 9)] J_8 none J_22 ∧ (∃ (v_29 : Int32) (J_29 : cw_M), cw_C (cc_w K) mX3_countFairShares [.ref (cw_a (cc_w K) 16)] J_22 (some (.int v_29)) J_29 ∧ (r = some (.int v_29) ∧ J0 = J_29))))) : cw_C (cc_w K) mX10_movingKnife [.ref (cw_a (cc_w K) 0)] I r J0 := by
  refine cw_entry okX10_movingKnife (Nat.le_of_ble_eq_true rfl) (show cw_B (cc_w K) (cc_w K) mX10_movingKnife (cw_Z (cc_w K) r J0) 0 0 0 0 I 0 [(0, .ref (cw_a (cc_w K) 0))] [] from ?_)
  refine cw_aload_n dX10_movingKnife_0 0 rfl rfl ?_
  refine cw_getf (C := RX10) (T := TX10) (N := 10) (ci := 10) inX10_movingKnife_RX10 0 (show 0 < 32 by decide) rfl rfl 9 (by decide) (by decide +kernel) rfl dX10_movingKnife_1 ?_
  refine cw_aload_n dX10_movingKnife_4 0 rfl rfl ?_
  refine cw_getf (C := RX10) (T := TX10) (N := 10) (ci := 10) inX10_movingKnife_RX10 0 (show 0 < 32 by decide) rfl rfl 2 (by decide) (by decide +kernel) rfl dX10_movingKnife_5 ?_
  obtain ⟨J_8, hc_8, h⟩ := h
  refine cw_callV (o := 28) (As := [.ref (cw_a (cc_w K) 5)]) hc_8 okX4_rememberForUndo rfl gX10_movingKnife_X4_rememberForUndo (by decide) (show 28 < 32 by decide) rfl (ci := 5) rfl rfl (Nat.le_of_ble_eq_true rfl) dX10_movingKnife_8 ?_
  refine cw_aload_n dX10_movingKnife_11 0 rfl rfl ?_
  refine cw_getf (C := RX10) (T := TX10) (N := 10) (ci := 10) inX10_movingKnife_RX10 0 (show 0 < 32 by decide) rfl rfl 6 (by decide) (by decide +kernel) rfl dX10_movingKnife_12 ?_
  refine cw_aload_n dX10_movingKnife_15 0 rfl rfl ?_
  refine cw_getf (C := RX10) (T := TX10) (N := 10) (ci := 10) inX10_movingKnife_RX10 0 (show 0 < 32 by decide) rfl rfl 2 (by decide) (by decide +kernel) rfl dX10_movingKnife_16 ?_
  refine cw_getf (C := RX1) (T := TX1) (N := 6) (ci := 2) inX10_movingKnife_RX1 5 (show 5 < 32 by decide) rfl rfl 5 (by decide) (by decide +kernel) rfl dX10_movingKnife_19 ?_
  obtain ⟨J_22, hc_22, h⟩ := h
  refine cw_callV (o := 20) (As := [.ref (cw_a (cc_w K) 9)]) hc_22 okX6_divideByKnife rfl gX10_movingKnife_X6_divideByKnife (by decide) (show 20 < 32 by decide) rfl (ci := 7) rfl rfl (Nat.le_of_ble_eq_true rfl) dX10_movingKnife_22 ?_
  refine cw_aload_n dX10_movingKnife_25 0 rfl rfl ?_
  refine cw_getf (C := RX10) (T := TX10) (N := 10) (ci := 10) inX10_movingKnife_RX10 0 (show 0 < 32 by decide) rfl rfl 5 (by decide) (by decide +kernel) rfl dX10_movingKnife_26 ?_
  obtain ⟨v_29, J_29, hc_29, h⟩ := h
  refine cw_callV (o := 16) (As := []) hc_29 okX3_countFairShares rfl gX10_movingKnife_X3_countFairShares (by decide) (show 16 < 32 by decide) rfl (ci := 4) rfl rfl (Nat.le_of_ble_eq_true rfl) dX10_movingKnife_29 ?_
  exact cw_iret rfl dX10_movingKnife_32 h
set_option maxRecDepth 20000 in
set_option maxHeartbeats 4000000 in
theorem eX10_owner_0 {K : cw_K} {r : Option Value} {J0 I : cw_M} {x1 : Int32} (h : (∃ J_2 : cw_M, cw_C (cc_w K) mX10_requireCell [.ref (cw_a (cc_w K) 0), .int x1] I none J_2 ∧ (vp_in x1 24 ∧ (r = some (.int (J_2 9 x1.toNatClampNeg)) ∧ J0 = J_2)))) : cw_C (cc_w K) mX10_owner [.ref (cw_a (cc_w K) 0), .int x1] I r J0 := by
  refine cw_entry okX10_owner (Nat.le_of_ble_eq_true rfl) (show cw_B (cc_w K) (cc_w K) mX10_owner (cw_Z (cc_w K) r J0) 0 0 0 0 I 0 [(0, .ref (cw_a (cc_w K) 0)), (1, .int x1)] [] from ?_)
  refine cw_aload_n dX10_owner_0 0 rfl rfl ?_
  refine cw_iload_n dX10_owner_1 1 rfl rfl ?_
  obtain ⟨J_2, hc_2, h⟩ := h
  refine cw_callV (o := 0) (As := [.int x1]) hc_2 okX10_requireCell rfl gX10_owner_X10_requireCell (by decide) (show 0 < 32 by decide) rfl (ci := 10) rfl rfl (Nat.le_of_ble_eq_true rfl) dX10_owner_2 ?_
  refine cw_aload_n dX10_owner_5 0 rfl rfl ?_
  refine cw_getf (C := RX10) (T := TX10) (N := 10) (ci := 10) inX10_owner_RX10 0 (show 0 < 32 by decide) rfl rfl 2 (by decide) (by decide +kernel) rfl dX10_owner_6 ?_
  refine cw_getf (C := RX1) (T := TX1) (N := 6) (ci := 2) inX10_owner_RX1 5 (show 5 < 32 by decide) rfl rfl 5 (by decide) (by decide +kernel) rfl dX10_owner_9 ?_
  refine cw_iload_n dX10_owner_12 1 rfl rfl ?_
  obtain ⟨g_13, h⟩ := h
  refine cw_iald 9 (show 9 < 32 by decide) rfl 0 rfl dX10_owner_13 g_13 ?_
  exact cw_iret rfl dX10_owner_14 h
set_option maxRecDepth 20000 in
set_option maxHeartbeats 4000000 in
theorem eX10_release_0 {K : cw_K} {r : Option Value} {J0 I : cw_M} {x1 : Int32} {x2 : Int32} (h : (∃ J_3 : cw_M, cw_C (cc_w K) mX10_requireRun [.ref (cw_a (cc_w K) 0), .int x1, .int x2] I none J_3 ∧ (∃ J_14 : cw_M, cw_C (cc_w K) mX4_rememberForUndo [.ref (cw_a (cc_w K) 28), .ref (cw_a (cc_w K) 5)] J_3 none J_14 ∧ (∃ J_33 : cw_M, cw_C (cc_w K) mX1_assign [.ref (cw_a (cc_w K) 5), .ref (cw_a (cc_w K) 9), .int (-1), .int x1, .int (x2 + 1)] J_14 none J_33 ∧ (∃ (v_41 : Int32) (J_41 : cw_M), cw_C (cc_w K) mX1_countOwned [.ref (cw_a (cc_w K) 5), .int (-1)] J_33 (some (.int v_41)) J_41 ∧ (r = some (.int v_41) ∧ J0 = J_41)))))) : cw_C (cc_w K) mX10_release [.ref (cw_a (cc_w K) 0), .int x1, .int x2] I r J0 := by
  refine cw_entry okX10_release (Nat.le_of_ble_eq_true rfl) (show cw_B (cc_w K) (cc_w K) mX10_release (cw_Z (cc_w K) r J0) 0 0 0 0 I 0 [(0, .ref (cw_a (cc_w K) 0)), (1, .int x1), (2, .int x2)] [] from ?_)
  refine cw_aload_n dX10_release_0 0 rfl rfl ?_
  refine cw_iload_n dX10_release_1 1 rfl rfl ?_
  refine cw_iload_n dX10_release_2 2 rfl rfl ?_
  obtain ⟨J_3, hc_3, h⟩ := h
  refine cw_callV (o := 0) (As := [.int x1, .int x2]) hc_3 okX10_requireRun rfl gX10_release_X10_requireRun (by decide) (show 0 < 32 by decide) rfl (ci := 10) rfl rfl (Nat.le_of_ble_eq_true rfl) dX10_release_3 ?_
  refine cw_aload_n dX10_release_6 0 rfl rfl ?_
  refine cw_getf (C := RX10) (T := TX10) (N := 10) (ci := 10) inX10_release_RX10 0 (show 0 < 32 by decide) rfl rfl 9 (by decide) (by decide +kernel) rfl dX10_release_7 ?_
  refine cw_aload_n dX10_release_10 0 rfl rfl ?_
  refine cw_getf (C := RX10) (T := TX10) (N := 10) (ci := 10) inX10_release_RX10 0 (show 0 < 32 by decide) rfl rfl 2 (by decide) (by decide +kernel) rfl dX10_release_11 ?_
  obtain ⟨J_14, hc_14, h⟩ := h
  refine cw_callV (o := 28) (As := [.ref (cw_a (cc_w K) 5)]) hc_14 okX4_rememberForUndo rfl gX10_release_X4_rememberForUndo (by decide) (show 28 < 32 by decide) rfl (ci := 5) rfl rfl (Nat.le_of_ble_eq_true rfl) dX10_release_14 ?_
  refine cw_aload_n dX10_release_17 0 rfl rfl ?_
  refine cw_getf (C := RX10) (T := TX10) (N := 10) (ci := 10) inX10_release_RX10 0 (show 0 < 32 by decide) rfl rfl 2 (by decide) (by decide +kernel) rfl dX10_release_18 ?_
  refine cw_aload_n dX10_release_21 0 rfl rfl ?_
  refine cw_getf (C := RX10) (T := TX10) (N := 10) (ci := 10) inX10_release_RX10 0 (show 0 < 32 by decide) rfl rfl 2 (by decide) (by decide +kernel) rfl dX10_release_22 ?_
  refine cw_getf (C := RX1) (T := TX1) (N := 6) (ci := 2) inX10_release_RX1 5 (show 5 < 32 by decide) rfl rfl 5 (by decide) (by decide +kernel) rfl dX10_release_25 ?_
  refine cw_iconst (v := (-1)) dX10_release_28 (by decide) ?_
  refine cw_iload_n dX10_release_29 1 rfl rfl ?_
  refine cw_iload_n dX10_release_30 2 rfl rfl ?_
  refine cw_iconst (v := 1) dX10_release_31 (by decide) ?_
  refine cw_iadd dX10_release_32 ?_
  obtain ⟨J_33, hc_33, h⟩ := h
  refine cw_callV (o := 5) (As := [.ref (cw_a (cc_w K) 9), .int (-1), .int x1, .int (x2 + 1)]) hc_33 okX1_assign rfl gX10_release_X1_assign (by decide) (show 5 < 32 by decide) rfl (ci := 2) rfl rfl (Nat.le_of_ble_eq_true rfl) dX10_release_33 ?_
  refine cw_aload_n dX10_release_36 0 rfl rfl ?_
  refine cw_getf (C := RX10) (T := TX10) (N := 10) (ci := 10) inX10_release_RX10 0 (show 0 < 32 by decide) rfl rfl 2 (by decide) (by decide +kernel) rfl dX10_release_37 ?_
  refine cw_iconst (v := (-1)) dX10_release_40 (by decide) ?_
  obtain ⟨v_41, J_41, hc_41, h⟩ := h
  refine cw_callV (o := 5) (As := [.int (-1)]) hc_41 okX1_countOwned rfl gX10_release_X1_countOwned (by decide) (show 5 < 32 by decide) rfl (ci := 2) rfl rfl (Nat.le_of_ble_eq_true rfl) dX10_release_41 ?_
  exact cw_iret rfl dX10_release_44 h
set_option maxRecDepth 20000 in
set_option maxHeartbeats 4000000 in
theorem eX10_requireCell_0 {K : cw_K} {r : Option Value} {J0 I : cw_M} {x1 : Int32} (h : (∃ (v_5 : Int32) (J_5 : cw_M), cw_C (cc_w K) mX1_hasCell [.ref (cw_a (cc_w K) 5), .int x1] I (some (.int v_5)) J_5 ∧ ((¬ v_5 = 0 → (r = none ∧ J0 = J_5)) ∧ (v_5 = 0 → False)))) : cw_C (cc_w K) mX10_requireCell [.ref (cw_a (cc_w K) 0), .int x1] I r J0 := by
  refine cw_entry okX10_requireCell (Nat.le_of_ble_eq_true rfl) (show cw_B (cc_w K) (cc_w K) mX10_requireCell (cw_Z (cc_w K) r J0) 0 0 0 0 I 0 [(0, .ref (cw_a (cc_w K) 0)), (1, .int x1)] [] from ?_)
  refine cw_aload_n dX10_requireCell_0 0 rfl rfl ?_
  refine cw_getf (C := RX10) (T := TX10) (N := 10) (ci := 10) inX10_requireCell_RX10 0 (show 0 < 32 by decide) rfl rfl 2 (by decide) (by decide +kernel) rfl dX10_requireCell_1 ?_
  refine cw_iload_n dX10_requireCell_4 1 rfl rfl ?_
  obtain ⟨v_5, J_5, hc_5, h⟩ := h
  refine cw_callV (o := 5) (As := [.int x1]) hc_5 okX1_hasCell rfl gX10_requireCell_X1_hasCell (by decide) (show 5 < 32 by decide) rfl (ci := 2) rfl rfl (Nat.le_of_ble_eq_true rfl) dX10_requireCell_5 ?_
  refine cw_if_ne (tgt := 22) dX10_requireCell_8 (by decide) (fun q => ?_) (fun q => ?_)
  · have h := h.1 q
    exact cw_vret rfl dX10_requireCell_22 h
  · have h := h.2 q
    exact h.elim
set_option maxRecDepth 20000 in
set_option maxHeartbeats 4000000 in
theorem eX10_requireDifferent_0 {K : cw_K} {r : Option Value} {J0 I : cw_M} {x1 : Int32} {x2 : Int32} (h : ((¬ x1 = x2 → (r = none ∧ J0 = I)) ∧ (x1 = x2 → False))) : cw_C (cc_w K) mX10_requireDifferent [.ref (cw_a (cc_w K) 0), .int x1, .int x2] I r J0 := by
  refine cw_entry okX10_requireDifferent (Nat.le_of_ble_eq_true rfl) (show cw_B (cc_w K) (cc_w K) mX10_requireDifferent (cw_Z (cc_w K) r J0) 0 0 0 0 I 0 [(0, .ref (cw_a (cc_w K) 0)), (1, .int x1), (2, .int x2)] [] from ?_)
  refine cw_iload_n dX10_requireDifferent_0 1 rfl rfl ?_
  refine cw_iload_n dX10_requireDifferent_1 2 rfl rfl ?_
  refine cw_icmp_ne (tgt := 16) dX10_requireDifferent_2 (by decide) (fun q => ?_) (fun q => ?_)
  · have h := h.1 q
    exact cw_vret rfl dX10_requireDifferent_16 h
  · have h := h.2 q
    exact h.elim
set_option maxRecDepth 20000 in
set_option maxHeartbeats 4000000 in
theorem eX10_requireRun_0 {K : cw_K} {r : Option Value} {J0 I : cw_M} {x1 : Int32} {x2 : Int32} (h : (∃ (v_6 : Int32) (J_6 : cw_M), cw_C (cc_w K) mX1_hasRun [.ref (cw_a (cc_w K) 5), .int x1, .int x2] I (some (.int v_6)) J_6 ∧ ((¬ v_6 = 0 → (r = none ∧ J0 = J_6)) ∧ (v_6 = 0 → False)))) : cw_C (cc_w K) mX10_requireRun [.ref (cw_a (cc_w K) 0), .int x1, .int x2] I r J0 := by
  refine cw_entry okX10_requireRun (Nat.le_of_ble_eq_true rfl) (show cw_B (cc_w K) (cc_w K) mX10_requireRun (cw_Z (cc_w K) r J0) 0 0 0 0 I 0 [(0, .ref (cw_a (cc_w K) 0)), (1, .int x1), (2, .int x2)] [] from ?_)
  refine cw_aload_n dX10_requireRun_0 0 rfl rfl ?_
  refine cw_getf (C := RX10) (T := TX10) (N := 10) (ci := 10) inX10_requireRun_RX10 0 (show 0 < 32 by decide) rfl rfl 2 (by decide) (by decide +kernel) rfl dX10_requireRun_1 ?_
  refine cw_iload_n dX10_requireRun_4 1 rfl rfl ?_
  refine cw_iload_n dX10_requireRun_5 2 rfl rfl ?_
  obtain ⟨v_6, J_6, hc_6, h⟩ := h
  refine cw_callV (o := 5) (As := [.int x1, .int x2]) hc_6 okX1_hasRun rfl gX10_requireRun_X1_hasRun (by decide) (show 5 < 32 by decide) rfl (ci := 2) rfl rfl (Nat.le_of_ble_eq_true rfl) dX10_requireRun_6 ?_
  refine cw_if_ne (tgt := 23) dX10_requireRun_9 (by decide) (fun q => ?_) (fun q => ?_)
  · have h := h.1 q
    exact cw_vret rfl dX10_requireRun_23 h
  · have h := h.2 q
    exact h.elim
set_option maxRecDepth 20000 in
set_option maxHeartbeats 4000000 in
theorem eX10_requireSibling_0 {K : cw_K} {r : Option Value} {J0 I : cw_M} {x1 : Int32} (h : (∃ (v_5 : Int32) (J_5 : cw_M), cw_C (cc_w K) mX1_hasSibling [.ref (cw_a (cc_w K) 5), .int x1] I (some (.int v_5)) J_5 ∧ ((¬ v_5 = 0 → (r = none ∧ J0 = J_5)) ∧ (v_5 = 0 → False)))) : cw_C (cc_w K) mX10_requireSibling [.ref (cw_a (cc_w K) 0), .int x1] I r J0 := by
  refine cw_entry okX10_requireSibling (Nat.le_of_ble_eq_true rfl) (show cw_B (cc_w K) (cc_w K) mX10_requireSibling (cw_Z (cc_w K) r J0) 0 0 0 0 I 0 [(0, .ref (cw_a (cc_w K) 0)), (1, .int x1)] [] from ?_)
  refine cw_aload_n dX10_requireSibling_0 0 rfl rfl ?_
  refine cw_getf (C := RX10) (T := TX10) (N := 10) (ci := 10) inX10_requireSibling_RX10 0 (show 0 < 32 by decide) rfl rfl 2 (by decide) (by decide +kernel) rfl dX10_requireSibling_1 ?_
  refine cw_iload_n dX10_requireSibling_4 1 rfl rfl ?_
  obtain ⟨v_5, J_5, hc_5, h⟩ := h
  refine cw_callV (o := 5) (As := [.int x1]) hc_5 okX1_hasSibling rfl gX10_requireSibling_X1_hasSibling (by decide) (show 5 < 32 by decide) rfl (ci := 2) rfl rfl (Nat.le_of_ble_eq_true rfl) dX10_requireSibling_5 ?_
  refine cw_if_ne (tgt := 22) dX10_requireSibling_8 (by decide) (fun q => ?_) (fun q => ?_)
  · have h := h.1 q
    exact cw_vret rfl dX10_requireSibling_22 h
  · have h := h.2 q
    exact h.elim
set_option maxRecDepth 20000 in
set_option maxHeartbeats 4000000 in
theorem eX10_rotate_0 {K : cw_K} {r : Option Value} {J0 I : cw_M} {x1 : Int32} (h : (∃ J_2 : cw_M, cw_C (cc_w K) mX10_requireSibling [.ref (cw_a (cc_w K) 0), .int x1] I none J_2 ∧ (∃ (v_10 : Int32) (J_10 : cw_M), cw_C (cc_w K) mX3_findCycle [.ref (cw_a (cc_w K) 16), .int x1] J_2 (some (.int v_10)) J_10 ∧ ((¬ v_10 = (-1) → (∃ J_36 : cw_M, cw_C (cc_w K) mX4_rememberForUndo [.ref (cw_a (cc_w K) 28), .ref (cw_a (cc_w K) 5)] J_10 none J_36 ∧ (∃ (v_44 : Int32) (J_44 : cw_M), cw_C (cc_w K) mX3_rotateThrough [.ref (cw_a (cc_w K) 16), .int x1] J_36 (some (.int v_44)) J_44 ∧ (r = some (.int v_44) ∧ J0 = J_44)))) ∧ (v_10 = (-1) → False))))) : cw_C (cc_w K) mX10_rotate [.ref (cw_a (cc_w K) 0), .int x1] I r J0 := by
  refine cw_entry okX10_rotate (Nat.le_of_ble_eq_true rfl) (show cw_B (cc_w K) (cc_w K) mX10_rotate (cw_Z (cc_w K) r J0) 0 0 0 0 I 0 [(0, .ref (cw_a (cc_w K) 0)), (1, .int x1)] [] from ?_)
  refine cw_aload_n dX10_rotate_0 0 rfl rfl ?_
  refine cw_iload_n dX10_rotate_1 1 rfl rfl ?_
  obtain ⟨J_2, hc_2, h⟩ := h
  refine cw_callV (o := 0) (As := [.int x1]) hc_2 okX10_requireSibling rfl gX10_rotate_X10_requireSibling (by decide) (show 0 < 32 by decide) rfl (ci := 10) rfl rfl (Nat.le_of_ble_eq_true rfl) dX10_rotate_2 ?_
  refine cw_aload_n dX10_rotate_5 0 rfl rfl ?_
  refine cw_getf (C := RX10) (T := TX10) (N := 10) (ci := 10) inX10_rotate_RX10 0 (show 0 < 32 by decide) rfl rfl 5 (by decide) (by decide +kernel) rfl dX10_rotate_6 ?_
  refine cw_iload_n dX10_rotate_9 1 rfl rfl ?_
  obtain ⟨v_10, J_10, hc_10, h⟩ := h
  refine cw_callV (o := 16) (As := [.int x1]) hc_10 okX3_findCycle rfl gX10_rotate_X3_findCycle (by decide) (show 16 < 32 by decide) rfl (ci := 4) rfl rfl (Nat.le_of_ble_eq_true rfl) dX10_rotate_10 ?_
  refine cw_iconst (v := (-1)) dX10_rotate_13 (by decide) ?_
  refine cw_icmp_ne (tgt := 28) dX10_rotate_14 (by decide) (fun q => ?_) (fun q => ?_)
  · have h := h.1 q
    refine cw_aload_n dX10_rotate_28 0 rfl rfl ?_
    refine cw_getf (C := RX10) (T := TX10) (N := 10) (ci := 10) inX10_rotate_RX10 0 (show 0 < 32 by decide) rfl rfl 9 (by decide) (by decide +kernel) rfl dX10_rotate_29 ?_
    refine cw_aload_n dX10_rotate_32 0 rfl rfl ?_
    refine cw_getf (C := RX10) (T := TX10) (N := 10) (ci := 10) inX10_rotate_RX10 0 (show 0 < 32 by decide) rfl rfl 2 (by decide) (by decide +kernel) rfl dX10_rotate_33 ?_
    obtain ⟨J_36, hc_36, h⟩ := h
    refine cw_callV (o := 28) (As := [.ref (cw_a (cc_w K) 5)]) hc_36 okX4_rememberForUndo rfl gX10_rotate_X4_rememberForUndo (by decide) (show 28 < 32 by decide) rfl (ci := 5) rfl rfl (Nat.le_of_ble_eq_true rfl) dX10_rotate_36 ?_
    refine cw_aload_n dX10_rotate_39 0 rfl rfl ?_
    refine cw_getf (C := RX10) (T := TX10) (N := 10) (ci := 10) inX10_rotate_RX10 0 (show 0 < 32 by decide) rfl rfl 5 (by decide) (by decide +kernel) rfl dX10_rotate_40 ?_
    refine cw_iload_n dX10_rotate_43 1 rfl rfl ?_
    obtain ⟨v_44, J_44, hc_44, h⟩ := h
    refine cw_callV (o := 16) (As := [.int x1]) hc_44 okX3_rotateThrough rfl gX10_rotate_X3_rotateThrough (by decide) (show 16 < 32 by decide) rfl (ci := 4) rfl rfl (Nat.le_of_ble_eq_true rfl) dX10_rotate_44 ?_
    exact cw_iret rfl dX10_rotate_47 h
  · have h := h.2 q
    exact h.elim
set_option maxRecDepth 20000 in
set_option maxHeartbeats 4000000 in
theorem eX10_roundRobin_0 {K : cw_K} {r : Option Value} {J0 I : cw_M} {x1 : Int32} (h : (∃ J_2 : cw_M, cw_C (cc_w K) mX10_requireSibling [.ref (cw_a (cc_w K) 0), .int x1] I none J_2 ∧ (∃ J_13 : cw_M, cw_C (cc_w K) mX4_rememberForUndo [.ref (cw_a (cc_w K) 28), .ref (cw_a (cc_w K) 5)] J_2 none J_13 ∧ (∃ (v_28 : Int32) (J_28 : cw_M), cw_C (cc_w K) mX6_divideByRobin [.ref (cw_a (cc_w K) 20), .ref (cw_a (cc_w K) 9), .int x1] J_13 (some (.int v_28)) J_28 ∧ (r = some (.int v_28) ∧ J0 = J_28))))) : cw_C (cc_w K) mX10_roundRobin [.ref (cw_a (cc_w K) 0), .int x1] I r J0 := by
  refine cw_entry okX10_roundRobin (Nat.le_of_ble_eq_true rfl) (show cw_B (cc_w K) (cc_w K) mX10_roundRobin (cw_Z (cc_w K) r J0) 0 0 0 0 I 0 [(0, .ref (cw_a (cc_w K) 0)), (1, .int x1)] [] from ?_)
  refine cw_aload_n dX10_roundRobin_0 0 rfl rfl ?_
  refine cw_iload_n dX10_roundRobin_1 1 rfl rfl ?_
  obtain ⟨J_2, hc_2, h⟩ := h
  refine cw_callV (o := 0) (As := [.int x1]) hc_2 okX10_requireSibling rfl gX10_roundRobin_X10_requireSibling (by decide) (show 0 < 32 by decide) rfl (ci := 10) rfl rfl (Nat.le_of_ble_eq_true rfl) dX10_roundRobin_2 ?_
  refine cw_aload_n dX10_roundRobin_5 0 rfl rfl ?_
  refine cw_getf (C := RX10) (T := TX10) (N := 10) (ci := 10) inX10_roundRobin_RX10 0 (show 0 < 32 by decide) rfl rfl 9 (by decide) (by decide +kernel) rfl dX10_roundRobin_6 ?_
  refine cw_aload_n dX10_roundRobin_9 0 rfl rfl ?_
  refine cw_getf (C := RX10) (T := TX10) (N := 10) (ci := 10) inX10_roundRobin_RX10 0 (show 0 < 32 by decide) rfl rfl 2 (by decide) (by decide +kernel) rfl dX10_roundRobin_10 ?_
  obtain ⟨J_13, hc_13, h⟩ := h
  refine cw_callV (o := 28) (As := [.ref (cw_a (cc_w K) 5)]) hc_13 okX4_rememberForUndo rfl gX10_roundRobin_X4_rememberForUndo (by decide) (show 28 < 32 by decide) rfl (ci := 5) rfl rfl (Nat.le_of_ble_eq_true rfl) dX10_roundRobin_13 ?_
  refine cw_aload_n dX10_roundRobin_16 0 rfl rfl ?_
  refine cw_getf (C := RX10) (T := TX10) (N := 10) (ci := 10) inX10_roundRobin_RX10 0 (show 0 < 32 by decide) rfl rfl 6 (by decide) (by decide +kernel) rfl dX10_roundRobin_17 ?_
  refine cw_aload_n dX10_roundRobin_20 0 rfl rfl ?_
  refine cw_getf (C := RX10) (T := TX10) (N := 10) (ci := 10) inX10_roundRobin_RX10 0 (show 0 < 32 by decide) rfl rfl 2 (by decide) (by decide +kernel) rfl dX10_roundRobin_21 ?_
  refine cw_getf (C := RX1) (T := TX1) (N := 6) (ci := 2) inX10_roundRobin_RX1 5 (show 5 < 32 by decide) rfl rfl 5 (by decide) (by decide +kernel) rfl dX10_roundRobin_24 ?_
  refine cw_iload_n dX10_roundRobin_27 1 rfl rfl ?_
  obtain ⟨v_28, J_28, hc_28, h⟩ := h
  refine cw_callV (o := 20) (As := [.ref (cw_a (cc_w K) 9), .int x1]) hc_28 okX6_divideByRobin rfl gX10_roundRobin_X6_divideByRobin (by decide) (show 20 < 32 by decide) rfl (ci := 7) rfl rfl (Nat.le_of_ble_eq_true rfl) dX10_roundRobin_28 ?_
  exact cw_iret rfl dX10_roundRobin_31 h
set_option maxRecDepth 20000 in
set_option maxHeartbeats 4000000 in
theorem eX10_setValue_0 {K : cw_K} {r : Option Value} {J0 I : cw_M} {x1 : Int32} {x2 : Int32} {x3 : Int32} (h : (∃ J_2 : cw_M, cw_C (cc_w K) mX10_requireSibling [.ref (cw_a (cc_w K) 0), .int x1] I none J_2 ∧ (∃ J_7 : cw_M, cw_C (cc_w K) mX10_requireCell [.ref (cw_a (cc_w K) 0), .int x2] J_2 none J_7 ∧ ((x3 < 0 → False) ∧ (¬ x3 < 0 → ((x3 ≤ 9 → (∃ J_39 : cw_M, cw_C (cc_w K) mX4_rememberForUndo [.ref (cw_a (cc_w K) 28), .ref (cw_a (cc_w K) 5)] J_7 none J_39 ∧ (∃ (v_48 : Int32) (J_48 : cw_M), cw_C (cc_w K) mX1_valueOf [.ref (cw_a (cc_w K) 5), .int x1, .int x2] J_39 (some (.int v_48)) J_48 ∧ (∃ J_60 : cw_M, cw_C (cc_w K) mX1_putValue [.ref (cw_a (cc_w K) 5), .int x1, .int x2, .int x3] J_48 none J_60 ∧ (r = some (.int v_48) ∧ J0 = J_60))))) ∧ (¬ x3 ≤ 9 → False))))))) : cw_C (cc_w K) mX10_setValue [.ref (cw_a (cc_w K) 0), .int x1, .int x2, .int x3] I r J0 := by
  refine cw_entry okX10_setValue (Nat.le_of_ble_eq_true rfl) (show cw_B (cc_w K) (cc_w K) mX10_setValue (cw_Z (cc_w K) r J0) 0 0 0 0 I 0 [(0, .ref (cw_a (cc_w K) 0)), (1, .int x1), (2, .int x2), (3, .int x3)] [] from ?_)
  refine cw_aload_n dX10_setValue_0 0 rfl rfl ?_
  refine cw_iload_n dX10_setValue_1 1 rfl rfl ?_
  obtain ⟨J_2, hc_2, h⟩ := h
  refine cw_callV (o := 0) (As := [.int x1]) hc_2 okX10_requireSibling rfl gX10_setValue_X10_requireSibling (by decide) (show 0 < 32 by decide) rfl (ci := 10) rfl rfl (Nat.le_of_ble_eq_true rfl) dX10_setValue_2 ?_
  refine cw_aload_n dX10_setValue_5 0 rfl rfl ?_
  refine cw_iload_n dX10_setValue_6 2 rfl rfl ?_
  obtain ⟨J_7, hc_7, h⟩ := h
  refine cw_callV (o := 0) (As := [.int x2]) hc_7 okX10_requireCell rfl gX10_setValue_X10_requireCell (by decide) (show 0 < 32 by decide) rfl (ci := 10) rfl rfl (Nat.le_of_ble_eq_true rfl) dX10_setValue_7 ?_
  refine cw_iload_n dX10_setValue_10 3 rfl rfl ?_
  refine cw_if_lt (tgt := 20) dX10_setValue_11 (by decide) (fun q => ?_) (fun q => ?_)
  · have h := h.1 q
    exact h.elim
  · have h := h.2 q
    refine cw_iload_n dX10_setValue_14 3 rfl rfl ?_
    refine cw_bipush (v := 9) dX10_setValue_15 (by decide) ?_
    refine cw_icmp_le (tgt := 31) dX10_setValue_17 (by decide) (fun q => ?_) (fun q => ?_)
    · have h := h.1 q
      refine cw_aload_n dX10_setValue_31 0 rfl rfl ?_
      refine cw_getf (C := RX10) (T := TX10) (N := 10) (ci := 10) inX10_setValue_RX10 0 (show 0 < 32 by decide) rfl rfl 9 (by decide) (by decide +kernel) rfl dX10_setValue_32 ?_
      refine cw_aload_n dX10_setValue_35 0 rfl rfl ?_
      refine cw_getf (C := RX10) (T := TX10) (N := 10) (ci := 10) inX10_setValue_RX10 0 (show 0 < 32 by decide) rfl rfl 2 (by decide) (by decide +kernel) rfl dX10_setValue_36 ?_
      obtain ⟨J_39, hc_39, h⟩ := h
      refine cw_callV (o := 28) (As := [.ref (cw_a (cc_w K) 5)]) hc_39 okX4_rememberForUndo rfl gX10_setValue_X4_rememberForUndo (by decide) (show 28 < 32 by decide) rfl (ci := 5) rfl rfl (Nat.le_of_ble_eq_true rfl) dX10_setValue_39 ?_
      refine cw_aload_n dX10_setValue_42 0 rfl rfl ?_
      refine cw_getf (C := RX10) (T := TX10) (N := 10) (ci := 10) inX10_setValue_RX10 0 (show 0 < 32 by decide) rfl rfl 2 (by decide) (by decide +kernel) rfl dX10_setValue_43 ?_
      refine cw_iload_n dX10_setValue_46 1 rfl rfl ?_
      refine cw_iload_n dX10_setValue_47 2 rfl rfl ?_
      obtain ⟨v_48, J_48, hc_48, h⟩ := h
      refine cw_callV (o := 5) (As := [.int x1, .int x2]) hc_48 okX1_valueOf rfl gX10_setValue_X1_valueOf (by decide) (show 5 < 32 by decide) rfl (ci := 2) rfl rfl (Nat.le_of_ble_eq_true rfl) dX10_setValue_48 ?_
      refine cw_istore dX10_setValue_51 (by decide) rfl ?_
      refine cw_aload_n dX10_setValue_53 1 rfl rfl ?_
      refine cw_getf (C := RX10) (T := TX10) (N := 10) (ci := 10) inX10_setValue_RX10 0 (show 0 < 32 by decide) rfl rfl 2 (by decide) (by decide +kernel) rfl dX10_setValue_54 ?_
      refine cw_iload_n dX10_setValue_57 2 rfl rfl ?_
      refine cw_iload_n dX10_setValue_58 3 rfl rfl ?_
      refine cw_iload_n dX10_setValue_59 4 rfl rfl ?_
      obtain ⟨J_60, hc_60, h⟩ := h
      refine cw_callV (o := 5) (As := [.int x1, .int x2, .int x3]) hc_60 okX1_putValue rfl gX10_setValue_X1_putValue (by decide) (show 5 < 32 by decide) rfl (ci := 2) rfl rfl (Nat.le_of_ble_eq_true rfl) dX10_setValue_60 ?_
      refine cw_iload dX10_setValue_63 0 rfl ?_
      exact cw_iret rfl dX10_setValue_65 h
    · have h := h.2 q
      exact h.elim
set_option maxRecDepth 20000 in
set_option maxHeartbeats 4000000 in
theorem eX10_siblingCount_0 {K : cw_K} {r : Option Value} {J0 I : cw_M} (h : (r = some (.int (I 5 1)) ∧ J0 = I)) : cw_C (cc_w K) mX10_siblingCount [.ref (cw_a (cc_w K) 0)] I r J0 := by
  refine cw_entry okX10_siblingCount (Nat.le_of_ble_eq_true rfl) (show cw_B (cc_w K) (cc_w K) mX10_siblingCount (cw_Z (cc_w K) r J0) 0 0 0 0 I 0 [(0, .ref (cw_a (cc_w K) 0))] [] from ?_)
  refine cw_aload_n dX10_siblingCount_0 0 rfl rfl ?_
  refine cw_getf (C := RX10) (T := TX10) (N := 10) (ci := 10) inX10_siblingCount_RX10 0 (show 0 < 32 by decide) rfl rfl 2 (by decide) (by decide +kernel) rfl dX10_siblingCount_1 ?_
  refine cw_getf (C := RX1) (T := TX1) (N := 6) (ci := 2) inX10_siblingCount_RX1 5 (show 5 < 32 by decide) rfl rfl 1 (by decide) (by decide +kernel) rfl dX10_siblingCount_4 ?_
  exact cw_iret rfl dX10_siblingCount_7 h
set_option maxRecDepth 20000 in
set_option maxHeartbeats 4000000 in
theorem eX10_strongEnvyCount_0 {K : cw_K} {r : Option Value} {J0 I : cw_M} (h : (∃ (v_4 : Int32) (J_4 : cw_M), cw_C (cc_w K) mX3_countStrongEnvies [.ref (cw_a (cc_w K) 16)] I (some (.int v_4)) J_4 ∧ (r = some (.int v_4) ∧ J0 = J_4))) : cw_C (cc_w K) mX10_strongEnvyCount [.ref (cw_a (cc_w K) 0)] I r J0 := by
  refine cw_entry okX10_strongEnvyCount (Nat.le_of_ble_eq_true rfl) (show cw_B (cc_w K) (cc_w K) mX10_strongEnvyCount (cw_Z (cc_w K) r J0) 0 0 0 0 I 0 [(0, .ref (cw_a (cc_w K) 0))] [] from ?_)
  refine cw_aload_n dX10_strongEnvyCount_0 0 rfl rfl ?_
  refine cw_getf (C := RX10) (T := TX10) (N := 10) (ci := 10) inX10_strongEnvyCount_RX10 0 (show 0 < 32 by decide) rfl rfl 5 (by decide) (by decide +kernel) rfl dX10_strongEnvyCount_1 ?_
  obtain ⟨v_4, J_4, hc_4, h⟩ := h
  refine cw_callV (o := 16) (As := []) hc_4 okX3_countStrongEnvies rfl gX10_strongEnvyCount_X3_countStrongEnvies (by decide) (show 16 < 32 by decide) rfl (ci := 4) rfl rfl (Nat.le_of_ble_eq_true rfl) dX10_strongEnvyCount_4 ?_
  exact cw_iret rfl dX10_strongEnvyCount_7 h
set_option maxRecDepth 20000 in
set_option maxHeartbeats 4000000 in
theorem eX10_swapShares_0 {K : cw_K} {r : Option Value} {J0 I : cw_M} {x1 : Int32} {x2 : Int32} (h : (∃ J_2 : cw_M, cw_C (cc_w K) mX10_requireSibling [.ref (cw_a (cc_w K) 0), .int x1] I none J_2 ∧ (∃ J_7 : cw_M, cw_C (cc_w K) mX10_requireSibling [.ref (cw_a (cc_w K) 0), .int x2] J_2 none J_7 ∧ (∃ J_13 : cw_M, cw_C (cc_w K) mX10_requireDifferent [.ref (cw_a (cc_w K) 0), .int x1, .int x2] J_7 none J_13 ∧ (∃ J_24 : cw_M, cw_C (cc_w K) mX4_rememberForUndo [.ref (cw_a (cc_w K) 28), .ref (cw_a (cc_w K) 5)] J_13 none J_24 ∧ (∃ J_33 : cw_M, cw_C (cc_w K) mX1_exchangeShares [.ref (cw_a (cc_w K) 5), .int x1, .int x2] J_24 none J_33 ∧ (∃ (v_40 : Int32) (J_40 : cw_M), cw_C (cc_w K) mX3_countEnvies [.ref (cw_a (cc_w K) 16)] J_33 (some (.int v_40)) J_40 ∧ (r = some (.int v_40) ∧ J0 = J_40)))))))) : cw_C (cc_w K) mX10_swapShares [.ref (cw_a (cc_w K) 0), .int x1, .int x2] I r J0 := by
  refine cw_entry okX10_swapShares (Nat.le_of_ble_eq_true rfl) (show cw_B (cc_w K) (cc_w K) mX10_swapShares (cw_Z (cc_w K) r J0) 0 0 0 0 I 0 [(0, .ref (cw_a (cc_w K) 0)), (1, .int x1), (2, .int x2)] [] from ?_)
  refine cw_aload_n dX10_swapShares_0 0 rfl rfl ?_
  refine cw_iload_n dX10_swapShares_1 1 rfl rfl ?_
  obtain ⟨J_2, hc_2, h⟩ := h
  refine cw_callV (o := 0) (As := [.int x1]) hc_2 okX10_requireSibling rfl gX10_swapShares_X10_requireSibling (by decide) (show 0 < 32 by decide) rfl (ci := 10) rfl rfl (Nat.le_of_ble_eq_true rfl) dX10_swapShares_2 ?_
  refine cw_aload_n dX10_swapShares_5 0 rfl rfl ?_
  refine cw_iload_n dX10_swapShares_6 2 rfl rfl ?_
  obtain ⟨J_7, hc_7, h⟩ := h
  refine cw_callV (o := 0) (As := [.int x2]) hc_7 okX10_requireSibling rfl gX10_swapShares_X10_requireSibling (by decide) (show 0 < 32 by decide) rfl (ci := 10) rfl rfl (Nat.le_of_ble_eq_true rfl) dX10_swapShares_7 ?_
  refine cw_aload_n dX10_swapShares_10 0 rfl rfl ?_
  refine cw_iload_n dX10_swapShares_11 1 rfl rfl ?_
  refine cw_iload_n dX10_swapShares_12 2 rfl rfl ?_
  obtain ⟨J_13, hc_13, h⟩ := h
  refine cw_callV (o := 0) (As := [.int x1, .int x2]) hc_13 okX10_requireDifferent rfl gX10_swapShares_X10_requireDifferent (by decide) (show 0 < 32 by decide) rfl (ci := 10) rfl rfl (Nat.le_of_ble_eq_true rfl) dX10_swapShares_13 ?_
  refine cw_aload_n dX10_swapShares_16 0 rfl rfl ?_
  refine cw_getf (C := RX10) (T := TX10) (N := 10) (ci := 10) inX10_swapShares_RX10 0 (show 0 < 32 by decide) rfl rfl 9 (by decide) (by decide +kernel) rfl dX10_swapShares_17 ?_
  refine cw_aload_n dX10_swapShares_20 0 rfl rfl ?_
  refine cw_getf (C := RX10) (T := TX10) (N := 10) (ci := 10) inX10_swapShares_RX10 0 (show 0 < 32 by decide) rfl rfl 2 (by decide) (by decide +kernel) rfl dX10_swapShares_21 ?_
  obtain ⟨J_24, hc_24, h⟩ := h
  refine cw_callV (o := 28) (As := [.ref (cw_a (cc_w K) 5)]) hc_24 okX4_rememberForUndo rfl gX10_swapShares_X4_rememberForUndo (by decide) (show 28 < 32 by decide) rfl (ci := 5) rfl rfl (Nat.le_of_ble_eq_true rfl) dX10_swapShares_24 ?_
  refine cw_aload_n dX10_swapShares_27 0 rfl rfl ?_
  refine cw_getf (C := RX10) (T := TX10) (N := 10) (ci := 10) inX10_swapShares_RX10 0 (show 0 < 32 by decide) rfl rfl 2 (by decide) (by decide +kernel) rfl dX10_swapShares_28 ?_
  refine cw_iload_n dX10_swapShares_31 1 rfl rfl ?_
  refine cw_iload_n dX10_swapShares_32 2 rfl rfl ?_
  obtain ⟨J_33, hc_33, h⟩ := h
  refine cw_callV (o := 5) (As := [.int x1, .int x2]) hc_33 okX1_exchangeShares rfl gX10_swapShares_X1_exchangeShares (by decide) (show 5 < 32 by decide) rfl (ci := 2) rfl rfl (Nat.le_of_ble_eq_true rfl) dX10_swapShares_33 ?_
  refine cw_aload_n dX10_swapShares_36 0 rfl rfl ?_
  refine cw_getf (C := RX10) (T := TX10) (N := 10) (ci := 10) inX10_swapShares_RX10 0 (show 0 < 32 by decide) rfl rfl 5 (by decide) (by decide +kernel) rfl dX10_swapShares_37 ?_
  obtain ⟨v_40, J_40, hc_40, h⟩ := h
  refine cw_callV (o := 16) (As := []) hc_40 okX3_countEnvies rfl gX10_swapShares_X3_countEnvies (by decide) (show 16 < 32 by decide) rfl (ci := 4) rfl rfl (Nat.le_of_ble_eq_true rfl) dX10_swapShares_40 ?_
  exact cw_iret rfl dX10_swapShares_43 h
abbrev bX10_totalWelfare_0_4 (K : cw_K) (r : Option Value) (J0 : cw_M) (x1 : Int32) (x2 : Int32) (I : cw_M) : Prop := cw_B (cc_w K) (cc_w K) mX10_totalWelfare (cw_Z (cc_w K) r J0) 0 0 0 0 I 4 [(0, .ref (cw_a (cc_w K) 0)), (1, .int x1), (2, .int x2)] []
set_option maxRecDepth 20000 in
set_option maxHeartbeats 4000000 in
theorem eX10_totalWelfare_0 {K : cw_K} {r : Option Value} {J0 I : cw_M} (h : bX10_totalWelfare_0_4 K r J0 0 0 I) : cw_C (cc_w K) mX10_totalWelfare [.ref (cw_a (cc_w K) 0)] I r J0 := by
  refine cw_entry okX10_totalWelfare (Nat.le_of_ble_eq_true rfl) (show cw_B (cc_w K) (cc_w K) mX10_totalWelfare (cw_Z (cc_w K) r J0) 0 0 0 0 I 0 [(0, .ref (cw_a (cc_w K) 0))] [] from ?_)
  refine cw_iconst (v := 0) dX10_totalWelfare_0 (by decide) ?_
  refine cw_istore_n dX10_totalWelfare_1 rfl (by decide) rfl ?_
  refine cw_iconst (v := 0) dX10_totalWelfare_2 (by decide) ?_
  refine cw_istore_n dX10_totalWelfare_3 rfl (by decide) rfl ?_
  refine cw_sub [2, 1, 0] rfl ?_
  exact h
set_option maxRecDepth 20000 in
set_option maxHeartbeats 4000000 in
theorem tbX10_totalWelfare_0_4 {K : cw_K} {r : Option Value} {J0 I : cw_M} {x1 : Int32} {x2 : Int32} (h : (((I 5 1) ≤ x2 → (r = some (.int x1) ∧ J0 = I)) ∧ (¬ (I 5 1) ≤ x2 → (∃ (v_21 : Int32) (J_21 : cw_M), cw_C (cc_w K) mX1_welfareOf [.ref (cw_a (cc_w K) 5), .int x2] I (some (.int v_21)) J_21 ∧ bX10_totalWelfare_0_4 K r J0 (x1 + v_21) (x2 + 1) J_21)))) : bX10_totalWelfare_0_4 K r J0 x1 x2 I := by
  refine cw_iload_n dX10_totalWelfare_4 2 rfl rfl ?_
  refine cw_aload_n dX10_totalWelfare_5 0 rfl rfl ?_
  refine cw_getf (C := RX10) (T := TX10) (N := 10) (ci := 10) inX10_totalWelfare_RX10 0 (show 0 < 32 by decide) rfl rfl 2 (by decide) (by decide +kernel) rfl dX10_totalWelfare_6 ?_
  refine cw_getf (C := RX1) (T := TX1) (N := 6) (ci := 2) inX10_totalWelfare_RX1 5 (show 5 < 32 by decide) rfl rfl 1 (by decide) (by decide +kernel) rfl dX10_totalWelfare_9 ?_
  refine cw_icmp_ge (tgt := 32) dX10_totalWelfare_12 (by decide) (fun q => ?_) (fun q => ?_)
  · have h := h.1 q
    refine cw_iload_n dX10_totalWelfare_32 1 rfl rfl ?_
    exact cw_iret rfl dX10_totalWelfare_33 h
  · have h := h.2 q
    refine cw_iload_n dX10_totalWelfare_15 1 rfl rfl ?_
    refine cw_aload_n dX10_totalWelfare_16 0 rfl rfl ?_
    refine cw_getf (C := RX10) (T := TX10) (N := 10) (ci := 10) inX10_totalWelfare_RX10 0 (show 0 < 32 by decide) rfl rfl 2 (by decide) (by decide +kernel) rfl dX10_totalWelfare_17 ?_
    refine cw_iload_n dX10_totalWelfare_20 2 rfl rfl ?_
    obtain ⟨v_21, J_21, hc_21, h⟩ := h
    refine cw_callV (o := 5) (As := [.int x2]) hc_21 okX1_welfareOf rfl gX10_totalWelfare_X1_welfareOf (by decide) (show 5 < 32 by decide) rfl (ci := 2) rfl rfl (Nat.le_of_ble_eq_true rfl) dX10_totalWelfare_21 ?_
    refine cw_iadd dX10_totalWelfare_24 ?_
    refine cw_istore_n dX10_totalWelfare_25 rfl (by decide) rfl ?_
    refine cw_iinc (v := x2 + 1) dX10_totalWelfare_26 (j := 2) rfl rfl (by decide) rfl ?_
    refine cw_goto (tgt := 4) dX10_totalWelfare_29 (by decide) ?_
    refine cw_sub [2, 1, 0] rfl ?_
    exact h
set_option maxRecDepth 20000 in
set_option maxHeartbeats 4000000 in
theorem eX10_truncate_0 {K : cw_K} {r : Option Value} {J0 I : cw_M} {x1 : Int32} (h : ((x1 < 0 → False) ∧ (¬ x1 < 0 → ((x1 ≤ (I 1 1) → (r = some (.int x1) ∧ J0 = cw_st I 1 1 x1)) ∧ (¬ x1 ≤ (I 1 1) → False))))) : cw_C (cc_w K) mX10_truncate [.ref (cw_a (cc_w K) 0), .int x1] I r J0 := by
  refine cw_entry okX10_truncate (Nat.le_of_ble_eq_true rfl) (show cw_B (cc_w K) (cc_w K) mX10_truncate (cw_Z (cc_w K) r J0) 0 0 0 0 I 0 [(0, .ref (cw_a (cc_w K) 0)), (1, .int x1)] [] from ?_)
  refine cw_iload_n dX10_truncate_0 1 rfl rfl ?_
  refine cw_if_lt (tgt := 15) dX10_truncate_1 (by decide) (fun q => ?_) (fun q => ?_)
  · have h := h.1 q
    exact h.elim
  · have h := h.2 q
    refine cw_iload_n dX10_truncate_4 1 rfl rfl ?_
    refine cw_aload_n dX10_truncate_5 0 rfl rfl ?_
    refine cw_getf (C := RX10) (T := TX10) (N := 10) (ci := 10) inX10_truncate_RX10 0 (show 0 < 32 by decide) rfl rfl 0 (by decide) (by decide +kernel) rfl dX10_truncate_6 ?_
    refine cw_getf (C := RX8) (T := TX8) (N := 2) (ci := 9) inX10_truncate_RX8 1 (show 1 < 32 by decide) rfl rfl 1 (by decide) (by decide +kernel) rfl dX10_truncate_9 ?_
    refine cw_icmp_le (tgt := 25) dX10_truncate_12 (by decide) (fun q => ?_) (fun q => ?_)
    · have h := h.1 q
      refine cw_aload_n dX10_truncate_25 0 rfl rfl ?_
      refine cw_getf (C := RX10) (T := TX10) (N := 10) (ci := 10) inX10_truncate_RX10 0 (show 0 < 32 by decide) rfl rfl 0 (by decide) (by decide +kernel) rfl dX10_truncate_26 ?_
      refine cw_iload_n dX10_truncate_29 1 rfl rfl ?_
      refine cw_putf (C := RX8) (T := TX8) (N := 2) (ci := 9) inX10_truncate_RX8 tyX8 tyX8_ok nmX8 1 (show 1 < 32 by decide) rfl rfl 1 (by decide) (by decide +kernel) rfl rfl (show 1 < 2 by decide) rfl dX10_truncate_30 ?_
      refine cw_iload_n dX10_truncate_33 1 rfl rfl ?_
      exact cw_iret rfl dX10_truncate_34 h
    · have h := h.2 q
      exact h.elim
set_option maxRecDepth 20000 in
set_option maxHeartbeats 4000000 in
theorem eX10_value_0 {K : cw_K} {r : Option Value} {J0 I : cw_M} {x1 : Int32} {x2 : Int32} (h : (∃ J_2 : cw_M, cw_C (cc_w K) mX10_requireSibling [.ref (cw_a (cc_w K) 0), .int x1] I none J_2 ∧ (∃ J_7 : cw_M, cw_C (cc_w K) mX10_requireCell [.ref (cw_a (cc_w K) 0), .int x2] J_2 none J_7 ∧ (∃ (v_16 : Int32) (J_16 : cw_M), cw_C (cc_w K) mX1_valueOf [.ref (cw_a (cc_w K) 5), .int x1, .int x2] J_7 (some (.int v_16)) J_16 ∧ (r = some (.int v_16) ∧ J0 = J_16))))) : cw_C (cc_w K) mX10_value [.ref (cw_a (cc_w K) 0), .int x1, .int x2] I r J0 := by
  refine cw_entry okX10_value (Nat.le_of_ble_eq_true rfl) (show cw_B (cc_w K) (cc_w K) mX10_value (cw_Z (cc_w K) r J0) 0 0 0 0 I 0 [(0, .ref (cw_a (cc_w K) 0)), (1, .int x1), (2, .int x2)] [] from ?_)
  refine cw_aload_n dX10_value_0 0 rfl rfl ?_
  refine cw_iload_n dX10_value_1 1 rfl rfl ?_
  obtain ⟨J_2, hc_2, h⟩ := h
  refine cw_callV (o := 0) (As := [.int x1]) hc_2 okX10_requireSibling rfl gX10_value_X10_requireSibling (by decide) (show 0 < 32 by decide) rfl (ci := 10) rfl rfl (Nat.le_of_ble_eq_true rfl) dX10_value_2 ?_
  refine cw_aload_n dX10_value_5 0 rfl rfl ?_
  refine cw_iload_n dX10_value_6 2 rfl rfl ?_
  obtain ⟨J_7, hc_7, h⟩ := h
  refine cw_callV (o := 0) (As := [.int x2]) hc_7 okX10_requireCell rfl gX10_value_X10_requireCell (by decide) (show 0 < 32 by decide) rfl (ci := 10) rfl rfl (Nat.le_of_ble_eq_true rfl) dX10_value_7 ?_
  refine cw_aload_n dX10_value_10 0 rfl rfl ?_
  refine cw_getf (C := RX10) (T := TX10) (N := 10) (ci := 10) inX10_value_RX10 0 (show 0 < 32 by decide) rfl rfl 2 (by decide) (by decide +kernel) rfl dX10_value_11 ?_
  refine cw_iload_n dX10_value_14 1 rfl rfl ?_
  refine cw_iload_n dX10_value_15 2 rfl rfl ?_
  obtain ⟨v_16, J_16, hc_16, h⟩ := h
  refine cw_callV (o := 5) (As := [.int x1, .int x2]) hc_16 okX1_valueOf rfl gX10_value_X1_valueOf (by decide) (show 5 < 32 by decide) rfl (ci := 2) rfl rfl (Nat.le_of_ble_eq_true rfl) dX10_value_16 ?_
  exact cw_iret rfl dX10_value_19 h
set_option maxRecDepth 20000 in
set_option maxHeartbeats 4000000 in
theorem eX10_worthOfShare_0 {K : cw_K} {r : Option Value} {J0 I : cw_M} {x1 : Int32} {x2 : Int32} (h : (∃ J_2 : cw_M, cw_C (cc_w K) mX10_requireSibling [.ref (cw_a (cc_w K) 0), .int x1] I none J_2 ∧ (∃ J_7 : cw_M, cw_C (cc_w K) mX10_requireSibling [.ref (cw_a (cc_w K) 0), .int x2] J_2 none J_7 ∧ (∃ (v_23 : Int32) (J_23 : cw_M), cw_C (cc_w K) mX1_worthOfOwned [.ref (cw_a (cc_w K) 5), .ref (cw_a (cc_w K) 9), .int x1, .int x2] J_7 (some (.int v_23)) J_23 ∧ (r = some (.int v_23) ∧ J0 = J_23))))) : cw_C (cc_w K) mX10_worthOfShare [.ref (cw_a (cc_w K) 0), .int x1, .int x2] I r J0 := by
  refine cw_entry okX10_worthOfShare (Nat.le_of_ble_eq_true rfl) (show cw_B (cc_w K) (cc_w K) mX10_worthOfShare (cw_Z (cc_w K) r J0) 0 0 0 0 I 0 [(0, .ref (cw_a (cc_w K) 0)), (1, .int x1), (2, .int x2)] [] from ?_)
  refine cw_aload_n dX10_worthOfShare_0 0 rfl rfl ?_
  refine cw_iload_n dX10_worthOfShare_1 1 rfl rfl ?_
  obtain ⟨J_2, hc_2, h⟩ := h
  refine cw_callV (o := 0) (As := [.int x1]) hc_2 okX10_requireSibling rfl gX10_worthOfShare_X10_requireSibling (by decide) (show 0 < 32 by decide) rfl (ci := 10) rfl rfl (Nat.le_of_ble_eq_true rfl) dX10_worthOfShare_2 ?_
  refine cw_aload_n dX10_worthOfShare_5 0 rfl rfl ?_
  refine cw_iload_n dX10_worthOfShare_6 2 rfl rfl ?_
  obtain ⟨J_7, hc_7, h⟩ := h
  refine cw_callV (o := 0) (As := [.int x2]) hc_7 okX10_requireSibling rfl gX10_worthOfShare_X10_requireSibling (by decide) (show 0 < 32 by decide) rfl (ci := 10) rfl rfl (Nat.le_of_ble_eq_true rfl) dX10_worthOfShare_7 ?_
  refine cw_aload_n dX10_worthOfShare_10 0 rfl rfl ?_
  refine cw_getf (C := RX10) (T := TX10) (N := 10) (ci := 10) inX10_worthOfShare_RX10 0 (show 0 < 32 by decide) rfl rfl 2 (by decide) (by decide +kernel) rfl dX10_worthOfShare_11 ?_
  refine cw_aload_n dX10_worthOfShare_14 0 rfl rfl ?_
  refine cw_getf (C := RX10) (T := TX10) (N := 10) (ci := 10) inX10_worthOfShare_RX10 0 (show 0 < 32 by decide) rfl rfl 2 (by decide) (by decide +kernel) rfl dX10_worthOfShare_15 ?_
  refine cw_getf (C := RX1) (T := TX1) (N := 6) (ci := 2) inX10_worthOfShare_RX1 5 (show 5 < 32 by decide) rfl rfl 5 (by decide) (by decide +kernel) rfl dX10_worthOfShare_18 ?_
  refine cw_iload_n dX10_worthOfShare_21 1 rfl rfl ?_
  refine cw_iload_n dX10_worthOfShare_22 2 rfl rfl ?_
  obtain ⟨v_23, J_23, hc_23, h⟩ := h
  refine cw_callV (o := 5) (As := [.ref (cw_a (cc_w K) 9), .int x1, .int x2]) hc_23 okX1_worthOfOwned rfl gX10_worthOfShare_X1_worthOfOwned (by decide) (show 5 < 32 by decide) rfl (ci := 2) rfl rfl (Nat.le_of_ble_eq_true rfl) dX10_worthOfShare_23 ?_
  exact cw_iret rfl dX10_worthOfShare_26 h
abbrev bX5_advance_15_8 (K : cw_K) (r : Option Value) (J0 : cw_M) (I : cw_M) : Prop := cw_B (cc_w K) (cc_w K) mX5_advance (cw_Z (cc_w K) r J0) 0 0 0 0 I 8 [(0, .ref (cw_a (cc_w K) 15))] []
abbrev bX5_advance_15_91 (K : cw_K) (r : Option Value) (J0 : cw_M) (I : cw_M) : Prop := cw_B (cc_w K) (cc_w K) mX5_advance (cw_Z (cc_w K) r J0) 0 0 0 0 I 91 [(0, .ref (cw_a (cc_w K) 15))] []
abbrev bX5_advance_15_115 (K : cw_K) (r : Option Value) (J0 : cw_M) (I : cw_M) : Prop := cw_B (cc_w K) (cc_w K) mX5_advance (cw_Z (cc_w K) r J0) 0 0 0 0 I 115 [(0, .ref (cw_a (cc_w K) 15))] []
abbrev bX5_advance_15_151 (K : cw_K) (r : Option Value) (J0 : cw_M) (x1 : Int32) (I : cw_M) : Prop := cw_B (cc_w K) (cc_w K) mX5_advance (cw_Z (cc_w K) r J0) 0 0 0 0 I 151 [(0, .ref (cw_a (cc_w K) 15)), (1, .int x1)] []
set_option maxRecDepth 20000 in
set_option maxHeartbeats 4000000 in
theorem eX5_advance_15 {K : cw_K} {r : Option Value} {J0 I : cw_M} (h : bX5_advance_15_8 K r J0 (cw_st I 15 3 (I 15 4))) : cw_C (cc_w K) mX5_advance [.ref (cw_a (cc_w K) 15)] I r J0 := by
  refine cw_entry okX5_advance (Nat.le_of_ble_eq_true rfl) (show cw_B (cc_w K) (cc_w K) mX5_advance (cw_Z (cc_w K) r J0) 0 0 0 0 I 0 [(0, .ref (cw_a (cc_w K) 15))] [] from ?_)
  refine cw_aload_n dX5_advance_0 0 rfl rfl ?_
  refine cw_aload_n dX5_advance_1 0 rfl rfl ?_
  refine cw_getf (C := RX5) (T := TX5) (N := 7) (ci := 6) inX5_advance_RX5 15 (show 15 < 32 by decide) rfl rfl 4 (by decide) (by decide +kernel) rfl dX5_advance_2 ?_
  refine cw_putf (C := RX5) (T := TX5) (N := 7) (ci := 6) inX5_advance_RX5 tyX5 tyX5_ok nmX5 15 (show 15 < 32 by decide) rfl rfl 3 (by decide) (by decide +kernel) rfl rfl (show 3 < 7 by decide) rfl dX5_advance_5 ?_
  exact h
set_option maxRecDepth 20000 in
set_option maxHeartbeats 4000000 in
theorem tbX5_advance_15_8 {K : cw_K} {r : Option Value} {J0 I : cw_M} (h : (((I 1 1) ≤ (I 15 3) → (((I 1 1) ≤ (I 15 3) → bX5_advance_15_91 K r J0 (cw_st I 15 2 0)) ∧ (¬ (I 1 1) ≤ (I 15 3) → (vp_in (I 15 3) 600 ∧ (∃ (v_81 : Int32) (J_81 : cw_M), cw_C (cc_w K) mX5_kindOf [.int (I 2 (I 15 3).toNatClampNeg)] I (some (.int v_81)) J_81 ∧ bX5_advance_15_91 K r J0 (cw_st J_81 15 2 v_81)))))) ∧ (¬ (I 1 1) ≤ (I 15 3) → (vp_in (I 15 3) 600 ∧ (∃ (v_34 : Int32) (J_34 : cw_M), cw_C (cc_w K) mX5_kindOf [.int (I 2 (I 15 3).toNatClampNeg)] I (some (.int v_34)) J_34 ∧ ((¬ v_34 = 4 → (((J_34 1 1) ≤ (J_34 15 3) → bX5_advance_15_91 K r J0 (cw_st J_34 15 2 0)) ∧ (¬ (J_34 1 1) ≤ (J_34 15 3) → (vp_in (J_34 15 3) 600 ∧ (∃ (v_81 : Int32) (J_81 : cw_M), cw_C (cc_w K) mX5_kindOf [.int (J_34 2 (J_34 15 3).toNatClampNeg)] J_34 (some (.int v_81)) J_81 ∧ bX5_advance_15_91 K r J0 (cw_st J_81 15 2 v_81)))))) ∧ (v_34 = 4 → bX5_advance_15_8 K r J0 (cw_st J_34 15 3 ((J_34 15 3) + 1))))))))) : bX5_advance_15_8 K r J0  I := by
  refine cw_aload_n dX5_advance_8 0 rfl rfl ?_
  refine cw_getf (C := RX5) (T := TX5) (N := 7) (ci := 6) inX5_advance_RX5 15 (show 15 < 32 by decide) rfl rfl 3 (by decide) (by decide +kernel) rfl dX5_advance_9 ?_
  refine cw_aload_n dX5_advance_12 0 rfl rfl ?_
  refine cw_getf (C := RX5) (T := TX5) (N := 7) (ci := 6) inX5_advance_RX5 15 (show 15 < 32 by decide) rfl rfl 6 (by decide) (by decide +kernel) rfl dX5_advance_13 ?_
  refine cw_getf (C := RX8) (T := TX8) (N := 2) (ci := 9) inX5_advance_RX8 1 (show 1 < 32 by decide) rfl rfl 1 (by decide) (by decide +kernel) rfl dX5_advance_16 ?_
  refine cw_icmp_ge (tgt := 54) dX5_advance_19 (by decide) (fun q => ?_) (fun q => ?_)
  · have h := h.1 q
    refine cw_aload_n dX5_advance_54 0 rfl rfl ?_
    refine cw_aload_n dX5_advance_55 0 rfl rfl ?_
    refine cw_getf (C := RX5) (T := TX5) (N := 7) (ci := 6) inX5_advance_RX5 15 (show 15 < 32 by decide) rfl rfl 3 (by decide) (by decide +kernel) rfl dX5_advance_56 ?_
    refine cw_aload_n dX5_advance_59 0 rfl rfl ?_
    refine cw_getf (C := RX5) (T := TX5) (N := 7) (ci := 6) inX5_advance_RX5 15 (show 15 < 32 by decide) rfl rfl 6 (by decide) (by decide +kernel) rfl dX5_advance_60 ?_
    refine cw_getf (C := RX8) (T := TX8) (N := 2) (ci := 9) inX5_advance_RX8 1 (show 1 < 32 by decide) rfl rfl 1 (by decide) (by decide +kernel) rfl dX5_advance_63 ?_
    refine cw_icmp_ge (tgt := 87) dX5_advance_66 (by decide) (fun q => ?_) (fun q => ?_)
    · have h := h.1 q
      refine cw_iconst (v := 0) dX5_advance_87 (by decide) ?_
      refine cw_putf (C := RX5) (T := TX5) (N := 7) (ci := 6) inX5_advance_RX5 tyX5 tyX5_ok nmX5 15 (show 15 < 32 by decide) rfl rfl 2 (by decide) (by decide +kernel) rfl rfl (show 2 < 7 by decide) rfl dX5_advance_88 ?_
      exact h
    · have h := h.2 q
      refine cw_aload_n dX5_advance_69 0 rfl rfl ?_
      refine cw_getf (C := RX5) (T := TX5) (N := 7) (ci := 6) inX5_advance_RX5 15 (show 15 < 32 by decide) rfl rfl 6 (by decide) (by decide +kernel) rfl dX5_advance_70 ?_
      refine cw_getf (C := RX8) (T := TX8) (N := 2) (ci := 9) inX5_advance_RX8 1 (show 1 < 32 by decide) rfl rfl 0 (by decide) (by decide +kernel) rfl dX5_advance_73 ?_
      refine cw_aload_n dX5_advance_76 0 rfl rfl ?_
      refine cw_getf (C := RX5) (T := TX5) (N := 7) (ci := 6) inX5_advance_RX5 15 (show 15 < 32 by decide) rfl rfl 3 (by decide) (by decide +kernel) rfl dX5_advance_77 ?_
      obtain ⟨g_80, h⟩ := h
      refine cw_iald 2 (show 2 < 32 by decide) rfl 0 rfl dX5_advance_80 g_80 ?_
      obtain ⟨v_81, J_81, hc_81, h⟩ := h
      refine cw_callS (As := [.int (I 2 (I 15 3).toNatClampNeg)]) hc_81 okX5_kindOf rfl gX5_advance_X5_kindOf (by decide) rfl rfl (Nat.le_of_ble_eq_true rfl) dX5_advance_81 ?_
      refine cw_goto (tgt := 88) dX5_advance_84 (by decide) ?_
      refine cw_putf (C := RX5) (T := TX5) (N := 7) (ci := 6) inX5_advance_RX5 tyX5 tyX5_ok nmX5 15 (show 15 < 32 by decide) rfl rfl 2 (by decide) (by decide +kernel) rfl rfl (show 2 < 7 by decide) rfl dX5_advance_88 ?_
      exact h
  · have h := h.2 q
    refine cw_aload_n dX5_advance_22 0 rfl rfl ?_
    refine cw_getf (C := RX5) (T := TX5) (N := 7) (ci := 6) inX5_advance_RX5 15 (show 15 < 32 by decide) rfl rfl 6 (by decide) (by decide +kernel) rfl dX5_advance_23 ?_
    refine cw_getf (C := RX8) (T := TX8) (N := 2) (ci := 9) inX5_advance_RX8 1 (show 1 < 32 by decide) rfl rfl 0 (by decide) (by decide +kernel) rfl dX5_advance_26 ?_
    refine cw_aload_n dX5_advance_29 0 rfl rfl ?_
    refine cw_getf (C := RX5) (T := TX5) (N := 7) (ci := 6) inX5_advance_RX5 15 (show 15 < 32 by decide) rfl rfl 3 (by decide) (by decide +kernel) rfl dX5_advance_30 ?_
    obtain ⟨g_33, h⟩ := h
    refine cw_iald 2 (show 2 < 32 by decide) rfl 0 rfl dX5_advance_33 g_33 ?_
    obtain ⟨v_34, J_34, hc_34, h⟩ := h
    refine cw_callS (As := [.int (I 2 (I 15 3).toNatClampNeg)]) hc_34 okX5_kindOf rfl gX5_advance_X5_kindOf (by decide) rfl rfl (Nat.le_of_ble_eq_true rfl) dX5_advance_34 ?_
    refine cw_iconst (v := 4) dX5_advance_37 (by decide) ?_
    refine cw_icmp_ne (tgt := 54) dX5_advance_38 (by decide) (fun q => ?_) (fun q => ?_)
    · have h := h.1 q
      refine cw_aload_n dX5_advance_54 0 rfl rfl ?_
      refine cw_aload_n dX5_advance_55 0 rfl rfl ?_
      refine cw_getf (C := RX5) (T := TX5) (N := 7) (ci := 6) inX5_advance_RX5 15 (show 15 < 32 by decide) rfl rfl 3 (by decide) (by decide +kernel) rfl dX5_advance_56 ?_
      refine cw_aload_n dX5_advance_59 0 rfl rfl ?_
      refine cw_getf (C := RX5) (T := TX5) (N := 7) (ci := 6) inX5_advance_RX5 15 (show 15 < 32 by decide) rfl rfl 6 (by decide) (by decide +kernel) rfl dX5_advance_60 ?_
      refine cw_getf (C := RX8) (T := TX8) (N := 2) (ci := 9) inX5_advance_RX8 1 (show 1 < 32 by decide) rfl rfl 1 (by decide) (by decide +kernel) rfl dX5_advance_63 ?_
      refine cw_icmp_ge (tgt := 87) dX5_advance_66 (by decide) (fun q => ?_) (fun q => ?_)
      · have h := h.1 q
        refine cw_iconst (v := 0) dX5_advance_87 (by decide) ?_
        refine cw_putf (C := RX5) (T := TX5) (N := 7) (ci := 6) inX5_advance_RX5 tyX5 tyX5_ok nmX5 15 (show 15 < 32 by decide) rfl rfl 2 (by decide) (by decide +kernel) rfl rfl (show 2 < 7 by decide) rfl dX5_advance_88 ?_
        exact h
      · have h := h.2 q
        refine cw_aload_n dX5_advance_69 0 rfl rfl ?_
        refine cw_getf (C := RX5) (T := TX5) (N := 7) (ci := 6) inX5_advance_RX5 15 (show 15 < 32 by decide) rfl rfl 6 (by decide) (by decide +kernel) rfl dX5_advance_70 ?_
        refine cw_getf (C := RX8) (T := TX8) (N := 2) (ci := 9) inX5_advance_RX8 1 (show 1 < 32 by decide) rfl rfl 0 (by decide) (by decide +kernel) rfl dX5_advance_73 ?_
        refine cw_aload_n dX5_advance_76 0 rfl rfl ?_
        refine cw_getf (C := RX5) (T := TX5) (N := 7) (ci := 6) inX5_advance_RX5 15 (show 15 < 32 by decide) rfl rfl 3 (by decide) (by decide +kernel) rfl dX5_advance_77 ?_
        obtain ⟨g_80, h⟩ := h
        refine cw_iald 2 (show 2 < 32 by decide) rfl 0 rfl dX5_advance_80 g_80 ?_
        obtain ⟨v_81, J_81, hc_81, h⟩ := h
        refine cw_callS (As := [.int (J_34 2 (J_34 15 3).toNatClampNeg)]) hc_81 okX5_kindOf rfl gX5_advance_X5_kindOf (by decide) rfl rfl (Nat.le_of_ble_eq_true rfl) dX5_advance_81 ?_
        refine cw_goto (tgt := 88) dX5_advance_84 (by decide) ?_
        refine cw_putf (C := RX5) (T := TX5) (N := 7) (ci := 6) inX5_advance_RX5 tyX5 tyX5_ok nmX5 15 (show 15 < 32 by decide) rfl rfl 2 (by decide) (by decide +kernel) rfl rfl (show 2 < 7 by decide) rfl dX5_advance_88 ?_
        exact h
    · have h := h.2 q
      refine cw_aload_n dX5_advance_41 0 rfl rfl ?_
      refine cw_dup dX5_advance_42 rfl ?_
      refine cw_getf (C := RX5) (T := TX5) (N := 7) (ci := 6) inX5_advance_RX5 15 (show 15 < 32 by decide) rfl rfl 3 (by decide) (by decide +kernel) rfl dX5_advance_43 ?_
      refine cw_iconst (v := 1) dX5_advance_46 (by decide) ?_
      refine cw_iadd dX5_advance_47 ?_
      refine cw_putf (C := RX5) (T := TX5) (N := 7) (ci := 6) inX5_advance_RX5 tyX5 tyX5_ok nmX5 15 (show 15 < 32 by decide) rfl rfl 3 (by decide) (by decide +kernel) rfl rfl (show 3 < 7 by decide) rfl dX5_advance_48 ?_
      refine cw_goto (tgt := 8) dX5_advance_51 (by decide) ?_
      exact h
set_option maxRecDepth 20000 in
set_option maxHeartbeats 4000000 in
theorem tbX5_advance_15_91 {K : cw_K} {r : Option Value} {J0 I : cw_M} (h : ((¬ (I 15 2) = 0 → bX5_advance_15_115 K r J0 (cw_st I 15 4 ((I 15 3) + 1))) ∧ ((I 15 2) = 0 → bX5_advance_15_115 K r J0 (cw_st I 15 4 (I 15 3))))) : bX5_advance_15_91 K r J0  I := by
  refine cw_aload_n dX5_advance_91 0 rfl rfl ?_
  refine cw_aload_n dX5_advance_92 0 rfl rfl ?_
  refine cw_getf (C := RX5) (T := TX5) (N := 7) (ci := 6) inX5_advance_RX5 15 (show 15 < 32 by decide) rfl rfl 2 (by decide) (by decide +kernel) rfl dX5_advance_93 ?_
  refine cw_if_ne (tgt := 106) dX5_advance_96 (by decide) (fun q => ?_) (fun q => ?_)
  · have h := h.1 q
    refine cw_aload_n dX5_advance_106 0 rfl rfl ?_
    refine cw_getf (C := RX5) (T := TX5) (N := 7) (ci := 6) inX5_advance_RX5 15 (show 15 < 32 by decide) rfl rfl 3 (by decide) (by decide +kernel) rfl dX5_advance_107 ?_
    refine cw_iconst (v := 1) dX5_advance_110 (by decide) ?_
    refine cw_iadd dX5_advance_111 ?_
    refine cw_putf (C := RX5) (T := TX5) (N := 7) (ci := 6) inX5_advance_RX5 tyX5 tyX5_ok nmX5 15 (show 15 < 32 by decide) rfl rfl 4 (by decide) (by decide +kernel) rfl rfl (show 4 < 7 by decide) rfl dX5_advance_112 ?_
    exact h
  · have h := h.2 q
    refine cw_aload_n dX5_advance_99 0 rfl rfl ?_
    refine cw_getf (C := RX5) (T := TX5) (N := 7) (ci := 6) inX5_advance_RX5 15 (show 15 < 32 by decide) rfl rfl 3 (by decide) (by decide +kernel) rfl dX5_advance_100 ?_
    refine cw_goto (tgt := 112) dX5_advance_103 (by decide) ?_
    refine cw_putf (C := RX5) (T := TX5) (N := 7) (ci := 6) inX5_advance_RX5 tyX5 tyX5_ok nmX5 15 (show 15 < 32 by decide) rfl rfl 4 (by decide) (by decide +kernel) rfl rfl (show 4 < 7 by decide) rfl dX5_advance_112 ?_
    exact h
set_option maxRecDepth 20000 in
set_option maxHeartbeats 4000000 in
theorem tbX5_advance_15_115 {K : cw_K} {r : Option Value} {J0 I : cw_M} (h : (((I 15 2) = 1 → ((¬ (I 15 2) = 1 → bX5_advance_15_151 K r J0 ((I 15 3) + 2) I) ∧ ((I 15 2) = 1 → bX5_advance_15_151 K r J0 ((I 15 3) + 8) I))) ∧ (¬ (I 15 2) = 1 → ((¬ (I 15 2) = 2 → (r = none ∧ J0 = I)) ∧ ((I 15 2) = 2 → ((¬ (I 15 2) = 1 → bX5_advance_15_151 K r J0 ((I 15 3) + 2) I) ∧ ((I 15 2) = 1 → bX5_advance_15_151 K r J0 ((I 15 3) + 8) I))))))) : bX5_advance_15_115 K r J0  I := by
  refine cw_aload_n dX5_advance_115 0 rfl rfl ?_
  refine cw_getf (C := RX5) (T := TX5) (N := 7) (ci := 6) inX5_advance_RX5 15 (show 15 < 32 by decide) rfl rfl 2 (by decide) (by decide +kernel) rfl dX5_advance_116 ?_
  refine cw_iconst (v := 1) dX5_advance_119 (by decide) ?_
  refine cw_icmp_eq (tgt := 131) dX5_advance_120 (by decide) (fun q => ?_) (fun q => ?_)
  · have h := h.1 q
    refine cw_aload_n dX5_advance_131 0 rfl rfl ?_
    refine cw_getf (C := RX5) (T := TX5) (N := 7) (ci := 6) inX5_advance_RX5 15 (show 15 < 32 by decide) rfl rfl 3 (by decide) (by decide +kernel) rfl dX5_advance_132 ?_
    refine cw_aload_n dX5_advance_135 0 rfl rfl ?_
    refine cw_getf (C := RX5) (T := TX5) (N := 7) (ci := 6) inX5_advance_RX5 15 (show 15 < 32 by decide) rfl rfl 2 (by decide) (by decide +kernel) rfl dX5_advance_136 ?_
    refine cw_iconst (v := 1) dX5_advance_139 (by decide) ?_
    refine cw_icmp_ne (tgt := 148) dX5_advance_140 (by decide) (fun q => ?_) (fun q => ?_)
    · have h := h.1 q
      refine cw_iconst (v := 2) dX5_advance_148 (by decide) ?_
      refine cw_iadd dX5_advance_149 ?_
      refine cw_istore_n dX5_advance_150 rfl (by decide) rfl ?_
      refine cw_sub [1, 0] rfl ?_
      exact h
    · have h := h.2 q
      refine cw_bipush (v := 8) dX5_advance_143 (by decide) ?_
      refine cw_goto (tgt := 149) dX5_advance_145 (by decide) ?_
      refine cw_iadd dX5_advance_149 ?_
      refine cw_istore_n dX5_advance_150 rfl (by decide) rfl ?_
      refine cw_sub [1, 0] rfl ?_
      exact h
  · have h := h.2 q
    refine cw_aload_n dX5_advance_123 0 rfl rfl ?_
    refine cw_getf (C := RX5) (T := TX5) (N := 7) (ci := 6) inX5_advance_RX5 15 (show 15 < 32 by decide) rfl rfl 2 (by decide) (by decide +kernel) rfl dX5_advance_124 ?_
    refine cw_iconst (v := 2) dX5_advance_127 (by decide) ?_
    refine cw_icmp_ne (tgt := 220) dX5_advance_128 (by decide) (fun q => ?_) (fun q => ?_)
    · have h := h.1 q
      exact cw_vret rfl dX5_advance_220 h
    · have h := h.2 q
      refine cw_aload_n dX5_advance_131 0 rfl rfl ?_
      refine cw_getf (C := RX5) (T := TX5) (N := 7) (ci := 6) inX5_advance_RX5 15 (show 15 < 32 by decide) rfl rfl 3 (by decide) (by decide +kernel) rfl dX5_advance_132 ?_
      refine cw_aload_n dX5_advance_135 0 rfl rfl ?_
      refine cw_getf (C := RX5) (T := TX5) (N := 7) (ci := 6) inX5_advance_RX5 15 (show 15 < 32 by decide) rfl rfl 2 (by decide) (by decide +kernel) rfl dX5_advance_136 ?_
      refine cw_iconst (v := 1) dX5_advance_139 (by decide) ?_
      refine cw_icmp_ne (tgt := 148) dX5_advance_140 (by decide) (fun q => ?_) (fun q => ?_)
      · have h := h.1 q
        refine cw_iconst (v := 2) dX5_advance_148 (by decide) ?_
        refine cw_iadd dX5_advance_149 ?_
        refine cw_istore_n dX5_advance_150 rfl (by decide) rfl ?_
        refine cw_sub [1, 0] rfl ?_
        exact h
      · have h := h.2 q
        refine cw_bipush (v := 8) dX5_advance_143 (by decide) ?_
        refine cw_goto (tgt := 149) dX5_advance_145 (by decide) ?_
        refine cw_iadd dX5_advance_149 ?_
        refine cw_istore_n dX5_advance_150 rfl (by decide) rfl ?_
        refine cw_sub [1, 0] rfl ?_
        exact h
set_option maxRecDepth 20000 in
set_option maxHeartbeats 4000000 in
theorem tbX5_advance_15_151 {K : cw_K} {r : Option Value} {J0 I : cw_M} {x1 : Int32} (h : (((I 1 1) ≤ (I 15 4) → (((I 15 4) ≤ x1 → (r = none ∧ J0 = cw_st I 15 2 (I 15 2))) ∧ (¬ (I 15 4) ≤ x1 → (r = none ∧ J0 = cw_st I 15 2 5)))) ∧ (¬ (I 1 1) ≤ (I 15 4) → (vp_in (I 15 4) 600 ∧ (∃ (v_177 : Int32) (J_177 : cw_M), cw_C (cc_w K) mX5_kindOf [.int (I 2 (I 15 4).toNatClampNeg)] I (some (.int v_177)) J_177 ∧ ((¬ v_177 = (J_177 15 2) → (((J_177 15 4) ≤ x1 → (r = none ∧ J0 = cw_st J_177 15 2 (J_177 15 2))) ∧ (¬ (J_177 15 4) ≤ x1 → (r = none ∧ J0 = cw_st J_177 15 2 5)))) ∧ (v_177 = (J_177 15 2) → bX5_advance_15_151 K r J0 x1 (cw_st J_177 15 4 ((J_177 15 4) + 1))))))))) : bX5_advance_15_151 K r J0 x1 I := by
  refine cw_aload_n dX5_advance_151 0 rfl rfl ?_
  refine cw_getf (C := RX5) (T := TX5) (N := 7) (ci := 6) inX5_advance_RX5 15 (show 15 < 32 by decide) rfl rfl 4 (by decide) (by decide +kernel) rfl dX5_advance_152 ?_
  refine cw_aload_n dX5_advance_155 0 rfl rfl ?_
  refine cw_getf (C := RX5) (T := TX5) (N := 7) (ci := 6) inX5_advance_RX5 15 (show 15 < 32 by decide) rfl rfl 6 (by decide) (by decide +kernel) rfl dX5_advance_156 ?_
  refine cw_getf (C := RX8) (T := TX8) (N := 2) (ci := 9) inX5_advance_RX8 1 (show 1 < 32 by decide) rfl rfl 1 (by decide) (by decide +kernel) rfl dX5_advance_159 ?_
  refine cw_icmp_ge (tgt := 200) dX5_advance_162 (by decide) (fun q => ?_) (fun q => ?_)
  · have h := h.1 q
    refine cw_aload_n dX5_advance_200 0 rfl rfl ?_
    refine cw_aload_n dX5_advance_201 0 rfl rfl ?_
    refine cw_getf (C := RX5) (T := TX5) (N := 7) (ci := 6) inX5_advance_RX5 15 (show 15 < 32 by decide) rfl rfl 4 (by decide) (by decide +kernel) rfl dX5_advance_202 ?_
    refine cw_iload_n dX5_advance_205 1 rfl rfl ?_
    refine cw_icmp_le (tgt := 213) dX5_advance_206 (by decide) (fun q => ?_) (fun q => ?_)
    · have h := h.1 q
      refine cw_aload_n dX5_advance_213 0 rfl rfl ?_
      refine cw_getf (C := RX5) (T := TX5) (N := 7) (ci := 6) inX5_advance_RX5 15 (show 15 < 32 by decide) rfl rfl 2 (by decide) (by decide +kernel) rfl dX5_advance_214 ?_
      refine cw_putf (C := RX5) (T := TX5) (N := 7) (ci := 6) inX5_advance_RX5 tyX5 tyX5_ok nmX5 15 (show 15 < 32 by decide) rfl rfl 2 (by decide) (by decide +kernel) rfl rfl (show 2 < 7 by decide) rfl dX5_advance_217 ?_
      exact cw_vret rfl dX5_advance_220 h
    · have h := h.2 q
      refine cw_iconst (v := 5) dX5_advance_209 (by decide) ?_
      refine cw_goto (tgt := 217) dX5_advance_210 (by decide) ?_
      refine cw_putf (C := RX5) (T := TX5) (N := 7) (ci := 6) inX5_advance_RX5 tyX5 tyX5_ok nmX5 15 (show 15 < 32 by decide) rfl rfl 2 (by decide) (by decide +kernel) rfl rfl (show 2 < 7 by decide) rfl dX5_advance_217 ?_
      exact cw_vret rfl dX5_advance_220 h
  · have h := h.2 q
    refine cw_aload_n dX5_advance_165 0 rfl rfl ?_
    refine cw_getf (C := RX5) (T := TX5) (N := 7) (ci := 6) inX5_advance_RX5 15 (show 15 < 32 by decide) rfl rfl 6 (by decide) (by decide +kernel) rfl dX5_advance_166 ?_
    refine cw_getf (C := RX8) (T := TX8) (N := 2) (ci := 9) inX5_advance_RX8 1 (show 1 < 32 by decide) rfl rfl 0 (by decide) (by decide +kernel) rfl dX5_advance_169 ?_
    refine cw_aload_n dX5_advance_172 0 rfl rfl ?_
    refine cw_getf (C := RX5) (T := TX5) (N := 7) (ci := 6) inX5_advance_RX5 15 (show 15 < 32 by decide) rfl rfl 4 (by decide) (by decide +kernel) rfl dX5_advance_173 ?_
    obtain ⟨g_176, h⟩ := h
    refine cw_iald 2 (show 2 < 32 by decide) rfl 0 rfl dX5_advance_176 g_176 ?_
    obtain ⟨v_177, J_177, hc_177, h⟩ := h
    refine cw_callS (As := [.int (I 2 (I 15 4).toNatClampNeg)]) hc_177 okX5_kindOf rfl gX5_advance_X5_kindOf (by decide) rfl rfl (Nat.le_of_ble_eq_true rfl) dX5_advance_177 ?_
    refine cw_aload_n dX5_advance_180 0 rfl rfl ?_
    refine cw_getf (C := RX5) (T := TX5) (N := 7) (ci := 6) inX5_advance_RX5 15 (show 15 < 32 by decide) rfl rfl 2 (by decide) (by decide +kernel) rfl dX5_advance_181 ?_
    refine cw_icmp_ne (tgt := 200) dX5_advance_184 (by decide) (fun q => ?_) (fun q => ?_)
    · have h := h.1 q
      refine cw_aload_n dX5_advance_200 0 rfl rfl ?_
      refine cw_aload_n dX5_advance_201 0 rfl rfl ?_
      refine cw_getf (C := RX5) (T := TX5) (N := 7) (ci := 6) inX5_advance_RX5 15 (show 15 < 32 by decide) rfl rfl 4 (by decide) (by decide +kernel) rfl dX5_advance_202 ?_
      refine cw_iload_n dX5_advance_205 1 rfl rfl ?_
      refine cw_icmp_le (tgt := 213) dX5_advance_206 (by decide) (fun q => ?_) (fun q => ?_)
      · have h := h.1 q
        refine cw_aload_n dX5_advance_213 0 rfl rfl ?_
        refine cw_getf (C := RX5) (T := TX5) (N := 7) (ci := 6) inX5_advance_RX5 15 (show 15 < 32 by decide) rfl rfl 2 (by decide) (by decide +kernel) rfl dX5_advance_214 ?_
        refine cw_putf (C := RX5) (T := TX5) (N := 7) (ci := 6) inX5_advance_RX5 tyX5 tyX5_ok nmX5 15 (show 15 < 32 by decide) rfl rfl 2 (by decide) (by decide +kernel) rfl rfl (show 2 < 7 by decide) rfl dX5_advance_217 ?_
        exact cw_vret rfl dX5_advance_220 h
      · have h := h.2 q
        refine cw_iconst (v := 5) dX5_advance_209 (by decide) ?_
        refine cw_goto (tgt := 217) dX5_advance_210 (by decide) ?_
        refine cw_putf (C := RX5) (T := TX5) (N := 7) (ci := 6) inX5_advance_RX5 tyX5 tyX5_ok nmX5 15 (show 15 < 32 by decide) rfl rfl 2 (by decide) (by decide +kernel) rfl rfl (show 2 < 7 by decide) rfl dX5_advance_217 ?_
        exact cw_vret rfl dX5_advance_220 h
    · have h := h.2 q
      refine cw_aload_n dX5_advance_187 0 rfl rfl ?_
      refine cw_dup dX5_advance_188 rfl ?_
      refine cw_getf (C := RX5) (T := TX5) (N := 7) (ci := 6) inX5_advance_RX5 15 (show 15 < 32 by decide) rfl rfl 4 (by decide) (by decide +kernel) rfl dX5_advance_189 ?_
      refine cw_iconst (v := 1) dX5_advance_192 (by decide) ?_
      refine cw_iadd dX5_advance_193 ?_
      refine cw_putf (C := RX5) (T := TX5) (N := 7) (ci := 6) inX5_advance_RX5 tyX5 tyX5_ok nmX5 15 (show 15 < 32 by decide) rfl rfl 4 (by decide) (by decide +kernel) rfl rfl (show 4 < 7 by decide) rfl dX5_advance_194 ?_
      refine cw_goto (tgt := 151) dX5_advance_197 (by decide) ?_
      exact h
set_option maxRecDepth 20000 in
set_option maxHeartbeats 4000000 in
theorem eX5_begin_15 {K : cw_K} {r : Option Value} {J0 I : cw_M} (h : (∃ J_16 : cw_M, cw_C (cc_w K) mX5_advance [.ref (cw_a (cc_w K) 15)] (cw_st (cw_st (cw_st I 15 0 0) 15 1 (-1)) 15 4 0) none J_16 ∧ (r = none ∧ J0 = J_16))) : cw_C (cc_w K) mX5_begin [.ref (cw_a (cc_w K) 15)] I r J0 := by
  refine cw_entry okX5_begin (Nat.le_of_ble_eq_true rfl) (show cw_B (cc_w K) (cc_w K) mX5_begin (cw_Z (cc_w K) r J0) 0 0 0 0 I 0 [(0, .ref (cw_a (cc_w K) 15))] [] from ?_)
  refine cw_aload_n dX5_begin_0 0 rfl rfl ?_
  refine cw_iconst (v := 0) dX5_begin_1 (by decide) ?_
  refine cw_putf (C := RX5) (T := TX5) (N := 7) (ci := 6) inX5_begin_RX5 tyX5 tyX5_ok nmX5 15 (show 15 < 32 by decide) rfl rfl 0 (by decide) (by decide +kernel) rfl rfl (show 0 < 7 by decide) rfl dX5_begin_2 ?_
  refine cw_aload_n dX5_begin_5 0 rfl rfl ?_
  refine cw_iconst (v := (-1)) dX5_begin_6 (by decide) ?_
  refine cw_putf (C := RX5) (T := TX5) (N := 7) (ci := 6) inX5_begin_RX5 tyX5 tyX5_ok nmX5 15 (show 15 < 32 by decide) rfl rfl 1 (by decide) (by decide +kernel) rfl rfl (show 1 < 7 by decide) rfl dX5_begin_7 ?_
  refine cw_aload_n dX5_begin_10 0 rfl rfl ?_
  refine cw_iconst (v := 0) dX5_begin_11 (by decide) ?_
  refine cw_putf (C := RX5) (T := TX5) (N := 7) (ci := 6) inX5_begin_RX5 tyX5 tyX5_ok nmX5 15 (show 15 < 32 by decide) rfl rfl 4 (by decide) (by decide +kernel) rfl rfl (show 4 < 7 by decide) rfl dX5_begin_12 ?_
  refine cw_aload_n dX5_begin_15 0 rfl rfl ?_
  obtain ⟨J_16, hc_16, h⟩ := h
  refine cw_callV (o := 15) (As := []) hc_16 okX5_advance rfl gX5_begin_X5_advance (by decide) (show 15 < 32 by decide) rfl (ci := 6) rfl rfl (Nat.le_of_ble_eq_true rfl) dX5_begin_16 ?_
  exact cw_vret rfl dX5_begin_19 h
set_option maxRecDepth 20000 in
set_option maxHeartbeats 4000000 in
theorem eX5_kindOf {K : cw_K} {r : Option Value} {J0 I : cw_M} {x0 : Int32} (h : ((x0 < 97 → ((x0 < 48 → ((x0 = 32 → (r = some (.int 4) ∧ J0 = I)) ∧ (¬ x0 = 32 → ((¬ x0 = 10 → ((¬ x0 = 59 → (r = some (.int 5) ∧ J0 = I)) ∧ (x0 = 59 → (r = some (.int 3) ∧ J0 = I)))) ∧ (x0 = 10 → (r = some (.int 4) ∧ J0 = I)))))) ∧ (¬ x0 < 48 → ((57 < x0 → ((x0 = 32 → (r = some (.int 4) ∧ J0 = I)) ∧ (¬ x0 = 32 → ((¬ x0 = 10 → ((¬ x0 = 59 → (r = some (.int 5) ∧ J0 = I)) ∧ (x0 = 59 → (r = some (.int 3) ∧ J0 = I)))) ∧ (x0 = 10 → (r = some (.int 4) ∧ J0 = I)))))) ∧ (¬ 57 < x0 → (r = some (.int 2) ∧ J0 = I)))))) ∧ (¬ x0 < 97 → ((122 < x0 → ((x0 < 48 → ((x0 = 32 → (r = some (.int 4) ∧ J0 = I)) ∧ (¬ x0 = 32 → ((¬ x0 = 10 → ((¬ x0 = 59 → (r = some (.int 5) ∧ J0 = I)) ∧ (x0 = 59 → (r = some (.int 3) ∧ J0 = I)))) ∧ (x0 = 10 → (r = some (.int 4) ∧ J0 = I)))))) ∧ (¬ x0 < 48 → ((57 < x0 → ((x0 = 32 → (r = some (.int 4) ∧ J0 = I)) ∧ (¬ x0 = 32 → ((¬ x0 = 10 → ((¬ x0 = 59 → (r = some (.int 5) ∧ J0 = I)) ∧ (x0 = 59 → (r = some (.int 3) ∧ J0 = I)))) ∧ (x0 = 10 → (r = some (.int 4) ∧ J0 = I)))))) ∧ (¬ 57 < x0 → (r = some (.int 2) ∧ J0 = I)))))) ∧ (¬ 122 < x0 → (r = some (.int 1) ∧ J0 = I)))))) : cw_C (cc_w K) mX5_kindOf [.int x0] I r J0 := by
  refine cw_entry okX5_kindOf (Nat.le_of_ble_eq_true rfl) (show cw_B (cc_w K) (cc_w K) mX5_kindOf (cw_Z (cc_w K) r J0) 0 0 0 0 I 0 [(0, .int x0)] [] from ?_)
  refine cw_iload_n dX5_kindOf_0 0 rfl rfl ?_
  refine cw_bipush (v := 97) dX5_kindOf_1 (by decide) ?_
  refine cw_icmp_lt (tgt := 14) dX5_kindOf_3 (by decide) (fun q => ?_) (fun q => ?_)
  · have h := h.1 q
    refine cw_iload_n dX5_kindOf_14 0 rfl rfl ?_
    refine cw_bipush (v := 48) dX5_kindOf_15 (by decide) ?_
    refine cw_icmp_lt (tgt := 28) dX5_kindOf_17 (by decide) (fun q => ?_) (fun q => ?_)
    · have h := h.1 q
      refine cw_iload_n dX5_kindOf_28 0 rfl rfl ?_
      refine cw_bipush (v := 32) dX5_kindOf_29 (by decide) ?_
      refine cw_icmp_eq (tgt := 40) dX5_kindOf_31 (by decide) (fun q => ?_) (fun q => ?_)
      · have h := h.1 q
        refine cw_iconst (v := 4) dX5_kindOf_40 (by decide) ?_
        exact cw_iret rfl dX5_kindOf_41 h
      · have h := h.2 q
        refine cw_iload_n dX5_kindOf_34 0 rfl rfl ?_
        refine cw_bipush (v := 10) dX5_kindOf_35 (by decide) ?_
        refine cw_icmp_ne (tgt := 42) dX5_kindOf_37 (by decide) (fun q => ?_) (fun q => ?_)
        · have h := h.1 q
          refine cw_iload_n dX5_kindOf_42 0 rfl rfl ?_
          refine cw_bipush (v := 59) dX5_kindOf_43 (by decide) ?_
          refine cw_icmp_ne (tgt := 52) dX5_kindOf_45 (by decide) (fun q => ?_) (fun q => ?_)
          · have h := h.1 q
            refine cw_iconst (v := 5) dX5_kindOf_52 (by decide) ?_
            exact cw_iret rfl dX5_kindOf_53 h
          · have h := h.2 q
            refine cw_iconst (v := 3) dX5_kindOf_48 (by decide) ?_
            refine cw_goto (tgt := 53) dX5_kindOf_49 (by decide) ?_
            exact cw_iret rfl dX5_kindOf_53 h
        · have h := h.2 q
          refine cw_iconst (v := 4) dX5_kindOf_40 (by decide) ?_
          exact cw_iret rfl dX5_kindOf_41 h
    · have h := h.2 q
      refine cw_iload_n dX5_kindOf_20 0 rfl rfl ?_
      refine cw_bipush (v := 57) dX5_kindOf_21 (by decide) ?_
      refine cw_icmp_gt (tgt := 28) dX5_kindOf_23 (by decide) (fun q => ?_) (fun q => ?_)
      · have h := h.1 q
        refine cw_iload_n dX5_kindOf_28 0 rfl rfl ?_
        refine cw_bipush (v := 32) dX5_kindOf_29 (by decide) ?_
        refine cw_icmp_eq (tgt := 40) dX5_kindOf_31 (by decide) (fun q => ?_) (fun q => ?_)
        · have h := h.1 q
          refine cw_iconst (v := 4) dX5_kindOf_40 (by decide) ?_
          exact cw_iret rfl dX5_kindOf_41 h
        · have h := h.2 q
          refine cw_iload_n dX5_kindOf_34 0 rfl rfl ?_
          refine cw_bipush (v := 10) dX5_kindOf_35 (by decide) ?_
          refine cw_icmp_ne (tgt := 42) dX5_kindOf_37 (by decide) (fun q => ?_) (fun q => ?_)
          · have h := h.1 q
            refine cw_iload_n dX5_kindOf_42 0 rfl rfl ?_
            refine cw_bipush (v := 59) dX5_kindOf_43 (by decide) ?_
            refine cw_icmp_ne (tgt := 52) dX5_kindOf_45 (by decide) (fun q => ?_) (fun q => ?_)
            · have h := h.1 q
              refine cw_iconst (v := 5) dX5_kindOf_52 (by decide) ?_
              exact cw_iret rfl dX5_kindOf_53 h
            · have h := h.2 q
              refine cw_iconst (v := 3) dX5_kindOf_48 (by decide) ?_
              refine cw_goto (tgt := 53) dX5_kindOf_49 (by decide) ?_
              exact cw_iret rfl dX5_kindOf_53 h
          · have h := h.2 q
            refine cw_iconst (v := 4) dX5_kindOf_40 (by decide) ?_
            exact cw_iret rfl dX5_kindOf_41 h
      · have h := h.2 q
        refine cw_iconst (v := 2) dX5_kindOf_26 (by decide) ?_
        exact cw_iret rfl dX5_kindOf_27 h
  · have h := h.2 q
    refine cw_iload_n dX5_kindOf_6 0 rfl rfl ?_
    refine cw_bipush (v := 122) dX5_kindOf_7 (by decide) ?_
    refine cw_icmp_gt (tgt := 14) dX5_kindOf_9 (by decide) (fun q => ?_) (fun q => ?_)
    · have h := h.1 q
      refine cw_iload_n dX5_kindOf_14 0 rfl rfl ?_
      refine cw_bipush (v := 48) dX5_kindOf_15 (by decide) ?_
      refine cw_icmp_lt (tgt := 28) dX5_kindOf_17 (by decide) (fun q => ?_) (fun q => ?_)
      · have h := h.1 q
        refine cw_iload_n dX5_kindOf_28 0 rfl rfl ?_
        refine cw_bipush (v := 32) dX5_kindOf_29 (by decide) ?_
        refine cw_icmp_eq (tgt := 40) dX5_kindOf_31 (by decide) (fun q => ?_) (fun q => ?_)
        · have h := h.1 q
          refine cw_iconst (v := 4) dX5_kindOf_40 (by decide) ?_
          exact cw_iret rfl dX5_kindOf_41 h
        · have h := h.2 q
          refine cw_iload_n dX5_kindOf_34 0 rfl rfl ?_
          refine cw_bipush (v := 10) dX5_kindOf_35 (by decide) ?_
          refine cw_icmp_ne (tgt := 42) dX5_kindOf_37 (by decide) (fun q => ?_) (fun q => ?_)
          · have h := h.1 q
            refine cw_iload_n dX5_kindOf_42 0 rfl rfl ?_
            refine cw_bipush (v := 59) dX5_kindOf_43 (by decide) ?_
            refine cw_icmp_ne (tgt := 52) dX5_kindOf_45 (by decide) (fun q => ?_) (fun q => ?_)
            · have h := h.1 q
              refine cw_iconst (v := 5) dX5_kindOf_52 (by decide) ?_
              exact cw_iret rfl dX5_kindOf_53 h
            · have h := h.2 q
              refine cw_iconst (v := 3) dX5_kindOf_48 (by decide) ?_
              refine cw_goto (tgt := 53) dX5_kindOf_49 (by decide) ?_
              exact cw_iret rfl dX5_kindOf_53 h
          · have h := h.2 q
            refine cw_iconst (v := 4) dX5_kindOf_40 (by decide) ?_
            exact cw_iret rfl dX5_kindOf_41 h
      · have h := h.2 q
        refine cw_iload_n dX5_kindOf_20 0 rfl rfl ?_
        refine cw_bipush (v := 57) dX5_kindOf_21 (by decide) ?_
        refine cw_icmp_gt (tgt := 28) dX5_kindOf_23 (by decide) (fun q => ?_) (fun q => ?_)
        · have h := h.1 q
          refine cw_iload_n dX5_kindOf_28 0 rfl rfl ?_
          refine cw_bipush (v := 32) dX5_kindOf_29 (by decide) ?_
          refine cw_icmp_eq (tgt := 40) dX5_kindOf_31 (by decide) (fun q => ?_) (fun q => ?_)
          · have h := h.1 q
            refine cw_iconst (v := 4) dX5_kindOf_40 (by decide) ?_
            exact cw_iret rfl dX5_kindOf_41 h
          · have h := h.2 q
            refine cw_iload_n dX5_kindOf_34 0 rfl rfl ?_
            refine cw_bipush (v := 10) dX5_kindOf_35 (by decide) ?_
            refine cw_icmp_ne (tgt := 42) dX5_kindOf_37 (by decide) (fun q => ?_) (fun q => ?_)
            · have h := h.1 q
              refine cw_iload_n dX5_kindOf_42 0 rfl rfl ?_
              refine cw_bipush (v := 59) dX5_kindOf_43 (by decide) ?_
              refine cw_icmp_ne (tgt := 52) dX5_kindOf_45 (by decide) (fun q => ?_) (fun q => ?_)
              · have h := h.1 q
                refine cw_iconst (v := 5) dX5_kindOf_52 (by decide) ?_
                exact cw_iret rfl dX5_kindOf_53 h
              · have h := h.2 q
                refine cw_iconst (v := 3) dX5_kindOf_48 (by decide) ?_
                refine cw_goto (tgt := 53) dX5_kindOf_49 (by decide) ?_
                exact cw_iret rfl dX5_kindOf_53 h
            · have h := h.2 q
              refine cw_iconst (v := 4) dX5_kindOf_40 (by decide) ?_
              exact cw_iret rfl dX5_kindOf_41 h
        · have h := h.2 q
          refine cw_iconst (v := 2) dX5_kindOf_26 (by decide) ?_
          exact cw_iret rfl dX5_kindOf_27 h
    · have h := h.2 q
      refine cw_iconst (v := 1) dX5_kindOf_12 (by decide) ?_
      exact cw_iret rfl dX5_kindOf_13 h
abbrev bX5_numberOfToken_15_7 (K : cw_K) (r : Option Value) (J0 : cw_M) (x1 : Int32) (x2 : Int32) (I : cw_M) : Prop := cw_B (cc_w K) (cc_w K) mX5_numberOfToken (cw_Z (cc_w K) r J0) 0 0 0 0 I 7 [(0, .ref (cw_a (cc_w K) 15)), (1, .int x1), (2, .int x2)] []
set_option maxRecDepth 20000 in
set_option maxHeartbeats 4000000 in
theorem eX5_numberOfToken_15 {K : cw_K} {r : Option Value} {J0 I : cw_M} (h : bX5_numberOfToken_15_7 K r J0 0 (I 15 3) I) : cw_C (cc_w K) mX5_numberOfToken [.ref (cw_a (cc_w K) 15)] I r J0 := by
  refine cw_entry okX5_numberOfToken (Nat.le_of_ble_eq_true rfl) (show cw_B (cc_w K) (cc_w K) mX5_numberOfToken (cw_Z (cc_w K) r J0) 0 0 0 0 I 0 [(0, .ref (cw_a (cc_w K) 15))] [] from ?_)
  refine cw_iconst (v := 0) dX5_numberOfToken_0 (by decide) ?_
  refine cw_istore_n dX5_numberOfToken_1 rfl (by decide) rfl ?_
  refine cw_aload_n dX5_numberOfToken_2 1 rfl rfl ?_
  refine cw_getf (C := RX5) (T := TX5) (N := 7) (ci := 6) inX5_numberOfToken_RX5 15 (show 15 < 32 by decide) rfl rfl 3 (by decide) (by decide +kernel) rfl dX5_numberOfToken_3 ?_
  refine cw_istore_n dX5_numberOfToken_6 rfl (by decide) rfl ?_
  refine cw_sub [2, 1, 0] rfl ?_
  exact h
set_option maxRecDepth 20000 in
set_option maxHeartbeats 4000000 in
theorem tbX5_numberOfToken_15_7 {K : cw_K} {r : Option Value} {J0 I : cw_M} {x1 : Int32} {x2 : Int32} (h : (((I 15 4) ≤ x2 → (r = some (.int x1) ∧ J0 = I)) ∧ (¬ (I 15 4) ≤ x2 → (vp_in x2 600 ∧ bX5_numberOfToken_15_7 K r J0 (((10 * x1) + (I 2 x2.toNatClampNeg)) - 48) (x2 + 1) I)))) : bX5_numberOfToken_15_7 K r J0 x1 x2 I := by
  refine cw_iload_n dX5_numberOfToken_7 2 rfl rfl ?_
  refine cw_aload_n dX5_numberOfToken_8 0 rfl rfl ?_
  refine cw_getf (C := RX5) (T := TX5) (N := 7) (ci := 6) inX5_numberOfToken_RX5 15 (show 15 < 32 by decide) rfl rfl 4 (by decide) (by decide +kernel) rfl dX5_numberOfToken_9 ?_
  refine cw_icmp_ge (tgt := 39) dX5_numberOfToken_12 (by decide) (fun q => ?_) (fun q => ?_)
  · have h := h.1 q
    refine cw_iload_n dX5_numberOfToken_39 1 rfl rfl ?_
    exact cw_iret rfl dX5_numberOfToken_40 h
  · have h := h.2 q
    refine cw_bipush (v := 10) dX5_numberOfToken_15 (by decide) ?_
    refine cw_iload_n dX5_numberOfToken_17 1 rfl rfl ?_
    refine cw_imul dX5_numberOfToken_18 ?_
    refine cw_aload_n dX5_numberOfToken_19 0 rfl rfl ?_
    refine cw_getf (C := RX5) (T := TX5) (N := 7) (ci := 6) inX5_numberOfToken_RX5 15 (show 15 < 32 by decide) rfl rfl 6 (by decide) (by decide +kernel) rfl dX5_numberOfToken_20 ?_
    refine cw_getf (C := RX8) (T := TX8) (N := 2) (ci := 9) inX5_numberOfToken_RX8 1 (show 1 < 32 by decide) rfl rfl 0 (by decide) (by decide +kernel) rfl dX5_numberOfToken_23 ?_
    refine cw_iload_n dX5_numberOfToken_26 2 rfl rfl ?_
    obtain ⟨g_27, h⟩ := h
    refine cw_iald 2 (show 2 < 32 by decide) rfl 0 rfl dX5_numberOfToken_27 g_27 ?_
    refine cw_iadd dX5_numberOfToken_28 ?_
    refine cw_bipush (v := 48) dX5_numberOfToken_29 (by decide) ?_
    refine cw_isub dX5_numberOfToken_31 ?_
    refine cw_istore_n dX5_numberOfToken_32 rfl (by decide) rfl ?_
    refine cw_iinc (v := x2 + 1) dX5_numberOfToken_33 (j := 2) rfl rfl (by decide) rfl ?_
    refine cw_goto (tgt := 7) dX5_numberOfToken_36 (by decide) ?_
    refine cw_sub [2, 1, 0] rfl ?_
    exact h
abbrev bX5_readSetup_15_10_44 (K : cw_K) (r : Option Value) (J0 : cw_M) (x2 : Int32) (I : cw_M) : Prop := cw_B (cc_w K) (cc_w K) mX5_readSetup (cw_Z (cc_w K) r J0) 0 0 0 0 I 44 [(0, .ref (cw_a (cc_w K) 15)), (1, .ref (cw_a (cc_w K) 10)), (2, .int x2)] []
set_option maxRecDepth 20000 in
set_option maxHeartbeats 4000000 in
theorem eX5_readSetup_15_10 {K : cw_K} {r : Option Value} {J0 I : cw_M} (hFC : cw_FC K) (h : (∃ J_1 : cw_M, cw_C (cc_w K) mX5_begin [.ref (cw_a (cc_w K) 15)] I none J_1 ∧ (∃ (v_7 : Int32) (J_7 : cw_M), cw_C (cc_w K) mX5_takeWord [.ref (cw_a (cc_w K) 15), .ref (cw_sd K 0)] J_1 (some (.int v_7)) J_7 ∧ ((v_7 = 0 → (r = some (.int 0) ∧ J0 = J_7)) ∧ (¬ v_7 = 0 → (∃ (v_17 : Int32) (J_17 : cw_M), cw_C (cc_w K) mX5_takeNumber [.ref (cw_a (cc_w K) 15), .int 1, .int 24] J_7 (some (.int v_17)) J_17 ∧ ((¬ v_17 = 0 → (∃ (v_34 : Int32) (J_34 : cw_M), cw_C (cc_w K) mX5_takeSemicolon [.ref (cw_a (cc_w K) 15)] (cw_st J_17 10 0 (J_17 15 5)) (some (.int v_34)) J_34 ∧ ((¬ v_34 = 0 → bX5_readSetup_15_10_44 K r J0 0 J_34) ∧ (v_34 = 0 → (r = some (.int 0) ∧ J0 = J_34))))) ∧ (v_17 = 0 → (r = some (.int 0) ∧ J0 = J_17))))))))) : cw_C (cc_w K) mX5_readSetup [.ref (cw_a (cc_w K) 15), .ref (cw_a (cc_w K) 10)] I r J0 := by
  refine cw_entry okX5_readSetup (Nat.le_of_ble_eq_true rfl) (show cw_B (cc_w K) (cc_w K) mX5_readSetup (cw_Z (cc_w K) r J0) 0 0 0 0 I 0 [(0, .ref (cw_a (cc_w K) 15)), (1, .ref (cw_a (cc_w K) 10))] [] from ?_)
  refine cw_aload_n dX5_readSetup_0 0 rfl rfl ?_
  obtain ⟨J_1, hc_1, h⟩ := h
  refine cw_callV (o := 15) (As := []) hc_1 okX5_begin rfl gX5_readSetup_X5_begin (by decide) (show 15 < 32 by decide) rfl (ci := 6) rfl rfl (Nat.le_of_ble_eq_true rfl) dX5_readSetup_1 ?_
  refine cw_aload_n dX5_readSetup_4 0 rfl rfl ?_
  refine cw_ldcS (tx := "cake") (hFC (RX5, 18, "cake", 0) (by decide +kernel)) dX5_readSetup_5 ?_
  obtain ⟨v_7, J_7, hc_7, h⟩ := h
  refine cw_callV (o := 15) (As := [.ref (cw_sd K 0)]) hc_7 okX5_takeWord rfl gX5_readSetup_X5_takeWord (by decide) (show 15 < 32 by decide) rfl (ci := 6) rfl rfl (Nat.le_of_ble_eq_true rfl) dX5_readSetup_7 ?_
  refine cw_if_eq (tgt := 23) dX5_readSetup_10 (by decide) (fun q => ?_) (fun q => ?_)
  · have h := h.1 q
    refine cw_iconst (v := 0) dX5_readSetup_23 (by decide) ?_
    exact cw_bret rfl dX5_readSetup_24 (by decide) h
  · have h := h.2 q
    refine cw_aload_n dX5_readSetup_13 0 rfl rfl ?_
    refine cw_iconst (v := 1) dX5_readSetup_14 (by decide) ?_
    refine cw_bipush (v := 24) dX5_readSetup_15 (by decide) ?_
    obtain ⟨v_17, J_17, hc_17, h⟩ := h
    refine cw_callV (o := 15) (As := [.int 1, .int 24]) hc_17 okX5_takeNumber rfl gX5_readSetup_X5_takeNumber (by decide) (show 15 < 32 by decide) rfl (ci := 6) rfl rfl (Nat.le_of_ble_eq_true rfl) dX5_readSetup_17 ?_
    refine cw_if_ne (tgt := 25) dX5_readSetup_20 (by decide) (fun q => ?_) (fun q => ?_)
    · have h := h.1 q
      refine cw_aload_n dX5_readSetup_25 1 rfl rfl ?_
      refine cw_aload_n dX5_readSetup_26 0 rfl rfl ?_
      refine cw_getf (C := RX5) (T := TX5) (N := 7) (ci := 6) inX5_readSetup_RX5 15 (show 15 < 32 by decide) rfl rfl 5 (by decide) (by decide +kernel) rfl dX5_readSetup_27 ?_
      refine cw_putf (C := RX1) (T := TX1) (N := 6) (ci := 2) inX5_readSetup_RX1 tyX1 tyX1_ok nmX1 10 (show 10 < 32 by decide) rfl rfl 0 (by decide) (by decide +kernel) rfl rfl (show 0 < 6 by decide) rfl dX5_readSetup_30 ?_
      refine cw_aload_n dX5_readSetup_33 0 rfl rfl ?_
      obtain ⟨v_34, J_34, hc_34, h⟩ := h
      refine cw_callV (o := 15) (As := []) hc_34 okX5_takeSemicolon rfl gX5_readSetup_X5_takeSemicolon (by decide) (show 15 < 32 by decide) rfl (ci := 6) rfl rfl (Nat.le_of_ble_eq_true rfl) dX5_readSetup_34 ?_
      refine cw_if_ne (tgt := 42) dX5_readSetup_37 (by decide) (fun q => ?_) (fun q => ?_)
      · have h := h.1 q
        refine cw_iconst (v := 0) dX5_readSetup_42 (by decide) ?_
        refine cw_istore_n dX5_readSetup_43 rfl (by decide) rfl ?_
        refine cw_sub [1, 2, 0] rfl ?_
        exact h
      · have h := h.2 q
        refine cw_iconst (v := 0) dX5_readSetup_40 (by decide) ?_
        exact cw_bret rfl dX5_readSetup_41 (by decide) h
    · have h := h.2 q
      refine cw_iconst (v := 0) dX5_readSetup_23 (by decide) ?_
      exact cw_bret rfl dX5_readSetup_24 (by decide) h
set_option maxRecDepth 20000 in
set_option maxHeartbeats 4000000 in
theorem tbX5_readSetup_15_10_44 {K : cw_K} {r : Option Value} {J0 I : cw_M} {x2 : Int32} (hFC : cw_FC K) (h : ((6 ≤ x2 → (∃ (v_92 : Int32) (J_92 : cw_M), cw_C (cc_w K) mX5_isWord [.ref (cw_a (cc_w K) 15), .ref (cw_sd K 1)] I (some (.int v_92)) J_92 ∧ ((v_92 = 0 → (∃ (v_103 : Int32) (J_103 : cw_M), cw_C (cc_w K) mX5_refuse [.ref (cw_a (cc_w K) 15), .int 1] J_92 (some (.int v_103)) J_103 ∧ ((v_103 = 0 ∨ v_103 = 1) ∧ (r = some (.int v_103) ∧ J0 = J_103)))) ∧ (¬ v_92 = 0 → (∃ (v_103 : Int32) (J_103 : cw_M), cw_C (cc_w K) mX5_refuse [.ref (cw_a (cc_w K) 15), .int 4] J_92 (some (.int v_103)) J_103 ∧ ((v_103 = 0 ∨ v_103 = 1) ∧ (r = some (.int v_103) ∧ J0 = J_103))))))) ∧ (¬ 6 ≤ x2 → (∃ (v_58 : Int32) (J_58 : cw_M), cw_C (cc_w K) mX5_readSibling [.ref (cw_a (cc_w K) 15), .ref (cw_a (cc_w K) 10), .int x2] (cw_st I 10 1 x2) (some (.int v_58)) J_58 ∧ ((¬ v_58 = 0 → ((¬ ((cw_st J_58 10 1 (x2 + 1)) 15 2) = 0 → bX5_readSetup_15_10_44 K r J0 (x2 + 1) (cw_st J_58 10 1 (x2 + 1))) ∧ (((cw_st J_58 10 1 (x2 + 1)) 15 2) = 0 → (r = some (.int 1) ∧ J0 = cw_st J_58 10 1 (x2 + 1))))) ∧ (v_58 = 0 → (r = some (.int 0) ∧ J0 = J_58))))))) : bX5_readSetup_15_10_44 K r J0 x2 I := by
  refine cw_iload_n dX5_readSetup_44 2 rfl rfl ?_
  refine cw_bipush (v := 6) dX5_readSetup_45 (by decide) ?_
  refine cw_icmp_ge (tgt := 88) dX5_readSetup_47 (by decide) (fun q => ?_) (fun q => ?_)
  · have h := h.1 q
    refine cw_aload_n dX5_readSetup_88 0 rfl rfl ?_
    refine cw_aload_n dX5_readSetup_89 0 rfl rfl ?_
    refine cw_ldcS (tx := "sibling") (hFC (RX5, 51, "sibling", 1) (by decide +kernel)) dX5_readSetup_90 ?_
    obtain ⟨v_92, J_92, hc_92, h⟩ := h
    refine cw_callV (o := 15) (As := [.ref (cw_sd K 1)]) hc_92 okX5_isWord rfl gX5_readSetup_X5_isWord (by decide) (show 15 < 32 by decide) rfl (ci := 6) rfl rfl (Nat.le_of_ble_eq_true rfl) dX5_readSetup_92 ?_
    refine cw_if_eq (tgt := 102) dX5_readSetup_95 (by decide) (fun q => ?_) (fun q => ?_)
    · have h := h.1 q
      refine cw_iconst (v := 1) dX5_readSetup_102 (by decide) ?_
      obtain ⟨v_103, J_103, hc_103, h⟩ := h
      refine cw_callV (o := 15) (As := [.int 1]) hc_103 okX5_refuse rfl gX5_readSetup_X5_refuse (by decide) (show 15 < 32 by decide) rfl (ci := 6) rfl rfl (Nat.le_of_ble_eq_true rfl) dX5_readSetup_103 ?_
      exact cw_bret rfl dX5_readSetup_106 h.1 h.2
    · have h := h.2 q
      refine cw_iconst (v := 4) dX5_readSetup_98 (by decide) ?_
      refine cw_goto (tgt := 103) dX5_readSetup_99 (by decide) ?_
      obtain ⟨v_103, J_103, hc_103, h⟩ := h
      refine cw_callV (o := 15) (As := [.int 4]) hc_103 okX5_refuse rfl gX5_readSetup_X5_refuse (by decide) (show 15 < 32 by decide) rfl (ci := 6) rfl rfl (Nat.le_of_ble_eq_true rfl) dX5_readSetup_103 ?_
      exact cw_bret rfl dX5_readSetup_106 h.1 h.2
  · have h := h.2 q
    refine cw_aload_n dX5_readSetup_50 1 rfl rfl ?_
    refine cw_iload_n dX5_readSetup_51 2 rfl rfl ?_
    refine cw_putf (C := RX1) (T := TX1) (N := 6) (ci := 2) inX5_readSetup_RX1 tyX1 tyX1_ok nmX1 10 (show 10 < 32 by decide) rfl rfl 1 (by decide) (by decide +kernel) rfl rfl (show 1 < 6 by decide) rfl dX5_readSetup_52 ?_
    refine cw_aload_n dX5_readSetup_55 0 rfl rfl ?_
    refine cw_aload_n dX5_readSetup_56 1 rfl rfl ?_
    refine cw_iload_n dX5_readSetup_57 2 rfl rfl ?_
    obtain ⟨v_58, J_58, hc_58, h⟩ := h
    refine cw_callV (o := 15) (As := [.ref (cw_a (cc_w K) 10), .int x2]) hc_58 okX5_readSibling rfl gX5_readSetup_X5_readSibling (by decide) (show 15 < 32 by decide) rfl (ci := 6) rfl rfl (Nat.le_of_ble_eq_true rfl) dX5_readSetup_58 ?_
    refine cw_if_ne (tgt := 66) dX5_readSetup_61 (by decide) (fun q => ?_) (fun q => ?_)
    · have h := h.1 q
      refine cw_aload_n dX5_readSetup_66 1 rfl rfl ?_
      refine cw_iload_n dX5_readSetup_67 2 rfl rfl ?_
      refine cw_iconst (v := 1) dX5_readSetup_68 (by decide) ?_
      refine cw_iadd dX5_readSetup_69 ?_
      refine cw_putf (C := RX1) (T := TX1) (N := 6) (ci := 2) inX5_readSetup_RX1 tyX1 tyX1_ok nmX1 10 (show 10 < 32 by decide) rfl rfl 1 (by decide) (by decide +kernel) rfl rfl (show 1 < 6 by decide) rfl dX5_readSetup_70 ?_
      refine cw_aload_n dX5_readSetup_73 0 rfl rfl ?_
      refine cw_getf (C := RX5) (T := TX5) (N := 7) (ci := 6) inX5_readSetup_RX5 15 (show 15 < 32 by decide) rfl rfl 2 (by decide) (by decide +kernel) rfl dX5_readSetup_74 ?_
      refine cw_if_ne (tgt := 82) dX5_readSetup_77 (by decide) (fun q => ?_) (fun q => ?_)
      · have h := h.1 q
        refine cw_iinc (v := x2 + 1) dX5_readSetup_82 (j := 2) rfl rfl (by decide) rfl ?_
        refine cw_goto (tgt := 44) dX5_readSetup_85 (by decide) ?_
        refine cw_sub [1, 2, 0] rfl ?_
        exact h
      · have h := h.2 q
        refine cw_iconst (v := 1) dX5_readSetup_80 (by decide) ?_
        exact cw_bret rfl dX5_readSetup_81 (by decide) h
    · have h := h.2 q
      refine cw_iconst (v := 0) dX5_readSetup_64 (by decide) ?_
      exact cw_bret rfl dX5_readSetup_65 (by decide) h
abbrev bX5_readSibling_15_10_22 (K : cw_K) (r : Option Value) (J0 : cw_M) (x2 : Int32) (x3 : Int32) (I : cw_M) : Prop := cw_B (cc_w K) (cc_w K) mX5_readSibling (cw_Z (cc_w K) r J0) 0 0 0 0 I 22 [(0, .ref (cw_a (cc_w K) 15)), (1, .ref (cw_a (cc_w K) 10)), (2, .int x2), (3, .int x3)] []
set_option maxRecDepth 20000 in
set_option maxHeartbeats 4000000 in
theorem eX5_readSibling_15_10 {K : cw_K} {r : Option Value} {J0 I : cw_M} {x2 : Int32} (hFC : cw_FC K) (h : (∃ (v_3 : Int32) (J_3 : cw_M), cw_C (cc_w K) mX5_takeWord [.ref (cw_a (cc_w K) 15), .ref (cw_sd K 1)] I (some (.int v_3)) J_3 ∧ ((v_3 = 0 → (r = some (.int 0) ∧ J0 = J_3)) ∧ (¬ v_3 = 0 → (∃ (v_12 : Int32) (J_12 : cw_M), cw_C (cc_w K) mX5_takeNewName [.ref (cw_a (cc_w K) 15), .ref (cw_a (cc_w K) 10), .int x2] J_3 (some (.int v_12)) J_12 ∧ ((¬ v_12 = 0 → bX5_readSibling_15_10_22 K r J0 x2 0 J_12) ∧ (v_12 = 0 → (r = some (.int 0) ∧ J0 = J_12)))))))) : cw_C (cc_w K) mX5_readSibling [.ref (cw_a (cc_w K) 15), .ref (cw_a (cc_w K) 10), .int x2] I r J0 := by
  refine cw_entry okX5_readSibling (Nat.le_of_ble_eq_true rfl) (show cw_B (cc_w K) (cc_w K) mX5_readSibling (cw_Z (cc_w K) r J0) 0 0 0 0 I 0 [(0, .ref (cw_a (cc_w K) 15)), (1, .ref (cw_a (cc_w K) 10)), (2, .int x2)] [] from ?_)
  refine cw_aload_n dX5_readSibling_0 0 rfl rfl ?_
  refine cw_ldcS (tx := "sibling") (hFC (RX5, 51, "sibling", 1) (by decide +kernel)) dX5_readSibling_1 ?_
  obtain ⟨v_3, J_3, hc_3, h⟩ := h
  refine cw_callV (o := 15) (As := [.ref (cw_sd K 1)]) hc_3 okX5_takeWord rfl gX5_readSibling_X5_takeWord (by decide) (show 15 < 32 by decide) rfl (ci := 6) rfl rfl (Nat.le_of_ble_eq_true rfl) dX5_readSibling_3 ?_
  refine cw_if_eq (tgt := 18) dX5_readSibling_6 (by decide) (fun q => ?_) (fun q => ?_)
  · have h := h.1 q
    refine cw_iconst (v := 0) dX5_readSibling_18 (by decide) ?_
    exact cw_bret rfl dX5_readSibling_19 (by decide) h
  · have h := h.2 q
    refine cw_aload_n dX5_readSibling_9 0 rfl rfl ?_
    refine cw_aload_n dX5_readSibling_10 1 rfl rfl ?_
    refine cw_iload_n dX5_readSibling_11 2 rfl rfl ?_
    obtain ⟨v_12, J_12, hc_12, h⟩ := h
    refine cw_callV (o := 15) (As := [.ref (cw_a (cc_w K) 10), .int x2]) hc_12 okX5_takeNewName rfl gX5_readSibling_X5_takeNewName (by decide) (show 15 < 32 by decide) rfl (ci := 6) rfl rfl (Nat.le_of_ble_eq_true rfl) dX5_readSibling_12 ?_
    refine cw_if_ne (tgt := 20) dX5_readSibling_15 (by decide) (fun q => ?_) (fun q => ?_)
    · have h := h.1 q
      refine cw_iconst (v := 0) dX5_readSibling_20 (by decide) ?_
      refine cw_istore_n dX5_readSibling_21 rfl (by decide) rfl ?_
      refine cw_sub [1, 2, 3, 0] rfl ?_
      exact h
    · have h := h.2 q
      refine cw_iconst (v := 0) dX5_readSibling_18 (by decide) ?_
      exact cw_bret rfl dX5_readSibling_19 (by decide) h
set_option maxRecDepth 20000 in
set_option maxHeartbeats 4000000 in
theorem tbX5_readSibling_15_10_22 {K : cw_K} {r : Option Value} {J0 I : cw_M} {x2 : Int32} {x3 : Int32} (h : (((I 10 0) ≤ x3 → (∃ (v_59 : Int32) (J_59 : cw_M), cw_C (cc_w K) mX5_takeSemicolon [.ref (cw_a (cc_w K) 15)] I (some (.int v_59)) J_59 ∧ ((v_59 = 0 ∨ v_59 = 1) ∧ (r = some (.int v_59) ∧ J0 = J_59)))) ∧ (¬ (I 10 0) ≤ x3 → (∃ (v_34 : Int32) (J_34 : cw_M), cw_C (cc_w K) mX5_takeNumber [.ref (cw_a (cc_w K) 15), .int 0, .int 9] I (some (.int v_34)) J_34 ∧ ((¬ v_34 = 0 → (∃ J_49 : cw_M, cw_C (cc_w K) mX1_putValue [.ref (cw_a (cc_w K) 10), .int x2, .int x3, .int (J_34 15 5)] J_34 none J_49 ∧ bX5_readSibling_15_10_22 K r J0 x2 (x3 + 1) J_49)) ∧ (v_34 = 0 → (r = some (.int 0) ∧ J0 = J_34))))))) : bX5_readSibling_15_10_22 K r J0 x2 x3 I := by
  refine cw_iload_n dX5_readSibling_22 3 rfl rfl ?_
  refine cw_aload_n dX5_readSibling_23 1 rfl rfl ?_
  refine cw_getf (C := RX1) (T := TX1) (N := 6) (ci := 2) inX5_readSibling_RX1 10 (show 10 < 32 by decide) rfl rfl 0 (by decide) (by decide +kernel) rfl dX5_readSibling_24 ?_
  refine cw_icmp_ge (tgt := 58) dX5_readSibling_27 (by decide) (fun q => ?_) (fun q => ?_)
  · have h := h.1 q
    refine cw_aload_n dX5_readSibling_58 0 rfl rfl ?_
    obtain ⟨v_59, J_59, hc_59, h⟩ := h
    refine cw_callV (o := 15) (As := []) hc_59 okX5_takeSemicolon rfl gX5_readSibling_X5_takeSemicolon (by decide) (show 15 < 32 by decide) rfl (ci := 6) rfl rfl (Nat.le_of_ble_eq_true rfl) dX5_readSibling_59 ?_
    exact cw_bret rfl dX5_readSibling_62 h.1 h.2
  · have h := h.2 q
    refine cw_aload_n dX5_readSibling_30 0 rfl rfl ?_
    refine cw_iconst (v := 0) dX5_readSibling_31 (by decide) ?_
    refine cw_bipush (v := 9) dX5_readSibling_32 (by decide) ?_
    obtain ⟨v_34, J_34, hc_34, h⟩ := h
    refine cw_callV (o := 15) (As := [.int 0, .int 9]) hc_34 okX5_takeNumber rfl gX5_readSibling_X5_takeNumber (by decide) (show 15 < 32 by decide) rfl (ci := 6) rfl rfl (Nat.le_of_ble_eq_true rfl) dX5_readSibling_34 ?_
    refine cw_if_ne (tgt := 42) dX5_readSibling_37 (by decide) (fun q => ?_) (fun q => ?_)
    · have h := h.1 q
      refine cw_aload_n dX5_readSibling_42 1 rfl rfl ?_
      refine cw_iload_n dX5_readSibling_43 2 rfl rfl ?_
      refine cw_iload_n dX5_readSibling_44 3 rfl rfl ?_
      refine cw_aload_n dX5_readSibling_45 0 rfl rfl ?_
      refine cw_getf (C := RX5) (T := TX5) (N := 7) (ci := 6) inX5_readSibling_RX5 15 (show 15 < 32 by decide) rfl rfl 5 (by decide) (by decide +kernel) rfl dX5_readSibling_46 ?_
      obtain ⟨J_49, hc_49, h⟩ := h
      refine cw_callV (o := 10) (As := [.int x2, .int x3, .int (J_34 15 5)]) hc_49 okX1_putValue rfl gX5_readSibling_X1_putValue (by decide) (show 10 < 32 by decide) rfl (ci := 2) rfl rfl (Nat.le_of_ble_eq_true rfl) dX5_readSibling_49 ?_
      refine cw_iinc (v := x3 + 1) dX5_readSibling_52 (j := 3) rfl rfl (by decide) rfl ?_
      refine cw_goto (tgt := 22) dX5_readSibling_55 (by decide) ?_
      refine cw_sub [1, 2, 3, 0] rfl ?_
      exact h
    · have h := h.2 q
      refine cw_iconst (v := 0) dX5_readSibling_40 (by decide) ?_
      exact cw_bret rfl dX5_readSibling_41 (by decide) h
set_option maxRecDepth 20000 in
set_option maxHeartbeats 4000000 in
theorem eX5_refuse_15 {K : cw_K} {r : Option Value} {J0 I : cw_M} {x1 : Int32} (h : (r = some (.int 0) ∧ J0 = cw_st (cw_st I 15 0 x1) 15 1 ((cw_st I 15 0 x1) 15 3))) : cw_C (cc_w K) mX5_refuse [.ref (cw_a (cc_w K) 15), .int x1] I r J0 := by
  refine cw_entry okX5_refuse (Nat.le_of_ble_eq_true rfl) (show cw_B (cc_w K) (cc_w K) mX5_refuse (cw_Z (cc_w K) r J0) 0 0 0 0 I 0 [(0, .ref (cw_a (cc_w K) 15)), (1, .int x1)] [] from ?_)
  refine cw_aload_n dX5_refuse_0 0 rfl rfl ?_
  refine cw_iload_n dX5_refuse_1 1 rfl rfl ?_
  refine cw_putf (C := RX5) (T := TX5) (N := 7) (ci := 6) inX5_refuse_RX5 tyX5 tyX5_ok nmX5 15 (show 15 < 32 by decide) rfl rfl 0 (by decide) (by decide +kernel) rfl rfl (show 0 < 7 by decide) rfl dX5_refuse_2 ?_
  refine cw_aload_n dX5_refuse_5 0 rfl rfl ?_
  refine cw_aload_n dX5_refuse_6 0 rfl rfl ?_
  refine cw_getf (C := RX5) (T := TX5) (N := 7) (ci := 6) inX5_refuse_RX5 15 (show 15 < 32 by decide) rfl rfl 3 (by decide) (by decide +kernel) rfl dX5_refuse_7 ?_
  refine cw_putf (C := RX5) (T := TX5) (N := 7) (ci := 6) inX5_refuse_RX5 tyX5 tyX5_ok nmX5 15 (show 15 < 32 by decide) rfl rfl 1 (by decide) (by decide +kernel) rfl rfl (show 1 < 7 by decide) rfl dX5_refuse_10 ?_
  refine cw_iconst (v := 0) dX5_refuse_13 (by decide) ?_
  exact cw_bret rfl dX5_refuse_14 (by decide) h
set_option maxRecDepth 20000 in
set_option maxHeartbeats 4000000 in
theorem eX5_takeNewName_15_10 {K : cw_K} {r : Option Value} {J0 I : cw_M} {x2 : Int32} (h : (((I 15 2) = 1 → ((6 < ((I 15 4) - (I 15 3)) → (∃ (v_49 : Int32) (J_49 : cw_M), cw_C (cc_w K) mX5_refuse [.ref (cw_a (cc_w K) 15), .int 3] I (some (.int v_49)) J_49 ∧ ((v_49 = 0 ∨ v_49 = 1) ∧ (r = some (.int v_49) ∧ J0 = J_49)))) ∧ (¬ 6 < ((I 15 4) - (I 15 3)) → (∃ (v_40 : Int32) (J_40 : cw_M), cw_C (cc_w K) mX1_findName [.ref (cw_a (cc_w K) 10), .ref (cw_a (cc_w K) 1), .int (I 15 3), .int ((I 15 4) - (I 15 3))] I (some (.int v_40)) J_40 ∧ ((v_40 = (-1) → (∃ J_64 : cw_M, cw_C (cc_w K) mX1_putName [.ref (cw_a (cc_w K) 10), .int x2, .ref (cw_a (cc_w K) 1), .int (J_40 15 3), .int ((I 15 4) - (I 15 3))] J_40 none J_64 ∧ (∃ J_68 : cw_M, cw_C (cc_w K) mX5_advance [.ref (cw_a (cc_w K) 15)] J_64 none J_68 ∧ (r = some (.int 1) ∧ J0 = J_68)))) ∧ (¬ v_40 = (-1) → (∃ (v_49 : Int32) (J_49 : cw_M), cw_C (cc_w K) mX5_refuse [.ref (cw_a (cc_w K) 15), .int 3] J_40 (some (.int v_49)) J_49 ∧ ((v_49 = 0 ∨ v_49 = 1) ∧ (r = some (.int v_49) ∧ J0 = J_49))))))))) ∧ (¬ (I 15 2) = 1 → (∃ (v_10 : Int32) (J_10 : cw_M), cw_C (cc_w K) mX5_refuse [.ref (cw_a (cc_w K) 15), .int 1] I (some (.int v_10)) J_10 ∧ ((v_10 = 0 ∨ v_10 = 1) ∧ (r = some (.int v_10) ∧ J0 = J_10)))))) : cw_C (cc_w K) mX5_takeNewName [.ref (cw_a (cc_w K) 15), .ref (cw_a (cc_w K) 10), .int x2] I r J0 := by
  refine cw_entry okX5_takeNewName (Nat.le_of_ble_eq_true rfl) (show cw_B (cc_w K) (cc_w K) mX5_takeNewName (cw_Z (cc_w K) r J0) 0 0 0 0 I 0 [(0, .ref (cw_a (cc_w K) 15)), (1, .ref (cw_a (cc_w K) 10)), (2, .int x2)] [] from ?_)
  refine cw_aload_n dX5_takeNewName_0 0 rfl rfl ?_
  refine cw_getf (C := RX5) (T := TX5) (N := 7) (ci := 6) inX5_takeNewName_RX5 15 (show 15 < 32 by decide) rfl rfl 2 (by decide) (by decide +kernel) rfl dX5_takeNewName_1 ?_
  refine cw_iconst (v := 1) dX5_takeNewName_4 (by decide) ?_
  refine cw_icmp_eq (tgt := 14) dX5_takeNewName_5 (by decide) (fun q => ?_) (fun q => ?_)
  · have h := h.1 q
    refine cw_aload_n dX5_takeNewName_14 0 rfl rfl ?_
    refine cw_getf (C := RX5) (T := TX5) (N := 7) (ci := 6) inX5_takeNewName_RX5 15 (show 15 < 32 by decide) rfl rfl 4 (by decide) (by decide +kernel) rfl dX5_takeNewName_15 ?_
    refine cw_aload_n dX5_takeNewName_18 0 rfl rfl ?_
    refine cw_getf (C := RX5) (T := TX5) (N := 7) (ci := 6) inX5_takeNewName_RX5 15 (show 15 < 32 by decide) rfl rfl 3 (by decide) (by decide +kernel) rfl dX5_takeNewName_19 ?_
    refine cw_isub dX5_takeNewName_22 ?_
    refine cw_istore_n dX5_takeNewName_23 rfl (by decide) rfl ?_
    refine cw_iload_n dX5_takeNewName_24 0 rfl rfl ?_
    refine cw_bipush (v := 6) dX5_takeNewName_25 (by decide) ?_
    refine cw_icmp_gt (tgt := 47) dX5_takeNewName_27 (by decide) (fun q => ?_) (fun q => ?_)
    · have h := h.1 q
      refine cw_aload_n dX5_takeNewName_47 1 rfl rfl ?_
      refine cw_iconst (v := 3) dX5_takeNewName_48 (by decide) ?_
      obtain ⟨v_49, J_49, hc_49, h⟩ := h
      refine cw_callV (o := 15) (As := [.int 3]) hc_49 okX5_refuse rfl gX5_takeNewName_X5_refuse (by decide) (show 15 < 32 by decide) rfl (ci := 6) rfl rfl (Nat.le_of_ble_eq_true rfl) dX5_takeNewName_49 ?_
      exact cw_bret rfl dX5_takeNewName_52 h.1 h.2
    · have h := h.2 q
      refine cw_aload_n dX5_takeNewName_30 2 rfl rfl ?_
      refine cw_aload_n dX5_takeNewName_31 1 rfl rfl ?_
      refine cw_getf (C := RX5) (T := TX5) (N := 7) (ci := 6) inX5_takeNewName_RX5 15 (show 15 < 32 by decide) rfl rfl 6 (by decide) (by decide +kernel) rfl dX5_takeNewName_32 ?_
      refine cw_aload_n dX5_takeNewName_35 1 rfl rfl ?_
      refine cw_getf (C := RX5) (T := TX5) (N := 7) (ci := 6) inX5_takeNewName_RX5 15 (show 15 < 32 by decide) rfl rfl 3 (by decide) (by decide +kernel) rfl dX5_takeNewName_36 ?_
      refine cw_iload_n dX5_takeNewName_39 0 rfl rfl ?_
      obtain ⟨v_40, J_40, hc_40, h⟩ := h
      refine cw_callV (o := 10) (As := [.ref (cw_a (cc_w K) 1), .int (I 15 3), .int ((I 15 4) - (I 15 3))]) hc_40 okX1_findName rfl gX5_takeNewName_X1_findName (by decide) (show 10 < 32 by decide) rfl (ci := 2) rfl rfl (Nat.le_of_ble_eq_true rfl) dX5_takeNewName_40 ?_
      refine cw_iconst (v := (-1)) dX5_takeNewName_43 (by decide) ?_
      refine cw_icmp_eq (tgt := 53) dX5_takeNewName_44 (by decide) (fun q => ?_) (fun q => ?_)
      · have h := h.1 q
        refine cw_aload_n dX5_takeNewName_53 2 rfl rfl ?_
        refine cw_iload_n dX5_takeNewName_54 3 rfl rfl ?_
        refine cw_aload_n dX5_takeNewName_55 1 rfl rfl ?_
        refine cw_getf (C := RX5) (T := TX5) (N := 7) (ci := 6) inX5_takeNewName_RX5 15 (show 15 < 32 by decide) rfl rfl 6 (by decide) (by decide +kernel) rfl dX5_takeNewName_56 ?_
        refine cw_aload_n dX5_takeNewName_59 1 rfl rfl ?_
        refine cw_getf (C := RX5) (T := TX5) (N := 7) (ci := 6) inX5_takeNewName_RX5 15 (show 15 < 32 by decide) rfl rfl 3 (by decide) (by decide +kernel) rfl dX5_takeNewName_60 ?_
        refine cw_iload_n dX5_takeNewName_63 0 rfl rfl ?_
        obtain ⟨J_64, hc_64, h⟩ := h
        refine cw_callV (o := 10) (As := [.int x2, .ref (cw_a (cc_w K) 1), .int (J_40 15 3), .int ((I 15 4) - (I 15 3))]) hc_64 okX1_putName rfl gX5_takeNewName_X1_putName (by decide) (show 10 < 32 by decide) rfl (ci := 2) rfl rfl (Nat.le_of_ble_eq_true rfl) dX5_takeNewName_64 ?_
        refine cw_aload_n dX5_takeNewName_67 1 rfl rfl ?_
        obtain ⟨J_68, hc_68, h⟩ := h
        refine cw_callV (o := 15) (As := []) hc_68 okX5_advance rfl gX5_takeNewName_X5_advance (by decide) (show 15 < 32 by decide) rfl (ci := 6) rfl rfl (Nat.le_of_ble_eq_true rfl) dX5_takeNewName_68 ?_
        refine cw_iconst (v := 1) dX5_takeNewName_71 (by decide) ?_
        exact cw_bret rfl dX5_takeNewName_72 (by decide) h
      · have h := h.2 q
        refine cw_aload_n dX5_takeNewName_47 1 rfl rfl ?_
        refine cw_iconst (v := 3) dX5_takeNewName_48 (by decide) ?_
        obtain ⟨v_49, J_49, hc_49, h⟩ := h
        refine cw_callV (o := 15) (As := [.int 3]) hc_49 okX5_refuse rfl gX5_takeNewName_X5_refuse (by decide) (show 15 < 32 by decide) rfl (ci := 6) rfl rfl (Nat.le_of_ble_eq_true rfl) dX5_takeNewName_49 ?_
        exact cw_bret rfl dX5_takeNewName_52 h.1 h.2
  · have h := h.2 q
    refine cw_aload_n dX5_takeNewName_8 0 rfl rfl ?_
    refine cw_iconst (v := 1) dX5_takeNewName_9 (by decide) ?_
    obtain ⟨v_10, J_10, hc_10, h⟩ := h
    refine cw_callV (o := 15) (As := [.int 1]) hc_10 okX5_refuse rfl gX5_takeNewName_X5_refuse (by decide) (show 15 < 32 by decide) rfl (ci := 6) rfl rfl (Nat.le_of_ble_eq_true rfl) dX5_takeNewName_10 ?_
    exact cw_bret rfl dX5_takeNewName_13 h.1 h.2
set_option maxRecDepth 20000 in
set_option maxHeartbeats 4000000 in
theorem eX5_takeNumber_15 {K : cw_K} {r : Option Value} {J0 I : cw_M} {x1 : Int32} {x2 : Int32} (h : (((I 15 2) = 2 → (∃ (v_16 : Int32) (J_16 : cw_M), cw_C (cc_w K) mX5_numberOfToken [.ref (cw_a (cc_w K) 15)] I (some (.int v_16)) J_16 ∧ ((((cw_st J_16 15 5 v_16) 15 5) < x1 → (∃ (v_40 : Int32) (J_40 : cw_M), cw_C (cc_w K) mX5_refuse [.ref (cw_a (cc_w K) 15), .int 2] (cw_st J_16 15 5 v_16) (some (.int v_40)) J_40 ∧ ((v_40 = 0 ∨ v_40 = 1) ∧ (r = some (.int v_40) ∧ J0 = J_40)))) ∧ (¬ ((cw_st J_16 15 5 v_16) 15 5) < x1 → ((((cw_st J_16 15 5 v_16) 15 5) ≤ x2 → (∃ J_45 : cw_M, cw_C (cc_w K) mX5_advance [.ref (cw_a (cc_w K) 15)] (cw_st J_16 15 5 v_16) none J_45 ∧ (r = some (.int 1) ∧ J0 = J_45))) ∧ (¬ ((cw_st J_16 15 5 v_16) 15 5) ≤ x2 → (∃ (v_40 : Int32) (J_40 : cw_M), cw_C (cc_w K) mX5_refuse [.ref (cw_a (cc_w K) 15), .int 2] (cw_st J_16 15 5 v_16) (some (.int v_40)) J_40 ∧ ((v_40 = 0 ∨ v_40 = 1) ∧ (r = some (.int v_40) ∧ J0 = J_40))))))))) ∧ (¬ (I 15 2) = 2 → (∃ (v_10 : Int32) (J_10 : cw_M), cw_C (cc_w K) mX5_refuse [.ref (cw_a (cc_w K) 15), .int 1] I (some (.int v_10)) J_10 ∧ ((v_10 = 0 ∨ v_10 = 1) ∧ (r = some (.int v_10) ∧ J0 = J_10)))))) : cw_C (cc_w K) mX5_takeNumber [.ref (cw_a (cc_w K) 15), .int x1, .int x2] I r J0 := by
  refine cw_entry okX5_takeNumber (Nat.le_of_ble_eq_true rfl) (show cw_B (cc_w K) (cc_w K) mX5_takeNumber (cw_Z (cc_w K) r J0) 0 0 0 0 I 0 [(0, .ref (cw_a (cc_w K) 15)), (1, .int x1), (2, .int x2)] [] from ?_)
  refine cw_aload_n dX5_takeNumber_0 0 rfl rfl ?_
  refine cw_getf (C := RX5) (T := TX5) (N := 7) (ci := 6) inX5_takeNumber_RX5 15 (show 15 < 32 by decide) rfl rfl 2 (by decide) (by decide +kernel) rfl dX5_takeNumber_1 ?_
  refine cw_iconst (v := 2) dX5_takeNumber_4 (by decide) ?_
  refine cw_icmp_eq (tgt := 14) dX5_takeNumber_5 (by decide) (fun q => ?_) (fun q => ?_)
  · have h := h.1 q
    refine cw_aload_n dX5_takeNumber_14 0 rfl rfl ?_
    refine cw_aload_n dX5_takeNumber_15 0 rfl rfl ?_
    obtain ⟨v_16, J_16, hc_16, h⟩ := h
    refine cw_callV (o := 15) (As := []) hc_16 okX5_numberOfToken rfl gX5_takeNumber_X5_numberOfToken (by decide) (show 15 < 32 by decide) rfl (ci := 6) rfl rfl (Nat.le_of_ble_eq_true rfl) dX5_takeNumber_16 ?_
    refine cw_putf (C := RX5) (T := TX5) (N := 7) (ci := 6) inX5_takeNumber_RX5 tyX5 tyX5_ok nmX5 15 (show 15 < 32 by decide) rfl rfl 5 (by decide) (by decide +kernel) rfl rfl (show 5 < 7 by decide) rfl dX5_takeNumber_19 ?_
    refine cw_aload_n dX5_takeNumber_22 0 rfl rfl ?_
    refine cw_getf (C := RX5) (T := TX5) (N := 7) (ci := 6) inX5_takeNumber_RX5 15 (show 15 < 32 by decide) rfl rfl 5 (by decide) (by decide +kernel) rfl dX5_takeNumber_23 ?_
    refine cw_iload_n dX5_takeNumber_26 1 rfl rfl ?_
    refine cw_icmp_lt (tgt := 38) dX5_takeNumber_27 (by decide) (fun q => ?_) (fun q => ?_)
    · have h := h.1 q
      refine cw_aload_n dX5_takeNumber_38 0 rfl rfl ?_
      refine cw_iconst (v := 2) dX5_takeNumber_39 (by decide) ?_
      obtain ⟨v_40, J_40, hc_40, h⟩ := h
      refine cw_callV (o := 15) (As := [.int 2]) hc_40 okX5_refuse rfl gX5_takeNumber_X5_refuse (by decide) (show 15 < 32 by decide) rfl (ci := 6) rfl rfl (Nat.le_of_ble_eq_true rfl) dX5_takeNumber_40 ?_
      exact cw_bret rfl dX5_takeNumber_43 h.1 h.2
    · have h := h.2 q
      refine cw_aload_n dX5_takeNumber_30 0 rfl rfl ?_
      refine cw_getf (C := RX5) (T := TX5) (N := 7) (ci := 6) inX5_takeNumber_RX5 15 (show 15 < 32 by decide) rfl rfl 5 (by decide) (by decide +kernel) rfl dX5_takeNumber_31 ?_
      refine cw_iload_n dX5_takeNumber_34 2 rfl rfl ?_
      refine cw_icmp_le (tgt := 44) dX5_takeNumber_35 (by decide) (fun q => ?_) (fun q => ?_)
      · have h := h.1 q
        refine cw_aload_n dX5_takeNumber_44 0 rfl rfl ?_
        obtain ⟨J_45, hc_45, h⟩ := h
        refine cw_callV (o := 15) (As := []) hc_45 okX5_advance rfl gX5_takeNumber_X5_advance (by decide) (show 15 < 32 by decide) rfl (ci := 6) rfl rfl (Nat.le_of_ble_eq_true rfl) dX5_takeNumber_45 ?_
        refine cw_iconst (v := 1) dX5_takeNumber_48 (by decide) ?_
        exact cw_bret rfl dX5_takeNumber_49 (by decide) h
      · have h := h.2 q
        refine cw_aload_n dX5_takeNumber_38 0 rfl rfl ?_
        refine cw_iconst (v := 2) dX5_takeNumber_39 (by decide) ?_
        obtain ⟨v_40, J_40, hc_40, h⟩ := h
        refine cw_callV (o := 15) (As := [.int 2]) hc_40 okX5_refuse rfl gX5_takeNumber_X5_refuse (by decide) (show 15 < 32 by decide) rfl (ci := 6) rfl rfl (Nat.le_of_ble_eq_true rfl) dX5_takeNumber_40 ?_
        exact cw_bret rfl dX5_takeNumber_43 h.1 h.2
  · have h := h.2 q
    refine cw_aload_n dX5_takeNumber_8 0 rfl rfl ?_
    refine cw_iconst (v := 1) dX5_takeNumber_9 (by decide) ?_
    obtain ⟨v_10, J_10, hc_10, h⟩ := h
    refine cw_callV (o := 15) (As := [.int 1]) hc_10 okX5_refuse rfl gX5_takeNumber_X5_refuse (by decide) (show 15 < 32 by decide) rfl (ci := 6) rfl rfl (Nat.le_of_ble_eq_true rfl) dX5_takeNumber_10 ?_
    exact cw_bret rfl dX5_takeNumber_13 h.1 h.2
set_option maxRecDepth 20000 in
set_option maxHeartbeats 4000000 in
theorem eX5_takeSemicolon_15 {K : cw_K} {r : Option Value} {J0 I : cw_M} (h : (((I 15 2) = 3 → (∃ J_15 : cw_M, cw_C (cc_w K) mX5_advance [.ref (cw_a (cc_w K) 15)] I none J_15 ∧ (r = some (.int 1) ∧ J0 = J_15))) ∧ (¬ (I 15 2) = 3 → (∃ (v_10 : Int32) (J_10 : cw_M), cw_C (cc_w K) mX5_refuse [.ref (cw_a (cc_w K) 15), .int 1] I (some (.int v_10)) J_10 ∧ ((v_10 = 0 ∨ v_10 = 1) ∧ (r = some (.int v_10) ∧ J0 = J_10)))))) : cw_C (cc_w K) mX5_takeSemicolon [.ref (cw_a (cc_w K) 15)] I r J0 := by
  refine cw_entry okX5_takeSemicolon (Nat.le_of_ble_eq_true rfl) (show cw_B (cc_w K) (cc_w K) mX5_takeSemicolon (cw_Z (cc_w K) r J0) 0 0 0 0 I 0 [(0, .ref (cw_a (cc_w K) 15))] [] from ?_)
  refine cw_aload_n dX5_takeSemicolon_0 0 rfl rfl ?_
  refine cw_getf (C := RX5) (T := TX5) (N := 7) (ci := 6) inX5_takeSemicolon_RX5 15 (show 15 < 32 by decide) rfl rfl 2 (by decide) (by decide +kernel) rfl dX5_takeSemicolon_1 ?_
  refine cw_iconst (v := 3) dX5_takeSemicolon_4 (by decide) ?_
  refine cw_icmp_eq (tgt := 14) dX5_takeSemicolon_5 (by decide) (fun q => ?_) (fun q => ?_)
  · have h := h.1 q
    refine cw_aload_n dX5_takeSemicolon_14 0 rfl rfl ?_
    obtain ⟨J_15, hc_15, h⟩ := h
    refine cw_callV (o := 15) (As := []) hc_15 okX5_advance rfl gX5_takeSemicolon_X5_advance (by decide) (show 15 < 32 by decide) rfl (ci := 6) rfl rfl (Nat.le_of_ble_eq_true rfl) dX5_takeSemicolon_15 ?_
    refine cw_iconst (v := 1) dX5_takeSemicolon_18 (by decide) ?_
    exact cw_bret rfl dX5_takeSemicolon_19 (by decide) h
  · have h := h.2 q
    refine cw_aload_n dX5_takeSemicolon_8 0 rfl rfl ?_
    refine cw_iconst (v := 1) dX5_takeSemicolon_9 (by decide) ?_
    obtain ⟨v_10, J_10, hc_10, h⟩ := h
    refine cw_callV (o := 15) (As := [.int 1]) hc_10 okX5_refuse rfl gX5_takeSemicolon_X5_refuse (by decide) (show 15 < 32 by decide) rfl (ci := 6) rfl rfl (Nat.le_of_ble_eq_true rfl) dX5_takeSemicolon_10 ?_
    exact cw_bret rfl dX5_takeSemicolon_13 h.1 h.2
abbrev bX5_isWord_15_28 (K : cw_K) (r : Option Value) (J0 : cw_M) (x1 : Nat) (x2 : Int32) (I : cw_M) : Prop := cw_B (cc_w K) (cc_w K) mX5_isWord (cw_Z (cc_w K) r J0) 0 0 0 0 I 28 [(0, .ref (cw_a (cc_w K) 15)), (1, .ref (cw_sd K x1)), (2, .int x2)] []
set_option maxRecDepth 20000 in
set_option maxHeartbeats 4000000 in
theorem eX5_isWord_15 {K : cw_K} {r : Option Value} {J0 I : cw_M} {x1 : Nat} (hFS : cw_FS (cw_Fc K) (cw_sd K) (cw_sv K)) (h : ((¬ (I 15 2) = 1 → (r = some (.int 0) ∧ J0 = I)) ∧ ((I 15 2) = 1 → (cw_tk x1 ∧ ((((I 15 4) - (I 15 3)) = (cw_ln x1) → bX5_isWord_15_28 K r J0 x1 0 I) ∧ (¬ ((I 15 4) - (I 15 3)) = (cw_ln x1) → (r = some (.int 0) ∧ J0 = I))))))) : cw_C (cc_w K) mX5_isWord [.ref (cw_a (cc_w K) 15), .ref (cw_sd K x1)] I r J0 := by
  refine cw_entry okX5_isWord (Nat.le_of_ble_eq_true rfl) (show cw_B (cc_w K) (cc_w K) mX5_isWord (cw_Z (cc_w K) r J0) 0 0 0 0 I 0 [(0, .ref (cw_a (cc_w K) 15)), (1, .ref (cw_sd K x1))] [] from ?_)
  refine cw_aload_n dX5_isWord_0 0 rfl rfl ?_
  refine cw_getf (C := RX5) (T := TX5) (N := 7) (ci := 6) inX5_isWord_RX5 15 (show 15 < 32 by decide) rfl rfl 2 (by decide) (by decide +kernel) rfl dX5_isWord_1 ?_
  refine cw_iconst (v := 1) dX5_isWord_4 (by decide) ?_
  refine cw_icmp_ne (tgt := 24) dX5_isWord_5 (by decide) (fun q => ?_) (fun q => ?_)
  · have h := h.1 q
    refine cw_iconst (v := 0) dX5_isWord_24 (by decide) ?_
    exact cw_bret rfl dX5_isWord_25 (by decide) h
  · have h := h.2 q
    refine cw_aload_n dX5_isWord_8 0 rfl rfl ?_
    refine cw_getf (C := RX5) (T := TX5) (N := 7) (ci := 6) inX5_isWord_RX5 15 (show 15 < 32 by decide) rfl rfl 4 (by decide) (by decide +kernel) rfl dX5_isWord_9 ?_
    refine cw_aload_n dX5_isWord_12 0 rfl rfl ?_
    refine cw_getf (C := RX5) (T := TX5) (N := 7) (ci := 6) inX5_isWord_RX5 15 (show 15 < 32 by decide) rfl rfl 3 (by decide) (by decide +kernel) rfl dX5_isWord_13 ?_
    refine cw_isub dX5_isWord_16 ?_
    refine cw_aload_n dX5_isWord_17 1 rfl rfl ?_
    obtain ⟨g_18, h⟩ := h
    refine cw_callK (As := []) (jd_length hFS g_18) okJ0_length_8abf5 rfl gX5_isWord_J0_length_8abf5 (by decide) (fun A U H q => (hFS.str A U H q g_18).1) rfl (Nat.le_of_ble_eq_true rfl) dX5_isWord_18 ?_
    refine cw_icmp_eq (tgt := 26) dX5_isWord_21 (by decide) (fun q => ?_) (fun q => ?_)
    · have h := h.1 q
      refine cw_iconst (v := 0) dX5_isWord_26 (by decide) ?_
      refine cw_istore_n dX5_isWord_27 rfl (by decide) rfl ?_
      refine cw_sub [1, 2, 0] rfl ?_
      exact h
    · have h := h.2 q
      refine cw_iconst (v := 0) dX5_isWord_24 (by decide) ?_
      exact cw_bret rfl dX5_isWord_25 (by decide) h
set_option maxRecDepth 20000 in
set_option maxHeartbeats 4000000 in
theorem tbX5_isWord_15_28 {K : cw_K} {r : Option Value} {J0 I : cw_M} {x1 : Nat} {x2 : Int32} (hFS : cw_FS (cw_Fc K) (cw_sd K) (cw_sv K)) (h : (cw_tk x1 ∧ (((cw_ln x1) ≤ x2 → (r = some (.int 1) ∧ J0 = I)) ∧ (¬ (cw_ln x1) ≤ x2 → (vp_in ((I 15 3) + x2) 600 ∧ ((cw_tk x1 ∧ vp_in x2 (cw_tx x1).length) ∧ (((I 2 ((I 15 3) + x2).toNatClampNeg) = (cw_ch x1 x2) → bX5_isWord_15_28 K r J0 x1 (x2 + 1) I) ∧ (¬ (I 2 ((I 15 3) + x2).toNatClampNeg) = (cw_ch x1 x2) → (r = some (.int 0) ∧ J0 = I))))))))) : bX5_isWord_15_28 K r J0 x1 x2 I := by
  refine cw_iload_n dX5_isWord_28 2 rfl rfl ?_
  refine cw_aload_n dX5_isWord_29 1 rfl rfl ?_
  obtain ⟨g_30, h⟩ := h
  refine cw_callK (As := []) (jd_length hFS g_30) okJ0_length_8abf5 rfl gX5_isWord_J0_length_8abf5 (by decide) (fun A U H q => (hFS.str A U H q g_30).1) rfl (Nat.le_of_ble_eq_true rfl) dX5_isWord_30 ?_
  refine cw_icmp_ge (tgt := 66) dX5_isWord_33 (by decide) (fun q => ?_) (fun q => ?_)
  · have h := h.1 q
    refine cw_iconst (v := 1) dX5_isWord_66 (by decide) ?_
    exact cw_bret rfl dX5_isWord_67 (by decide) h
  · have h := h.2 q
    refine cw_aload_n dX5_isWord_36 0 rfl rfl ?_
    refine cw_getf (C := RX5) (T := TX5) (N := 7) (ci := 6) inX5_isWord_RX5 15 (show 15 < 32 by decide) rfl rfl 6 (by decide) (by decide +kernel) rfl dX5_isWord_37 ?_
    refine cw_getf (C := RX8) (T := TX8) (N := 2) (ci := 9) inX5_isWord_RX8 1 (show 1 < 32 by decide) rfl rfl 0 (by decide) (by decide +kernel) rfl dX5_isWord_40 ?_
    refine cw_aload_n dX5_isWord_43 0 rfl rfl ?_
    refine cw_getf (C := RX5) (T := TX5) (N := 7) (ci := 6) inX5_isWord_RX5 15 (show 15 < 32 by decide) rfl rfl 3 (by decide) (by decide +kernel) rfl dX5_isWord_44 ?_
    refine cw_iload_n dX5_isWord_47 2 rfl rfl ?_
    refine cw_iadd dX5_isWord_48 ?_
    obtain ⟨g_49, h⟩ := h
    refine cw_iald 2 (show 2 < 32 by decide) rfl 0 rfl dX5_isWord_49 g_49 ?_
    refine cw_aload_n dX5_isWord_50 1 rfl rfl ?_
    refine cw_iload_n dX5_isWord_51 2 rfl rfl ?_
    obtain ⟨g_52, h⟩ := h
    refine cw_callK (As := [.int x2]) (jd_charAt hFS g_52.1 g_52.2) okJ0_charAt_5068e rfl gX5_isWord_J0_charAt_5068e (by decide) (fun A U H q => (hFS.str A U H q g_52.1).1) rfl (Nat.le_of_ble_eq_true rfl) dX5_isWord_52 ?_
    refine cw_icmp_eq (tgt := 60) dX5_isWord_55 (by decide) (fun q => ?_) (fun q => ?_)
    · have h := h.1 q
      refine cw_iinc (v := x2 + 1) dX5_isWord_60 (j := 2) rfl rfl (by decide) rfl ?_
      refine cw_goto (tgt := 28) dX5_isWord_63 (by decide) ?_
      refine cw_sub [1, 2, 0] rfl ?_
      exact h
    · have h := h.2 q
      refine cw_iconst (v := 0) dX5_isWord_58 (by decide) ?_
      exact cw_bret rfl dX5_isWord_59 (by decide) h
set_option maxRecDepth 20000 in
set_option maxHeartbeats 4000000 in
theorem eX5_takeWord_15 {K : cw_K} {r : Option Value} {J0 I : cw_M} {x1 : Nat} (h : (∃ (v_2 : Int32) (J_2 : cw_M), cw_C (cc_w K) mX5_isWord [.ref (cw_a (cc_w K) 15), .ref (cw_sd K x1)] I (some (.int v_2)) J_2 ∧ ((¬ v_2 = 0 → (∃ J_15 : cw_M, cw_C (cc_w K) mX5_advance [.ref (cw_a (cc_w K) 15)] J_2 none J_15 ∧ (r = some (.int 1) ∧ J0 = J_15))) ∧ (v_2 = 0 → (∃ (v_10 : Int32) (J_10 : cw_M), cw_C (cc_w K) mX5_refuse [.ref (cw_a (cc_w K) 15), .int 1] J_2 (some (.int v_10)) J_10 ∧ ((v_10 = 0 ∨ v_10 = 1) ∧ (r = some (.int v_10) ∧ J0 = J_10))))))) : cw_C (cc_w K) mX5_takeWord [.ref (cw_a (cc_w K) 15), .ref (cw_sd K x1)] I r J0 := by
  refine cw_entry okX5_takeWord (Nat.le_of_ble_eq_true rfl) (show cw_B (cc_w K) (cc_w K) mX5_takeWord (cw_Z (cc_w K) r J0) 0 0 0 0 I 0 [(0, .ref (cw_a (cc_w K) 15)), (1, .ref (cw_sd K x1))] [] from ?_)
  refine cw_aload_n dX5_takeWord_0 0 rfl rfl ?_
  refine cw_aload_n dX5_takeWord_1 1 rfl rfl ?_
  obtain ⟨v_2, J_2, hc_2, h⟩ := h
  refine cw_callV (o := 15) (As := [.ref (cw_sd K x1)]) hc_2 okX5_isWord rfl gX5_takeWord_X5_isWord (by decide) (show 15 < 32 by decide) rfl (ci := 6) rfl rfl (Nat.le_of_ble_eq_true rfl) dX5_takeWord_2 ?_
  refine cw_if_ne (tgt := 14) dX5_takeWord_5 (by decide) (fun q => ?_) (fun q => ?_)
  · have h := h.1 q
    refine cw_aload_n dX5_takeWord_14 0 rfl rfl ?_
    obtain ⟨J_15, hc_15, h⟩ := h
    refine cw_callV (o := 15) (As := []) hc_15 okX5_advance rfl gX5_takeWord_X5_advance (by decide) (show 15 < 32 by decide) rfl (ci := 6) rfl rfl (Nat.le_of_ble_eq_true rfl) dX5_takeWord_15 ?_
    refine cw_iconst (v := 1) dX5_takeWord_18 (by decide) ?_
    exact cw_bret rfl dX5_takeWord_19 (by decide) h
  · have h := h.2 q
    refine cw_aload_n dX5_takeWord_8 0 rfl rfl ?_
    refine cw_iconst (v := 1) dX5_takeWord_9 (by decide) ?_
    obtain ⟨v_10, J_10, hc_10, h⟩ := h
    refine cw_callV (o := 15) (As := [.int 1]) hc_10 okX5_refuse rfl gX5_takeWord_X5_refuse (by decide) (show 15 < 32 by decide) rfl (ci := 6) rfl rfl (Nat.le_of_ble_eq_true rfl) dX5_takeWord_10 ?_
    exact cw_bret rfl dX5_takeWord_13 h.1 h.2
